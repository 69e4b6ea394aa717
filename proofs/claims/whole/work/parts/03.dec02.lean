theorem dX11_slate_0 : decode cX11_slate 0 = .ok (.iload_n 1, 1) := by decide +kernel
theorem dX11_slate_1 : decode cX11_slate 1 = .ok (.ifCond .lt 26, 3) := by decide +kernel
theorem dX11_slate_4 : decode cX11_slate 4 = .ok (.iload_n 1, 1) := by decide +kernel
theorem dX11_slate_5 : decode cX11_slate 5 = .ok (.aload_n 0, 1) := by decide +kernel
theorem dX11_slate_6 : decode cX11_slate 6 = .ok (.getfield 72, 3) := by decide +kernel
theorem dX11_slate_9 : decode cX11_slate 9 = .ok (.getfield 151, 3) := by decide +kernel
theorem dX11_slate_12 : decode cX11_slate 12 = .ok (.if_icmp .ge 15, 3) := by decide +kernel
theorem dX11_slate_15 : decode cX11_slate 15 = .ok (.aload_n 0, 1) := by decide +kernel
theorem dX11_slate_16 : decode cX11_slate 16 = .ok (.getfield 72, 3) := by decide +kernel
theorem dX11_slate_19 : decode cX11_slate 19 = .ok (.getfield 154, 3) := by decide +kernel
theorem dX11_slate_22 : decode cX11_slate 22 = .ok (.iload_n 1, 1) := by decide +kernel
theorem dX11_slate_23 : decode cX11_slate 23 = .ok (.iaload, 1) := by decide +kernel
theorem dX11_slate_24 : decode cX11_slate 24 = .ok (.goto 4, 3) := by decide +kernel
theorem dX11_slate_27 : decode cX11_slate 27 = .ok (.iconst (-1), 1) := by decide +kernel
theorem dX11_slate_28 : decode cX11_slate 28 = .ok (.ireturn, 1) := by decide +kernel
theorem dX11_minute_0 : decode cX11_minute 0 = .ok (.aload_n 0, 1) := by decide +kernel
theorem dX11_minute_1 : decode cX11_minute 1 = .ok (.invokevirtual 157, 3) := by decide +kernel
theorem dX11_minute_4 : decode cX11_minute 4 = .ok (.aload_n 0, 1) := by decide +kernel
theorem dX11_minute_5 : decode cX11_minute 5 = .ok (.getfield 72, 3) := by decide +kernel
theorem dX11_minute_8 : decode cX11_minute 8 = .ok (.aload_n 0, 1) := by decide +kernel
theorem dX11_minute_9 : decode cX11_minute 9 = .ok (.getfield 35, 3) := by decide +kernel
theorem dX11_minute_12 : decode cX11_minute 12 = .ok (.aload_n 0, 1) := by decide +kernel
theorem dX11_minute_13 : decode cX11_minute 13 = .ok (.getfield 35, 3) := by decide +kernel
theorem dX11_minute_16 : decode cX11_minute 16 = .ok (.aload_n 0, 1) := by decide +kernel
theorem dX11_minute_17 : decode cX11_minute 17 = .ok (.getfield 72, 3) := by decide +kernel
theorem dX11_minute_20 : decode cX11_minute 20 = .ok (.getfield 160, 3) := by decide +kernel
theorem dX11_minute_23 : decode cX11_minute 23 = .ok (.invokevirtual 163, 3) := by decide +kernel
theorem dX11_minute_26 : decode cX11_minute 26 = .ok (.invokevirtual 167, 3) := by decide +kernel
theorem dX11_minute_29 : decode cX11_minute 29 = .ok (.ireturn, 1) := by decide +kernel
theorem dX11_pour_0 : decode cX11_pour 0 = .ok (.aload_n 0, 1) := by decide +kernel
theorem dX11_pour_1 : decode cX11_pour 1 = .ok (.iload_n 1, 1) := by decide +kernel
theorem dX11_pour_2 : decode cX11_pour 2 = .ok (.invokevirtual 117, 3) := by decide +kernel
theorem dX11_pour_5 : decode cX11_pour 5 = .ok (.ifCond .eq 14, 3) := by decide +kernel
theorem dX11_pour_8 : decode cX11_pour 8 = .ok (.iload_n 2, 1) := by decide +kernel
theorem dX11_pour_9 : decode cX11_pour 9 = .ok (.iconst 1, 1) := by decide +kernel
theorem dX11_pour_10 : decode cX11_pour 10 = .ok (.if_icmp .lt 9, 3) := by decide +kernel
theorem dX11_pour_13 : decode cX11_pour 13 = .ok (.iload_n 2, 1) := by decide +kernel
theorem dX11_pour_14 : decode cX11_pour 14 = .ok (.bipush 20, 2) := by decide +kernel
theorem dX11_pour_16 : decode cX11_pour 16 = .ok (.if_icmp .le 5, 3) := by decide +kernel
theorem dX11_pour_19 : decode cX11_pour 19 = .ok (.iconst (-1), 1) := by decide +kernel
theorem dX11_pour_20 : decode cX11_pour 20 = .ok (.ireturn, 1) := by decide +kernel
theorem dX11_pour_21 : decode cX11_pour 21 = .ok (.aload_n 0, 1) := by decide +kernel
theorem dX11_pour_22 : decode cX11_pour 22 = .ok (.invokevirtual 157, 3) := by decide +kernel
theorem dX11_pour_25 : decode cX11_pour 25 = .ok (.aload_n 0, 1) := by decide +kernel
theorem dX11_pour_26 : decode cX11_pour 26 = .ok (.getfield 72, 3) := by decide +kernel
theorem dX11_pour_29 : decode cX11_pour 29 = .ok (.iload_n 1, 1) := by decide +kernel
theorem dX11_pour_30 : decode cX11_pour 30 = .ok (.iload_n 2, 1) := by decide +kernel
theorem dX11_pour_31 : decode cX11_pour 31 = .ok (.invokevirtual 171, 3) := by decide +kernel
theorem dX11_pour_34 : decode cX11_pour 34 = .ok (.aload_n 0, 1) := by decide +kernel
theorem dX11_pour_35 : decode cX11_pour 35 = .ok (.getfield 72, 3) := by decide +kernel
theorem dX11_pour_38 : decode cX11_pour 38 = .ok (.getfield 136, 3) := by decide +kernel
theorem dX11_pour_41 : decode cX11_pour 41 = .ok (.iload_n 1, 1) := by decide +kernel
theorem dX11_pour_42 : decode cX11_pour 42 = .ok (.iaload, 1) := by decide +kernel
theorem dX11_pour_43 : decode cX11_pour 43 = .ok (.ireturn, 1) := by decide +kernel
theorem dX11_stop_0 : decode cX11_stop 0 = .ok (.aload_n 0, 1) := by decide +kernel
theorem dX11_stop_1 : decode cX11_stop 1 = .ok (.iload_n 1, 1) := by decide +kernel
theorem dX11_stop_2 : decode cX11_stop 2 = .ok (.invokevirtual 117, 3) := by decide +kernel
theorem dX11_stop_5 : decode cX11_stop 5 = .ok (.ifCond .eq 14, 3) := by decide +kernel
theorem dX11_stop_8 : decode cX11_stop 8 = .ok (.aload_n 0, 1) := by decide +kernel
theorem dX11_stop_9 : decode cX11_stop 9 = .ok (.getfield 72, 3) := by decide +kernel
theorem dX11_stop_12 : decode cX11_stop 12 = .ok (.iload_n 1, 1) := by decide +kernel
theorem dX11_stop_13 : decode cX11_stop 13 = .ok (.invokevirtual 139, 3) := by decide +kernel
theorem dX11_stop_16 : decode cX11_stop 16 = .ok (.ifCond .eq 5, 3) := by decide +kernel
theorem dX11_stop_19 : decode cX11_stop 19 = .ok (.iconst 0, 1) := by decide +kernel
theorem dX11_stop_20 : decode cX11_stop 20 = .ok (.ireturn, 1) := by decide +kernel
theorem dX11_stop_21 : decode cX11_stop 21 = .ok (.aload_n 0, 1) := by decide +kernel
theorem dX11_stop_22 : decode cX11_stop 22 = .ok (.invokevirtual 157, 3) := by decide +kernel
theorem dX11_stop_25 : decode cX11_stop 25 = .ok (.aload_n 0, 1) := by decide +kernel
theorem dX11_stop_26 : decode cX11_stop 26 = .ok (.getfield 72, 3) := by decide +kernel
theorem dX11_stop_29 : decode cX11_stop 29 = .ok (.iload_n 1, 1) := by decide +kernel
theorem dX11_stop_30 : decode cX11_stop 30 = .ok (.invokevirtual 175, 3) := by decide +kernel
theorem dX11_stop_33 : decode cX11_stop 33 = .ok (.ireturn, 1) := by decide +kernel
theorem dX11_clear_0 : decode cX11_clear 0 = .ok (.aload_n 0, 1) := by decide +kernel
theorem dX11_clear_1 : decode cX11_clear 1 = .ok (.iload_n 1, 1) := by decide +kernel
theorem dX11_clear_2 : decode cX11_clear 2 = .ok (.invokevirtual 117, 3) := by decide +kernel
theorem dX11_clear_5 : decode cX11_clear 5 = .ok (.ifCond .eq 14, 3) := by decide +kernel
theorem dX11_clear_8 : decode cX11_clear 8 = .ok (.aload_n 0, 1) := by decide +kernel
theorem dX11_clear_9 : decode cX11_clear 9 = .ok (.getfield 72, 3) := by decide +kernel
theorem dX11_clear_12 : decode cX11_clear 12 = .ok (.iload_n 1, 1) := by decide +kernel
theorem dX11_clear_13 : decode cX11_clear 13 = .ok (.invokevirtual 139, 3) := by decide +kernel
theorem dX11_clear_16 : decode cX11_clear 16 = .ok (.ifCond .ne 5, 3) := by decide +kernel
theorem dX11_clear_19 : decode cX11_clear 19 = .ok (.iconst 0, 1) := by decide +kernel
theorem dX11_clear_20 : decode cX11_clear 20 = .ok (.ireturn, 1) := by decide +kernel
theorem dX11_clear_21 : decode cX11_clear 21 = .ok (.aload_n 0, 1) := by decide +kernel
theorem dX11_clear_22 : decode cX11_clear 22 = .ok (.invokevirtual 157, 3) := by decide +kernel
theorem dX11_clear_25 : decode cX11_clear 25 = .ok (.aload_n 0, 1) := by decide +kernel
theorem dX11_clear_26 : decode cX11_clear 26 = .ok (.getfield 72, 3) := by decide +kernel
theorem dX11_clear_29 : decode cX11_clear 29 = .ok (.iload_n 1, 1) := by decide +kernel
theorem dX11_clear_30 : decode cX11_clear 30 = .ok (.invokevirtual 178, 3) := by decide +kernel
theorem dX11_clear_33 : decode cX11_clear 33 = .ok (.ireturn, 1) := by decide +kernel
theorem dX11_undo_0 : decode cX11_undo 0 = .ok (.aload_n 0, 1) := by decide +kernel
theorem dX11_undo_1 : decode cX11_undo 1 = .ok (.getfield 181, 3) := by decide +kernel
theorem dX11_undo_4 : decode cX11_undo 4 = .ok (.ifCond .ne 5, 3) := by decide +kernel
theorem dX11_undo_7 : decode cX11_undo 7 = .ok (.iconst 0, 1) := by decide +kernel
theorem dX11_undo_8 : decode cX11_undo 8 = .ok (.ireturn, 1) := by decide +kernel
theorem dX11_undo_9 : decode cX11_undo 9 = .ok (.aload_n 0, 1) := by decide +kernel
theorem dX11_undo_10 : decode cX11_undo 10 = .ok (.aload_n 0, 1) := by decide +kernel
theorem dX11_undo_11 : decode cX11_undo 11 = .ok (.getfield 184, 3) := by decide +kernel
theorem dX11_undo_14 : decode cX11_undo 14 = .ok (.iconst 1, 1) := by decide +kernel
theorem dX11_undo_15 : decode cX11_undo 15 = .ok (.isub, 1) := by decide +kernel
theorem dX11_undo_16 : decode cX11_undo 16 = .ok (.bipush 15, 2) := by decide +kernel
theorem dX11_undo_18 : decode cX11_undo 18 = .ok (.iand, 1) := by decide +kernel
theorem dX11_undo_19 : decode cX11_undo 19 = .ok (.putfield 184, 3) := by decide +kernel
theorem dX11_undo_22 : decode cX11_undo 22 = .ok (.aload_n 0, 1) := by decide +kernel
theorem dX11_undo_23 : decode cX11_undo 23 = .ok (.dup, 1) := by decide +kernel
theorem dX11_undo_24 : decode cX11_undo 24 = .ok (.getfield 181, 3) := by decide +kernel
theorem dX11_undo_27 : decode cX11_undo 27 = .ok (.iconst 1, 1) := by decide +kernel
theorem dX11_undo_28 : decode cX11_undo 28 = .ok (.isub, 1) := by decide +kernel
theorem dX11_undo_29 : decode cX11_undo 29 = .ok (.putfield 181, 3) := by decide +kernel
theorem dX11_undo_32 : decode cX11_undo 32 = .ok (.aload_n 0, 1) := by decide +kernel
theorem dX11_undo_33 : decode cX11_undo 33 = .ok (.getfield 72, 3) := by decide +kernel
theorem dX11_undo_36 : decode cX11_undo 36 = .ok (.aload_n 0, 1) := by decide +kernel
theorem dX11_undo_37 : decode cX11_undo 37 = .ok (.getfield 79, 3) := by decide +kernel
theorem dX11_undo_40 : decode cX11_undo 40 = .ok (.aload_n 0, 1) := by decide +kernel
theorem dX11_undo_41 : decode cX11_undo 41 = .ok (.getfield 184, 3) := by decide +kernel
theorem dX11_undo_44 : decode cX11_undo 44 = .ok (.aaload, 1) := by decide +kernel
theorem dX11_undo_45 : decode cX11_undo 45 = .ok (.invokevirtual 187, 3) := by decide +kernel
theorem dX11_undo_48 : decode cX11_undo 48 = .ok (.iconst 1, 1) := by decide +kernel
theorem dX11_undo_49 : decode cX11_undo 49 = .ok (.ireturn, 1) := by decide +kernel
theorem dX11_judged_0 : decode cX11_judged 0 = .ok (.iload_n 1, 1) := by decide +kernel
theorem dX11_judged_1 : decode cX11_judged 1 = .ok (.ifCond .lt 8, 3) := by decide +kernel
theorem dX11_judged_4 : decode cX11_judged 4 = .ok (.iload_n 1, 1) := by decide +kernel
theorem dX11_judged_5 : decode cX11_judged 5 = .ok (.iconst 2, 1) := by decide +kernel
theorem dX11_judged_6 : decode cX11_judged 6 = .ok (.if_icmp .le 6, 3) := by decide +kernel
theorem dX11_judged_9 : decode cX11_judged 9 = .ok (.bipush (-2), 2) := by decide +kernel
theorem dX11_judged_11 : decode cX11_judged 11 = .ok (.ireturn, 1) := by decide +kernel
theorem dX11_judged_12 : decode cX11_judged 12 = .ok (.iconst (-1), 1) := by decide +kernel
theorem dX11_judged_13 : decode cX11_judged 13 = .ok (.istore_n 2, 1) := by decide +kernel
theorem dX11_judged_14 : decode cX11_judged 14 = .ok (.iconst (-1), 1) := by decide +kernel
theorem dX11_judged_15 : decode cX11_judged 15 = .ok (.istore_n 3, 1) := by decide +kernel
theorem dX11_judged_16 : decode cX11_judged 16 = .ok (.aload_n 0, 1) := by decide +kernel
theorem dX11_judged_17 : decode cX11_judged 17 = .ok (.getfield 76, 3) := by decide +kernel
theorem dX11_judged_20 : decode cX11_judged 20 = .ok (.aload_n 0, 1) := by decide +kernel
theorem dX11_judged_21 : decode cX11_judged 21 = .ok (.getfield 35, 3) := by decide +kernel
theorem dX11_judged_24 : decode cX11_judged 24 = .ok (.invokevirtual 191, 3) := by decide +kernel
theorem dX11_judged_27 : decode cX11_judged 27 = .ok (.iconst 0, 1) := by decide +kernel
theorem dX11_judged_28 : decode cX11_judged 28 = .ok (.istore 4, 2) := by decide +kernel
theorem dX11_judged_30 : decode cX11_judged 30 = .ok (.iload 4, 2) := by decide +kernel
theorem dX11_judged_32 : decode cX11_judged 32 = .ok (.aload_n 0, 1) := by decide +kernel
theorem dX11_judged_33 : decode cX11_judged 33 = .ok (.getfield 45, 3) := by decide +kernel
theorem dX11_judged_36 : decode cX11_judged 36 = .ok (.getfield 195, 3) := by decide +kernel
theorem dX11_judged_39 : decode cX11_judged 39 = .ok (.if_icmp .ge 52, 3) := by decide +kernel
theorem dX11_judged_42 : decode cX11_judged 42 = .ok (.aload_n 0, 1) := by decide +kernel
theorem dX11_judged_43 : decode cX11_judged 43 = .ok (.iload 4, 2) := by decide +kernel
theorem dX11_judged_45 : decode cX11_judged 45 = .ok (.invokevirtual 196, 3) := by decide +kernel
theorem dX11_judged_48 : decode cX11_judged 48 = .ok (.istore 5, 2) := by decide +kernel
theorem dX11_judged_50 : decode cX11_judged 50 = .ok (.iload 5, 2) := by decide +kernel
theorem dX11_judged_52 : decode cX11_judged 52 = .ok (.bipush (-2), 2) := by decide +kernel
theorem dX11_judged_54 : decode cX11_judged 54 = .ok (.if_icmp .ne 11, 3) := by decide +kernel
theorem dX11_judged_57 : decode cX11_judged 57 = .ok (.iload_n 2, 1) := by decide +kernel
theorem dX11_judged_58 : decode cX11_judged 58 = .ok (.iconst (-1), 1) := by decide +kernel
theorem dX11_judged_59 : decode cX11_judged 59 = .ok (.if_icmp .ne 6, 3) := by decide +kernel
theorem dX11_judged_62 : decode cX11_judged 62 = .ok (.iload 4, 2) := by decide +kernel
theorem dX11_judged_64 : decode cX11_judged 64 = .ok (.istore_n 2, 1) := by decide +kernel
theorem dX11_judged_65 : decode cX11_judged 65 = .ok (.iload 5, 2) := by decide +kernel
theorem dX11_judged_67 : decode cX11_judged 67 = .ok (.ifCond .lt 18, 3) := by decide +kernel
theorem dX11_judged_70 : decode cX11_judged 70 = .ok (.iload 5, 2) := by decide +kernel
theorem dX11_judged_72 : decode cX11_judged 72 = .ok (.bipush 6, 2) := by decide +kernel
theorem dX11_judged_74 : decode cX11_judged 74 = .ok (.if_icmp .eq 11, 3) := by decide +kernel
theorem dX11_judged_77 : decode cX11_judged 77 = .ok (.iload_n 3, 1) := by decide +kernel
theorem dX11_judged_78 : decode cX11_judged 78 = .ok (.iconst (-1), 1) := by decide +kernel
theorem dX11_judged_79 : decode cX11_judged 79 = .ok (.if_icmp .ne 6, 3) := by decide +kernel
theorem dX11_judged_82 : decode cX11_judged 82 = .ok (.iload 4, 2) := by decide +kernel
theorem dX11_judged_84 : decode cX11_judged 84 = .ok (.istore_n 3, 1) := by decide +kernel
theorem dX11_judged_85 : decode cX11_judged 85 = .ok (.iinc 4 1, 3) := by decide +kernel
theorem dX11_judged_88 : decode cX11_judged 88 = .ok (.goto (-58), 3) := by decide +kernel
theorem dX11_judged_91 : decode cX11_judged 91 = .ok (.iload_n 1, 1) := by decide +kernel
theorem dX11_judged_92 : decode cX11_judged 92 = .ok (.iconst 2, 1) := by decide +kernel
theorem dX11_judged_93 : decode cX11_judged 93 = .ok (.if_icmp .ne 13, 3) := by decide +kernel
theorem dX11_judged_96 : decode cX11_judged 96 = .ok (.aload_n 0, 1) := by decide +kernel
theorem dX11_judged_97 : decode cX11_judged 97 = .ok (.getfield 76, 3) := by decide +kernel
theorem dX11_judged_100 : decode cX11_judged 100 = .ok (.bipush 6, 2) := by decide +kernel
theorem dX11_judged_102 : decode cX11_judged 102 = .ok (.invokevirtual 199, 3) := by decide +kernel
theorem dX11_judged_105 : decode cX11_judged 105 = .ok (.ireturn, 1) := by decide +kernel
theorem dX11_judged_106 : decode cX11_judged 106 = .ok (.iload_n 1, 1) := by decide +kernel
theorem dX11_judged_107 : decode cX11_judged 107 = .ok (.ifCond .ne 7, 3) := by decide +kernel
theorem dX11_judged_110 : decode cX11_judged 110 = .ok (.iload_n 2, 1) := by decide +kernel
theorem dX11_judged_111 : decode cX11_judged 111 = .ok (.goto 4, 3) := by decide +kernel
theorem dX11_judged_114 : decode cX11_judged 114 = .ok (.iload_n 3, 1) := by decide +kernel
theorem dX11_judged_115 : decode cX11_judged 115 = .ok (.ireturn, 1) := by decide +kernel
theorem dX11_later_0 : decode cX11_later 0 = .ok (.aload_n 0, 1) := by decide +kernel
theorem dX11_later_1 : decode cX11_later 1 = .ok (.iload_n 1, 1) := by decide +kernel
theorem dX11_later_2 : decode cX11_later 2 = .ok (.invokevirtual 117, 3) := by decide +kernel
theorem dX11_later_5 : decode cX11_later 5 = .ok (.ifCond .eq 13, 3) := by decide +kernel
theorem dX11_later_8 : decode cX11_later 8 = .ok (.iload_n 2, 1) := by decide +kernel
theorem dX11_later_9 : decode cX11_later 9 = .ok (.ifCond .lt 9, 3) := by decide +kernel
theorem dX11_later_12 : decode cX11_later 12 = .ok (.iload_n 2, 1) := by decide +kernel
theorem dX11_later_13 : decode cX11_later 13 = .ok (.bipush 60, 2) := by decide +kernel
theorem dX11_later_15 : decode cX11_later 15 = .ok (.if_icmp .le 5, 3) := by decide +kernel
theorem dX11_later_18 : decode cX11_later 18 = .ok (.iconst (-1), 1) := by decide +kernel
theorem dX11_later_19 : decode cX11_later 19 = .ok (.ireturn, 1) := by decide +kernel
theorem dX11_later_20 : decode cX11_later 20 = .ok (.aload_n 0, 1) := by decide +kernel
theorem dX11_later_21 : decode cX11_later 21 = .ok (.getfield 76, 3) := by decide +kernel
theorem dX11_later_24 : decode cX11_later 24 = .ok (.aload_n 0, 1) := by decide +kernel
theorem dX11_later_25 : decode cX11_later 25 = .ok (.getfield 72, 3) := by decide +kernel
theorem dX11_later_28 : decode cX11_later 28 = .ok (.invokevirtual 187, 3) := by decide +kernel
theorem dX11_later_31 : decode cX11_later 31 = .ok (.iconst 0, 1) := by decide +kernel
theorem dX11_later_32 : decode cX11_later 32 = .ok (.istore_n 3, 1) := by decide +kernel
theorem dX11_later_33 : decode cX11_later 33 = .ok (.iload_n 3, 1) := by decide +kernel
theorem dX11_later_34 : decode cX11_later 34 = .ok (.iload_n 2, 1) := by decide +kernel
theorem dX11_later_35 : decode cX11_later 35 = .ok (.if_icmp .ge 14, 3) := by decide +kernel
theorem dX11_later_38 : decode cX11_later 38 = .ok (.aload_n 0, 1) := by decide +kernel
theorem dX11_later_39 : decode cX11_later 39 = .ok (.invokevirtual 202, 3) := by decide +kernel
theorem dX11_later_42 : decode cX11_later 42 = .ok (.pop, 1) := by decide +kernel
theorem dX11_later_43 : decode cX11_later 43 = .ok (.iinc 3 1, 3) := by decide +kernel
theorem dX11_later_46 : decode cX11_later 46 = .ok (.goto (-13), 3) := by decide +kernel
theorem dX11_later_49 : decode cX11_later 49 = .ok (.aload_n 0, 1) := by decide +kernel
theorem dX11_later_50 : decode cX11_later 50 = .ok (.getfield 76, 3) := by decide +kernel
theorem dX11_later_53 : decode cX11_later 53 = .ok (.getfield 136, 3) := by decide +kernel
theorem dX11_later_56 : decode cX11_later 56 = .ok (.iload_n 1, 1) := by decide +kernel
theorem dX11_later_57 : decode cX11_later 57 = .ok (.iaload, 1) := by decide +kernel
theorem dX11_later_58 : decode cX11_later 58 = .ok (.ireturn, 1) := by decide +kernel
theorem dX11_reads_0 : decode cX11_reads 0 = .ok (.iload_n 1, 1) := by decide +kernel
theorem dX11_reads_1 : decode cX11_reads 1 = .ok (.invokestatic 206, 3) := by decide +kernel
theorem dX11_reads_4 : decode cX11_reads 4 = .ok (.ifCond .ne 6, 3) := by decide +kernel
theorem dX11_reads_7 : decode cX11_reads 7 = .ok (.bipush (-2), 2) := by decide +kernel
theorem dX11_reads_9 : decode cX11_reads 9 = .ok (.ireturn, 1) := by decide +kernel
theorem dX11_reads_10 : decode cX11_reads 10 = .ok (.aload_n 0, 1) := by decide +kernel
theorem dX11_reads_11 : decode cX11_reads 11 = .ok (.getfield 76, 3) := by decide +kernel
theorem dX11_reads_14 : decode cX11_reads 14 = .ok (.aload_n 0, 1) := by decide +kernel
theorem dX11_reads_15 : decode cX11_reads 15 = .ok (.getfield 72, 3) := by decide +kernel
theorem dX11_reads_18 : decode cX11_reads 18 = .ok (.invokevirtual 187, 3) := by decide +kernel
theorem dX11_reads_21 : decode cX11_reads 21 = .ok (.iconst 0, 1) := by decide +kernel
theorem dX11_reads_22 : decode cX11_reads 22 = .ok (.istore_n 2, 1) := by decide +kernel
theorem dX11_reads_23 : decode cX11_reads 23 = .ok (.iload_n 2, 1) := by decide +kernel
theorem dX11_reads_24 : decode cX11_reads 24 = .ok (.iload_n 1, 1) := by decide +kernel
theorem dX11_reads_25 : decode cX11_reads 25 = .ok (.if_icmp .ge 14, 3) := by decide +kernel
theorem dX11_reads_28 : decode cX11_reads 28 = .ok (.aload_n 0, 1) := by decide +kernel
theorem dX11_reads_29 : decode cX11_reads 29 = .ok (.invokevirtual 202, 3) := by decide +kernel
theorem dX11_reads_32 : decode cX11_reads 32 = .ok (.pop, 1) := by decide +kernel
theorem dX11_reads_33 : decode cX11_reads 33 = .ok (.iinc 2 1, 3) := by decide +kernel
theorem dX11_reads_36 : decode cX11_reads 36 = .ok (.goto (-13), 3) := by decide +kernel
theorem dX11_reads_39 : decode cX11_reads 39 = .ok (.aload_n 0, 1) := by decide +kernel
theorem dX11_reads_40 : decode cX11_reads 40 = .ok (.getfield 76, 3) := by decide +kernel
theorem dX11_reads_43 : decode cX11_reads 43 = .ok (.getfield 209, 3) := by decide +kernel
theorem dX11_reads_46 : decode cX11_reads 46 = .ok (.ireturn, 1) := by decide +kernel
theorem dX11_when_0 : decode cX11_when 0 = .ok (.aload_n 0, 1) := by decide +kernel
theorem dX11_when_1 : decode cX11_when 1 = .ok (.iload_n 1, 1) := by decide +kernel
theorem dX11_when_2 : decode cX11_when 2 = .ok (.invokevirtual 145, 3) := by decide +kernel
theorem dX11_when_5 : decode cX11_when 5 = .ok (.ifCond .ne 5, 3) := by decide +kernel
theorem dX11_when_8 : decode cX11_when 8 = .ok (.iconst (-1), 1) := by decide +kernel
theorem dX11_when_9 : decode cX11_when 9 = .ok (.ireturn, 1) := by decide +kernel
theorem dX11_when_10 : decode cX11_when 10 = .ok (.aload_n 0, 1) := by decide +kernel
theorem dX11_when_11 : decode cX11_when 11 = .ok (.getfield 76, 3) := by decide +kernel
theorem dX11_when_14 : decode cX11_when 14 = .ok (.aload_n 0, 1) := by decide +kernel
theorem dX11_when_15 : decode cX11_when 15 = .ok (.getfield 72, 3) := by decide +kernel
theorem dX11_when_18 : decode cX11_when 18 = .ok (.invokevirtual 187, 3) := by decide +kernel
theorem dX11_when_21 : decode cX11_when 21 = .ok (.iconst 1, 1) := by decide +kernel
theorem dX11_when_22 : decode cX11_when 22 = .ok (.istore_n 2, 1) := by decide +kernel
theorem dX11_when_23 : decode cX11_when 23 = .ok (.iload_n 2, 1) := by decide +kernel
theorem dX11_when_24 : decode cX11_when 24 = .ok (.bipush 60, 2) := by decide +kernel
theorem dX11_when_26 : decode cX11_when 26 = .ok (.if_icmp .gt 19, 3) := by decide +kernel
theorem dX11_when_29 : decode cX11_when 29 = .ok (.aload_n 0, 1) := by decide +kernel
theorem dX11_when_30 : decode cX11_when 30 = .ok (.invokevirtual 202, 3) := by decide +kernel
theorem dX11_when_33 : decode cX11_when 33 = .ok (.iload_n 1, 1) := by decide +kernel
theorem dX11_when_34 : decode cX11_when 34 = .ok (.if_icmp .ne 5, 3) := by decide +kernel
theorem dX11_when_37 : decode cX11_when 37 = .ok (.iload_n 2, 1) := by decide +kernel
theorem dX11_when_38 : decode cX11_when 38 = .ok (.ireturn, 1) := by decide +kernel
theorem dX11_when_39 : decode cX11_when 39 = .ok (.iinc 2 1, 3) := by decide +kernel
theorem dX11_when_42 : decode cX11_when 42 = .ok (.goto (-19), 3) := by decide +kernel
theorem dX11_when_45 : decode cX11_when 45 = .ok (.iconst (-1), 1) := by decide +kernel
theorem dX11_when_46 : decode cX11_when 46 = .ok (.ireturn, 1) := by decide +kernel
theorem dX11_dry_0 : decode cX11_dry 0 = .ok (.aload_n 0, 1) := by decide +kernel
theorem dX11_dry_1 : decode cX11_dry 1 = .ok (.getfield 76, 3) := by decide +kernel
theorem dX11_dry_4 : decode cX11_dry 4 = .ok (.aload_n 0, 1) := by decide +kernel
theorem dX11_dry_5 : decode cX11_dry 5 = .ok (.getfield 72, 3) := by decide +kernel
theorem dX11_dry_8 : decode cX11_dry 8 = .ok (.invokevirtual 187, 3) := by decide +kernel
theorem dX11_dry_11 : decode cX11_dry 11 = .ok (.iconst 0, 1) := by decide +kernel
theorem dX11_dry_12 : decode cX11_dry 12 = .ok (.istore_n 1, 1) := by decide +kernel
theorem dX11_dry_13 : decode cX11_dry 13 = .ok (.iload_n 1, 1) := by decide +kernel
theorem dX11_dry_14 : decode cX11_dry 14 = .ok (.bipush 60, 2) := by decide +kernel
theorem dX11_dry_16 : decode cX11_dry 16 = .ok (.if_icmp .gt 33, 3) := by decide +kernel
theorem dX11_dry_19 : decode cX11_dry 19 = .ok (.aload_n 0, 1) := by decide +kernel
theorem dX11_dry_20 : decode cX11_dry 20 = .ok (.getfield 76, 3) := by decide +kernel
theorem dX11_dry_23 : decode cX11_dry 23 = .ok (.aload_n 0, 1) := by decide +kernel
theorem dX11_dry_24 : decode cX11_dry 24 = .ok (.getfield 35, 3) := by decide +kernel
theorem dX11_dry_27 : decode cX11_dry 27 = .ok (.getfield 212, 3) := by decide +kernel
theorem dX11_dry_30 : decode cX11_dry 30 = .ok (.invokevirtual 215, 3) := by decide +kernel
theorem dX11_dry_33 : decode cX11_dry 33 = .ok (.ifCond .ne 5, 3) := by decide +kernel
theorem dX11_dry_36 : decode cX11_dry 36 = .ok (.iload_n 1, 1) := by decide +kernel
theorem dX11_dry_37 : decode cX11_dry 37 = .ok (.ireturn, 1) := by decide +kernel
theorem dX11_dry_38 : decode cX11_dry 38 = .ok (.aload_n 0, 1) := by decide +kernel
theorem dX11_dry_39 : decode cX11_dry 39 = .ok (.invokevirtual 202, 3) := by decide +kernel
theorem dX11_dry_42 : decode cX11_dry 42 = .ok (.pop, 1) := by decide +kernel
theorem dX11_dry_43 : decode cX11_dry 43 = .ok (.iinc 1 1, 3) := by decide +kernel
theorem dX11_dry_46 : decode cX11_dry 46 = .ok (.goto (-33), 3) := by decide +kernel
theorem dX11_dry_49 : decode cX11_dry 49 = .ok (.iconst (-1), 1) := by decide +kernel
theorem dX11_dry_50 : decode cX11_dry 50 = .ok (.ireturn, 1) := by decide +kernel
theorem dX11_spill_0 : decode cX11_spill 0 = .ok (.iload_n 1, 1) := by decide +kernel
theorem dX11_spill_1 : decode cX11_spill 1 = .ok (.invokestatic 206, 3) := by decide +kernel
theorem dX11_spill_4 : decode cX11_spill 4 = .ok (.ifCond .ne 5, 3) := by decide +kernel
theorem dX11_spill_7 : decode cX11_spill 7 = .ok (.iconst (-1), 1) := by decide +kernel
theorem dX11_spill_8 : decode cX11_spill 8 = .ok (.ireturn, 1) := by decide +kernel
theorem dX11_spill_9 : decode cX11_spill 9 = .ok (.iconst 0, 1) := by decide +kernel
theorem dX11_spill_10 : decode cX11_spill 10 = .ok (.istore_n 2, 1) := by decide +kernel
theorem dX11_spill_11 : decode cX11_spill 11 = .ok (.aload_n 0, 1) := by decide +kernel
theorem dX11_spill_12 : decode cX11_spill 12 = .ok (.getfield 76, 3) := by decide +kernel
theorem dX11_spill_15 : decode cX11_spill 15 = .ok (.aload_n 0, 1) := by decide +kernel
theorem dX11_spill_16 : decode cX11_spill 16 = .ok (.getfield 72, 3) := by decide +kernel
theorem dX11_spill_19 : decode cX11_spill 19 = .ok (.invokevirtual 187, 3) := by decide +kernel
theorem dX11_spill_22 : decode cX11_spill 22 = .ok (.iconst 0, 1) := by decide +kernel
theorem dX11_spill_23 : decode cX11_spill 23 = .ok (.istore_n 3, 1) := by decide +kernel
theorem dX11_spill_24 : decode cX11_spill 24 = .ok (.iload_n 3, 1) := by decide +kernel
theorem dX11_spill_25 : decode cX11_spill 25 = .ok (.iload_n 1, 1) := by decide +kernel
theorem dX11_spill_26 : decode cX11_spill 26 = .ok (.if_icmp .ge 24, 3) := by decide +kernel
theorem dX11_spill_29 : decode cX11_spill 29 = .ok (.aload_n 0, 1) := by decide +kernel
theorem dX11_spill_30 : decode cX11_spill 30 = .ok (.invokevirtual 202, 3) := by decide +kernel
theorem dX11_spill_33 : decode cX11_spill 33 = .ok (.pop, 1) := by decide +kernel
theorem dX11_spill_34 : decode cX11_spill 34 = .ok (.iload_n 2, 1) := by decide +kernel
theorem dX11_spill_35 : decode cX11_spill 35 = .ok (.aload_n 0, 1) := by decide +kernel
theorem dX11_spill_36 : decode cX11_spill 36 = .ok (.getfield 76, 3) := by decide +kernel
theorem dX11_spill_39 : decode cX11_spill 39 = .ok (.getfield 218, 3) := by decide +kernel
theorem dX11_spill_42 : decode cX11_spill 42 = .ok (.iadd, 1) := by decide +kernel
theorem dX11_spill_43 : decode cX11_spill 43 = .ok (.istore_n 2, 1) := by decide +kernel
theorem dX11_spill_44 : decode cX11_spill 44 = .ok (.iinc 3 1, 3) := by decide +kernel
theorem dX11_spill_47 : decode cX11_spill 47 = .ok (.goto (-23), 3) := by decide +kernel
theorem dX11_spill_50 : decode cX11_spill 50 = .ok (.iload_n 2, 1) := by decide +kernel
theorem dX11_spill_51 : decode cX11_spill 51 = .ok (.ireturn, 1) := by decide +kernel
theorem dX11_over_0 : decode cX11_over 0 = .ok (.aload_n 0, 1) := by decide +kernel
theorem dX11_over_1 : decode cX11_over 1 = .ok (.iload_n 1, 1) := by decide +kernel
theorem dX11_over_2 : decode cX11_over 2 = .ok (.invokevirtual 117, 3) := by decide +kernel
theorem dX11_over_5 : decode cX11_over 5 = .ok (.ifCond .ne 5, 3) := by decide +kernel
theorem dX11_over_8 : decode cX11_over 8 = .ok (.iconst (-1), 1) := by decide +kernel
theorem dX11_over_9 : decode cX11_over 9 = .ok (.ireturn, 1) := by decide +kernel
theorem dX11_over_10 : decode cX11_over 10 = .ok (.aload_n 0, 1) := by decide +kernel
theorem dX11_over_11 : decode cX11_over 11 = .ok (.getfield 76, 3) := by decide +kernel
theorem dX11_over_14 : decode cX11_over 14 = .ok (.aload_n 0, 1) := by decide +kernel
theorem dX11_over_15 : decode cX11_over 15 = .ok (.getfield 72, 3) := by decide +kernel
theorem dX11_over_18 : decode cX11_over 18 = .ok (.invokevirtual 187, 3) := by decide +kernel
theorem dX11_over_21 : decode cX11_over 21 = .ok (.iconst 1, 1) := by decide +kernel
theorem dX11_over_22 : decode cX11_over 22 = .ok (.istore_n 2, 1) := by decide +kernel
theorem dX11_over_23 : decode cX11_over 23 = .ok (.iload_n 2, 1) := by decide +kernel
theorem dX11_over_24 : decode cX11_over 24 = .ok (.bipush 60, 2) := by decide +kernel
theorem dX11_over_26 : decode cX11_over 26 = .ok (.if_icmp .gt 27, 3) := by decide +kernel
theorem dX11_over_29 : decode cX11_over 29 = .ok (.aload_n 0, 1) := by decide +kernel
theorem dX11_over_30 : decode cX11_over 30 = .ok (.invokevirtual 202, 3) := by decide +kernel
theorem dX11_over_33 : decode cX11_over 33 = .ok (.pop, 1) := by decide +kernel
theorem dX11_over_34 : decode cX11_over 34 = .ok (.aload_n 0, 1) := by decide +kernel
theorem dX11_over_35 : decode cX11_over 35 = .ok (.getfield 76, 3) := by decide +kernel
theorem dX11_over_38 : decode cX11_over 38 = .ok (.iload_n 1, 1) := by decide +kernel
theorem dX11_over_39 : decode cX11_over 39 = .ok (.invokevirtual 221, 3) := by decide +kernel
theorem dX11_over_42 : decode cX11_over 42 = .ok (.ifCond .eq 5, 3) := by decide +kernel
theorem dX11_over_45 : decode cX11_over 45 = .ok (.iload_n 2, 1) := by decide +kernel
theorem dX11_over_46 : decode cX11_over 46 = .ok (.ireturn, 1) := by decide +kernel
theorem dX11_over_47 : decode cX11_over 47 = .ok (.iinc 2 1, 3) := by decide +kernel
theorem dX11_over_50 : decode cX11_over 50 = .ok (.goto (-27), 3) := by decide +kernel
theorem dX11_over_53 : decode cX11_over 53 = .ok (.iconst (-1), 1) := by decide +kernel
theorem dX11_over_54 : decode cX11_over 54 = .ok (.ireturn, 1) := by decide +kernel
theorem dX11_first_0 : decode cX11_first 0 = .ok (.aload_n 0, 1) := by decide +kernel
theorem dX11_first_1 : decode cX11_first 1 = .ok (.getfield 76, 3) := by decide +kernel
theorem dX11_first_4 : decode cX11_first 4 = .ok (.aload_n 0, 1) := by decide +kernel
theorem dX11_first_5 : decode cX11_first 5 = .ok (.getfield 72, 3) := by decide +kernel
theorem dX11_first_8 : decode cX11_first 8 = .ok (.invokevirtual 187, 3) := by decide +kernel
theorem dX11_first_11 : decode cX11_first 11 = .ok (.iconst 1, 1) := by decide +kernel
theorem dX11_first_12 : decode cX11_first 12 = .ok (.istore_n 1, 1) := by decide +kernel
theorem dX11_first_13 : decode cX11_first 13 = .ok (.iload_n 1, 1) := by decide +kernel
theorem dX11_first_14 : decode cX11_first 14 = .ok (.bipush 60, 2) := by decide +kernel
theorem dX11_first_16 : decode cX11_first 16 = .ok (.if_icmp .gt 46, 3) := by decide +kernel
theorem dX11_first_19 : decode cX11_first 19 = .ok (.aload_n 0, 1) := by decide +kernel
theorem dX11_first_20 : decode cX11_first 20 = .ok (.invokevirtual 202, 3) := by decide +kernel
theorem dX11_first_23 : decode cX11_first 23 = .ok (.pop, 1) := by decide +kernel
theorem dX11_first_24 : decode cX11_first 24 = .ok (.iconst 0, 1) := by decide +kernel
theorem dX11_first_25 : decode cX11_first 25 = .ok (.istore_n 2, 1) := by decide +kernel
theorem dX11_first_26 : decode cX11_first 26 = .ok (.iload_n 2, 1) := by decide +kernel
theorem dX11_first_27 : decode cX11_first 27 = .ok (.aload_n 0, 1) := by decide +kernel
theorem dX11_first_28 : decode cX11_first 28 = .ok (.getfield 35, 3) := by decide +kernel
theorem dX11_first_31 : decode cX11_first 31 = .ok (.getfield 212, 3) := by decide +kernel
theorem dX11_first_34 : decode cX11_first 34 = .ok (.if_icmp .ge 22, 3) := by decide +kernel
theorem dX11_first_37 : decode cX11_first 37 = .ok (.aload_n 0, 1) := by decide +kernel
theorem dX11_first_38 : decode cX11_first 38 = .ok (.getfield 76, 3) := by decide +kernel
theorem dX11_first_41 : decode cX11_first 41 = .ok (.iload_n 2, 1) := by decide +kernel
theorem dX11_first_42 : decode cX11_first 42 = .ok (.invokevirtual 221, 3) := by decide +kernel
theorem dX11_first_45 : decode cX11_first 45 = .ok (.ifCond .eq 5, 3) := by decide +kernel
theorem dX11_first_48 : decode cX11_first 48 = .ok (.iload_n 2, 1) := by decide +kernel
theorem dX11_first_49 : decode cX11_first 49 = .ok (.ireturn, 1) := by decide +kernel
theorem dX11_first_50 : decode cX11_first 50 = .ok (.iinc 2 1, 3) := by decide +kernel
theorem dX11_first_53 : decode cX11_first 53 = .ok (.goto (-27), 3) := by decide +kernel
theorem dX11_first_56 : decode cX11_first 56 = .ok (.iinc 1 1, 3) := by decide +kernel
theorem dX11_first_59 : decode cX11_first 59 = .ok (.goto (-46), 3) := by decide +kernel
theorem dX11_first_62 : decode cX11_first 62 = .ok (.iconst (-1), 1) := by decide +kernel
theorem dX11_first_63 : decode cX11_first 63 = .ok (.ireturn, 1) := by decide +kernel
theorem dX11_great_0 : decode cX11_great 0 = .ok (.iload_n 1, 1) := by decide +kernel
theorem dX11_great_1 : decode cX11_great 1 = .ok (.invokestatic 206, 3) := by decide +kernel
theorem dX11_great_4 : decode cX11_great 4 = .ok (.ifCond .eq 13, 3) := by decide +kernel
theorem dX11_great_7 : decode cX11_great 7 = .ok (.aload_n 0, 1) := by decide +kernel
theorem dX11_great_8 : decode cX11_great 8 = .ok (.getfield 35, 3) := by decide +kernel
theorem dX11_great_11 : decode cX11_great 11 = .ok (.getfield 212, 3) := by decide +kernel
theorem dX11_great_14 : decode cX11_great 14 = .ok (.ifCond .ne 5, 3) := by decide +kernel
theorem dX11_great_17 : decode cX11_great 17 = .ok (.iconst (-1), 1) := by decide +kernel
theorem dX11_great_18 : decode cX11_great 18 = .ok (.ireturn, 1) := by decide +kernel
theorem dX11_great_19 : decode cX11_great 19 = .ok (.aload_n 0, 1) := by decide +kernel
theorem dX11_great_20 : decode cX11_great 20 = .ok (.invokevirtual 224, 3) := by decide +kernel
theorem dX11_great_23 : decode cX11_great 23 = .ok (.aload_n 0, 1) := by decide +kernel
theorem dX11_great_24 : decode cX11_great 24 = .ok (.getfield 76, 3) := by decide +kernel
theorem dX11_great_27 : decode cX11_great 27 = .ok (.aload_n 0, 1) := by decide +kernel
theorem dX11_great_28 : decode cX11_great 28 = .ok (.getfield 72, 3) := by decide +kernel
theorem dX11_great_31 : decode cX11_great 31 = .ok (.invokevirtual 187, 3) := by decide +kernel
theorem dX11_great_34 : decode cX11_great 34 = .ok (.iconst 0, 1) := by decide +kernel
theorem dX11_great_35 : decode cX11_great 35 = .ok (.istore_n 2, 1) := by decide +kernel
theorem dX11_great_36 : decode cX11_great 36 = .ok (.iload_n 2, 1) := by decide +kernel
theorem dX11_great_37 : decode cX11_great 37 = .ok (.iload_n 1, 1) := by decide +kernel
theorem dX11_great_38 : decode cX11_great 38 = .ok (.if_icmp .ge 51, 3) := by decide +kernel
theorem dX11_great_41 : decode cX11_great 41 = .ok (.aload_n 0, 1) := by decide +kernel
theorem dX11_great_42 : decode cX11_great 42 = .ok (.invokevirtual 202, 3) := by decide +kernel
theorem dX11_great_45 : decode cX11_great 45 = .ok (.pop, 1) := by decide +kernel
theorem dX11_great_46 : decode cX11_great 46 = .ok (.iconst 0, 1) := by decide +kernel
theorem dX11_great_47 : decode cX11_great 47 = .ok (.istore_n 3, 1) := by decide +kernel
theorem dX11_great_48 : decode cX11_great 48 = .ok (.iload_n 3, 1) := by decide +kernel
theorem dX11_great_49 : decode cX11_great 49 = .ok (.aload_n 0, 1) := by decide +kernel
theorem dX11_great_50 : decode cX11_great 50 = .ok (.getfield 35, 3) := by decide +kernel
theorem dX11_great_53 : decode cX11_great 53 = .ok (.getfield 212, 3) := by decide +kernel
theorem dX11_great_56 : decode cX11_great 56 = .ok (.if_icmp .ge 27, 3) := by decide +kernel
theorem dX11_great_59 : decode cX11_great 59 = .ok (.aload_n 0, 1) := by decide +kernel
theorem dX11_great_60 : decode cX11_great 60 = .ok (.getfield 90, 3) := by decide +kernel
theorem dX11_great_63 : decode cX11_great 63 = .ok (.iload_n 3, 1) := by decide +kernel
theorem dX11_great_64 : decode cX11_great 64 = .ok (.dup2, 1) := by decide +kernel
theorem dX11_great_65 : decode cX11_great 65 = .ok (.iaload, 1) := by decide +kernel
theorem dX11_great_66 : decode cX11_great 66 = .ok (.aload_n 0, 1) := by decide +kernel
theorem dX11_great_67 : decode cX11_great 67 = .ok (.getfield 76, 3) := by decide +kernel
theorem dX11_great_70 : decode cX11_great 70 = .ok (.getfield 142, 3) := by decide +kernel
theorem dX11_great_73 : decode cX11_great 73 = .ok (.iload_n 3, 1) := by decide +kernel
theorem dX11_great_74 : decode cX11_great 74 = .ok (.iaload, 1) := by decide +kernel
theorem dX11_great_75 : decode cX11_great 75 = .ok (.iadd, 1) := by decide +kernel
theorem dX11_great_76 : decode cX11_great 76 = .ok (.iastore, 1) := by decide +kernel
theorem dX11_great_77 : decode cX11_great 77 = .ok (.iinc 3 1, 3) := by decide +kernel
theorem dX11_great_80 : decode cX11_great 80 = .ok (.goto (-32), 3) := by decide +kernel
theorem dX11_great_83 : decode cX11_great 83 = .ok (.iinc 2 1, 3) := by decide +kernel
theorem dX11_great_86 : decode cX11_great 86 = .ok (.goto (-50), 3) := by decide +kernel
theorem dX11_great_89 : decode cX11_great 89 = .ok (.aload_n 0, 1) := by decide +kernel
theorem dX11_great_90 : decode cX11_great 90 = .ok (.aload_n 0, 1) := by decide +kernel
theorem dX11_great_91 : decode cX11_great 91 = .ok (.getfield 35, 3) := by decide +kernel
theorem dX11_great_94 : decode cX11_great 94 = .ok (.getfield 212, 3) := by decide +kernel
theorem dX11_great_97 : decode cX11_great 97 = .ok (.invokevirtual 227, 3) := by decide +kernel
theorem dX11_great_100 : decode cX11_great 100 = .ok (.ireturn, 1) := by decide +kernel
theorem dX11_twins_0 : decode cX11_twins 0 = .ok (.iload_n 1, 1) := by decide +kernel
theorem dX11_twins_1 : decode cX11_twins 1 = .ok (.invokestatic 206, 3) := by decide +kernel
theorem dX11_twins_4 : decode cX11_twins 4 = .ok (.ifCond .ne 5, 3) := by decide +kernel
theorem dX11_twins_7 : decode cX11_twins 7 = .ok (.iconst (-1), 1) := by decide +kernel
theorem dX11_twins_8 : decode cX11_twins 8 = .ok (.ireturn, 1) := by decide +kernel
theorem dX11_twins_9 : decode cX11_twins 9 = .ok (.aload_n 0, 1) := by decide +kernel
theorem dX11_twins_10 : decode cX11_twins 10 = .ok (.invokevirtual 224, 3) := by decide +kernel
theorem dX11_twins_13 : decode cX11_twins 13 = .ok (.aload_n 0, 1) := by decide +kernel
theorem dX11_twins_14 : decode cX11_twins 14 = .ok (.getfield 76, 3) := by decide +kernel
theorem dX11_twins_17 : decode cX11_twins 17 = .ok (.aload_n 0, 1) := by decide +kernel
theorem dX11_twins_18 : decode cX11_twins 18 = .ok (.getfield 72, 3) := by decide +kernel
theorem dX11_twins_21 : decode cX11_twins 21 = .ok (.invokevirtual 187, 3) := by decide +kernel
theorem dX11_twins_24 : decode cX11_twins 24 = .ok (.iconst 0, 1) := by decide +kernel
theorem dX11_twins_25 : decode cX11_twins 25 = .ok (.istore_n 2, 1) := by decide +kernel
theorem dX11_twins_26 : decode cX11_twins 26 = .ok (.iload_n 2, 1) := by decide +kernel
theorem dX11_twins_27 : decode cX11_twins 27 = .ok (.iload_n 1, 1) := by decide +kernel
theorem dX11_twins_28 : decode cX11_twins 28 = .ok (.if_icmp .ge 57, 3) := by decide +kernel
theorem dX11_twins_31 : decode cX11_twins 31 = .ok (.aload_n 0, 1) := by decide +kernel
theorem dX11_twins_32 : decode cX11_twins 32 = .ok (.invokevirtual 202, 3) := by decide +kernel
theorem dX11_twins_35 : decode cX11_twins 35 = .ok (.pop, 1) := by decide +kernel
theorem dX11_twins_36 : decode cX11_twins 36 = .ok (.iconst 0, 1) := by decide +kernel
theorem dX11_twins_37 : decode cX11_twins 37 = .ok (.istore_n 3, 1) := by decide +kernel
theorem dX11_twins_38 : decode cX11_twins 38 = .ok (.iload_n 3, 1) := by decide +kernel
theorem dX11_twins_39 : decode cX11_twins 39 = .ok (.aload_n 0, 1) := by decide +kernel
theorem dX11_twins_40 : decode cX11_twins 40 = .ok (.getfield 35, 3) := by decide +kernel
theorem dX11_twins_43 : decode cX11_twins 43 = .ok (.getfield 212, 3) := by decide +kernel
theorem dX11_twins_46 : decode cX11_twins 46 = .ok (.if_icmp .ge 33, 3) := by decide +kernel
theorem dX11_twins_49 : decode cX11_twins 49 = .ok (.aload_n 0, 1) := by decide +kernel
theorem dX11_twins_50 : decode cX11_twins 50 = .ok (.getfield 90, 3) := by decide +kernel
theorem dX11_twins_53 : decode cX11_twins 53 = .ok (.iload_n 3, 1) := by decide +kernel
theorem dX11_twins_54 : decode cX11_twins 54 = .ok (.dup2, 1) := by decide +kernel
theorem dX11_twins_55 : decode cX11_twins 55 = .ok (.iaload, 1) := by decide +kernel
theorem dX11_twins_56 : decode cX11_twins 56 = .ok (.aload_n 0, 1) := by decide +kernel
theorem dX11_twins_57 : decode cX11_twins 57 = .ok (.getfield 76, 3) := by decide +kernel
theorem dX11_twins_60 : decode cX11_twins 60 = .ok (.iload_n 3, 1) := by decide +kernel
theorem dX11_twins_61 : decode cX11_twins 61 = .ok (.aload_n 0, 1) := by decide +kernel
theorem dX11_twins_62 : decode cX11_twins 62 = .ok (.getfield 35, 3) := by decide +kernel
theorem dX11_twins_65 : decode cX11_twins 65 = .ok (.getfield 212, 3) := by decide +kernel
theorem dX11_twins_68 : decode cX11_twins 68 = .ok (.invokevirtual 230, 3) := by decide +kernel
theorem dX11_twins_71 : decode cX11_twins 71 = .ok (.ior, 1) := by decide +kernel
theorem dX11_twins_72 : decode cX11_twins 72 = .ok (.iastore, 1) := by decide +kernel
theorem dX11_twins_73 : decode cX11_twins 73 = .ok (.iinc 3 1, 3) := by decide +kernel
theorem dX11_twins_76 : decode cX11_twins 76 = .ok (.goto (-38), 3) := by decide +kernel
theorem dX11_twins_79 : decode cX11_twins 79 = .ok (.iinc 2 1, 3) := by decide +kernel
theorem dX11_twins_82 : decode cX11_twins 82 = .ok (.goto (-56), 3) := by decide +kernel
theorem dX11_twins_85 : decode cX11_twins 85 = .ok (.iconst 0, 1) := by decide +kernel
theorem dX11_twins_86 : decode cX11_twins 86 = .ok (.istore_n 2, 1) := by decide +kernel
theorem dX11_twins_87 : decode cX11_twins 87 = .ok (.iconst 0, 1) := by decide +kernel
theorem dX11_twins_88 : decode cX11_twins 88 = .ok (.istore_n 3, 1) := by decide +kernel
theorem dX11_twins_89 : decode cX11_twins 89 = .ok (.iload_n 3, 1) := by decide +kernel
theorem dX11_twins_90 : decode cX11_twins 90 = .ok (.aload_n 0, 1) := by decide +kernel
theorem dX11_twins_91 : decode cX11_twins 91 = .ok (.getfield 35, 3) := by decide +kernel
theorem dX11_twins_94 : decode cX11_twins 94 = .ok (.getfield 212, 3) := by decide +kernel
theorem dX11_twins_97 : decode cX11_twins 97 = .ok (.if_icmp .ge 41, 3) := by decide +kernel
theorem dX11_twins_100 : decode cX11_twins 100 = .ok (.aload_n 0, 1) := by decide +kernel
theorem dX11_twins_101 : decode cX11_twins 101 = .ok (.getfield 35, 3) := by decide +kernel
theorem dX11_twins_104 : decode cX11_twins 104 = .ok (.getfield 212, 3) := by decide +kernel
theorem dX11_twins_107 : decode cX11_twins 107 = .ok (.iconst 1, 1) := by decide +kernel
theorem dX11_twins_108 : decode cX11_twins 108 = .ok (.isub, 1) := by decide +kernel
theorem dX11_twins_109 : decode cX11_twins 109 = .ok (.iload_n 3, 1) := by decide +kernel
theorem dX11_twins_110 : decode cX11_twins 110 = .ok (.isub, 1) := by decide +kernel
theorem dX11_twins_111 : decode cX11_twins 111 = .ok (.istore 4, 2) := by decide +kernel
theorem dX11_twins_113 : decode cX11_twins 113 = .ok (.iload_n 2, 1) := by decide +kernel
theorem dX11_twins_114 : decode cX11_twins 114 = .ok (.iload 4, 2) := by decide +kernel
theorem dX11_twins_116 : decode cX11_twins 116 = .ok (.aload_n 0, 1) := by decide +kernel
theorem dX11_twins_117 : decode cX11_twins 117 = .ok (.getfield 90, 3) := by decide +kernel
theorem dX11_twins_120 : decode cX11_twins 120 = .ok (.iload_n 3, 1) := by decide +kernel
theorem dX11_twins_121 : decode cX11_twins 121 = .ok (.iaload, 1) := by decide +kernel
theorem dX11_twins_122 : decode cX11_twins 122 = .ok (.iload_n 3, 1) := by decide +kernel
theorem dX11_twins_123 : decode cX11_twins 123 = .ok (.iconst 1, 1) := by decide +kernel
theorem dX11_twins_124 : decode cX11_twins 124 = .ok (.iadd, 1) := by decide +kernel
theorem dX11_twins_125 : decode cX11_twins 125 = .ok (.ishr, 1) := by decide +kernel
theorem dX11_twins_126 : decode cX11_twins 126 = .ok (.invokestatic 234, 3) := by decide +kernel
theorem dX11_twins_129 : decode cX11_twins 129 = .ok (.isub, 1) := by decide +kernel
theorem dX11_twins_130 : decode cX11_twins 130 = .ok (.iadd, 1) := by decide +kernel
theorem dX11_twins_131 : decode cX11_twins 131 = .ok (.istore_n 2, 1) := by decide +kernel
theorem dX11_twins_132 : decode cX11_twins 132 = .ok (.iinc 3 1, 3) := by decide +kernel
theorem dX11_twins_135 : decode cX11_twins 135 = .ok (.goto (-46), 3) := by decide +kernel
theorem dX11_twins_138 : decode cX11_twins 138 = .ok (.iload_n 2, 1) := by decide +kernel
theorem dX11_twins_139 : decode cX11_twins 139 = .ok (.ireturn, 1) := by decide +kernel
theorem dX11_down_0 : decode cX11_down 0 = .ok (.aload_n 0, 1) := by decide +kernel
theorem dX11_down_1 : decode cX11_down 1 = .ok (.iload_n 1, 1) := by decide +kernel
theorem dX11_down_2 : decode cX11_down 2 = .ok (.invokevirtual 117, 3) := by decide +kernel
theorem dX11_down_5 : decode cX11_down 5 = .ok (.ifCond .eq 14, 3) := by decide +kernel
theorem dX11_down_8 : decode cX11_down 8 = .ok (.aload_n 0, 1) := by decide +kernel
theorem dX11_down_9 : decode cX11_down 9 = .ok (.getfield 35, 3) := by decide +kernel
theorem dX11_down_12 : decode cX11_down 12 = .ok (.iload_n 1, 1) := by decide +kernel
theorem dX11_down_13 : decode cX11_down 13 = .ok (.invokevirtual 239, 3) := by decide +kernel
theorem dX11_down_16 : decode cX11_down 16 = .ok (.goto 4, 3) := by decide +kernel
theorem dX11_down_19 : decode cX11_down 19 = .ok (.iconst (-1), 1) := by decide +kernel
theorem dX11_down_20 : decode cX11_down 20 = .ok (.ireturn, 1) := by decide +kernel
theorem dX11_up_0 : decode cX11_up 0 = .ok (.aload_n 0, 1) := by decide +kernel
theorem dX11_up_1 : decode cX11_up 1 = .ok (.iload_n 1, 1) := by decide +kernel
theorem dX11_up_2 : decode cX11_up 2 = .ok (.invokevirtual 117, 3) := by decide +kernel
theorem dX11_up_5 : decode cX11_up 5 = .ok (.ifCond .ne 5, 3) := by decide +kernel
theorem dX11_up_8 : decode cX11_up 8 = .ok (.iconst (-1), 1) := by decide +kernel
theorem dX11_up_9 : decode cX11_up 9 = .ok (.ireturn, 1) := by decide +kernel
theorem dX11_up_10 : decode cX11_up 10 = .ok (.iconst 0, 1) := by decide +kernel
theorem dX11_up_11 : decode cX11_up 11 = .ok (.istore_n 2, 1) := by decide +kernel
theorem dX11_up_12 : decode cX11_up 12 = .ok (.iconst 0, 1) := by decide +kernel
theorem dX11_up_13 : decode cX11_up 13 = .ok (.istore_n 3, 1) := by decide +kernel
theorem dX11_up_14 : decode cX11_up 14 = .ok (.iload_n 3, 1) := by decide +kernel
theorem dX11_up_15 : decode cX11_up 15 = .ok (.aload_n 0, 1) := by decide +kernel
theorem dX11_up_16 : decode cX11_up 16 = .ok (.getfield 35, 3) := by decide +kernel
theorem dX11_up_19 : decode cX11_up 19 = .ok (.getfield 212, 3) := by decide +kernel
theorem dX11_up_22 : decode cX11_up 22 = .ok (.if_icmp .ge 30, 3) := by decide +kernel
theorem dX11_up_25 : decode cX11_up 25 = .ok (.aload_n 0, 1) := by decide +kernel
theorem dX11_up_26 : decode cX11_up 26 = .ok (.getfield 35, 3) := by decide +kernel
theorem dX11_up_29 : decode cX11_up 29 = .ok (.iload_n 3, 1) := by decide +kernel
theorem dX11_up_30 : decode cX11_up 30 = .ok (.invokevirtual 239, 3) := by decide +kernel
theorem dX11_up_33 : decode cX11_up 33 = .ok (.iload_n 1, 1) := by decide +kernel
theorem dX11_up_34 : decode cX11_up 34 = .ok (.ishr, 1) := by decide +kernel
theorem dX11_up_35 : decode cX11_up 35 = .ok (.iconst 1, 1) := by decide +kernel
theorem dX11_up_36 : decode cX11_up 36 = .ok (.iand, 1) := by decide +kernel
theorem dX11_up_37 : decode cX11_up 37 = .ok (.ifCond .eq 9, 3) := by decide +kernel
theorem dX11_up_40 : decode cX11_up 40 = .ok (.iload_n 2, 1) := by decide +kernel
theorem dX11_up_41 : decode cX11_up 41 = .ok (.iconst 1, 1) := by decide +kernel
theorem dX11_up_42 : decode cX11_up 42 = .ok (.iload_n 3, 1) := by decide +kernel
theorem dX11_up_43 : decode cX11_up 43 = .ok (.ishl, 1) := by decide +kernel
theorem dX11_up_44 : decode cX11_up 44 = .ok (.ior, 1) := by decide +kernel
theorem dX11_up_45 : decode cX11_up 45 = .ok (.istore_n 2, 1) := by decide +kernel
theorem dX11_up_46 : decode cX11_up 46 = .ok (.iinc 3 1, 3) := by decide +kernel
theorem dX11_up_49 : decode cX11_up 49 = .ok (.goto (-35), 3) := by decide +kernel
theorem dX11_up_52 : decode cX11_up 52 = .ok (.iload_n 2, 1) := by decide +kernel
theorem dX11_up_53 : decode cX11_up 53 = .ok (.ireturn, 1) := by decide +kernel
theorem dX11_chain_0 : decode cX11_chain 0 = .ok (.iconst 0, 1) := by decide +kernel
theorem dX11_chain_1 : decode cX11_chain 1 = .ok (.istore_n 1, 1) := by decide +kernel
theorem dX11_chain_2 : decode cX11_chain 2 = .ok (.iconst 0, 1) := by decide +kernel
theorem dX11_chain_3 : decode cX11_chain 3 = .ok (.istore_n 2, 1) := by decide +kernel
theorem dX11_chain_4 : decode cX11_chain 4 = .ok (.iload_n 2, 1) := by decide +kernel
theorem dX11_chain_5 : decode cX11_chain 5 = .ok (.aload_n 0, 1) := by decide +kernel
theorem dX11_chain_6 : decode cX11_chain 6 = .ok (.getfield 35, 3) := by decide +kernel
theorem dX11_chain_9 : decode cX11_chain 9 = .ok (.getfield 212, 3) := by decide +kernel
theorem dX11_chain_12 : decode cX11_chain 12 = .ok (.if_icmp .ge 27, 3) := by decide +kernel
theorem dX11_chain_15 : decode cX11_chain 15 = .ok (.iload_n 1, 1) := by decide +kernel
theorem dX11_chain_16 : decode cX11_chain 16 = .ok (.iconst 1, 1) := by decide +kernel
theorem dX11_chain_17 : decode cX11_chain 17 = .ok (.aload_n 0, 1) := by decide +kernel
theorem dX11_chain_18 : decode cX11_chain 18 = .ok (.getfield 35, 3) := by decide +kernel
theorem dX11_chain_21 : decode cX11_chain 21 = .ok (.iload_n 2, 1) := by decide +kernel
theorem dX11_chain_22 : decode cX11_chain 22 = .ok (.invokevirtual 239, 3) := by decide +kernel
theorem dX11_chain_25 : decode cX11_chain 25 = .ok (.invokestatic 234, 3) := by decide +kernel
theorem dX11_chain_28 : decode cX11_chain 28 = .ok (.iadd, 1) := by decide +kernel
theorem dX11_chain_29 : decode cX11_chain 29 = .ok (.invokestatic 242, 3) := by decide +kernel
theorem dX11_chain_32 : decode cX11_chain 32 = .ok (.istore_n 1, 1) := by decide +kernel
theorem dX11_chain_33 : decode cX11_chain 33 = .ok (.iinc 2 1, 3) := by decide +kernel
theorem dX11_chain_36 : decode cX11_chain 36 = .ok (.goto (-32), 3) := by decide +kernel
theorem dX11_chain_39 : decode cX11_chain 39 = .ok (.iload_n 1, 1) := by decide +kernel
theorem dX11_chain_40 : decode cX11_chain 40 = .ok (.ireturn, 1) := by decide +kernel
theorem dX11_sounds_0 : decode cX11_sounds 0 = .ok (.aload_n 0, 1) := by decide +kernel
theorem dX11_sounds_1 : decode cX11_sounds 1 = .ok (.getfield 72, 3) := by decide +kernel
theorem dX11_sounds_4 : decode cX11_sounds 4 = .ok (.getfield 247, 3) := by decide +kernel
theorem dX11_sounds_7 : decode cX11_sounds 7 = .ok (.ireturn, 1) := by decide +kernel
theorem dX11_last_0 : decode cX11_last 0 = .ok (.aload_n 0, 1) := by decide +kernel
theorem dX11_last_1 : decode cX11_last 1 = .ok (.getfield 72, 3) := by decide +kernel
theorem dX11_last_4 : decode cX11_last 4 = .ok (.getfield 209, 3) := by decide +kernel
theorem dX11_last_7 : decode cX11_last 7 = .ok (.ireturn, 1) := by decide +kernel
theorem dX11_often_0 : decode cX11_often 0 = .ok (.iconst 0, 1) := by decide +kernel
theorem dX11_often_1 : decode cX11_often 1 = .ok (.istore_n 1, 1) := by decide +kernel
theorem dX11_often_2 : decode cX11_often 2 = .ok (.iload_n 1, 1) := by decide +kernel
theorem dX11_often_3 : decode cX11_often 3 = .ok (.aload_n 0, 1) := by decide +kernel
theorem dX11_often_4 : decode cX11_often 4 = .ok (.getfield 35, 3) := by decide +kernel
theorem dX11_often_7 : decode cX11_often 7 = .ok (.getfield 250, 3) := by decide +kernel
theorem dX11_often_10 : decode cX11_often 10 = .ok (.if_icmp .ge 23, 3) := by decide +kernel
theorem dX11_often_13 : decode cX11_often 13 = .ok (.aload_n 0, 1) := by decide +kernel
theorem dX11_often_14 : decode cX11_often 14 = .ok (.getfield 90, 3) := by decide +kernel
theorem dX11_often_17 : decode cX11_often 17 = .ok (.iload_n 1, 1) := by decide +kernel
theorem dX11_often_18 : decode cX11_often 18 = .ok (.aload_n 0, 1) := by decide +kernel
theorem dX11_often_19 : decode cX11_often 19 = .ok (.getfield 72, 3) := by decide +kernel
theorem dX11_often_22 : decode cX11_often 22 = .ok (.iload_n 1, 1) := by decide +kernel
theorem dX11_often_23 : decode cX11_often 23 = .ok (.invokevirtual 199, 3) := by decide +kernel
theorem dX11_often_26 : decode cX11_often 26 = .ok (.iastore, 1) := by decide +kernel
theorem dX11_often_27 : decode cX11_often 27 = .ok (.iinc 1 1, 3) := by decide +kernel
theorem dX11_often_30 : decode cX11_often 30 = .ok (.goto (-28), 3) := by decide +kernel
theorem dX11_often_33 : decode cX11_often 33 = .ok (.aload_n 0, 1) := by decide +kernel
theorem dX11_often_34 : decode cX11_often 34 = .ok (.aload_n 0, 1) := by decide +kernel
theorem dX11_often_35 : decode cX11_often 35 = .ok (.getfield 35, 3) := by decide +kernel
theorem dX11_often_38 : decode cX11_often 38 = .ok (.getfield 250, 3) := by decide +kernel
theorem dX11_often_41 : decode cX11_often 41 = .ok (.invokevirtual 227, 3) := by decide +kernel
theorem dX11_often_44 : decode cX11_often 44 = .ok (.istore_n 1, 1) := by decide +kernel
theorem dX11_often_45 : decode cX11_often 45 = .ok (.iload_n 1, 1) := by decide +kernel
theorem dX11_often_46 : decode cX11_often 46 = .ok (.iconst (-1), 1) := by decide +kernel
theorem dX11_often_47 : decode cX11_often 47 = .ok (.if_icmp .eq 16, 3) := by decide +kernel
theorem dX11_often_50 : decode cX11_often 50 = .ok (.aload_n 0, 1) := by decide +kernel
theorem dX11_often_51 : decode cX11_often 51 = .ok (.getfield 90, 3) := by decide +kernel
theorem dX11_often_54 : decode cX11_often 54 = .ok (.iload_n 1, 1) := by decide +kernel
theorem dX11_often_55 : decode cX11_often 55 = .ok (.iaload, 1) := by decide +kernel
theorem dX11_often_56 : decode cX11_often 56 = .ok (.ifCond .le 7, 3) := by decide +kernel
theorem dX11_often_59 : decode cX11_often 59 = .ok (.iload_n 1, 1) := by decide +kernel
theorem dX11_often_60 : decode cX11_often 60 = .ok (.goto 4, 3) := by decide +kernel
theorem dX11_often_63 : decode cX11_often 63 = .ok (.iconst (-1), 1) := by decide +kernel
theorem dX11_often_64 : decode cX11_often 64 = .ok (.ireturn, 1) := by decide +kernel
theorem dX11_run_0 : decode cX11_run 0 = .ok (.iconst 0, 1) := by decide +kernel
theorem dX11_run_1 : decode cX11_run 1 = .ok (.istore_n 1, 1) := by decide +kernel
theorem dX11_run_2 : decode cX11_run 2 = .ok (.iconst 0, 1) := by decide +kernel
theorem dX11_run_3 : decode cX11_run 3 = .ok (.istore_n 2, 1) := by decide +kernel
theorem dX11_run_4 : decode cX11_run 4 = .ok (.iconst 0, 1) := by decide +kernel
theorem dX11_run_5 : decode cX11_run 5 = .ok (.istore_n 3, 1) := by decide +kernel
theorem dX11_run_6 : decode cX11_run 6 = .ok (.iload_n 3, 1) := by decide +kernel
theorem dX11_run_7 : decode cX11_run 7 = .ok (.aload_n 0, 1) := by decide +kernel
theorem dX11_run_8 : decode cX11_run 8 = .ok (.getfield 72, 3) := by decide +kernel
theorem dX11_run_11 : decode cX11_run 11 = .ok (.getfield 151, 3) := by decide +kernel
theorem dX11_run_14 : decode cX11_run 14 = .ok (.if_icmp .ge 76, 3) := by decide +kernel
theorem dX11_run_17 : decode cX11_run 17 = .ok (.iload_n 3, 1) := by decide +kernel
theorem dX11_run_18 : decode cX11_run 18 = .ok (.ifCond .le 30, 3) := by decide +kernel
theorem dX11_run_21 : decode cX11_run 21 = .ok (.aload_n 0, 1) := by decide +kernel
theorem dX11_run_22 : decode cX11_run 22 = .ok (.getfield 72, 3) := by decide +kernel
theorem dX11_run_25 : decode cX11_run 25 = .ok (.getfield 154, 3) := by decide +kernel
theorem dX11_run_28 : decode cX11_run 28 = .ok (.iload_n 3, 1) := by decide +kernel
theorem dX11_run_29 : decode cX11_run 29 = .ok (.iaload, 1) := by decide +kernel
theorem dX11_run_30 : decode cX11_run 30 = .ok (.aload_n 0, 1) := by decide +kernel
theorem dX11_run_31 : decode cX11_run 31 = .ok (.getfield 72, 3) := by decide +kernel
theorem dX11_run_34 : decode cX11_run 34 = .ok (.getfield 154, 3) := by decide +kernel
theorem dX11_run_37 : decode cX11_run 37 = .ok (.iload_n 3, 1) := by decide +kernel
theorem dX11_run_38 : decode cX11_run 38 = .ok (.iconst 1, 1) := by decide +kernel
theorem dX11_run_39 : decode cX11_run 39 = .ok (.isub, 1) := by decide +kernel
theorem dX11_run_40 : decode cX11_run 40 = .ok (.iaload, 1) := by decide +kernel
theorem dX11_run_41 : decode cX11_run 41 = .ok (.if_icmp .ne 7, 3) := by decide +kernel
theorem dX11_run_44 : decode cX11_run 44 = .ok (.iconst 1, 1) := by decide +kernel
theorem dX11_run_45 : decode cX11_run 45 = .ok (.goto 4, 3) := by decide +kernel
theorem dX11_run_48 : decode cX11_run 48 = .ok (.iconst 0, 1) := by decide +kernel
theorem dX11_run_49 : decode cX11_run 49 = .ok (.istore 4, 2) := by decide +kernel
theorem dX11_run_51 : decode cX11_run 51 = .ok (.iload 4, 2) := by decide +kernel
theorem dX11_run_53 : decode cX11_run 53 = .ok (.ifCond .eq 9, 3) := by decide +kernel
theorem dX11_run_56 : decode cX11_run 56 = .ok (.iload_n 2, 1) := by decide +kernel
theorem dX11_run_57 : decode cX11_run 57 = .ok (.iconst 1, 1) := by decide +kernel
theorem dX11_run_58 : decode cX11_run 58 = .ok (.iadd, 1) := by decide +kernel
theorem dX11_run_59 : decode cX11_run 59 = .ok (.goto 4, 3) := by decide +kernel
theorem dX11_run_62 : decode cX11_run 62 = .ok (.iconst 1, 1) := by decide +kernel
theorem dX11_run_63 : decode cX11_run 63 = .ok (.istore_n 2, 1) := by decide +kernel
theorem dX11_run_64 : decode cX11_run 64 = .ok (.aload_n 0, 1) := by decide +kernel
theorem dX11_run_65 : decode cX11_run 65 = .ok (.getfield 72, 3) := by decide +kernel
theorem dX11_run_68 : decode cX11_run 68 = .ok (.getfield 154, 3) := by decide +kernel
theorem dX11_run_71 : decode cX11_run 71 = .ok (.iload_n 3, 1) := by decide +kernel
theorem dX11_run_72 : decode cX11_run 72 = .ok (.iaload, 1) := by decide +kernel
theorem dX11_run_73 : decode cX11_run 73 = .ok (.bipush 6, 2) := by decide +kernel
theorem dX11_run_75 : decode cX11_run 75 = .ok (.if_icmp .eq 9, 3) := by decide +kernel
theorem dX11_run_78 : decode cX11_run 78 = .ok (.iload_n 1, 1) := by decide +kernel
theorem dX11_run_79 : decode cX11_run 79 = .ok (.iload_n 2, 1) := by decide +kernel
theorem dX11_run_80 : decode cX11_run 80 = .ok (.invokestatic 242, 3) := by decide +kernel
theorem dX11_run_83 : decode cX11_run 83 = .ok (.istore_n 1, 1) := by decide +kernel
theorem dX11_run_84 : decode cX11_run 84 = .ok (.iinc 3 1, 3) := by decide +kernel
theorem dX11_run_87 : decode cX11_run 87 = .ok (.goto (-81), 3) := by decide +kernel
theorem dX11_run_90 : decode cX11_run 90 = .ok (.iload_n 1, 1) := by decide +kernel
theorem dX11_run_91 : decode cX11_run 91 = .ok (.ireturn, 1) := by decide +kernel
theorem dX11_stands_0 : decode cX11_stands 0 = .ok (.aload_n 0, 1) := by decide +kernel
theorem dX11_stands_1 : decode cX11_stands 1 = .ok (.getfield 72, 3) := by decide +kernel
theorem dX11_stands_4 : decode cX11_stands 4 = .ok (.aload_n 0, 1) := by decide +kernel
theorem dX11_stands_5 : decode cX11_stands 5 = .ok (.getfield 55, 3) := by decide +kernel
theorem dX11_stands_8 : decode cX11_stands 8 = .ok (.invokevirtual 253, 3) := by decide +kernel
theorem dX11_stands_11 : decode cX11_stands 11 = .ok (.ireturn, 1) := by decide +kernel
theorem dX11_maybe_0 : decode cX11_maybe 0 = .ok (.aload_n 0, 1) := by decide +kernel
theorem dX11_maybe_1 : decode cX11_maybe 1 = .ok (.getfield 55, 3) := by decide +kernel
theorem dX11_maybe_4 : decode cX11_maybe 4 = .ok (.getfield 257, 3) := by decide +kernel
theorem dX11_maybe_7 : decode cX11_maybe 7 = .ok (.ifCond .ne 7, 3) := by decide +kernel
theorem dX11_maybe_10 : decode cX11_maybe 10 = .ok (.iconst (-1), 1) := by decide +kernel
theorem dX11_maybe_11 : decode cX11_maybe 11 = .ok (.goto 14, 3) := by decide +kernel
theorem dX11_maybe_14 : decode cX11_maybe 14 = .ok (.aload_n 0, 1) := by decide +kernel
theorem dX11_maybe_15 : decode cX11_maybe 15 = .ok (.getfield 72, 3) := by decide +kernel
theorem dX11_maybe_18 : decode cX11_maybe 18 = .ok (.aload_n 0, 1) := by decide +kernel
theorem dX11_maybe_19 : decode cX11_maybe 19 = .ok (.getfield 55, 3) := by decide +kernel
theorem dX11_maybe_22 : decode cX11_maybe 22 = .ok (.invokevirtual 258, 3) := by decide +kernel
theorem dX11_maybe_25 : decode cX11_maybe 25 = .ok (.ireturn, 1) := by decide +kernel
theorem dX11_entire_0 : decode cX11_entire 0 = .ok (.aload_n 0, 1) := by decide +kernel
theorem dX11_entire_1 : decode cX11_entire 1 = .ok (.getfield 76, 3) := by decide +kernel
theorem dX11_entire_4 : decode cX11_entire 4 = .ok (.aload_n 0, 1) := by decide +kernel
theorem dX11_entire_5 : decode cX11_entire 5 = .ok (.getfield 72, 3) := by decide +kernel
theorem dX11_entire_8 : decode cX11_entire 8 = .ok (.invokevirtual 187, 3) := by decide +kernel
theorem dX11_entire_11 : decode cX11_entire 11 = .ok (.iconst 0, 1) := by decide +kernel
theorem dX11_entire_12 : decode cX11_entire 12 = .ok (.istore_n 1, 1) := by decide +kernel
theorem dX11_entire_13 : decode cX11_entire 13 = .ok (.iload_n 1, 1) := by decide +kernel
theorem dX11_entire_14 : decode cX11_entire 14 = .ok (.bipush 60, 2) := by decide +kernel
theorem dX11_entire_16 : decode cX11_entire 16 = .ok (.if_icmp .gt 31, 3) := by decide +kernel
theorem dX11_entire_19 : decode cX11_entire 19 = .ok (.aload_n 0, 1) := by decide +kernel
theorem dX11_entire_20 : decode cX11_entire 20 = .ok (.getfield 76, 3) := by decide +kernel
theorem dX11_entire_23 : decode cX11_entire 23 = .ok (.aload_n 0, 1) := by decide +kernel
theorem dX11_entire_24 : decode cX11_entire 24 = .ok (.getfield 55, 3) := by decide +kernel
theorem dX11_entire_27 : decode cX11_entire 27 = .ok (.invokevirtual 253, 3) := by decide +kernel
theorem dX11_entire_30 : decode cX11_entire 30 = .ok (.iconst (-1), 1) := by decide +kernel
theorem dX11_entire_31 : decode cX11_entire 31 = .ok (.if_icmp .eq 5, 3) := by decide +kernel
theorem dX11_entire_34 : decode cX11_entire 34 = .ok (.iload_n 1, 1) := by decide +kernel
theorem dX11_entire_35 : decode cX11_entire 35 = .ok (.ireturn, 1) := by decide +kernel
theorem dX11_entire_36 : decode cX11_entire 36 = .ok (.aload_n 0, 1) := by decide +kernel
theorem dX11_entire_37 : decode cX11_entire 37 = .ok (.invokevirtual 202, 3) := by decide +kernel
theorem dX11_entire_40 : decode cX11_entire 40 = .ok (.pop, 1) := by decide +kernel
theorem dX11_entire_41 : decode cX11_entire 41 = .ok (.iinc 1 1, 3) := by decide +kernel
theorem dX11_entire_44 : decode cX11_entire 44 = .ok (.goto (-31), 3) := by decide +kernel
theorem dX11_entire_47 : decode cX11_entire 47 = .ok (.iconst (-1), 1) := by decide +kernel
theorem dX11_entire_48 : decode cX11_entire 48 = .ok (.ireturn, 1) := by decide +kernel
theorem dX11_aim_0 : decode cX11_aim 0 = .ok (.aload_n 0, 1) := by decide +kernel
theorem dX11_aim_1 : decode cX11_aim 1 = .ok (.iload_n 1, 1) := by decide +kernel
theorem dX11_aim_2 : decode cX11_aim 2 = .ok (.invokevirtual 145, 3) := by decide +kernel
theorem dX11_aim_5 : decode cX11_aim 5 = .ok (.ifCond .eq 12, 3) := by decide +kernel
theorem dX11_aim_8 : decode cX11_aim 8 = .ok (.iload_n 2, 1) := by decide +kernel
theorem dX11_aim_9 : decode cX11_aim 9 = .ok (.ifCond .lt 8, 3) := by decide +kernel
theorem dX11_aim_12 : decode cX11_aim 12 = .ok (.iload_n 2, 1) := by decide +kernel
theorem dX11_aim_13 : decode cX11_aim 13 = .ok (.iconst 1, 1) := by decide +kernel
theorem dX11_aim_14 : decode cX11_aim 14 = .ok (.if_icmp .le 6, 3) := by decide +kernel
theorem dX11_aim_17 : decode cX11_aim 17 = .ok (.bipush (-2), 2) := by decide +kernel
theorem dX11_aim_19 : decode cX11_aim 19 = .ok (.ireturn, 1) := by decide +kernel
theorem dX11_aim_20 : decode cX11_aim 20 = .ok (.aload_n 0, 1) := by decide +kernel
theorem dX11_aim_21 : decode cX11_aim 21 = .ok (.iload_n 1, 1) := by decide +kernel
theorem dX11_aim_22 : decode cX11_aim 22 = .ok (.iconst (-1), 1) := by decide +kernel
theorem dX11_aim_23 : decode cX11_aim 23 = .ok (.iconst 0, 1) := by decide +kernel
theorem dX11_aim_24 : decode cX11_aim 24 = .ok (.invokevirtual 261, 3) := by decide +kernel
theorem dX11_aim_27 : decode cX11_aim 27 = .ok (.ifCond .eq 13, 3) := by decide +kernel
theorem dX11_aim_30 : decode cX11_aim 30 = .ok (.iload_n 2, 1) := by decide +kernel
theorem dX11_aim_31 : decode cX11_aim 31 = .ok (.ifCond .ne 7, 3) := by decide +kernel
theorem dX11_aim_34 : decode cX11_aim 34 = .ok (.iconst 0, 1) := by decide +kernel
theorem dX11_aim_35 : decode cX11_aim 35 = .ok (.goto 4, 3) := by decide +kernel
theorem dX11_aim_38 : decode cX11_aim 38 = .ok (.iconst (-1), 1) := by decide +kernel
theorem dX11_aim_39 : decode cX11_aim 39 = .ok (.ireturn, 1) := by decide +kernel
theorem dX11_aim_40 : decode cX11_aim 40 = .ok (.iconst 1, 1) := by decide +kernel
theorem dX11_aim_41 : decode cX11_aim 41 = .ok (.istore_n 3, 1) := by decide +kernel
theorem dX11_aim_42 : decode cX11_aim 42 = .ok (.iload_n 3, 1) := by decide +kernel
theorem dX11_aim_43 : decode cX11_aim 43 = .ok (.bipush 20, 2) := by decide +kernel
theorem dX11_aim_45 : decode cX11_aim 45 = .ok (.if_icmp .gt 52, 3) := by decide +kernel
theorem dX11_aim_48 : decode cX11_aim 48 = .ok (.iconst 0, 1) := by decide +kernel
theorem dX11_aim_49 : decode cX11_aim 49 = .ok (.istore 4, 2) := by decide +kernel
theorem dX11_aim_51 : decode cX11_aim 51 = .ok (.iload 4, 2) := by decide +kernel
theorem dX11_aim_53 : decode cX11_aim 53 = .ok (.aload_n 0, 1) := by decide +kernel
theorem dX11_aim_54 : decode cX11_aim 54 = .ok (.getfield 35, 3) := by decide +kernel
theorem dX11_aim_57 : decode cX11_aim 57 = .ok (.getfield 212, 3) := by decide +kernel
theorem dX11_aim_60 : decode cX11_aim 60 = .ok (.if_icmp .ge 31, 3) := by decide +kernel
theorem dX11_aim_63 : decode cX11_aim 63 = .ok (.aload_n 0, 1) := by decide +kernel
theorem dX11_aim_64 : decode cX11_aim 64 = .ok (.iload_n 1, 1) := by decide +kernel
theorem dX11_aim_65 : decode cX11_aim 65 = .ok (.iload 4, 2) := by decide +kernel
theorem dX11_aim_67 : decode cX11_aim 67 = .ok (.iload_n 3, 1) := by decide +kernel
theorem dX11_aim_68 : decode cX11_aim 68 = .ok (.invokevirtual 261, 3) := by decide +kernel
theorem dX11_aim_71 : decode cX11_aim 71 = .ok (.ifCond .eq 14, 3) := by decide +kernel
theorem dX11_aim_74 : decode cX11_aim 74 = .ok (.iload_n 2, 1) := by decide +kernel
theorem dX11_aim_75 : decode cX11_aim 75 = .ok (.ifCond .ne 7, 3) := by decide +kernel
theorem dX11_aim_78 : decode cX11_aim 78 = .ok (.iload_n 3, 1) := by decide +kernel
theorem dX11_aim_79 : decode cX11_aim 79 = .ok (.goto 5, 3) := by decide +kernel
theorem dX11_aim_82 : decode cX11_aim 82 = .ok (.iload 4, 2) := by decide +kernel
theorem dX11_aim_84 : decode cX11_aim 84 = .ok (.ireturn, 1) := by decide +kernel
theorem dX11_aim_85 : decode cX11_aim 85 = .ok (.iinc 4 1, 3) := by decide +kernel
theorem dX11_aim_88 : decode cX11_aim 88 = .ok (.goto (-37), 3) := by decide +kernel
theorem dX11_aim_91 : decode cX11_aim 91 = .ok (.iinc 3 1, 3) := by decide +kernel
theorem dX11_aim_94 : decode cX11_aim 94 = .ok (.goto (-52), 3) := by decide +kernel
theorem dX11_aim_97 : decode cX11_aim 97 = .ok (.bipush (-2), 2) := by decide +kernel
theorem dX11_aim_99 : decode cX11_aim 99 = .ok (.ireturn, 1) := by decide +kernel
theorem dX11_hush_0 : decode cX11_hush 0 = .ok (.aload_n 0, 1) := by decide +kernel
theorem dX11_hush_1 : decode cX11_hush 1 = .ok (.iload_n 1, 1) := by decide +kernel
theorem dX11_hush_2 : decode cX11_hush 2 = .ok (.invokevirtual 145, 3) := by decide +kernel
theorem dX11_hush_5 : decode cX11_hush 5 = .ok (.ifCond .ne 5, 3) := by decide +kernel
theorem dX11_hush_8 : decode cX11_hush 8 = .ok (.iconst (-1), 1) := by decide +kernel
theorem dX11_hush_9 : decode cX11_hush 9 = .ok (.ireturn, 1) := by decide +kernel
theorem dX11_hush_10 : decode cX11_hush 10 = .ok (.iconst (-1), 1) := by decide +kernel
theorem dX11_hush_11 : decode cX11_hush 11 = .ok (.istore_n 2, 1) := by decide +kernel
theorem dX11_hush_12 : decode cX11_hush 12 = .ok (.bipush 8, 2) := by decide +kernel
theorem dX11_hush_14 : decode cX11_hush 14 = .ok (.istore_n 3, 1) := by decide +kernel
theorem dX11_hush_15 : decode cX11_hush 15 = .ok (.iconst 1, 1) := by decide +kernel
theorem dX11_hush_16 : decode cX11_hush 16 = .ok (.aload_n 0, 1) := by decide +kernel
theorem dX11_hush_17 : decode cX11_hush 17 = .ok (.getfield 35, 3) := by decide +kernel
theorem dX11_hush_20 : decode cX11_hush 20 = .ok (.getfield 212, 3) := by decide +kernel
theorem dX11_hush_23 : decode cX11_hush 23 = .ok (.ishl, 1) := by decide +kernel
theorem dX11_hush_24 : decode cX11_hush 24 = .ok (.istore 4, 2) := by decide +kernel
theorem dX11_hush_26 : decode cX11_hush 26 = .ok (.iconst 0, 1) := by decide +kernel
theorem dX11_hush_27 : decode cX11_hush 27 = .ok (.istore 5, 2) := by decide +kernel
theorem dX11_hush_29 : decode cX11_hush 29 = .ok (.iload 5, 2) := by decide +kernel
theorem dX11_hush_31 : decode cX11_hush 31 = .ok (.iload 4, 2) := by decide +kernel
theorem dX11_hush_33 : decode cX11_hush 33 = .ok (.if_icmp .ge 37, 3) := by decide +kernel
theorem dX11_hush_36 : decode cX11_hush 36 = .ok (.iload 5, 2) := by decide +kernel
theorem dX11_hush_38 : decode cX11_hush 38 = .ok (.invokestatic 234, 3) := by decide +kernel
theorem dX11_hush_41 : decode cX11_hush 41 = .ok (.iload_n 3, 1) := by decide +kernel
theorem dX11_hush_42 : decode cX11_hush 42 = .ok (.if_icmp .ge 22, 3) := by decide +kernel
theorem dX11_hush_45 : decode cX11_hush 45 = .ok (.aload_n 0, 1) := by decide +kernel
theorem dX11_hush_46 : decode cX11_hush 46 = .ok (.iload_n 1, 1) := by decide +kernel
theorem dX11_hush_47 : decode cX11_hush 47 = .ok (.iload 5, 2) := by decide +kernel
theorem dX11_hush_49 : decode cX11_hush 49 = .ok (.invokevirtual 265, 3) := by decide +kernel
theorem dX11_hush_52 : decode cX11_hush 52 = .ok (.ifCond .eq 12, 3) := by decide +kernel
theorem dX11_hush_55 : decode cX11_hush 55 = .ok (.iload 5, 2) := by decide +kernel
theorem dX11_hush_57 : decode cX11_hush 57 = .ok (.istore_n 2, 1) := by decide +kernel
theorem dX11_hush_58 : decode cX11_hush 58 = .ok (.iload 5, 2) := by decide +kernel
theorem dX11_hush_60 : decode cX11_hush 60 = .ok (.invokestatic 234, 3) := by decide +kernel
theorem dX11_hush_63 : decode cX11_hush 63 = .ok (.istore_n 3, 1) := by decide +kernel
theorem dX11_hush_64 : decode cX11_hush 64 = .ok (.iinc 5 1, 3) := by decide +kernel
theorem dX11_hush_67 : decode cX11_hush 67 = .ok (.goto (-38), 3) := by decide +kernel
theorem dX11_hush_70 : decode cX11_hush 70 = .ok (.iload_n 2, 1) := by decide +kernel
theorem dX11_hush_71 : decode cX11_hush 71 = .ok (.ireturn, 1) := by decide +kernel
theorem dX11_see_0 : decode cX11_see 0 = .ok (.aload_n 0, 1) := by decide +kernel
theorem dX11_see_1 : decode cX11_see 1 = .ok (.iload_n 1, 1) := by decide +kernel
theorem dX11_see_2 : decode cX11_see 2 = .ok (.invokevirtual 117, 3) := by decide +kernel
theorem dX11_see_5 : decode cX11_see 5 = .ok (.ifCond .eq 19, 3) := by decide +kernel
theorem dX11_see_8 : decode cX11_see 8 = .ok (.aload_n 0, 1) := by decide +kernel
theorem dX11_see_9 : decode cX11_see 9 = .ok (.getfield 65, 3) := by decide +kernel
theorem dX11_see_12 : decode cX11_see 12 = .ok (.iload_n 1, 1) := by decide +kernel
theorem dX11_see_13 : decode cX11_see 13 = .ok (.iload_n 2, 1) := by decide +kernel
theorem dX11_see_14 : decode cX11_see 14 = .ok (.invokevirtual 269, 3) := by decide +kernel
theorem dX11_see_17 : decode cX11_see 17 = .ok (.ifCond .eq 7, 3) := by decide +kernel
theorem dX11_see_20 : decode cX11_see 20 = .ok (.iconst 1, 1) := by decide +kernel
theorem dX11_see_21 : decode cX11_see 21 = .ok (.goto 4, 3) := by decide +kernel
theorem dX11_see_24 : decode cX11_see 24 = .ok (.iconst 0, 1) := by decide +kernel
theorem dX11_see_25 : decode cX11_see 25 = .ok (.ireturn, 1) := by decide +kernel
theorem dX11_rains_0 : decode cX11_rains 0 = .ok (.iconst 0, 1) := by decide +kernel
theorem dX11_rains_1 : decode cX11_rains 1 = .ok (.istore_n 1, 1) := by decide +kernel
theorem dX11_rains_2 : decode cX11_rains 2 = .ok (.iconst 0, 1) := by decide +kernel
theorem dX11_rains_3 : decode cX11_rains 3 = .ok (.istore_n 2, 1) := by decide +kernel
theorem dX11_rains_4 : decode cX11_rains 4 = .ok (.iload_n 2, 1) := by decide +kernel
theorem dX11_rains_5 : decode cX11_rains 5 = .ok (.bipush 10, 2) := by decide +kernel
theorem dX11_rains_7 : decode cX11_rains 7 = .ok (.if_icmp .ge 30, 3) := by decide +kernel
theorem dX11_rains_10 : decode cX11_rains 10 = .ok (.aload_n 0, 1) := by decide +kernel
theorem dX11_rains_11 : decode cX11_rains 11 = .ok (.getfield 65, 3) := by decide +kernel
theorem dX11_rains_14 : decode cX11_rains 14 = .ok (.aload_n 0, 1) := by decide +kernel
theorem dX11_rains_15 : decode cX11_rains 15 = .ok (.iload_n 2, 1) := by decide +kernel
theorem dX11_rains_16 : decode cX11_rains 16 = .ok (.invokevirtual 273, 3) := by decide +kernel
theorem dX11_rains_19 : decode cX11_rains 19 = .ok (.invokevirtual 276, 3) := by decide +kernel
theorem dX11_rains_22 : decode cX11_rains 22 = .ok (.ifCond .eq 9, 3) := by decide +kernel
theorem dX11_rains_25 : decode cX11_rains 25 = .ok (.iload_n 1, 1) := by decide +kernel
theorem dX11_rains_26 : decode cX11_rains 26 = .ok (.iconst 1, 1) := by decide +kernel
theorem dX11_rains_27 : decode cX11_rains 27 = .ok (.iload_n 2, 1) := by decide +kernel
theorem dX11_rains_28 : decode cX11_rains 28 = .ok (.ishl, 1) := by decide +kernel
theorem dX11_rains_29 : decode cX11_rains 29 = .ok (.ior, 1) := by decide +kernel
theorem dX11_rains_30 : decode cX11_rains 30 = .ok (.istore_n 1, 1) := by decide +kernel
theorem dX11_rains_31 : decode cX11_rains 31 = .ok (.iinc 2 1, 3) := by decide +kernel
theorem dX11_rains_34 : decode cX11_rains 34 = .ok (.goto (-30), 3) := by decide +kernel
theorem dX11_rains_37 : decode cX11_rains 37 = .ok (.iload_n 1, 1) := by decide +kernel
theorem dX11_rains_38 : decode cX11_rains 38 = .ok (.ireturn, 1) := by decide +kernel
theorem dX11_look_0 : decode cX11_look 0 = .ok (.aload_n 0, 1) := by decide +kernel
theorem dX11_look_1 : decode cX11_look 1 = .ok (.invokevirtual 224, 3) := by decide +kernel
theorem dX11_look_4 : decode cX11_look 4 = .ok (.iconst 0, 1) := by decide +kernel
theorem dX11_look_5 : decode cX11_look 5 = .ok (.istore_n 1, 1) := by decide +kernel
theorem dX11_look_6 : decode cX11_look 6 = .ok (.iconst 0, 1) := by decide +kernel
theorem dX11_look_7 : decode cX11_look 7 = .ok (.istore_n 2, 1) := by decide +kernel
theorem dX11_look_8 : decode cX11_look 8 = .ok (.iload_n 2, 1) := by decide +kernel
theorem dX11_look_9 : decode cX11_look 9 = .ok (.bipush 10, 2) := by decide +kernel
theorem dX11_look_11 : decode cX11_look 11 = .ok (.if_icmp .ge 34, 3) := by decide +kernel
theorem dX11_look_14 : decode cX11_look 14 = .ok (.aload_n 0, 1) := by decide +kernel
theorem dX11_look_15 : decode cX11_look 15 = .ok (.iload_n 2, 1) := by decide +kernel
theorem dX11_look_16 : decode cX11_look 16 = .ok (.invokevirtual 273, 3) := by decide +kernel
theorem dX11_look_19 : decode cX11_look 19 = .ok (.istore_n 3, 1) := by decide +kernel
theorem dX11_look_20 : decode cX11_look 20 = .ok (.aload_n 0, 1) := by decide +kernel
theorem dX11_look_21 : decode cX11_look 21 = .ok (.getfield 65, 3) := by decide +kernel
theorem dX11_look_24 : decode cX11_look 24 = .ok (.iload_n 3, 1) := by decide +kernel
theorem dX11_look_25 : decode cX11_look 25 = .ok (.invokevirtual 276, 3) := by decide +kernel
theorem dX11_look_28 : decode cX11_look 28 = .ok (.ifCond .eq 11, 3) := by decide +kernel
theorem dX11_look_31 : decode cX11_look 31 = .ok (.iinc 1 1, 3) := by decide +kernel
theorem dX11_look_34 : decode cX11_look 34 = .ok (.aload_n 0, 1) := by decide +kernel
theorem dX11_look_35 : decode cX11_look 35 = .ok (.iload_n 3, 1) := by decide +kernel
theorem dX11_look_36 : decode cX11_look 36 = .ok (.invokevirtual 279, 3) := by decide +kernel
theorem dX11_look_39 : decode cX11_look 39 = .ok (.iinc 2 1, 3) := by decide +kernel
theorem dX11_look_42 : decode cX11_look 42 = .ok (.goto (-34), 3) := by decide +kernel
theorem dX11_look_45 : decode cX11_look 45 = .ok (.iconst (-1), 1) := by decide +kernel
theorem dX11_look_46 : decode cX11_look 46 = .ok (.istore_n 2, 1) := by decide +kernel
theorem dX11_look_47 : decode cX11_look 47 = .ok (.iload_n 1, 1) := by decide +kernel
theorem dX11_look_48 : decode cX11_look 48 = .ok (.istore_n 3, 1) := by decide +kernel
theorem dX11_look_49 : decode cX11_look 49 = .ok (.iconst 0, 1) := by decide +kernel
theorem dX11_look_50 : decode cX11_look 50 = .ok (.istore 4, 2) := by decide +kernel
theorem dX11_look_52 : decode cX11_look 52 = .ok (.iload 4, 2) := by decide +kernel
theorem dX11_look_54 : decode cX11_look 54 = .ok (.aload_n 0, 1) := by decide +kernel
theorem dX11_look_55 : decode cX11_look 55 = .ok (.getfield 35, 3) := by decide +kernel
theorem dX11_look_58 : decode cX11_look 58 = .ok (.getfield 212, 3) := by decide +kernel
theorem dX11_look_61 : decode cX11_look 61 = .ok (.if_icmp .ge 42, 3) := by decide +kernel
theorem dX11_look_64 : decode cX11_look 64 = .ok (.aload_n 0, 1) := by decide +kernel
theorem dX11_look_65 : decode cX11_look 65 = .ok (.getfield 90, 3) := by decide +kernel
theorem dX11_look_68 : decode cX11_look 68 = .ok (.iload 4, 2) := by decide +kernel
theorem dX11_look_70 : decode cX11_look 70 = .ok (.iaload, 1) := by decide +kernel
theorem dX11_look_71 : decode cX11_look 71 = .ok (.iload_n 1, 1) := by decide +kernel
theorem dX11_look_72 : decode cX11_look 72 = .ok (.aload_n 0, 1) := by decide +kernel
theorem dX11_look_73 : decode cX11_look 73 = .ok (.getfield 90, 3) := by decide +kernel
theorem dX11_look_76 : decode cX11_look 76 = .ok (.iload 4, 2) := by decide +kernel
theorem dX11_look_78 : decode cX11_look 78 = .ok (.iaload, 1) := by decide +kernel
theorem dX11_look_79 : decode cX11_look 79 = .ok (.isub, 1) := by decide +kernel
theorem dX11_look_80 : decode cX11_look 80 = .ok (.invokestatic 242, 3) := by decide +kernel
theorem dX11_look_83 : decode cX11_look 83 = .ok (.istore 5, 2) := by decide +kernel
theorem dX11_look_85 : decode cX11_look 85 = .ok (.iload 5, 2) := by decide +kernel
theorem dX11_look_87 : decode cX11_look 87 = .ok (.iload_n 3, 1) := by decide +kernel
theorem dX11_look_88 : decode cX11_look 88 = .ok (.if_icmp .ge 9, 3) := by decide +kernel
theorem dX11_look_91 : decode cX11_look 91 = .ok (.iload 4, 2) := by decide +kernel
theorem dX11_look_93 : decode cX11_look 93 = .ok (.istore_n 2, 1) := by decide +kernel
theorem dX11_look_94 : decode cX11_look 94 = .ok (.iload 5, 2) := by decide +kernel
theorem dX11_look_96 : decode cX11_look 96 = .ok (.istore_n 3, 1) := by decide +kernel
theorem dX11_look_97 : decode cX11_look 97 = .ok (.iinc 4 1, 3) := by decide +kernel
theorem dX11_look_100 : decode cX11_look 100 = .ok (.goto (-48), 3) := by decide +kernel
theorem dX11_look_103 : decode cX11_look 103 = .ok (.iload_n 2, 1) := by decide +kernel
theorem dX11_look_104 : decode cX11_look 104 = .ok (.ireturn, 1) := by decide +kernel
theorem dX11_chance_0 : decode cX11_chance 0 = .ok (.iload_n 2, 1) := by decide +kernel
theorem dX11_chance_1 : decode cX11_chance 1 = .ok (.iconst 1, 1) := by decide +kernel
theorem dX11_chance_2 : decode cX11_chance 2 = .ok (.if_icmp .lt 13, 3) := by decide +kernel
theorem dX11_chance_5 : decode cX11_chance 5 = .ok (.iload_n 2, 1) := by decide +kernel
theorem dX11_chance_6 : decode cX11_chance 6 = .ok (.bipush 6, 2) := by decide +kernel
theorem dX11_chance_8 : decode cX11_chance 8 = .ok (.if_icmp .gt 7, 3) := by decide +kernel
theorem dX11_chance_11 : decode cX11_chance 11 = .ok (.iconst 1, 1) := by decide +kernel
theorem dX11_chance_12 : decode cX11_chance 12 = .ok (.goto 4, 3) := by decide +kernel
theorem dX11_chance_15 : decode cX11_chance 15 = .ok (.iconst 0, 1) := by decide +kernel
theorem dX11_chance_16 : decode cX11_chance 16 = .ok (.istore 4, 2) := by decide +kernel
theorem dX11_chance_18 : decode cX11_chance 18 = .ok (.aload_n 0, 1) := by decide +kernel
theorem dX11_chance_19 : decode cX11_chance 19 = .ok (.iload_n 1, 1) := by decide +kernel
theorem dX11_chance_20 : decode cX11_chance 20 = .ok (.invokevirtual 145, 3) := by decide +kernel
theorem dX11_chance_23 : decode cX11_chance 23 = .ok (.ifCond .eq 18, 3) := by decide +kernel
theorem dX11_chance_26 : decode cX11_chance 26 = .ok (.iload 4, 2) := by decide +kernel
theorem dX11_chance_28 : decode cX11_chance 28 = .ok (.ifCond .eq 13, 3) := by decide +kernel
theorem dX11_chance_31 : decode cX11_chance 31 = .ok (.iload_n 3, 1) := by decide +kernel
theorem dX11_chance_32 : decode cX11_chance 32 = .ok (.ifCond .lt 9, 3) := by decide +kernel
theorem dX11_chance_35 : decode cX11_chance 35 = .ok (.iload_n 3, 1) := by decide +kernel
theorem dX11_chance_36 : decode cX11_chance 36 = .ok (.bipush 10, 2) := by decide +kernel
theorem dX11_chance_38 : decode cX11_chance 38 = .ok (.if_icmp .le 5, 3) := by decide +kernel
theorem dX11_chance_41 : decode cX11_chance 41 = .ok (.iconst (-1), 1) := by decide +kernel
theorem dX11_chance_42 : decode cX11_chance 42 = .ok (.ireturn, 1) := by decide +kernel
theorem dX11_chance_43 : decode cX11_chance 43 = .ok (.iconst 0, 1) := by decide +kernel
theorem dX11_chance_44 : decode cX11_chance 44 = .ok (.istore 5, 2) := by decide +kernel
theorem dX11_chance_46 : decode cX11_chance 46 = .ok (.iconst 1, 1) := by decide +kernel
theorem dX11_chance_47 : decode cX11_chance 47 = .ok (.iload_n 2, 1) := by decide +kernel
theorem dX11_chance_48 : decode cX11_chance 48 = .ok (.ishl, 1) := by decide +kernel
theorem dX11_chance_49 : decode cX11_chance 49 = .ok (.istore 6, 2) := by decide +kernel
theorem dX11_chance_51 : decode cX11_chance 51 = .ok (.iconst 0, 1) := by decide +kernel
theorem dX11_chance_52 : decode cX11_chance 52 = .ok (.istore 7, 2) := by decide +kernel
theorem dX11_chance_54 : decode cX11_chance 54 = .ok (.iload 7, 2) := by decide +kernel
theorem dX11_chance_56 : decode cX11_chance 56 = .ok (.iload 6, 2) := by decide +kernel
theorem dX11_chance_58 : decode cX11_chance 58 = .ok (.if_icmp .ge 41, 3) := by decide +kernel
theorem dX11_chance_61 : decode cX11_chance 61 = .ok (.iload 7, 2) := by decide +kernel
theorem dX11_chance_63 : decode cX11_chance 63 = .ok (.iload_n 2, 1) := by decide +kernel
theorem dX11_chance_64 : decode cX11_chance 64 = .ok (.iload_n 3, 1) := by decide +kernel
theorem dX11_chance_65 : decode cX11_chance 65 = .ok (.invokestatic 283, 3) := by decide +kernel
theorem dX11_chance_68 : decode cX11_chance 68 = .ok (.istore 8, 2) := by decide +kernel
theorem dX11_chance_70 : decode cX11_chance 70 = .ok (.iload 8, 2) := by decide +kernel
theorem dX11_chance_72 : decode cX11_chance 72 = .ok (.ifCond .le 21, 3) := by decide +kernel
theorem dX11_chance_75 : decode cX11_chance 75 = .ok (.aload_n 0, 1) := by decide +kernel
theorem dX11_chance_76 : decode cX11_chance 76 = .ok (.iload_n 1, 1) := by decide +kernel
theorem dX11_chance_77 : decode cX11_chance 77 = .ok (.iload 7, 2) := by decide +kernel
theorem dX11_chance_79 : decode cX11_chance 79 = .ok (.iload_n 2, 1) := by decide +kernel
theorem dX11_chance_80 : decode cX11_chance 80 = .ok (.invokevirtual 287, 3) := by decide +kernel
theorem dX11_chance_83 : decode cX11_chance 83 = .ok (.ifCond .eq 10, 3) := by decide +kernel
theorem dX11_chance_86 : decode cX11_chance 86 = .ok (.iload 5, 2) := by decide +kernel
theorem dX11_chance_88 : decode cX11_chance 88 = .ok (.iload 8, 2) := by decide +kernel
theorem dX11_chance_90 : decode cX11_chance 90 = .ok (.iadd, 1) := by decide +kernel
theorem dX11_chance_91 : decode cX11_chance 91 = .ok (.istore 5, 2) := by decide +kernel
theorem dX11_chance_93 : decode cX11_chance 93 = .ok (.iinc 7 1, 3) := by decide +kernel
theorem dX11_chance_96 : decode cX11_chance 96 = .ok (.goto (-42), 3) := by decide +kernel
theorem dX11_chance_99 : decode cX11_chance 99 = .ok (.iload_n 2, 1) := by decide +kernel
theorem dX11_chance_100 : decode cX11_chance 100 = .ok (.istore 7, 2) := by decide +kernel
theorem dX11_chance_102 : decode cX11_chance 102 = .ok (.iload 7, 2) := by decide +kernel
theorem dX11_chance_104 : decode cX11_chance 104 = .ok (.bipush 6, 2) := by decide +kernel
theorem dX11_chance_106 : decode cX11_chance 106 = .ok (.if_icmp .ge 16, 3) := by decide +kernel
theorem dX11_chance_109 : decode cX11_chance 109 = .ok (.iload 5, 2) := by decide +kernel
theorem dX11_chance_111 : decode cX11_chance 111 = .ok (.bipush 10, 2) := by decide +kernel
theorem dX11_chance_113 : decode cX11_chance 113 = .ok (.imul, 1) := by decide +kernel
theorem dX11_chance_114 : decode cX11_chance 114 = .ok (.istore 5, 2) := by decide +kernel
theorem dX11_chance_116 : decode cX11_chance 116 = .ok (.iinc 7 1, 3) := by decide +kernel
theorem dX11_chance_119 : decode cX11_chance 119 = .ok (.goto (-17), 3) := by decide +kernel
theorem dX11_chance_122 : decode cX11_chance 122 = .ok (.iload 5, 2) := by decide +kernel
theorem dX11_chance_124 : decode cX11_chance 124 = .ok (.ireturn, 1) := by decide +kernel
theorem dX11_rests_0 : decode cX11_rests 0 = .ok (.iload_n 1, 1) := by decide +kernel
theorem dX11_rests_1 : decode cX11_rests 1 = .ok (.invokestatic 290, 3) := by decide +kernel
theorem dX11_rests_4 : decode cX11_rests 4 = .ok (.ifCond .eq 23, 3) := by decide +kernel
theorem dX11_rests_7 : decode cX11_rests 7 = .ok (.iload_n 2, 1) := by decide +kernel
theorem dX11_rests_8 : decode cX11_rests 8 = .ok (.invokestatic 290, 3) := by decide +kernel
theorem dX11_rests_11 : decode cX11_rests 11 = .ok (.ifCond .eq 16, 3) := by decide +kernel
theorem dX11_rests_14 : decode cX11_rests 14 = .ok (.iload_n 3, 1) := by decide +kernel
theorem dX11_rests_15 : decode cX11_rests 15 = .ok (.invokestatic 290, 3) := by decide +kernel
theorem dX11_rests_18 : decode cX11_rests 18 = .ok (.ifCond .eq 9, 3) := by decide +kernel
theorem dX11_rests_21 : decode cX11_rests 21 = .ok (.iload 4, 2) := by decide +kernel
theorem dX11_rests_23 : decode cX11_rests 23 = .ok (.iconst (-1), 1) := by decide +kernel
theorem dX11_rests_24 : decode cX11_rests 24 = .ok (.if_icmp .ge 11, 3) := by decide +kernel
theorem dX11_rests_27 : decode cX11_rests 27 = .ok (.new 293, 3) := by decide +kernel
theorem dX11_rests_30 : decode cX11_rests 30 = .ok (.dup, 1) := by decide +kernel
theorem dX11_rests_31 : decode cX11_rests 31 = .ok (.invokespecial 295, 3) := by decide +kernel
theorem dX11_rests_34 : decode cX11_rests 34 = .ok (.athrow, 1) := by decide +kernel
theorem dX11_rests_35 : decode cX11_rests 35 = .ok (.iconst 0, 1) := by decide +kernel
theorem dX11_rests_36 : decode cX11_rests 36 = .ok (.istore 5, 2) := by decide +kernel
theorem dX11_rests_38 : decode cX11_rests 38 = .ok (.iconst 0, 1) := by decide +kernel
theorem dX11_rests_39 : decode cX11_rests 39 = .ok (.istore 6, 2) := by decide +kernel
theorem dX11_rests_41 : decode cX11_rests 41 = .ok (.iload 6, 2) := by decide +kernel
theorem dX11_rests_43 : decode cX11_rests 43 = .ok (.iconst 4, 1) := by decide +kernel
theorem dX11_rests_44 : decode cX11_rests 44 = .ok (.if_icmp .ge 33, 3) := by decide +kernel
theorem dX11_rests_47 : decode cX11_rests 47 = .ok (.iload_n 1, 1) := by decide +kernel
theorem dX11_rests_48 : decode cX11_rests 48 = .ok (.iload_n 2, 1) := by decide +kernel
theorem dX11_rests_49 : decode cX11_rests 49 = .ok (.iload_n 3, 1) := by decide +kernel
theorem dX11_rests_50 : decode cX11_rests 50 = .ok (.iload 6, 2) := by decide +kernel
theorem dX11_rests_52 : decode cX11_rests 52 = .ok (.invokestatic 296, 3) := by decide +kernel
theorem dX11_rests_55 : decode cX11_rests 55 = .ok (.ifCond .eq 16, 3) := by decide +kernel
theorem dX11_rests_58 : decode cX11_rests 58 = .ok (.iload 5, 2) := by decide +kernel
theorem dX11_rests_60 : decode cX11_rests 60 = .ok (.iload 4, 2) := by decide +kernel
theorem dX11_rests_62 : decode cX11_rests 62 = .ok (.if_icmp .ne 6, 3) := by decide +kernel
theorem dX11_rests_65 : decode cX11_rests 65 = .ok (.iload 6, 2) := by decide +kernel
theorem dX11_rests_67 : decode cX11_rests 67 = .ok (.ireturn, 1) := by decide +kernel
theorem dX11_rests_68 : decode cX11_rests 68 = .ok (.iinc 5 1, 3) := by decide +kernel
theorem dX11_rests_71 : decode cX11_rests 71 = .ok (.iinc 6 1, 3) := by decide +kernel
theorem dX11_rests_74 : decode cX11_rests 74 = .ok (.goto (-33), 3) := by decide +kernel
theorem dX11_rests_77 : decode cX11_rests 77 = .ok (.iload 4, 2) := by decide +kernel
theorem dX11_rests_79 : decode cX11_rests 79 = .ok (.iconst (-1), 1) := by decide +kernel
theorem dX11_rests_80 : decode cX11_rests 80 = .ok (.if_icmp .eq 11, 3) := by decide +kernel
theorem dX11_rests_83 : decode cX11_rests 83 = .ok (.new 293, 3) := by decide +kernel
theorem dX11_rests_86 : decode cX11_rests 86 = .ok (.dup, 1) := by decide +kernel
theorem dX11_rests_87 : decode cX11_rests 87 = .ok (.invokespecial 295, 3) := by decide +kernel
theorem dX11_rests_90 : decode cX11_rests 90 = .ok (.athrow, 1) := by decide +kernel
theorem dX11_rests_91 : decode cX11_rests 91 = .ok (.iload 5, 2) := by decide +kernel
theorem dX11_rests_93 : decode cX11_rests 93 = .ok (.ireturn, 1) := by decide +kernel
theorem dX11_days_0 : decode cX11_days 0 = .ok (.iload_n 1, 1) := by decide +kernel
theorem dX11_days_1 : decode cX11_days 1 = .ok (.ifCond .lt 14, 3) := by decide +kernel
theorem dX11_days_4 : decode cX11_days 4 = .ok (.iload_n 1, 1) := by decide +kernel
theorem dX11_days_5 : decode cX11_days 5 = .ok (.sipush 9999, 3) := by decide +kernel
theorem dX11_days_8 : decode cX11_days 8 = .ok (.if_icmp .gt 7, 3) := by decide +kernel
theorem dX11_days_11 : decode cX11_days 11 = .ok (.iconst 1, 1) := by decide +kernel
theorem dX11_days_12 : decode cX11_days 12 = .ok (.goto 4, 3) := by decide +kernel
theorem dX11_days_15 : decode cX11_days 15 = .ok (.iconst 0, 1) := by decide +kernel
theorem dX11_days_16 : decode cX11_days 16 = .ok (.istore 4, 2) := by decide +kernel
theorem dX11_days_18 : decode cX11_days 18 = .ok (.iload 4, 2) := by decide +kernel
theorem dX11_days_20 : decode cX11_days 20 = .ok (.ifCond .eq 23, 3) := by decide +kernel
theorem dX11_days_23 : decode cX11_days 23 = .ok (.iload_n 2, 1) := by decide +kernel
theorem dX11_days_24 : decode cX11_days 24 = .ok (.iconst 1, 1) := by decide +kernel
theorem dX11_days_25 : decode cX11_days 25 = .ok (.if_icmp .lt 18, 3) := by decide +kernel
theorem dX11_days_28 : decode cX11_days 28 = .ok (.iload_n 2, 1) := by decide +kernel
theorem dX11_days_29 : decode cX11_days 29 = .ok (.bipush 99, 2) := by decide +kernel
theorem dX11_days_31 : decode cX11_days 31 = .ok (.if_icmp .gt 12, 3) := by decide +kernel
theorem dX11_days_34 : decode cX11_days 34 = .ok (.iload_n 3, 1) := by decide +kernel
theorem dX11_days_35 : decode cX11_days 35 = .ok (.ifCond .lt 8, 3) := by decide +kernel
theorem dX11_days_38 : decode cX11_days 38 = .ok (.iload_n 3, 1) := by decide +kernel
theorem dX11_days_39 : decode cX11_days 39 = .ok (.iconst 2, 1) := by decide +kernel
theorem dX11_days_40 : decode cX11_days 40 = .ok (.if_icmp .le 5, 3) := by decide +kernel
theorem dX11_days_43 : decode cX11_days 43 = .ok (.iconst (-1), 1) := by decide +kernel
theorem dX11_days_44 : decode cX11_days 44 = .ok (.ireturn, 1) := by decide +kernel
theorem dX11_days_45 : decode cX11_days 45 = .ok (.iconst 0, 1) := by decide +kernel
theorem dX11_days_46 : decode cX11_days 46 = .ok (.istore 5, 2) := by decide +kernel
theorem dX11_days_48 : decode cX11_days 48 = .ok (.iconst 0, 1) := by decide +kernel
theorem dX11_days_49 : decode cX11_days 49 = .ok (.istore 6, 2) := by decide +kernel
theorem dX11_days_51 : decode cX11_days 51 = .ok (.aload_n 0, 1) := by decide +kernel
theorem dX11_days_52 : decode cX11_days 52 = .ok (.iload_n 1, 1) := by decide +kernel
theorem dX11_days_53 : decode cX11_days 53 = .ok (.i2l, 1) := by decide +kernel
theorem dX11_days_54 : decode cX11_days 54 = .ok (.putfield 300, 3) := by decide +kernel
theorem dX11_days_57 : decode cX11_days 57 = .ok (.aload_n 0, 1) := by decide +kernel
theorem dX11_days_58 : decode cX11_days 58 = .ok (.getfield 76, 3) := by decide +kernel
theorem dX11_days_61 : decode cX11_days 61 = .ok (.aload_n 0, 1) := by decide +kernel
theorem dX11_days_62 : decode cX11_days 62 = .ok (.getfield 72, 3) := by decide +kernel
theorem dX11_days_65 : decode cX11_days 65 = .ok (.invokevirtual 187, 3) := by decide +kernel
theorem dX11_days_68 : decode cX11_days 68 = .ok (.iconst 0, 1) := by decide +kernel
theorem dX11_days_69 : decode cX11_days 69 = .ok (.istore 7, 2) := by decide +kernel
theorem dX11_days_71 : decode cX11_days 71 = .ok (.iload 7, 2) := by decide +kernel
theorem dX11_days_73 : decode cX11_days 73 = .ok (.iload_n 2, 1) := by decide +kernel
theorem dX11_days_74 : decode cX11_days 74 = .ok (.if_icmp .ge 41, 3) := by decide +kernel
theorem dX11_days_77 : decode cX11_days 77 = .ok (.aload_n 0, 1) := by decide +kernel
theorem dX11_days_78 : decode cX11_days 78 = .ok (.invokevirtual 304, 3) := by decide +kernel
theorem dX11_days_81 : decode cX11_days 81 = .ok (.aload_n 0, 1) := by decide +kernel
theorem dX11_days_82 : decode cX11_days 82 = .ok (.invokevirtual 202, 3) := by decide +kernel
theorem dX11_days_85 : decode cX11_days 85 = .ok (.istore 8, 2) := by decide +kernel
theorem dX11_days_87 : decode cX11_days 87 = .ok (.iload 8, 2) := by decide +kernel
theorem dX11_days_89 : decode cX11_days 89 = .ok (.bipush 6, 2) := by decide +kernel
theorem dX11_days_91 : decode cX11_days 91 = .ok (.if_icmp .ne 9, 3) := by decide +kernel
theorem dX11_days_94 : decode cX11_days 94 = .ok (.iinc 6 1, 3) := by decide +kernel
theorem dX11_days_97 : decode cX11_days 97 = .ok (.goto 12, 3) := by decide +kernel
theorem dX11_days_100 : decode cX11_days 100 = .ok (.iload 8, 2) := by decide +kernel
theorem dX11_days_102 : decode cX11_days 102 = .ok (.iconst (-1), 1) := by decide +kernel
theorem dX11_days_103 : decode cX11_days 103 = .ok (.if_icmp .eq 6, 3) := by decide +kernel
theorem dX11_days_106 : decode cX11_days 106 = .ok (.iinc 5 1, 3) := by decide +kernel
theorem dX11_days_109 : decode cX11_days 109 = .ok (.iinc 7 1, 3) := by decide +kernel
theorem dX11_days_112 : decode cX11_days 112 = .ok (.goto (-41), 3) := by decide +kernel
theorem dX11_days_115 : decode cX11_days 115 = .ok (.iload_n 3, 1) := by decide +kernel
theorem dX11_days_116 : decode cX11_days 116 = .ok (.iconst 2, 1) := by decide +kernel
theorem dX11_days_117 : decode cX11_days 117 = .ok (.if_icmp .ne 18, 3) := by decide +kernel
theorem dX11_days_120 : decode cX11_days 120 = .ok (.aload_n 0, 1) := by decide +kernel
theorem dX11_days_121 : decode cX11_days 121 = .ok (.getfield 76, 3) := by decide +kernel
theorem dX11_days_124 : decode cX11_days 124 = .ok (.aload_n 0, 1) := by decide +kernel
theorem dX11_days_125 : decode cX11_days 125 = .ok (.getfield 35, 3) := by decide +kernel
theorem dX11_days_128 : decode cX11_days 128 = .ok (.getfield 212, 3) := by decide +kernel
theorem dX11_days_131 : decode cX11_days 131 = .ok (.invokevirtual 215, 3) := by decide +kernel
theorem dX11_days_134 : decode cX11_days 134 = .ok (.ireturn, 1) := by decide +kernel
theorem dX11_days_135 : decode cX11_days 135 = .ok (.iload_n 3, 1) := by decide +kernel
theorem dX11_days_136 : decode cX11_days 136 = .ok (.ifCond .ne 8, 3) := by decide +kernel
theorem dX11_days_139 : decode cX11_days 139 = .ok (.iload 5, 2) := by decide +kernel
theorem dX11_days_141 : decode cX11_days 141 = .ok (.goto 5, 3) := by decide +kernel
theorem dX11_days_144 : decode cX11_days 144 = .ok (.iload 6, 2) := by decide +kernel
theorem dX11_days_146 : decode cX11_days 146 = .ok (.ireturn, 1) := by decide +kernel
theorem dX11_mark_0 : decode cX11_mark 0 = .ok (.iload_n 1, 1) := by decide +kernel
theorem dX11_mark_1 : decode cX11_mark 1 = .ok (.ifCond .lt 8, 3) := by decide +kernel
theorem dX11_mark_4 : decode cX11_mark 4 = .ok (.iload_n 1, 1) := by decide +kernel
theorem dX11_mark_5 : decode cX11_mark 5 = .ok (.iconst 4, 1) := by decide +kernel
theorem dX11_mark_6 : decode cX11_mark 6 = .ok (.if_icmp .lt 5, 3) := by decide +kernel
theorem dX11_mark_9 : decode cX11_mark 9 = .ok (.iconst 0, 1) := by decide +kernel
theorem dX11_mark_10 : decode cX11_mark 10 = .ok (.ireturn, 1) := by decide +kernel
theorem dX11_mark_11 : decode cX11_mark 11 = .ok (.aload_n 0, 1) := by decide +kernel
theorem dX11_mark_12 : decode cX11_mark 12 = .ok (.getfield 85, 3) := by decide +kernel
theorem dX11_mark_15 : decode cX11_mark 15 = .ok (.iload_n 1, 1) := by decide +kernel
theorem dX11_mark_16 : decode cX11_mark 16 = .ok (.aaload, 1) := by decide +kernel
theorem dX11_mark_17 : decode cX11_mark 17 = .ok (.astore_n 3, 1) := by decide +kernel
theorem dX11_mark_18 : decode cX11_mark 18 = .ok (.iload_n 2, 1) := by decide +kernel
theorem dX11_mark_19 : decode cX11_mark 19 = .ok (.ifCond .ne 54, 3) := by decide +kernel
theorem dX11_mark_22 : decode cX11_mark 22 = .ok (.aload_n 3, 1) := by decide +kernel
theorem dX11_mark_23 : decode cX11_mark 23 = .ok (.iconst 1, 1) := by decide +kernel
theorem dX11_mark_24 : decode cX11_mark 24 = .ok (.putfield 307, 3) := by decide +kernel
theorem dX11_mark_27 : decode cX11_mark 27 = .ok (.aload_n 3, 1) := by decide +kernel
theorem dX11_mark_28 : decode cX11_mark 28 = .ok (.getfield 311, 3) := by decide +kernel
theorem dX11_mark_31 : decode cX11_mark 31 = .ok (.aload_n 0, 1) := by decide +kernel
theorem dX11_mark_32 : decode cX11_mark 32 = .ok (.getfield 72, 3) := by decide +kernel
theorem dX11_mark_35 : decode cX11_mark 35 = .ok (.invokevirtual 187, 3) := by decide +kernel
theorem dX11_mark_38 : decode cX11_mark 38 = .ok (.aload_n 3, 1) := by decide +kernel
theorem dX11_mark_39 : decode cX11_mark 39 = .ok (.getfield 314, 3) := by decide +kernel
theorem dX11_mark_42 : decode cX11_mark 42 = .ok (.aload_n 0, 1) := by decide +kernel
theorem dX11_mark_43 : decode cX11_mark 43 = .ok (.getfield 45, 3) := by decide +kernel
theorem dX11_mark_46 : decode cX11_mark 46 = .ok (.invokevirtual 317, 3) := by decide +kernel
theorem dX11_mark_49 : decode cX11_mark 49 = .ok (.aload_n 3, 1) := by decide +kernel
theorem dX11_mark_50 : decode cX11_mark 50 = .ok (.getfield 320, 3) := by decide +kernel
theorem dX11_mark_53 : decode cX11_mark 53 = .ok (.aload_n 0, 1) := by decide +kernel
theorem dX11_mark_54 : decode cX11_mark 54 = .ok (.getfield 55, 3) := by decide +kernel
theorem dX11_mark_57 : decode cX11_mark 57 = .ok (.invokevirtual 323, 3) := by decide +kernel
theorem dX11_mark_60 : decode cX11_mark 60 = .ok (.aload_n 3, 1) := by decide +kernel
theorem dX11_mark_61 : decode cX11_mark 61 = .ok (.getfield 326, 3) := by decide +kernel
theorem dX11_mark_64 : decode cX11_mark 64 = .ok (.aload_n 0, 1) := by decide +kernel
theorem dX11_mark_65 : decode cX11_mark 65 = .ok (.getfield 65, 3) := by decide +kernel
theorem dX11_mark_68 : decode cX11_mark 68 = .ok (.invokevirtual 327, 3) := by decide +kernel
theorem dX11_mark_71 : decode cX11_mark 71 = .ok (.iconst 1, 1) := by decide +kernel
theorem dX11_mark_72 : decode cX11_mark 72 = .ok (.ireturn, 1) := by decide +kernel
theorem dX11_mark_73 : decode cX11_mark 73 = .ok (.aload_n 3, 1) := by decide +kernel
theorem dX11_mark_74 : decode cX11_mark 74 = .ok (.getfield 307, 3) := by decide +kernel
theorem dX11_mark_77 : decode cX11_mark 77 = .ok (.ifCond .ne 5, 3) := by decide +kernel
theorem dX11_mark_80 : decode cX11_mark 80 = .ok (.iconst 0, 1) := by decide +kernel
theorem dX11_mark_81 : decode cX11_mark 81 = .ok (.ireturn, 1) := by decide +kernel
theorem dX11_mark_82 : decode cX11_mark 82 = .ok (.aload_n 0, 1) := by decide +kernel
theorem dX11_mark_83 : decode cX11_mark 83 = .ok (.getfield 72, 3) := by decide +kernel
theorem dX11_mark_86 : decode cX11_mark 86 = .ok (.aload_n 3, 1) := by decide +kernel
theorem dX11_mark_87 : decode cX11_mark 87 = .ok (.getfield 311, 3) := by decide +kernel
theorem dX11_mark_90 : decode cX11_mark 90 = .ok (.invokevirtual 187, 3) := by decide +kernel
theorem dX11_mark_93 : decode cX11_mark 93 = .ok (.aload_n 0, 1) := by decide +kernel
theorem dX11_mark_94 : decode cX11_mark 94 = .ok (.getfield 45, 3) := by decide +kernel
theorem dX11_mark_97 : decode cX11_mark 97 = .ok (.aload_n 3, 1) := by decide +kernel
theorem dX11_mark_98 : decode cX11_mark 98 = .ok (.getfield 314, 3) := by decide +kernel
theorem dX11_mark_101 : decode cX11_mark 101 = .ok (.invokevirtual 317, 3) := by decide +kernel
theorem dX11_mark_104 : decode cX11_mark 104 = .ok (.aload_n 0, 1) := by decide +kernel
theorem dX11_mark_105 : decode cX11_mark 105 = .ok (.getfield 55, 3) := by decide +kernel
theorem dX11_mark_108 : decode cX11_mark 108 = .ok (.aload_n 3, 1) := by decide +kernel
theorem dX11_mark_109 : decode cX11_mark 109 = .ok (.getfield 320, 3) := by decide +kernel
theorem dX11_mark_112 : decode cX11_mark 112 = .ok (.invokevirtual 323, 3) := by decide +kernel
theorem dX11_mark_115 : decode cX11_mark 115 = .ok (.aload_n 0, 1) := by decide +kernel
theorem dX11_mark_116 : decode cX11_mark 116 = .ok (.getfield 65, 3) := by decide +kernel
theorem dX11_mark_119 : decode cX11_mark 119 = .ok (.aload_n 3, 1) := by decide +kernel
theorem dX11_mark_120 : decode cX11_mark 120 = .ok (.getfield 326, 3) := by decide +kernel
theorem dX11_mark_123 : decode cX11_mark 123 = .ok (.invokevirtual 327, 3) := by decide +kernel
theorem dX11_mark_126 : decode cX11_mark 126 = .ok (.aload_n 0, 1) := by decide +kernel
theorem dX11_mark_127 : decode cX11_mark 127 = .ok (.iconst 0, 1) := by decide +kernel
theorem dX11_mark_128 : decode cX11_mark 128 = .ok (.putfield 181, 3) := by decide +kernel
theorem dX11_mark_131 : decode cX11_mark 131 = .ok (.iconst 1, 1) := by decide +kernel
theorem dX11_mark_132 : decode cX11_mark 132 = .ok (.ireturn, 1) := by decide +kernel
theorem dX11_count_0 : decode cX11_count 0 = .ok (.iload_n 1, 1) := by decide +kernel
theorem dX11_count_1 : decode cX11_count 1 = .ok (.tableswitch 184 0 12 #[67, 75, 83, 91, 106, 121, 129, 137, 147, 155, 163, 171, 176], 67) := by decide +kernel
theorem dX11_count_68 : decode cX11_count 68 = .ok (.aload_n 0, 1) := by decide +kernel
theorem dX11_count_69 : decode cX11_count 69 = .ok (.getfield 35, 3) := by decide +kernel
theorem dX11_count_72 : decode cX11_count 72 = .ok (.getfield 212, 3) := by decide +kernel
theorem dX11_count_75 : decode cX11_count 75 = .ok (.ireturn, 1) := by decide +kernel
theorem dX11_count_76 : decode cX11_count 76 = .ok (.aload_n 0, 1) := by decide +kernel
theorem dX11_count_77 : decode cX11_count 77 = .ok (.getfield 35, 3) := by decide +kernel
theorem dX11_count_80 : decode cX11_count 80 = .ok (.getfield 250, 3) := by decide +kernel
theorem dX11_count_83 : decode cX11_count 83 = .ok (.ireturn, 1) := by decide +kernel
theorem dX11_count_84 : decode cX11_count 84 = .ok (.aload_n 0, 1) := by decide +kernel
theorem dX11_count_85 : decode cX11_count 85 = .ok (.getfield 72, 3) := by decide +kernel
theorem dX11_count_88 : decode cX11_count 88 = .ok (.getfield 160, 3) := by decide +kernel
theorem dX11_count_91 : decode cX11_count 91 = .ok (.ireturn, 1) := by decide +kernel
theorem dX11_count_92 : decode cX11_count 92 = .ok (.aload_n 0, 1) := by decide +kernel
theorem dX11_count_93 : decode cX11_count 93 = .ok (.getfield 35, 3) := by decide +kernel
theorem dX11_count_96 : decode cX11_count 96 = .ok (.aload_n 0, 1) := by decide +kernel
theorem dX11_count_97 : decode cX11_count 97 = .ok (.getfield 72, 3) := by decide +kernel
theorem dX11_count_100 : decode cX11_count 100 = .ok (.getfield 160, 3) := by decide +kernel
theorem dX11_count_103 : decode cX11_count 103 = .ok (.invokevirtual 163, 3) := by decide +kernel
theorem dX11_count_106 : decode cX11_count 106 = .ok (.ireturn, 1) := by decide +kernel
theorem dX11_count_107 : decode cX11_count 107 = .ok (.aload_n 0, 1) := by decide +kernel
theorem dX11_count_108 : decode cX11_count 108 = .ok (.getfield 72, 3) := by decide +kernel
theorem dX11_count_111 : decode cX11_count 111 = .ok (.aload_n 0, 1) := by decide +kernel
theorem dX11_count_112 : decode cX11_count 112 = .ok (.getfield 35, 3) := by decide +kernel
theorem dX11_count_115 : decode cX11_count 115 = .ok (.getfield 212, 3) := by decide +kernel
theorem dX11_count_118 : decode cX11_count 118 = .ok (.invokevirtual 215, 3) := by decide +kernel
theorem dX11_count_121 : decode cX11_count 121 = .ok (.ireturn, 1) := by decide +kernel
theorem dX11_count_122 : decode cX11_count 122 = .ok (.aload_n 0, 1) := by decide +kernel
theorem dX11_count_123 : decode cX11_count 123 = .ok (.getfield 72, 3) := by decide +kernel
theorem dX11_count_126 : decode cX11_count 126 = .ok (.getfield 330, 3) := by decide +kernel
theorem dX11_count_129 : decode cX11_count 129 = .ok (.ireturn, 1) := by decide +kernel
theorem dX11_count_130 : decode cX11_count 130 = .ok (.aload_n 0, 1) := by decide +kernel
theorem dX11_count_131 : decode cX11_count 131 = .ok (.getfield 72, 3) := by decide +kernel
theorem dX11_count_134 : decode cX11_count 134 = .ok (.getfield 151, 3) := by decide +kernel
theorem dX11_count_137 : decode cX11_count 137 = .ok (.ireturn, 1) := by decide +kernel
theorem dX11_count_138 : decode cX11_count 138 = .ok (.aload_n 0, 1) := by decide +kernel
theorem dX11_count_139 : decode cX11_count 139 = .ok (.getfield 72, 3) := by decide +kernel
theorem dX11_count_142 : decode cX11_count 142 = .ok (.bipush 6, 2) := by decide +kernel
theorem dX11_count_144 : decode cX11_count 144 = .ok (.invokevirtual 199, 3) := by decide +kernel
theorem dX11_count_147 : decode cX11_count 147 = .ok (.ireturn, 1) := by decide +kernel
theorem dX11_count_148 : decode cX11_count 148 = .ok (.aload_n 0, 1) := by decide +kernel
theorem dX11_count_149 : decode cX11_count 149 = .ok (.getfield 45, 3) := by decide +kernel
theorem dX11_count_152 : decode cX11_count 152 = .ok (.getfield 195, 3) := by decide +kernel
theorem dX11_count_155 : decode cX11_count 155 = .ok (.ireturn, 1) := by decide +kernel
theorem dX11_count_156 : decode cX11_count 156 = .ok (.aload_n 0, 1) := by decide +kernel
theorem dX11_count_157 : decode cX11_count 157 = .ok (.getfield 55, 3) := by decide +kernel
theorem dX11_count_160 : decode cX11_count 160 = .ok (.getfield 257, 3) := by decide +kernel
theorem dX11_count_163 : decode cX11_count 163 = .ok (.ireturn, 1) := by decide +kernel
theorem dX11_count_164 : decode cX11_count 164 = .ok (.aload_n 0, 1) := by decide +kernel
theorem dX11_count_165 : decode cX11_count 165 = .ok (.getfield 65, 3) := by decide +kernel
theorem dX11_count_168 : decode cX11_count 168 = .ok (.getfield 333, 3) := by decide +kernel
theorem dX11_count_171 : decode cX11_count 171 = .ok (.ireturn, 1) := by decide +kernel
theorem dX11_count_172 : decode cX11_count 172 = .ok (.aload_n 0, 1) := by decide +kernel
theorem dX11_count_173 : decode cX11_count 173 = .ok (.getfield 181, 3) := by decide +kernel
theorem dX11_count_176 : decode cX11_count 176 = .ok (.ireturn, 1) := by decide +kernel
theorem dX11_count_177 : decode cX11_count 177 = .ok (.aload_n 0, 1) := by decide +kernel
theorem dX11_count_178 : decode cX11_count 178 = .ok (.getfield 10, 3) := by decide +kernel
theorem dX11_count_181 : decode cX11_count 181 = .ok (.getfield 98, 3) := by decide +kernel
theorem dX11_count_184 : decode cX11_count 184 = .ok (.ireturn, 1) := by decide +kernel
theorem dX11_count_185 : decode cX11_count 185 = .ok (.iconst (-1), 1) := by decide +kernel
theorem dX11_count_186 : decode cX11_count 186 = .ok (.ireturn, 1) := by decide +kernel
theorem dX11_isMouth_0 : decode cX11_isMouth 0 = .ok (.iload_n 1, 1) := by decide +kernel
theorem dX11_isMouth_1 : decode cX11_isMouth 1 = .ok (.ifCond .lt 18, 3) := by decide +kernel
theorem dX11_isMouth_4 : decode cX11_isMouth 4 = .ok (.iload_n 1, 1) := by decide +kernel
theorem dX11_isMouth_5 : decode cX11_isMouth 5 = .ok (.aload_n 0, 1) := by decide +kernel
theorem dX11_isMouth_6 : decode cX11_isMouth 6 = .ok (.getfield 35, 3) := by decide +kernel
theorem dX11_isMouth_9 : decode cX11_isMouth 9 = .ok (.getfield 212, 3) := by decide +kernel
theorem dX11_isMouth_12 : decode cX11_isMouth 12 = .ok (.if_icmp .ge 7, 3) := by decide +kernel
theorem dX11_isMouth_15 : decode cX11_isMouth 15 = .ok (.iconst 1, 1) := by decide +kernel
theorem dX11_isMouth_16 : decode cX11_isMouth 16 = .ok (.goto 4, 3) := by decide +kernel
theorem dX11_isMouth_19 : decode cX11_isMouth 19 = .ok (.iconst 0, 1) := by decide +kernel
theorem dX11_isMouth_20 : decode cX11_isMouth 20 = .ok (.ireturn, 1) := by decide +kernel
theorem dX11_isLetter_0 : decode cX11_isLetter 0 = .ok (.iload_n 1, 1) := by decide +kernel
theorem dX11_isLetter_1 : decode cX11_isLetter 1 = .ok (.ifCond .lt 18, 3) := by decide +kernel
theorem dX11_isLetter_4 : decode cX11_isLetter 4 = .ok (.iload_n 1, 1) := by decide +kernel
theorem dX11_isLetter_5 : decode cX11_isLetter 5 = .ok (.aload_n 0, 1) := by decide +kernel
theorem dX11_isLetter_6 : decode cX11_isLetter 6 = .ok (.getfield 35, 3) := by decide +kernel
theorem dX11_isLetter_9 : decode cX11_isLetter 9 = .ok (.getfield 250, 3) := by decide +kernel
theorem dX11_isLetter_12 : decode cX11_isLetter 12 = .ok (.if_icmp .ge 7, 3) := by decide +kernel
theorem dX11_isLetter_15 : decode cX11_isLetter 15 = .ok (.iconst 1, 1) := by decide +kernel
theorem dX11_isLetter_16 : decode cX11_isLetter 16 = .ok (.goto 4, 3) := by decide +kernel
theorem dX11_isLetter_19 : decode cX11_isLetter 19 = .ok (.iconst 0, 1) := by decide +kernel
theorem dX11_isLetter_20 : decode cX11_isLetter 20 = .ok (.ireturn, 1) := by decide +kernel
theorem dX11_isAhead_0 : decode cX11_isAhead 0 = .ok (.iload_n 0, 1) := by decide +kernel
theorem dX11_isAhead_1 : decode cX11_isAhead 1 = .ok (.iconst 1, 1) := by decide +kernel
theorem dX11_isAhead_2 : decode cX11_isAhead 2 = .ok (.if_icmp .lt 13, 3) := by decide +kernel
theorem dX11_isAhead_5 : decode cX11_isAhead 5 = .ok (.iload_n 0, 1) := by decide +kernel
theorem dX11_isAhead_6 : decode cX11_isAhead 6 = .ok (.bipush 60, 2) := by decide +kernel
theorem dX11_isAhead_8 : decode cX11_isAhead 8 = .ok (.if_icmp .gt 7, 3) := by decide +kernel
theorem dX11_isAhead_11 : decode cX11_isAhead 11 = .ok (.iconst 1, 1) := by decide +kernel
theorem dX11_isAhead_12 : decode cX11_isAhead 12 = .ok (.goto 4, 3) := by decide +kernel
theorem dX11_isAhead_15 : decode cX11_isAhead 15 = .ok (.iconst 0, 1) := by decide +kernel
theorem dX11_isAhead_16 : decode cX11_isAhead 16 = .ok (.ireturn, 1) := by decide +kernel
theorem dX11_isDigit_0 : decode cX11_isDigit 0 = .ok (.iload_n 0, 1) := by decide +kernel
theorem dX11_isDigit_1 : decode cX11_isDigit 1 = .ok (.ifCond .lt 13, 3) := by decide +kernel
theorem dX11_isDigit_4 : decode cX11_isDigit 4 = .ok (.iload_n 0, 1) := by decide +kernel
theorem dX11_isDigit_5 : decode cX11_isDigit 5 = .ok (.bipush 9, 2) := by decide +kernel
theorem dX11_isDigit_7 : decode cX11_isDigit 7 = .ok (.if_icmp .gt 7, 3) := by decide +kernel
theorem dX11_isDigit_10 : decode cX11_isDigit 10 = .ok (.iconst 1, 1) := by decide +kernel
theorem dX11_isDigit_11 : decode cX11_isDigit 11 = .ok (.goto 4, 3) := by decide +kernel
theorem dX11_isDigit_14 : decode cX11_isDigit 14 = .ok (.iconst 0, 1) := by decide +kernel
theorem dX11_isDigit_15 : decode cX11_isDigit 15 = .ok (.ireturn, 1) := by decide +kernel
theorem dX11_beginAnew_0 : decode cX11_beginAnew 0 = .ok (.aload_n 0, 1) := by decide +kernel
theorem dX11_beginAnew_1 : decode cX11_beginAnew 1 = .ok (.getfield 72, 3) := by decide +kernel
theorem dX11_beginAnew_4 : decode cX11_beginAnew 4 = .ok (.aload_n 0, 1) := by decide +kernel
theorem dX11_beginAnew_5 : decode cX11_beginAnew 5 = .ok (.getfield 35, 3) := by decide +kernel
theorem dX11_beginAnew_8 : decode cX11_beginAnew 8 = .ok (.invokevirtual 191, 3) := by decide +kernel
theorem dX11_beginAnew_11 : decode cX11_beginAnew 11 = .ok (.aload_n 0, 1) := by decide +kernel
theorem dX11_beginAnew_12 : decode cX11_beginAnew 12 = .ok (.getfield 45, 3) := by decide +kernel
theorem dX11_beginAnew_15 : decode cX11_beginAnew 15 = .ok (.iconst 0, 1) := by decide +kernel
theorem dX11_beginAnew_16 : decode cX11_beginAnew 16 = .ok (.putfield 195, 3) := by decide +kernel
theorem dX11_beginAnew_19 : decode cX11_beginAnew 19 = .ok (.aload_n 0, 1) := by decide +kernel
theorem dX11_beginAnew_20 : decode cX11_beginAnew 20 = .ok (.getfield 55, 3) := by decide +kernel
theorem dX11_beginAnew_23 : decode cX11_beginAnew 23 = .ok (.iconst 0, 1) := by decide +kernel
theorem dX11_beginAnew_24 : decode cX11_beginAnew 24 = .ok (.putfield 257, 3) := by decide +kernel
theorem dX11_beginAnew_27 : decode cX11_beginAnew 27 = .ok (.aload_n 0, 1) := by decide +kernel
theorem dX11_beginAnew_28 : decode cX11_beginAnew 28 = .ok (.getfield 65, 3) := by decide +kernel
theorem dX11_beginAnew_31 : decode cX11_beginAnew 31 = .ok (.iconst 0, 1) := by decide +kernel
theorem dX11_beginAnew_32 : decode cX11_beginAnew 32 = .ok (.putfield 333, 3) := by decide +kernel
theorem dX11_beginAnew_35 : decode cX11_beginAnew 35 = .ok (.aload_n 0, 1) := by decide +kernel
theorem dX11_beginAnew_36 : decode cX11_beginAnew 36 = .ok (.iconst 0, 1) := by decide +kernel
theorem dX11_beginAnew_37 : decode cX11_beginAnew 37 = .ok (.putfield 181, 3) := by decide +kernel
theorem dX11_beginAnew_40 : decode cX11_beginAnew 40 = .ok (.iconst 0, 1) := by decide +kernel
theorem dX11_beginAnew_41 : decode cX11_beginAnew 41 = .ok (.istore_n 1, 1) := by decide +kernel
theorem dX11_beginAnew_42 : decode cX11_beginAnew 42 = .ok (.iload_n 1, 1) := by decide +kernel
theorem dX11_beginAnew_43 : decode cX11_beginAnew 43 = .ok (.iconst 4, 1) := by decide +kernel
theorem dX11_beginAnew_44 : decode cX11_beginAnew 44 = .ok (.if_icmp .ge 19, 3) := by decide +kernel
theorem dX11_beginAnew_47 : decode cX11_beginAnew 47 = .ok (.aload_n 0, 1) := by decide +kernel
theorem dX11_beginAnew_48 : decode cX11_beginAnew 48 = .ok (.getfield 85, 3) := by decide +kernel
theorem dX11_beginAnew_51 : decode cX11_beginAnew 51 = .ok (.iload_n 1, 1) := by decide +kernel
theorem dX11_beginAnew_52 : decode cX11_beginAnew 52 = .ok (.aaload, 1) := by decide +kernel
theorem dX11_beginAnew_53 : decode cX11_beginAnew 53 = .ok (.iconst 0, 1) := by decide +kernel
theorem dX11_beginAnew_54 : decode cX11_beginAnew 54 = .ok (.putfield 307, 3) := by decide +kernel
theorem dX11_beginAnew_57 : decode cX11_beginAnew 57 = .ok (.iinc 1 1, 3) := by decide +kernel
theorem dX11_beginAnew_60 : decode cX11_beginAnew 60 = .ok (.goto (-18), 3) := by decide +kernel
theorem dX11_beginAnew_63 : decode cX11_beginAnew 63 = .ok (.return_, 1) := by decide +kernel
theorem dX11_keepPast_0 : decode cX11_keepPast 0 = .ok (.aload_n 0, 1) := by decide +kernel
theorem dX11_keepPast_1 : decode cX11_keepPast 1 = .ok (.getfield 79, 3) := by decide +kernel
theorem dX11_keepPast_4 : decode cX11_keepPast 4 = .ok (.aload_n 0, 1) := by decide +kernel
theorem dX11_keepPast_5 : decode cX11_keepPast 5 = .ok (.getfield 184, 3) := by decide +kernel
theorem dX11_keepPast_8 : decode cX11_keepPast 8 = .ok (.aaload, 1) := by decide +kernel
theorem dX11_keepPast_9 : decode cX11_keepPast 9 = .ok (.aload_n 0, 1) := by decide +kernel
theorem dX11_keepPast_10 : decode cX11_keepPast 10 = .ok (.getfield 72, 3) := by decide +kernel
theorem dX11_keepPast_13 : decode cX11_keepPast 13 = .ok (.invokevirtual 187, 3) := by decide +kernel
theorem dX11_keepPast_16 : decode cX11_keepPast 16 = .ok (.aload_n 0, 1) := by decide +kernel
theorem dX11_keepPast_17 : decode cX11_keepPast 17 = .ok (.aload_n 0, 1) := by decide +kernel
theorem dX11_keepPast_18 : decode cX11_keepPast 18 = .ok (.getfield 184, 3) := by decide +kernel
theorem dX11_keepPast_21 : decode cX11_keepPast 21 = .ok (.iconst 1, 1) := by decide +kernel
theorem dX11_keepPast_22 : decode cX11_keepPast 22 = .ok (.iadd, 1) := by decide +kernel
theorem dX11_keepPast_23 : decode cX11_keepPast 23 = .ok (.bipush 15, 2) := by decide +kernel
theorem dX11_keepPast_25 : decode cX11_keepPast 25 = .ok (.iand, 1) := by decide +kernel
theorem dX11_keepPast_26 : decode cX11_keepPast 26 = .ok (.putfield 184, 3) := by decide +kernel
theorem dX11_keepPast_29 : decode cX11_keepPast 29 = .ok (.aload_n 0, 1) := by decide +kernel
theorem dX11_keepPast_30 : decode cX11_keepPast 30 = .ok (.aload_n 0, 1) := by decide +kernel
theorem dX11_keepPast_31 : decode cX11_keepPast 31 = .ok (.getfield 181, 3) := by decide +kernel
theorem dX11_keepPast_34 : decode cX11_keepPast 34 = .ok (.iconst 1, 1) := by decide +kernel
theorem dX11_keepPast_35 : decode cX11_keepPast 35 = .ok (.iadd, 1) := by decide +kernel
theorem dX11_keepPast_36 : decode cX11_keepPast 36 = .ok (.bipush 16, 2) := by decide +kernel
theorem dX11_keepPast_38 : decode cX11_keepPast 38 = .ok (.invokestatic 334, 3) := by decide +kernel
theorem dX11_keepPast_41 : decode cX11_keepPast 41 = .ok (.putfield 181, 3) := by decide +kernel
theorem dX11_keepPast_44 : decode cX11_keepPast 44 = .ok (.return_, 1) := by decide +kernel
theorem dX11_passTrialMinute_0 : decode cX11_passTrialMinute 0 = .ok (.aload_n 0, 1) := by decide +kernel
theorem dX11_passTrialMinute_1 : decode cX11_passTrialMinute 1 = .ok (.getfield 76, 3) := by decide +kernel
theorem dX11_passTrialMinute_4 : decode cX11_passTrialMinute 4 = .ok (.aload_n 0, 1) := by decide +kernel
theorem dX11_passTrialMinute_5 : decode cX11_passTrialMinute 5 = .ok (.getfield 35, 3) := by decide +kernel
theorem dX11_passTrialMinute_8 : decode cX11_passTrialMinute 8 = .ok (.aload_n 0, 1) := by decide +kernel
theorem dX11_passTrialMinute_9 : decode cX11_passTrialMinute 9 = .ok (.getfield 35, 3) := by decide +kernel
theorem dX11_passTrialMinute_12 : decode cX11_passTrialMinute 12 = .ok (.aload_n 0, 1) := by decide +kernel
theorem dX11_passTrialMinute_13 : decode cX11_passTrialMinute 13 = .ok (.getfield 76, 3) := by decide +kernel
theorem dX11_passTrialMinute_16 : decode cX11_passTrialMinute 16 = .ok (.getfield 160, 3) := by decide +kernel
theorem dX11_passTrialMinute_19 : decode cX11_passTrialMinute 19 = .ok (.invokevirtual 163, 3) := by decide +kernel
theorem dX11_passTrialMinute_22 : decode cX11_passTrialMinute 22 = .ok (.invokevirtual 167, 3) := by decide +kernel
theorem dX11_passTrialMinute_25 : decode cX11_passTrialMinute 25 = .ok (.ireturn, 1) := by decide +kernel
theorem dX11_doLine_0 : decode cX11_doLine 0 = .ok (.aload_n 0, 1) := by decide +kernel
theorem dX11_doLine_1 : decode cX11_doLine 1 = .ok (.getfield 45, 3) := by decide +kernel
theorem dX11_doLine_4 : decode cX11_doLine 4 = .ok (.getfield 337, 3) := by decide +kernel
theorem dX11_doLine_7 : decode cX11_doLine 7 = .ok (.iload_n 1, 1) := by decide +kernel
theorem dX11_doLine_8 : decode cX11_doLine 8 = .ok (.iaload, 1) := by decide +kernel
theorem dX11_doLine_9 : decode cX11_doLine 9 = .ok (.istore_n 2, 1) := by decide +kernel
theorem dX11_doLine_10 : decode cX11_doLine 10 = .ok (.aload_n 0, 1) := by decide +kernel
theorem dX11_doLine_11 : decode cX11_doLine 11 = .ok (.getfield 45, 3) := by decide +kernel
theorem dX11_doLine_14 : decode cX11_doLine 14 = .ok (.getfield 340, 3) := by decide +kernel
theorem dX11_doLine_17 : decode cX11_doLine 17 = .ok (.iload_n 1, 1) := by decide +kernel
theorem dX11_doLine_18 : decode cX11_doLine 18 = .ok (.iaload, 1) := by decide +kernel
theorem dX11_doLine_19 : decode cX11_doLine 19 = .ok (.tableswitch 67 0 2 #[25, 30, 49], 25) := by decide +kernel
theorem dX11_doLine_44 : decode cX11_doLine 44 = .ok (.aload_n 0, 1) := by decide +kernel
theorem dX11_doLine_45 : decode cX11_doLine 45 = .ok (.invokevirtual 202, 3) := by decide +kernel
theorem dX11_doLine_48 : decode cX11_doLine 48 = .ok (.ireturn, 1) := by decide +kernel
theorem dX11_doLine_49 : decode cX11_doLine 49 = .ok (.aload_n 0, 1) := by decide +kernel
theorem dX11_doLine_50 : decode cX11_doLine 50 = .ok (.getfield 76, 3) := by decide +kernel
theorem dX11_doLine_53 : decode cX11_doLine 53 = .ok (.iload_n 2, 1) := by decide +kernel
theorem dX11_doLine_54 : decode cX11_doLine 54 = .ok (.aload_n 0, 1) := by decide +kernel
theorem dX11_doLine_55 : decode cX11_doLine 55 = .ok (.getfield 45, 3) := by decide +kernel
theorem dX11_doLine_58 : decode cX11_doLine 58 = .ok (.getfield 343, 3) := by decide +kernel
theorem dX11_doLine_61 : decode cX11_doLine 61 = .ok (.iload_n 1, 1) := by decide +kernel
theorem dX11_doLine_62 : decode cX11_doLine 62 = .ok (.iaload, 1) := by decide +kernel
theorem dX11_doLine_63 : decode cX11_doLine 63 = .ok (.invokevirtual 171, 3) := by decide +kernel
theorem dX11_doLine_66 : decode cX11_doLine 66 = .ok (.iconst (-1), 1) := by decide +kernel
theorem dX11_doLine_67 : decode cX11_doLine 67 = .ok (.ireturn, 1) := by decide +kernel
theorem dX11_doLine_68 : decode cX11_doLine 68 = .ok (.aload_n 0, 1) := by decide +kernel
theorem dX11_doLine_69 : decode cX11_doLine 69 = .ok (.getfield 76, 3) := by decide +kernel
theorem dX11_doLine_72 : decode cX11_doLine 72 = .ok (.iload_n 2, 1) := by decide +kernel
theorem dX11_doLine_73 : decode cX11_doLine 73 = .ok (.invokevirtual 175, 3) := by decide +kernel
theorem dX11_doLine_76 : decode cX11_doLine 76 = .ok (.ifCond .eq 7, 3) := by decide +kernel
theorem dX11_doLine_79 : decode cX11_doLine 79 = .ok (.iconst (-1), 1) := by decide +kernel
theorem dX11_doLine_80 : decode cX11_doLine 80 = .ok (.goto 5, 3) := by decide +kernel
theorem dX11_doLine_83 : decode cX11_doLine 83 = .ok (.bipush (-2), 2) := by decide +kernel
theorem dX11_doLine_85 : decode cX11_doLine 85 = .ok (.ireturn, 1) := by decide +kernel
theorem dX11_doLine_86 : decode cX11_doLine 86 = .ok (.aload_n 0, 1) := by decide +kernel
theorem dX11_doLine_87 : decode cX11_doLine 87 = .ok (.getfield 76, 3) := by decide +kernel
theorem dX11_doLine_90 : decode cX11_doLine 90 = .ok (.iload_n 2, 1) := by decide +kernel
theorem dX11_doLine_91 : decode cX11_doLine 91 = .ok (.invokevirtual 178, 3) := by decide +kernel
theorem dX11_doLine_94 : decode cX11_doLine 94 = .ok (.ifCond .eq 7, 3) := by decide +kernel
theorem dX11_doLine_97 : decode cX11_doLine 97 = .ok (.iconst (-1), 1) := by decide +kernel
theorem dX11_doLine_98 : decode cX11_doLine 98 = .ok (.goto 5, 3) := by decide +kernel
theorem dX11_doLine_101 : decode cX11_doLine 101 = .ok (.bipush (-2), 2) := by decide +kernel
theorem dX11_doLine_103 : decode cX11_doLine 103 = .ok (.ireturn, 1) := by decide +kernel
theorem dX11_isReadWith_0 : decode cX11_isReadWith 0 = .ok (.aload_n 0, 1) := by decide +kernel
theorem dX11_isReadWith_1 : decode cX11_isReadWith 1 = .ok (.getfield 76, 3) := by decide +kernel
theorem dX11_isReadWith_4 : decode cX11_isReadWith 4 = .ok (.aload_n 0, 1) := by decide +kernel
theorem dX11_isReadWith_5 : decode cX11_isReadWith 5 = .ok (.getfield 72, 3) := by decide +kernel
theorem dX11_isReadWith_8 : decode cX11_isReadWith 8 = .ok (.invokevirtual 187, 3) := by decide +kernel
theorem dX11_isReadWith_11 : decode cX11_isReadWith 11 = .ok (.iload_n 2, 1) := by decide +kernel
theorem dX11_isReadWith_12 : decode cX11_isReadWith 12 = .ok (.iconst (-1), 1) := by decide +kernel
theorem dX11_isReadWith_13 : decode cX11_isReadWith 13 = .ok (.if_icmp .eq 12, 3) := by decide +kernel
theorem dX11_isReadWith_16 : decode cX11_isReadWith 16 = .ok (.aload_n 0, 1) := by decide +kernel
theorem dX11_isReadWith_17 : decode cX11_isReadWith 17 = .ok (.getfield 76, 3) := by decide +kernel
theorem dX11_isReadWith_20 : decode cX11_isReadWith 20 = .ok (.iload_n 2, 1) := by decide +kernel
theorem dX11_isReadWith_21 : decode cX11_isReadWith 21 = .ok (.iload_n 3, 1) := by decide +kernel
theorem dX11_isReadWith_22 : decode cX11_isReadWith 22 = .ok (.invokevirtual 171, 3) := by decide +kernel
theorem dX11_isReadWith_25 : decode cX11_isReadWith 25 = .ok (.aload_n 0, 1) := by decide +kernel
theorem dX11_isReadWith_26 : decode cX11_isReadWith 26 = .ok (.invokevirtual 202, 3) := by decide +kernel
theorem dX11_isReadWith_29 : decode cX11_isReadWith 29 = .ok (.iload_n 1, 1) := by decide +kernel
theorem dX11_isReadWith_30 : decode cX11_isReadWith 30 = .ok (.if_icmp .ne 7, 3) := by decide +kernel
theorem dX11_isReadWith_33 : decode cX11_isReadWith 33 = .ok (.iconst 1, 1) := by decide +kernel
theorem dX11_isReadWith_34 : decode cX11_isReadWith 34 = .ok (.goto 4, 3) := by decide +kernel
theorem dX11_isReadWith_37 : decode cX11_isReadWith 37 = .ok (.iconst 0, 1) := by decide +kernel
theorem dX11_isReadWith_38 : decode cX11_isReadWith 38 = .ok (.ireturn, 1) := by decide +kernel
theorem dX11_isReadTurned_0 : decode cX11_isReadTurned 0 = .ok (.aload_n 0, 1) := by decide +kernel
theorem dX11_isReadTurned_1 : decode cX11_isReadTurned 1 = .ok (.getfield 76, 3) := by decide +kernel
theorem dX11_isReadTurned_4 : decode cX11_isReadTurned 4 = .ok (.aload_n 0, 1) := by decide +kernel
theorem dX11_isReadTurned_5 : decode cX11_isReadTurned 5 = .ok (.getfield 72, 3) := by decide +kernel
theorem dX11_isReadTurned_8 : decode cX11_isReadTurned 8 = .ok (.invokevirtual 187, 3) := by decide +kernel
theorem dX11_isReadTurned_11 : decode cX11_isReadTurned 11 = .ok (.aload_n 0, 1) := by decide +kernel
theorem dX11_isReadTurned_12 : decode cX11_isReadTurned 12 = .ok (.getfield 76, 3) := by decide +kernel
theorem dX11_isReadTurned_15 : decode cX11_isReadTurned 15 = .ok (.dup, 1) := by decide +kernel
theorem dX11_isReadTurned_16 : decode cX11_isReadTurned 16 = .ok (.getfield 330, 3) := by decide +kernel
theorem dX11_isReadTurned_19 : decode cX11_isReadTurned 19 = .ok (.iload_n 2, 1) := by decide +kernel
theorem dX11_isReadTurned_20 : decode cX11_isReadTurned 20 = .ok (.ixor, 1) := by decide +kernel
theorem dX11_isReadTurned_21 : decode cX11_isReadTurned 21 = .ok (.putfield 330, 3) := by decide +kernel
theorem dX11_isReadTurned_24 : decode cX11_isReadTurned 24 = .ok (.aload_n 0, 1) := by decide +kernel
theorem dX11_isReadTurned_25 : decode cX11_isReadTurned 25 = .ok (.invokevirtual 202, 3) := by decide +kernel
theorem dX11_isReadTurned_28 : decode cX11_isReadTurned 28 = .ok (.iload_n 1, 1) := by decide +kernel
theorem dX11_isReadTurned_29 : decode cX11_isReadTurned 29 = .ok (.if_icmp .ne 7, 3) := by decide +kernel
theorem dX11_isReadTurned_32 : decode cX11_isReadTurned 32 = .ok (.iconst 1, 1) := by decide +kernel
theorem dX11_isReadTurned_33 : decode cX11_isReadTurned 33 = .ok (.goto 4, 3) := by decide +kernel
theorem dX11_isReadTurned_36 : decode cX11_isReadTurned 36 = .ok (.iconst 0, 1) := by decide +kernel
theorem dX11_isReadTurned_37 : decode cX11_isReadTurned 37 = .ok (.ireturn, 1) := by decide +kernel
theorem dX11_soundingIn_0 : decode cX11_soundingIn 0 = .ok (.aload_n 0, 1) := by decide +kernel
theorem dX11_soundingIn_1 : decode cX11_soundingIn 1 = .ok (.getfield 76, 3) := by decide +kernel
theorem dX11_soundingIn_4 : decode cX11_soundingIn 4 = .ok (.aload_n 0, 1) := by decide +kernel
theorem dX11_soundingIn_5 : decode cX11_soundingIn 5 = .ok (.getfield 72, 3) := by decide +kernel
theorem dX11_soundingIn_8 : decode cX11_soundingIn 8 = .ok (.invokevirtual 187, 3) := by decide +kernel
theorem dX11_soundingIn_11 : decode cX11_soundingIn 11 = .ok (.aload_n 0, 1) := by decide +kernel
theorem dX11_soundingIn_12 : decode cX11_soundingIn 12 = .ok (.getfield 76, 3) := by decide +kernel
theorem dX11_soundingIn_15 : decode cX11_soundingIn 15 = .ok (.aload_n 0, 1) := by decide +kernel
theorem dX11_soundingIn_16 : decode cX11_soundingIn 16 = .ok (.getfield 35, 3) := by decide +kernel
theorem dX11_soundingIn_19 : decode cX11_soundingIn 19 = .ok (.iload_n 1, 1) := by decide +kernel
theorem dX11_soundingIn_20 : decode cX11_soundingIn 20 = .ok (.invokevirtual 167, 3) := by decide +kernel
theorem dX11_soundingIn_23 : decode cX11_soundingIn 23 = .ok (.pop, 1) := by decide +kernel
theorem dX11_soundingIn_24 : decode cX11_soundingIn 24 = .ok (.aload_n 0, 1) := by decide +kernel
theorem dX11_soundingIn_25 : decode cX11_soundingIn 25 = .ok (.getfield 76, 3) := by decide +kernel
theorem dX11_soundingIn_28 : decode cX11_soundingIn 28 = .ok (.getfield 247, 3) := by decide +kernel
theorem dX11_soundingIn_31 : decode cX11_soundingIn 31 = .ok (.ireturn, 1) := by decide +kernel
theorem dX11_isReadInOddRain_0 : decode cX11_isReadInOddRain 0 = .ok (.aload_n 0, 1) := by decide +kernel
theorem dX11_isReadInOddRain_1 : decode cX11_isReadInOddRain 1 = .ok (.getfield 76, 3) := by decide +kernel
theorem dX11_isReadInOddRain_4 : decode cX11_isReadInOddRain 4 = .ok (.aload_n 0, 1) := by decide +kernel
theorem dX11_isReadInOddRain_5 : decode cX11_isReadInOddRain 5 = .ok (.getfield 72, 3) := by decide +kernel
theorem dX11_isReadInOddRain_8 : decode cX11_isReadInOddRain 8 = .ok (.invokevirtual 187, 3) := by decide +kernel
theorem dX11_isReadInOddRain_11 : decode cX11_isReadInOddRain 11 = .ok (.iconst 0, 1) := by decide +kernel
theorem dX11_isReadInOddRain_12 : decode cX11_isReadInOddRain 12 = .ok (.istore 4, 2) := by decide +kernel
theorem dX11_isReadInOddRain_14 : decode cX11_isReadInOddRain 14 = .ok (.iload 4, 2) := by decide +kernel
theorem dX11_isReadInOddRain_16 : decode cX11_isReadInOddRain 16 = .ok (.iload_n 3, 1) := by decide +kernel
theorem dX11_isReadInOddRain_17 : decode cX11_isReadInOddRain 17 = .ok (.if_icmp .ge 36, 3) := by decide +kernel
theorem dX11_isReadInOddRain_20 : decode cX11_isReadInOddRain 20 = .ok (.aload_n 0, 1) := by decide +kernel
theorem dX11_isReadInOddRain_21 : decode cX11_isReadInOddRain 21 = .ok (.getfield 76, 3) := by decide +kernel
theorem dX11_isReadInOddRain_24 : decode cX11_isReadInOddRain 24 = .ok (.aload_n 0, 1) := by decide +kernel
theorem dX11_isReadInOddRain_25 : decode cX11_isReadInOddRain 25 = .ok (.getfield 35, 3) := by decide +kernel
theorem dX11_isReadInOddRain_28 : decode cX11_isReadInOddRain 28 = .ok (.iload_n 2, 1) := by decide +kernel
theorem dX11_isReadInOddRain_29 : decode cX11_isReadInOddRain 29 = .ok (.iload 4, 2) := by decide +kernel
theorem dX11_isReadInOddRain_31 : decode cX11_isReadInOddRain 31 = .ok (.ishr, 1) := by decide +kernel
theorem dX11_isReadInOddRain_32 : decode cX11_isReadInOddRain 32 = .ok (.iconst 1, 1) := by decide +kernel
theorem dX11_isReadInOddRain_33 : decode cX11_isReadInOddRain 33 = .ok (.iand, 1) := by decide +kernel
theorem dX11_isReadInOddRain_34 : decode cX11_isReadInOddRain 34 = .ok (.ifCond .eq 8, 3) := by decide +kernel
theorem dX11_isReadInOddRain_37 : decode cX11_isReadInOddRain 37 = .ok (.bipush 9, 2) := by decide +kernel
theorem dX11_isReadInOddRain_39 : decode cX11_isReadInOddRain 39 = .ok (.goto 4, 3) := by decide +kernel
theorem dX11_isReadInOddRain_42 : decode cX11_isReadInOddRain 42 = .ok (.iconst 0, 1) := by decide +kernel
theorem dX11_isReadInOddRain_43 : decode cX11_isReadInOddRain 43 = .ok (.invokevirtual 167, 3) := by decide +kernel
theorem dX11_isReadInOddRain_46 : decode cX11_isReadInOddRain 46 = .ok (.pop, 1) := by decide +kernel
theorem dX11_isReadInOddRain_47 : decode cX11_isReadInOddRain 47 = .ok (.iinc 4 1, 3) := by decide +kernel
theorem dX11_isReadInOddRain_50 : decode cX11_isReadInOddRain 50 = .ok (.goto (-36), 3) := by decide +kernel
theorem dX11_isReadInOddRain_53 : decode cX11_isReadInOddRain 53 = .ok (.aload_n 0, 1) := by decide +kernel
theorem dX11_isReadInOddRain_54 : decode cX11_isReadInOddRain 54 = .ok (.getfield 76, 3) := by decide +kernel
theorem dX11_isReadInOddRain_57 : decode cX11_isReadInOddRain 57 = .ok (.getfield 209, 3) := by decide +kernel
theorem dX11_isReadInOddRain_60 : decode cX11_isReadInOddRain 60 = .ok (.iload_n 1, 1) := by decide +kernel
theorem dX11_isReadInOddRain_61 : decode cX11_isReadInOddRain 61 = .ok (.if_icmp .ne 7, 3) := by decide +kernel
theorem dX11_isReadInOddRain_64 : decode cX11_isReadInOddRain 64 = .ok (.iconst 1, 1) := by decide +kernel
theorem dX11_isReadInOddRain_65 : decode cX11_isReadInOddRain 65 = .ok (.goto 4, 3) := by decide +kernel
theorem dX11_isReadInOddRain_68 : decode cX11_isReadInOddRain 68 = .ok (.iconst 0, 1) := by decide +kernel
theorem dX11_isReadInOddRain_69 : decode cX11_isReadInOddRain 69 = .ok (.ireturn, 1) := by decide +kernel
