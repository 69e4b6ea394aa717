theorem dX12_entire_0 : decode cX12_entire 0 = .ok (.aload_n 0, 1) := by decide +kernel
theorem dX12_entire_1 : decode cX12_entire 1 = .ok (.iconst 0, 1) := by decide +kernel
theorem dX12_entire_2 : decode cX12_entire 2 = .ok (.putfield 147, 3) := by decide +kernel
theorem dX12_entire_5 : decode cX12_entire 5 = .ok (.aload_n 0, 1) := by decide +kernel
theorem dX12_entire_6 : decode cX12_entire 6 = .ok (.getfield 102, 3) := by decide +kernel
theorem dX12_entire_9 : decode cX12_entire 9 = .ok (.iconst 0, 1) := by decide +kernel
theorem dX12_entire_10 : decode cX12_entire 10 = .ok (.iaload, 1) := by decide +kernel
theorem dX12_entire_11 : decode cX12_entire 11 = .ok (.ifCond .ne 5, 3) := by decide +kernel
theorem dX12_entire_14 : decode cX12_entire 14 = .ok (.iconst (-1), 1) := by decide +kernel
theorem dX12_entire_15 : decode cX12_entire 15 = .ok (.ireturn, 1) := by decide +kernel
theorem dX12_entire_16 : decode cX12_entire 16 = .ok (.aload_n 0, 1) := by decide +kernel
theorem dX12_entire_17 : decode cX12_entire 17 = .ok (.getfield 117, 3) := by decide +kernel
theorem dX12_entire_20 : decode cX12_entire 20 = .ok (.iconst 0, 1) := by decide +kernel
theorem dX12_entire_21 : decode cX12_entire 21 = .ok (.aload_n 0, 1) := by decide +kernel
theorem dX12_entire_22 : decode cX12_entire 22 = .ok (.getfield 123, 3) := by decide +kernel
theorem dX12_entire_25 : decode cX12_entire 25 = .ok (.iconst 0, 1) := by decide +kernel
theorem dX12_entire_26 : decode cX12_entire 26 = .ok (.invokestatic 401, 3) := by decide +kernel
theorem dX12_entire_29 : decode cX12_entire 29 = .ok (.iconst 0, 1) := by decide +kernel
theorem dX12_entire_30 : decode cX12_entire 30 = .ok (.istore_n 1, 1) := by decide +kernel
theorem dX12_entire_31 : decode cX12_entire 31 = .ok (.iload_n 1, 1) := by decide +kernel
theorem dX12_entire_32 : decode cX12_entire 32 = .ok (.bipush 60, 2) := by decide +kernel
theorem dX12_entire_34 : decode cX12_entire 34 = .ok (.if_icmp .gt 21, 3) := by decide +kernel
theorem dX12_entire_37 : decode cX12_entire 37 = .ok (.aload_n 0, 1) := by decide +kernel
theorem dX12_entire_38 : decode cX12_entire 38 = .ok (.invokevirtual 442, 3) := by decide +kernel
theorem dX12_entire_41 : decode cX12_entire 41 = .ok (.ifCond .ge 14, 3) := by decide +kernel
theorem dX12_entire_44 : decode cX12_entire 44 = .ok (.aload_n 0, 1) := by decide +kernel
theorem dX12_entire_45 : decode cX12_entire 45 = .ok (.invokevirtual 408, 3) := by decide +kernel
theorem dX12_entire_48 : decode cX12_entire 48 = .ok (.pop, 1) := by decide +kernel
theorem dX12_entire_49 : decode cX12_entire 49 = .ok (.iinc 1 1, 3) := by decide +kernel
theorem dX12_entire_52 : decode cX12_entire 52 = .ok (.goto (-21), 3) := by decide +kernel
theorem dX12_entire_55 : decode cX12_entire 55 = .ok (.aload_n 0, 1) := by decide +kernel
theorem dX12_entire_56 : decode cX12_entire 56 = .ok (.getfield 123, 3) := by decide +kernel
theorem dX12_entire_59 : decode cX12_entire 59 = .ok (.iconst 0, 1) := by decide +kernel
theorem dX12_entire_60 : decode cX12_entire 60 = .ok (.aload_n 0, 1) := by decide +kernel
theorem dX12_entire_61 : decode cX12_entire 61 = .ok (.getfield 117, 3) := by decide +kernel
theorem dX12_entire_64 : decode cX12_entire 64 = .ok (.iconst 0, 1) := by decide +kernel
theorem dX12_entire_65 : decode cX12_entire 65 = .ok (.invokestatic 401, 3) := by decide +kernel
theorem dX12_entire_68 : decode cX12_entire 68 = .ok (.iload_n 1, 1) := by decide +kernel
theorem dX12_entire_69 : decode cX12_entire 69 = .ok (.bipush 60, 2) := by decide +kernel
theorem dX12_entire_71 : decode cX12_entire 71 = .ok (.if_icmp .le 7, 3) := by decide +kernel
theorem dX12_entire_74 : decode cX12_entire 74 = .ok (.iconst (-1), 1) := by decide +kernel
theorem dX12_entire_75 : decode cX12_entire 75 = .ok (.goto 4, 3) := by decide +kernel
theorem dX12_entire_78 : decode cX12_entire 78 = .ok (.iload_n 1, 1) := by decide +kernel
theorem dX12_entire_79 : decode cX12_entire 79 = .ok (.ireturn, 1) := by decide +kernel
theorem dX12_aimOf_0 : decode cX12_aimOf 0 = .ok (.iconst 0, 1) := by decide +kernel
theorem dX12_aimOf_1 : decode cX12_aimOf 1 = .ok (.istore_n 3, 1) := by decide +kernel
theorem dX12_aimOf_2 : decode cX12_aimOf 2 = .ok (.iload_n 3, 1) := by decide +kernel
theorem dX12_aimOf_3 : decode cX12_aimOf 3 = .ok (.aload_n 0, 1) := by decide +kernel
theorem dX12_aimOf_4 : decode cX12_aimOf 4 = .ok (.getfield 13, 3) := by decide +kernel
theorem dX12_aimOf_7 : decode cX12_aimOf 7 = .ok (.iconst 0, 1) := by decide +kernel
theorem dX12_aimOf_8 : decode cX12_aimOf 8 = .ok (.iaload, 1) := by decide +kernel
theorem dX12_aimOf_9 : decode cX12_aimOf 9 = .ok (.if_icmp .ge 63, 3) := by decide +kernel
theorem dX12_aimOf_12 : decode cX12_aimOf 12 = .ok (.aload_n 0, 1) := by decide +kernel
theorem dX12_aimOf_13 : decode cX12_aimOf 13 = .ok (.getfield 117, 3) := by decide +kernel
theorem dX12_aimOf_16 : decode cX12_aimOf 16 = .ok (.iconst 0, 1) := by decide +kernel
theorem dX12_aimOf_17 : decode cX12_aimOf 17 = .ok (.aload_n 0, 1) := by decide +kernel
theorem dX12_aimOf_18 : decode cX12_aimOf 18 = .ok (.getfield 123, 3) := by decide +kernel
theorem dX12_aimOf_21 : decode cX12_aimOf 21 = .ok (.iconst 0, 1) := by decide +kernel
theorem dX12_aimOf_22 : decode cX12_aimOf 22 = .ok (.invokestatic 401, 3) := by decide +kernel
theorem dX12_aimOf_25 : decode cX12_aimOf 25 = .ok (.aload_n 0, 1) := by decide +kernel
theorem dX12_aimOf_26 : decode cX12_aimOf 26 = .ok (.iload_n 3, 1) := by decide +kernel
theorem dX12_aimOf_27 : decode cX12_aimOf 27 = .ok (.iload_n 2, 1) := by decide +kernel
theorem dX12_aimOf_28 : decode cX12_aimOf 28 = .ok (.invokevirtual 411, 3) := by decide +kernel
theorem dX12_aimOf_31 : decode cX12_aimOf 31 = .ok (.aload_n 0, 1) := by decide +kernel
theorem dX12_aimOf_32 : decode cX12_aimOf 32 = .ok (.invokevirtual 408, 3) := by decide +kernel
theorem dX12_aimOf_35 : decode cX12_aimOf 35 = .ok (.iload_n 1, 1) := by decide +kernel
theorem dX12_aimOf_36 : decode cX12_aimOf 36 = .ok (.if_icmp .ne 7, 3) := by decide +kernel
theorem dX12_aimOf_39 : decode cX12_aimOf 39 = .ok (.iconst 1, 1) := by decide +kernel
theorem dX12_aimOf_40 : decode cX12_aimOf 40 = .ok (.goto 4, 3) := by decide +kernel
theorem dX12_aimOf_43 : decode cX12_aimOf 43 = .ok (.iconst 0, 1) := by decide +kernel
theorem dX12_aimOf_44 : decode cX12_aimOf 44 = .ok (.istore 4, 2) := by decide +kernel
theorem dX12_aimOf_46 : decode cX12_aimOf 46 = .ok (.aload_n 0, 1) := by decide +kernel
theorem dX12_aimOf_47 : decode cX12_aimOf 47 = .ok (.getfield 123, 3) := by decide +kernel
theorem dX12_aimOf_50 : decode cX12_aimOf 50 = .ok (.iconst 0, 1) := by decide +kernel
theorem dX12_aimOf_51 : decode cX12_aimOf 51 = .ok (.aload_n 0, 1) := by decide +kernel
theorem dX12_aimOf_52 : decode cX12_aimOf 52 = .ok (.getfield 117, 3) := by decide +kernel
theorem dX12_aimOf_55 : decode cX12_aimOf 55 = .ok (.iconst 0, 1) := by decide +kernel
theorem dX12_aimOf_56 : decode cX12_aimOf 56 = .ok (.invokestatic 401, 3) := by decide +kernel
theorem dX12_aimOf_59 : decode cX12_aimOf 59 = .ok (.iload 4, 2) := by decide +kernel
theorem dX12_aimOf_61 : decode cX12_aimOf 61 = .ok (.ifCond .eq 5, 3) := by decide +kernel
theorem dX12_aimOf_64 : decode cX12_aimOf 64 = .ok (.iload_n 3, 1) := by decide +kernel
theorem dX12_aimOf_65 : decode cX12_aimOf 65 = .ok (.ireturn, 1) := by decide +kernel
theorem dX12_aimOf_66 : decode cX12_aimOf 66 = .ok (.iinc 3 1, 3) := by decide +kernel
theorem dX12_aimOf_69 : decode cX12_aimOf 69 = .ok (.goto (-67), 3) := by decide +kernel
theorem dX12_aimOf_72 : decode cX12_aimOf 72 = .ok (.iconst (-1), 1) := by decide +kernel
theorem dX12_aimOf_73 : decode cX12_aimOf 73 = .ok (.ireturn, 1) := by decide +kernel
theorem dX12_aim_0 : decode cX12_aim 0 = .ok (.aload_n 0, 1) := by decide +kernel
theorem dX12_aim_1 : decode cX12_aim 1 = .ok (.iconst 0, 1) := by decide +kernel
theorem dX12_aim_2 : decode cX12_aim 2 = .ok (.putfield 147, 3) := by decide +kernel
theorem dX12_aim_5 : decode cX12_aim 5 = .ok (.aload_n 0, 1) := by decide +kernel
theorem dX12_aim_6 : decode cX12_aim 6 = .ok (.iload_n 1, 1) := by decide +kernel
theorem dX12_aim_7 : decode cX12_aim 7 = .ok (.invokevirtual 398, 3) := by decide +kernel
theorem dX12_aim_10 : decode cX12_aim 10 = .ok (.ifCond .eq 12, 3) := by decide +kernel
theorem dX12_aim_13 : decode cX12_aim 13 = .ok (.iload_n 2, 1) := by decide +kernel
theorem dX12_aim_14 : decode cX12_aim 14 = .ok (.iconst 0, 1) := by decide +kernel
theorem dX12_aim_15 : decode cX12_aim 15 = .ok (.iconst 1, 1) := by decide +kernel
theorem dX12_aim_16 : decode cX12_aim 16 = .ok (.invokestatic 268, 3) := by decide +kernel
theorem dX12_aim_19 : decode cX12_aim 19 = .ok (.ifCond .ne 6, 3) := by decide +kernel
theorem dX12_aim_22 : decode cX12_aim 22 = .ok (.bipush (-2), 2) := by decide +kernel
theorem dX12_aim_24 : decode cX12_aim 24 = .ok (.ireturn, 1) := by decide +kernel
theorem dX12_aim_25 : decode cX12_aim 25 = .ok (.iconst 0, 1) := by decide +kernel
theorem dX12_aim_26 : decode cX12_aim 26 = .ok (.istore_n 3, 1) := by decide +kernel
theorem dX12_aim_27 : decode cX12_aim 27 = .ok (.iload_n 3, 1) := by decide +kernel
theorem dX12_aim_28 : decode cX12_aim 28 = .ok (.bipush 20, 2) := by decide +kernel
theorem dX12_aim_30 : decode cX12_aim 30 = .ok (.if_icmp .gt 41, 3) := by decide +kernel
theorem dX12_aim_33 : decode cX12_aim 33 = .ok (.aload_n 0, 1) := by decide +kernel
theorem dX12_aim_34 : decode cX12_aim 34 = .ok (.iload_n 1, 1) := by decide +kernel
theorem dX12_aim_35 : decode cX12_aim 35 = .ok (.iload_n 3, 1) := by decide +kernel
theorem dX12_aim_36 : decode cX12_aim 36 = .ok (.invokevirtual 445, 3) := by decide +kernel
theorem dX12_aim_39 : decode cX12_aim 39 = .ok (.istore 4, 2) := by decide +kernel
theorem dX12_aim_41 : decode cX12_aim 41 = .ok (.iload 4, 2) := by decide +kernel
theorem dX12_aim_43 : decode cX12_aim 43 = .ok (.ifCond .lt 22, 3) := by decide +kernel
theorem dX12_aim_46 : decode cX12_aim 46 = .ok (.iload_n 2, 1) := by decide +kernel
theorem dX12_aim_47 : decode cX12_aim 47 = .ok (.ifCond .ne 7, 3) := by decide +kernel
theorem dX12_aim_50 : decode cX12_aim 50 = .ok (.iload_n 3, 1) := by decide +kernel
theorem dX12_aim_51 : decode cX12_aim 51 = .ok (.goto 13, 3) := by decide +kernel
theorem dX12_aim_54 : decode cX12_aim 54 = .ok (.iload_n 3, 1) := by decide +kernel
theorem dX12_aim_55 : decode cX12_aim 55 = .ok (.ifCond .ne 7, 3) := by decide +kernel
theorem dX12_aim_58 : decode cX12_aim 58 = .ok (.iconst (-1), 1) := by decide +kernel
theorem dX12_aim_59 : decode cX12_aim 59 = .ok (.goto 5, 3) := by decide +kernel
theorem dX12_aim_62 : decode cX12_aim 62 = .ok (.iload 4, 2) := by decide +kernel
theorem dX12_aim_64 : decode cX12_aim 64 = .ok (.ireturn, 1) := by decide +kernel
theorem dX12_aim_65 : decode cX12_aim 65 = .ok (.iinc 3 1, 3) := by decide +kernel
theorem dX12_aim_68 : decode cX12_aim 68 = .ok (.goto (-41), 3) := by decide +kernel
theorem dX12_aim_71 : decode cX12_aim 71 = .ok (.bipush (-2), 2) := by decide +kernel
theorem dX12_aim_73 : decode cX12_aim 73 = .ok (.ireturn, 1) := by decide +kernel
theorem dX12_hush_0 : decode cX12_hush 0 = .ok (.aload_n 0, 1) := by decide +kernel
theorem dX12_hush_1 : decode cX12_hush 1 = .ok (.iconst 0, 1) := by decide +kernel
theorem dX12_hush_2 : decode cX12_hush 2 = .ok (.putfield 147, 3) := by decide +kernel
theorem dX12_hush_5 : decode cX12_hush 5 = .ok (.aload_n 0, 1) := by decide +kernel
theorem dX12_hush_6 : decode cX12_hush 6 = .ok (.iload_n 1, 1) := by decide +kernel
theorem dX12_hush_7 : decode cX12_hush 7 = .ok (.invokevirtual 398, 3) := by decide +kernel
theorem dX12_hush_10 : decode cX12_hush 10 = .ok (.ifCond .ne 5, 3) := by decide +kernel
theorem dX12_hush_13 : decode cX12_hush 13 = .ok (.iconst (-1), 1) := by decide +kernel
theorem dX12_hush_14 : decode cX12_hush 14 = .ok (.ireturn, 1) := by decide +kernel
theorem dX12_hush_15 : decode cX12_hush 15 = .ok (.iconst (-1), 1) := by decide +kernel
theorem dX12_hush_16 : decode cX12_hush 16 = .ok (.istore_n 2, 1) := by decide +kernel
theorem dX12_hush_17 : decode cX12_hush 17 = .ok (.iconst 0, 1) := by decide +kernel
theorem dX12_hush_18 : decode cX12_hush 18 = .ok (.istore_n 3, 1) := by decide +kernel
theorem dX12_hush_19 : decode cX12_hush 19 = .ok (.iload_n 3, 1) := by decide +kernel
theorem dX12_hush_20 : decode cX12_hush 20 = .ok (.aload_n 0, 1) := by decide +kernel
theorem dX12_hush_21 : decode cX12_hush 21 = .ok (.invokevirtual 423, 3) := by decide +kernel
theorem dX12_hush_24 : decode cX12_hush 24 = .ok (.if_icmp .gt 73, 3) := by decide +kernel
theorem dX12_hush_27 : decode cX12_hush 27 = .ok (.iload_n 2, 1) := by decide +kernel
theorem dX12_hush_28 : decode cX12_hush 28 = .ok (.ifCond .lt 17, 3) := by decide +kernel
theorem dX12_hush_31 : decode cX12_hush 31 = .ok (.iload_n 3, 1) := by decide +kernel
theorem dX12_hush_32 : decode cX12_hush 32 = .ok (.invokestatic 429, 3) := by decide +kernel
theorem dX12_hush_35 : decode cX12_hush 35 = .ok (.iload_n 2, 1) := by decide +kernel
theorem dX12_hush_36 : decode cX12_hush 36 = .ok (.invokestatic 429, 3) := by decide +kernel
theorem dX12_hush_39 : decode cX12_hush 39 = .ok (.if_icmp .lt 6, 3) := by decide +kernel
theorem dX12_hush_42 : decode cX12_hush 42 = .ok (.goto 49, 3) := by decide +kernel
theorem dX12_hush_45 : decode cX12_hush 45 = .ok (.aload_n 0, 1) := by decide +kernel
theorem dX12_hush_46 : decode cX12_hush 46 = .ok (.getfield 117, 3) := by decide +kernel
theorem dX12_hush_49 : decode cX12_hush 49 = .ok (.iconst 0, 1) := by decide +kernel
theorem dX12_hush_50 : decode cX12_hush 50 = .ok (.aload_n 0, 1) := by decide +kernel
theorem dX12_hush_51 : decode cX12_hush 51 = .ok (.getfield 123, 3) := by decide +kernel
theorem dX12_hush_54 : decode cX12_hush 54 = .ok (.iconst 0, 1) := by decide +kernel
theorem dX12_hush_55 : decode cX12_hush 55 = .ok (.invokestatic 401, 3) := by decide +kernel
theorem dX12_hush_58 : decode cX12_hush 58 = .ok (.aload_n 0, 1) := by decide +kernel
theorem dX12_hush_59 : decode cX12_hush 59 = .ok (.getfield 117, 3) := by decide +kernel
theorem dX12_hush_62 : decode cX12_hush 62 = .ok (.iconst 1, 1) := by decide +kernel
theorem dX12_hush_63 : decode cX12_hush 63 = .ok (.dup2, 1) := by decide +kernel
theorem dX12_hush_64 : decode cX12_hush 64 = .ok (.iaload, 1) := by decide +kernel
theorem dX12_hush_65 : decode cX12_hush 65 = .ok (.iload_n 3, 1) := by decide +kernel
theorem dX12_hush_66 : decode cX12_hush 66 = .ok (.ixor, 1) := by decide +kernel
theorem dX12_hush_67 : decode cX12_hush 67 = .ok (.iastore, 1) := by decide +kernel
theorem dX12_hush_68 : decode cX12_hush 68 = .ok (.aload_n 0, 1) := by decide +kernel
theorem dX12_hush_69 : decode cX12_hush 69 = .ok (.invokevirtual 408, 3) := by decide +kernel
theorem dX12_hush_72 : decode cX12_hush 72 = .ok (.iload_n 1, 1) := by decide +kernel
theorem dX12_hush_73 : decode cX12_hush 73 = .ok (.if_icmp .ne 5, 3) := by decide +kernel
theorem dX12_hush_76 : decode cX12_hush 76 = .ok (.iload_n 3, 1) := by decide +kernel
theorem dX12_hush_77 : decode cX12_hush 77 = .ok (.istore_n 2, 1) := by decide +kernel
theorem dX12_hush_78 : decode cX12_hush 78 = .ok (.aload_n 0, 1) := by decide +kernel
theorem dX12_hush_79 : decode cX12_hush 79 = .ok (.getfield 123, 3) := by decide +kernel
theorem dX12_hush_82 : decode cX12_hush 82 = .ok (.iconst 0, 1) := by decide +kernel
theorem dX12_hush_83 : decode cX12_hush 83 = .ok (.aload_n 0, 1) := by decide +kernel
theorem dX12_hush_84 : decode cX12_hush 84 = .ok (.getfield 117, 3) := by decide +kernel
theorem dX12_hush_87 : decode cX12_hush 87 = .ok (.iconst 0, 1) := by decide +kernel
theorem dX12_hush_88 : decode cX12_hush 88 = .ok (.invokestatic 401, 3) := by decide +kernel
theorem dX12_hush_91 : decode cX12_hush 91 = .ok (.iinc 3 1, 3) := by decide +kernel
theorem dX12_hush_94 : decode cX12_hush 94 = .ok (.goto (-75), 3) := by decide +kernel
theorem dX12_hush_97 : decode cX12_hush 97 = .ok (.iload_n 2, 1) := by decide +kernel
theorem dX12_hush_98 : decode cX12_hush 98 = .ok (.ireturn, 1) := by decide +kernel
theorem dX12_laysSounds_0 : decode cX12_laysSounds 0 = .ok (.aload_n 0, 1) := by decide +kernel
theorem dX12_laysSounds_1 : decode cX12_laysSounds 1 = .ok (.getfield 117, 3) := by decide +kernel
theorem dX12_laysSounds_4 : decode cX12_laysSounds 4 = .ok (.iconst 0, 1) := by decide +kernel
theorem dX12_laysSounds_5 : decode cX12_laysSounds 5 = .ok (.aload_n 0, 1) := by decide +kernel
theorem dX12_laysSounds_6 : decode cX12_laysSounds 6 = .ok (.getfield 123, 3) := by decide +kernel
theorem dX12_laysSounds_9 : decode cX12_laysSounds 9 = .ok (.iconst 0, 1) := by decide +kernel
theorem dX12_laysSounds_10 : decode cX12_laysSounds 10 = .ok (.invokestatic 401, 3) := by decide +kernel
theorem dX12_laysSounds_13 : decode cX12_laysSounds 13 = .ok (.iconst 0, 1) := by decide +kernel
theorem dX12_laysSounds_14 : decode cX12_laysSounds 14 = .ok (.istore_n 1, 1) := by decide +kernel
theorem dX12_laysSounds_15 : decode cX12_laysSounds 15 = .ok (.iload_n 1, 1) := by decide +kernel
theorem dX12_laysSounds_16 : decode cX12_laysSounds 16 = .ok (.bipush 10, 2) := by decide +kernel
theorem dX12_laysSounds_18 : decode cX12_laysSounds 18 = .ok (.if_icmp .ge 40, 3) := by decide +kernel
theorem dX12_laysSounds_21 : decode cX12_laysSounds 21 = .ok (.aload_n 0, 1) := by decide +kernel
theorem dX12_laysSounds_22 : decode cX12_laysSounds 22 = .ok (.iload_n 1, 1) := by decide +kernel
theorem dX12_laysSounds_23 : decode cX12_laysSounds 23 = .ok (.invokevirtual 392, 3) := by decide +kernel
theorem dX12_laysSounds_26 : decode cX12_laysSounds 26 = .ok (.pop, 1) := by decide +kernel
theorem dX12_laysSounds_27 : decode cX12_laysSounds 27 = .ok (.aload_n 0, 1) := by decide +kernel
theorem dX12_laysSounds_28 : decode cX12_laysSounds 28 = .ok (.getfield 141, 3) := by decide +kernel
theorem dX12_laysSounds_31 : decode cX12_laysSounds 31 = .ok (.iload_n 1, 1) := by decide +kernel
theorem dX12_laysSounds_32 : decode cX12_laysSounds 32 = .ok (.aload_n 0, 1) := by decide +kernel
theorem dX12_laysSounds_33 : decode cX12_laysSounds 33 = .ok (.getfield 117, 3) := by decide +kernel
theorem dX12_laysSounds_36 : decode cX12_laysSounds 36 = .ok (.iconst 2, 1) := by decide +kernel
theorem dX12_laysSounds_37 : decode cX12_laysSounds 37 = .ok (.iaload, 1) := by decide +kernel
theorem dX12_laysSounds_38 : decode cX12_laysSounds 38 = .ok (.iastore, 1) := by decide +kernel
theorem dX12_laysSounds_39 : decode cX12_laysSounds 39 = .ok (.aload_n 0, 1) := by decide +kernel
theorem dX12_laysSounds_40 : decode cX12_laysSounds 40 = .ok (.getfield 123, 3) := by decide +kernel
theorem dX12_laysSounds_43 : decode cX12_laysSounds 43 = .ok (.iconst 0, 1) := by decide +kernel
theorem dX12_laysSounds_44 : decode cX12_laysSounds 44 = .ok (.aload_n 0, 1) := by decide +kernel
theorem dX12_laysSounds_45 : decode cX12_laysSounds 45 = .ok (.getfield 117, 3) := by decide +kernel
theorem dX12_laysSounds_48 : decode cX12_laysSounds 48 = .ok (.iconst 0, 1) := by decide +kernel
theorem dX12_laysSounds_49 : decode cX12_laysSounds 49 = .ok (.invokestatic 401, 3) := by decide +kernel
theorem dX12_laysSounds_52 : decode cX12_laysSounds 52 = .ok (.iinc 1 1, 3) := by decide +kernel
theorem dX12_laysSounds_55 : decode cX12_laysSounds 55 = .ok (.goto (-40), 3) := by decide +kernel
theorem dX12_laysSounds_58 : decode cX12_laysSounds 58 = .ok (.return_, 1) := by decide +kernel
theorem dX12_see_0 : decode cX12_see 0 = .ok (.aload_n 0, 1) := by decide +kernel
theorem dX12_see_1 : decode cX12_see 1 = .ok (.iconst 0, 1) := by decide +kernel
theorem dX12_see_2 : decode cX12_see 2 = .ok (.putfield 147, 3) := by decide +kernel
theorem dX12_see_5 : decode cX12_see 5 = .ok (.aload_n 0, 1) := by decide +kernel
theorem dX12_see_6 : decode cX12_see 6 = .ok (.iload_n 1, 1) := by decide +kernel
theorem dX12_see_7 : decode cX12_see 7 = .ok (.invokevirtual 395, 3) := by decide +kernel
theorem dX12_see_10 : decode cX12_see 10 = .ok (.ifCond .eq 14, 3) := by decide +kernel
theorem dX12_see_13 : decode cX12_see 13 = .ok (.aload_n 0, 1) := by decide +kernel
theorem dX12_see_14 : decode cX12_see 14 = .ok (.getfield 108, 3) := by decide +kernel
theorem dX12_see_17 : decode cX12_see 17 = .ok (.iconst 0, 1) := by decide +kernel
theorem dX12_see_18 : decode cX12_see 18 = .ok (.iaload, 1) := by decide +kernel
theorem dX12_see_19 : decode cX12_see 19 = .ok (.bipush 8, 2) := by decide +kernel
theorem dX12_see_21 : decode cX12_see 21 = .ok (.if_icmp .ne 5, 3) := by decide +kernel
theorem dX12_see_24 : decode cX12_see 24 = .ok (.iconst 0, 1) := by decide +kernel
theorem dX12_see_25 : decode cX12_see 25 = .ok (.ireturn, 1) := by decide +kernel
theorem dX12_see_26 : decode cX12_see 26 = .ok (.aload_n 0, 1) := by decide +kernel
theorem dX12_see_27 : decode cX12_see 27 = .ok (.getfield 111, 3) := by decide +kernel
theorem dX12_see_30 : decode cX12_see 30 = .ok (.aload_n 0, 1) := by decide +kernel
theorem dX12_see_31 : decode cX12_see 31 = .ok (.getfield 108, 3) := by decide +kernel
theorem dX12_see_34 : decode cX12_see 34 = .ok (.iconst 0, 1) := by decide +kernel
theorem dX12_see_35 : decode cX12_see 35 = .ok (.iaload, 1) := by decide +kernel
theorem dX12_see_36 : decode cX12_see 36 = .ok (.iload_n 1, 1) := by decide +kernel
theorem dX12_see_37 : decode cX12_see 37 = .ok (.iastore, 1) := by decide +kernel
theorem dX12_see_38 : decode cX12_see 38 = .ok (.aload_n 0, 1) := by decide +kernel
theorem dX12_see_39 : decode cX12_see 39 = .ok (.getfield 114, 3) := by decide +kernel
theorem dX12_see_42 : decode cX12_see 42 = .ok (.aload_n 0, 1) := by decide +kernel
theorem dX12_see_43 : decode cX12_see 43 = .ok (.getfield 108, 3) := by decide +kernel
theorem dX12_see_46 : decode cX12_see 46 = .ok (.iconst 0, 1) := by decide +kernel
theorem dX12_see_47 : decode cX12_see 47 = .ok (.iaload, 1) := by decide +kernel
theorem dX12_see_48 : decode cX12_see 48 = .ok (.iload_n 2, 1) := by decide +kernel
theorem dX12_see_49 : decode cX12_see 49 = .ok (.bastore, 1) := by decide +kernel
theorem dX12_see_50 : decode cX12_see 50 = .ok (.aload_n 0, 1) := by decide +kernel
theorem dX12_see_51 : decode cX12_see 51 = .ok (.getfield 108, 3) := by decide +kernel
theorem dX12_see_54 : decode cX12_see 54 = .ok (.iconst 0, 1) := by decide +kernel
theorem dX12_see_55 : decode cX12_see 55 = .ok (.dup2, 1) := by decide +kernel
theorem dX12_see_56 : decode cX12_see 56 = .ok (.iaload, 1) := by decide +kernel
theorem dX12_see_57 : decode cX12_see 57 = .ok (.iconst 1, 1) := by decide +kernel
theorem dX12_see_58 : decode cX12_see 58 = .ok (.iadd, 1) := by decide +kernel
theorem dX12_see_59 : decode cX12_see 59 = .ok (.iastore, 1) := by decide +kernel
theorem dX12_see_60 : decode cX12_see 60 = .ok (.iconst 1, 1) := by decide +kernel
theorem dX12_see_61 : decode cX12_see 61 = .ok (.ireturn, 1) := by decide +kernel
theorem dX12_isAsSeen_0 : decode cX12_isAsSeen 0 = .ok (.iconst 0, 1) := by decide +kernel
theorem dX12_isAsSeen_1 : decode cX12_isAsSeen 1 = .ok (.istore_n 2, 1) := by decide +kernel
theorem dX12_isAsSeen_2 : decode cX12_isAsSeen 2 = .ok (.iload_n 2, 1) := by decide +kernel
theorem dX12_isAsSeen_3 : decode cX12_isAsSeen 3 = .ok (.aload_n 0, 1) := by decide +kernel
theorem dX12_isAsSeen_4 : decode cX12_isAsSeen 4 = .ok (.getfield 108, 3) := by decide +kernel
theorem dX12_isAsSeen_7 : decode cX12_isAsSeen 7 = .ok (.iconst 0, 1) := by decide +kernel
theorem dX12_isAsSeen_8 : decode cX12_isAsSeen 8 = .ok (.iaload, 1) := by decide +kernel
theorem dX12_isAsSeen_9 : decode cX12_isAsSeen 9 = .ok (.if_icmp .ge 44, 3) := by decide +kernel
theorem dX12_isAsSeen_12 : decode cX12_isAsSeen 12 = .ok (.aload_n 0, 1) := by decide +kernel
theorem dX12_isAsSeen_13 : decode cX12_isAsSeen 13 = .ok (.getfield 141, 3) := by decide +kernel
theorem dX12_isAsSeen_16 : decode cX12_isAsSeen 16 = .ok (.iload_n 1, 1) := by decide +kernel
theorem dX12_isAsSeen_17 : decode cX12_isAsSeen 17 = .ok (.iaload, 1) := by decide +kernel
theorem dX12_isAsSeen_18 : decode cX12_isAsSeen 18 = .ok (.aload_n 0, 1) := by decide +kernel
theorem dX12_isAsSeen_19 : decode cX12_isAsSeen 19 = .ok (.getfield 111, 3) := by decide +kernel
theorem dX12_isAsSeen_22 : decode cX12_isAsSeen 22 = .ok (.iload_n 2, 1) := by decide +kernel
theorem dX12_isAsSeen_23 : decode cX12_isAsSeen 23 = .ok (.iaload, 1) := by decide +kernel
theorem dX12_isAsSeen_24 : decode cX12_isAsSeen 24 = .ok (.ishr, 1) := by decide +kernel
theorem dX12_isAsSeen_25 : decode cX12_isAsSeen 25 = .ok (.iconst 1, 1) := by decide +kernel
theorem dX12_isAsSeen_26 : decode cX12_isAsSeen 26 = .ok (.iand, 1) := by decide +kernel
theorem dX12_isAsSeen_27 : decode cX12_isAsSeen 27 = .ok (.iconst 1, 1) := by decide +kernel
theorem dX12_isAsSeen_28 : decode cX12_isAsSeen 28 = .ok (.if_icmp .ne 7, 3) := by decide +kernel
theorem dX12_isAsSeen_31 : decode cX12_isAsSeen 31 = .ok (.iconst 1, 1) := by decide +kernel
theorem dX12_isAsSeen_32 : decode cX12_isAsSeen 32 = .ok (.goto 4, 3) := by decide +kernel
theorem dX12_isAsSeen_35 : decode cX12_isAsSeen 35 = .ok (.iconst 0, 1) := by decide +kernel
theorem dX12_isAsSeen_36 : decode cX12_isAsSeen 36 = .ok (.aload_n 0, 1) := by decide +kernel
theorem dX12_isAsSeen_37 : decode cX12_isAsSeen 37 = .ok (.getfield 114, 3) := by decide +kernel
theorem dX12_isAsSeen_40 : decode cX12_isAsSeen 40 = .ok (.iload_n 2, 1) := by decide +kernel
theorem dX12_isAsSeen_41 : decode cX12_isAsSeen 41 = .ok (.baload, 1) := by decide +kernel
theorem dX12_isAsSeen_42 : decode cX12_isAsSeen 42 = .ok (.if_icmp .eq 5, 3) := by decide +kernel
theorem dX12_isAsSeen_45 : decode cX12_isAsSeen 45 = .ok (.iconst 0, 1) := by decide +kernel
theorem dX12_isAsSeen_46 : decode cX12_isAsSeen 46 = .ok (.ireturn, 1) := by decide +kernel
theorem dX12_isAsSeen_47 : decode cX12_isAsSeen 47 = .ok (.iinc 2 1, 3) := by decide +kernel
theorem dX12_isAsSeen_50 : decode cX12_isAsSeen 50 = .ok (.goto (-48), 3) := by decide +kernel
theorem dX12_isAsSeen_53 : decode cX12_isAsSeen 53 = .ok (.iconst 1, 1) := by decide +kernel
theorem dX12_isAsSeen_54 : decode cX12_isAsSeen 54 = .ok (.ireturn, 1) := by decide +kernel
theorem dX12_rains_0 : decode cX12_rains 0 = .ok (.aload_n 0, 1) := by decide +kernel
theorem dX12_rains_1 : decode cX12_rains 1 = .ok (.iconst 0, 1) := by decide +kernel
theorem dX12_rains_2 : decode cX12_rains 2 = .ok (.putfield 147, 3) := by decide +kernel
theorem dX12_rains_5 : decode cX12_rains 5 = .ok (.aload_n 0, 1) := by decide +kernel
theorem dX12_rains_6 : decode cX12_rains 6 = .ok (.invokevirtual 448, 3) := by decide +kernel
theorem dX12_rains_9 : decode cX12_rains 9 = .ok (.iconst 0, 1) := by decide +kernel
theorem dX12_rains_10 : decode cX12_rains 10 = .ok (.istore_n 1, 1) := by decide +kernel
theorem dX12_rains_11 : decode cX12_rains 11 = .ok (.iconst 0, 1) := by decide +kernel
theorem dX12_rains_12 : decode cX12_rains 12 = .ok (.istore_n 2, 1) := by decide +kernel
theorem dX12_rains_13 : decode cX12_rains 13 = .ok (.iload_n 2, 1) := by decide +kernel
theorem dX12_rains_14 : decode cX12_rains 14 = .ok (.bipush 10, 2) := by decide +kernel
theorem dX12_rains_16 : decode cX12_rains 16 = .ok (.if_icmp .ge 27, 3) := by decide +kernel
theorem dX12_rains_19 : decode cX12_rains 19 = .ok (.iload_n 1, 1) := by decide +kernel
theorem dX12_rains_20 : decode cX12_rains 20 = .ok (.aload_n 0, 1) := by decide +kernel
theorem dX12_rains_21 : decode cX12_rains 21 = .ok (.iload_n 2, 1) := by decide +kernel
theorem dX12_rains_22 : decode cX12_rains 22 = .ok (.invokevirtual 451, 3) := by decide +kernel
theorem dX12_rains_25 : decode cX12_rains 25 = .ok (.ifCond .eq 9, 3) := by decide +kernel
theorem dX12_rains_28 : decode cX12_rains 28 = .ok (.iconst 1, 1) := by decide +kernel
theorem dX12_rains_29 : decode cX12_rains 29 = .ok (.iload_n 2, 1) := by decide +kernel
theorem dX12_rains_30 : decode cX12_rains 30 = .ok (.ishl, 1) := by decide +kernel
theorem dX12_rains_31 : decode cX12_rains 31 = .ok (.goto 4, 3) := by decide +kernel
theorem dX12_rains_34 : decode cX12_rains 34 = .ok (.iconst 0, 1) := by decide +kernel
theorem dX12_rains_35 : decode cX12_rains 35 = .ok (.ior, 1) := by decide +kernel
theorem dX12_rains_36 : decode cX12_rains 36 = .ok (.istore_n 1, 1) := by decide +kernel
theorem dX12_rains_37 : decode cX12_rains 37 = .ok (.iinc 2 1, 3) := by decide +kernel
theorem dX12_rains_40 : decode cX12_rains 40 = .ok (.goto (-27), 3) := by decide +kernel
theorem dX12_rains_43 : decode cX12_rains 43 = .ok (.iload_n 1, 1) := by decide +kernel
theorem dX12_rains_44 : decode cX12_rains 44 = .ok (.ireturn, 1) := by decide +kernel
theorem dX12_look_0 : decode cX12_look 0 = .ok (.aload_n 0, 1) := by decide +kernel
theorem dX12_look_1 : decode cX12_look 1 = .ok (.iconst 0, 1) := by decide +kernel
theorem dX12_look_2 : decode cX12_look 2 = .ok (.putfield 147, 3) := by decide +kernel
theorem dX12_look_5 : decode cX12_look 5 = .ok (.aload_n 0, 1) := by decide +kernel
theorem dX12_look_6 : decode cX12_look 6 = .ok (.invokevirtual 454, 3) := by decide +kernel
theorem dX12_look_9 : decode cX12_look 9 = .ok (.istore_n 1, 1) := by decide +kernel
theorem dX12_look_10 : decode cX12_look 10 = .ok (.iload_n 1, 1) := by decide +kernel
theorem dX12_look_11 : decode cX12_look 11 = .ok (.invokestatic 429, 3) := by decide +kernel
theorem dX12_look_14 : decode cX12_look 14 = .ok (.istore_n 2, 1) := by decide +kernel
theorem dX12_look_15 : decode cX12_look 15 = .ok (.iload_n 2, 1) := by decide +kernel
theorem dX12_look_16 : decode cX12_look 16 = .ok (.istore_n 3, 1) := by decide +kernel
theorem dX12_look_17 : decode cX12_look 17 = .ok (.iconst (-1), 1) := by decide +kernel
theorem dX12_look_18 : decode cX12_look 18 = .ok (.istore 4, 2) := by decide +kernel
theorem dX12_look_20 : decode cX12_look 20 = .ok (.iconst 0, 1) := by decide +kernel
theorem dX12_look_21 : decode cX12_look 21 = .ok (.istore 5, 2) := by decide +kernel
theorem dX12_look_23 : decode cX12_look 23 = .ok (.iload 5, 2) := by decide +kernel
theorem dX12_look_25 : decode cX12_look 25 = .ok (.aload_n 0, 1) := by decide +kernel
theorem dX12_look_26 : decode cX12_look 26 = .ok (.getfield 13, 3) := by decide +kernel
theorem dX12_look_29 : decode cX12_look 29 = .ok (.iconst 0, 1) := by decide +kernel
theorem dX12_look_30 : decode cX12_look 30 = .ok (.iaload, 1) := by decide +kernel
theorem dX12_look_31 : decode cX12_look 31 = .ok (.if_icmp .ge 91, 3) := by decide +kernel
theorem dX12_look_34 : decode cX12_look 34 = .ok (.iconst 0, 1) := by decide +kernel
theorem dX12_look_35 : decode cX12_look 35 = .ok (.istore 6, 2) := by decide +kernel
theorem dX12_look_37 : decode cX12_look 37 = .ok (.iconst 0, 1) := by decide +kernel
theorem dX12_look_38 : decode cX12_look 38 = .ok (.istore 7, 2) := by decide +kernel
theorem dX12_look_40 : decode cX12_look 40 = .ok (.iload 7, 2) := by decide +kernel
theorem dX12_look_42 : decode cX12_look 42 = .ok (.bipush 10, 2) := by decide +kernel
theorem dX12_look_44 : decode cX12_look 44 = .ok (.if_icmp .ge 45, 3) := by decide +kernel
theorem dX12_look_47 : decode cX12_look 47 = .ok (.iload 6, 2) := by decide +kernel
theorem dX12_look_49 : decode cX12_look 49 = .ok (.iload_n 1, 1) := by decide +kernel
theorem dX12_look_50 : decode cX12_look 50 = .ok (.iload 7, 2) := by decide +kernel
theorem dX12_look_52 : decode cX12_look 52 = .ok (.ishr, 1) := by decide +kernel
theorem dX12_look_53 : decode cX12_look 53 = .ok (.iconst 1, 1) := by decide +kernel
theorem dX12_look_54 : decode cX12_look 54 = .ok (.iand, 1) := by decide +kernel
theorem dX12_look_55 : decode cX12_look 55 = .ok (.iconst 1, 1) := by decide +kernel
theorem dX12_look_56 : decode cX12_look 56 = .ok (.if_icmp .ne 23, 3) := by decide +kernel
theorem dX12_look_59 : decode cX12_look 59 = .ok (.aload_n 0, 1) := by decide +kernel
theorem dX12_look_60 : decode cX12_look 60 = .ok (.getfield 141, 3) := by decide +kernel
theorem dX12_look_63 : decode cX12_look 63 = .ok (.iload 7, 2) := by decide +kernel
theorem dX12_look_65 : decode cX12_look 65 = .ok (.iaload, 1) := by decide +kernel
theorem dX12_look_66 : decode cX12_look 66 = .ok (.iload 5, 2) := by decide +kernel
theorem dX12_look_68 : decode cX12_look 68 = .ok (.ishr, 1) := by decide +kernel
theorem dX12_look_69 : decode cX12_look 69 = .ok (.iconst 1, 1) := by decide +kernel
theorem dX12_look_70 : decode cX12_look 70 = .ok (.iand, 1) := by decide +kernel
theorem dX12_look_71 : decode cX12_look 71 = .ok (.iconst 1, 1) := by decide +kernel
theorem dX12_look_72 : decode cX12_look 72 = .ok (.if_icmp .ne 7, 3) := by decide +kernel
theorem dX12_look_75 : decode cX12_look 75 = .ok (.iconst 1, 1) := by decide +kernel
theorem dX12_look_76 : decode cX12_look 76 = .ok (.goto 4, 3) := by decide +kernel
theorem dX12_look_79 : decode cX12_look 79 = .ok (.iconst 0, 1) := by decide +kernel
theorem dX12_look_80 : decode cX12_look 80 = .ok (.iadd, 1) := by decide +kernel
theorem dX12_look_81 : decode cX12_look 81 = .ok (.istore 6, 2) := by decide +kernel
theorem dX12_look_83 : decode cX12_look 83 = .ok (.iinc 7 1, 3) := by decide +kernel
theorem dX12_look_86 : decode cX12_look 86 = .ok (.goto (-46), 3) := by decide +kernel
theorem dX12_look_89 : decode cX12_look 89 = .ok (.iload 6, 2) := by decide +kernel
theorem dX12_look_91 : decode cX12_look 91 = .ok (.iload_n 2, 1) := by decide +kernel
theorem dX12_look_92 : decode cX12_look 92 = .ok (.iload 6, 2) := by decide +kernel
theorem dX12_look_94 : decode cX12_look 94 = .ok (.isub, 1) := by decide +kernel
theorem dX12_look_95 : decode cX12_look 95 = .ok (.invokestatic 435, 3) := by decide +kernel
theorem dX12_look_98 : decode cX12_look 98 = .ok (.istore 6, 2) := by decide +kernel
theorem dX12_look_100 : decode cX12_look 100 = .ok (.iload 6, 2) := by decide +kernel
theorem dX12_look_102 : decode cX12_look 102 = .ok (.iload_n 3, 1) := by decide +kernel
theorem dX12_look_103 : decode cX12_look 103 = .ok (.if_icmp .lt 6, 3) := by decide +kernel
theorem dX12_look_106 : decode cX12_look 106 = .ok (.goto 10, 3) := by decide +kernel
theorem dX12_look_109 : decode cX12_look 109 = .ok (.iload 6, 2) := by decide +kernel
theorem dX12_look_111 : decode cX12_look 111 = .ok (.istore_n 3, 1) := by decide +kernel
theorem dX12_look_112 : decode cX12_look 112 = .ok (.iload 5, 2) := by decide +kernel
theorem dX12_look_114 : decode cX12_look 114 = .ok (.istore 4, 2) := by decide +kernel
theorem dX12_look_116 : decode cX12_look 116 = .ok (.iinc 5 1, 3) := by decide +kernel
theorem dX12_look_119 : decode cX12_look 119 = .ok (.goto (-96), 3) := by decide +kernel
theorem dX12_look_122 : decode cX12_look 122 = .ok (.iload 4, 2) := by decide +kernel
theorem dX12_look_124 : decode cX12_look 124 = .ok (.ireturn, 1) := by decide +kernel
theorem dX12_chance_0 : decode cX12_chance 0 = .ok (.aload_n 0, 1) := by decide +kernel
theorem dX12_chance_1 : decode cX12_chance 1 = .ok (.iconst 0, 1) := by decide +kernel
theorem dX12_chance_2 : decode cX12_chance 2 = .ok (.putfield 147, 3) := by decide +kernel
theorem dX12_chance_5 : decode cX12_chance 5 = .ok (.aload_n 0, 1) := by decide +kernel
theorem dX12_chance_6 : decode cX12_chance 6 = .ok (.iload_n 1, 1) := by decide +kernel
theorem dX12_chance_7 : decode cX12_chance 7 = .ok (.invokevirtual 398, 3) := by decide +kernel
theorem dX12_chance_10 : decode cX12_chance 10 = .ok (.ifCond .eq 23, 3) := by decide +kernel
theorem dX12_chance_13 : decode cX12_chance 13 = .ok (.iload_n 2, 1) := by decide +kernel
theorem dX12_chance_14 : decode cX12_chance 14 = .ok (.iconst 1, 1) := by decide +kernel
theorem dX12_chance_15 : decode cX12_chance 15 = .ok (.bipush 6, 2) := by decide +kernel
theorem dX12_chance_17 : decode cX12_chance 17 = .ok (.invokestatic 268, 3) := by decide +kernel
theorem dX12_chance_20 : decode cX12_chance 20 = .ok (.ifCond .eq 13, 3) := by decide +kernel
theorem dX12_chance_23 : decode cX12_chance 23 = .ok (.iload_n 3, 1) := by decide +kernel
theorem dX12_chance_24 : decode cX12_chance 24 = .ok (.iconst 0, 1) := by decide +kernel
theorem dX12_chance_25 : decode cX12_chance 25 = .ok (.bipush 10, 2) := by decide +kernel
theorem dX12_chance_27 : decode cX12_chance 27 = .ok (.invokestatic 268, 3) := by decide +kernel
theorem dX12_chance_30 : decode cX12_chance 30 = .ok (.ifCond .ne 5, 3) := by decide +kernel
theorem dX12_chance_33 : decode cX12_chance 33 = .ok (.iconst (-1), 1) := by decide +kernel
theorem dX12_chance_34 : decode cX12_chance 34 = .ok (.ireturn, 1) := by decide +kernel
theorem dX12_chance_35 : decode cX12_chance 35 = .ok (.lconst 0, 1) := by decide +kernel
theorem dX12_chance_36 : decode cX12_chance 36 = .ok (.lstore 4, 2) := by decide +kernel
theorem dX12_chance_38 : decode cX12_chance 38 = .ok (.lconst 1, 1) := by decide +kernel
theorem dX12_chance_39 : decode cX12_chance 39 = .ok (.lstore 6, 2) := by decide +kernel
theorem dX12_chance_41 : decode cX12_chance 41 = .ok (.iconst 0, 1) := by decide +kernel
theorem dX12_chance_42 : decode cX12_chance 42 = .ok (.istore 8, 2) := by decide +kernel
theorem dX12_chance_44 : decode cX12_chance 44 = .ok (.iload 8, 2) := by decide +kernel
theorem dX12_chance_46 : decode cX12_chance 46 = .ok (.iload_n 2, 1) := by decide +kernel
theorem dX12_chance_47 : decode cX12_chance 47 = .ok (.if_icmp .ge 17, 3) := by decide +kernel
theorem dX12_chance_50 : decode cX12_chance 50 = .ok (.lload 6, 2) := by decide +kernel
theorem dX12_chance_52 : decode cX12_chance 52 = .ok (.ldc2_w 457, 3) := by decide +kernel
theorem dX12_chance_55 : decode cX12_chance 55 = .ok (.lmul, 1) := by decide +kernel
theorem dX12_chance_56 : decode cX12_chance 56 = .ok (.lstore 6, 2) := by decide +kernel
theorem dX12_chance_58 : decode cX12_chance 58 = .ok (.iinc 8 1, 3) := by decide +kernel
theorem dX12_chance_61 : decode cX12_chance 61 = .ok (.goto (-17), 3) := by decide +kernel
theorem dX12_chance_64 : decode cX12_chance 64 = .ok (.aload_n 0, 1) := by decide +kernel
theorem dX12_chance_65 : decode cX12_chance 65 = .ok (.getfield 117, 3) := by decide +kernel
theorem dX12_chance_68 : decode cX12_chance 68 = .ok (.iconst 0, 1) := by decide +kernel
theorem dX12_chance_69 : decode cX12_chance 69 = .ok (.aload_n 0, 1) := by decide +kernel
theorem dX12_chance_70 : decode cX12_chance 70 = .ok (.getfield 123, 3) := by decide +kernel
theorem dX12_chance_73 : decode cX12_chance 73 = .ok (.iconst 0, 1) := by decide +kernel
theorem dX12_chance_74 : decode cX12_chance 74 = .ok (.invokestatic 401, 3) := by decide +kernel
theorem dX12_chance_77 : decode cX12_chance 77 = .ok (.iconst 0, 1) := by decide +kernel
theorem dX12_chance_78 : decode cX12_chance 78 = .ok (.istore 8, 2) := by decide +kernel
theorem dX12_chance_80 : decode cX12_chance 80 = .ok (.iload 8, 2) := by decide +kernel
theorem dX12_chance_82 : decode cX12_chance 82 = .ok (.iconst 1, 1) := by decide +kernel
theorem dX12_chance_83 : decode cX12_chance 83 = .ok (.iload_n 2, 1) := by decide +kernel
theorem dX12_chance_84 : decode cX12_chance 84 = .ok (.ishl, 1) := by decide +kernel
theorem dX12_chance_85 : decode cX12_chance 85 = .ok (.if_icmp .ge 111, 3) := by decide +kernel
theorem dX12_chance_88 : decode cX12_chance 88 = .ok (.lconst 1, 1) := by decide +kernel
theorem dX12_chance_89 : decode cX12_chance 89 = .ok (.lstore 9, 2) := by decide +kernel
theorem dX12_chance_91 : decode cX12_chance 91 = .ok (.iconst (-1), 1) := by decide +kernel
theorem dX12_chance_92 : decode cX12_chance 92 = .ok (.istore 11, 2) := by decide +kernel
theorem dX12_chance_94 : decode cX12_chance 94 = .ok (.iconst 0, 1) := by decide +kernel
theorem dX12_chance_95 : decode cX12_chance 95 = .ok (.istore 12, 2) := by decide +kernel
theorem dX12_chance_97 : decode cX12_chance 97 = .ok (.iload 12, 2) := by decide +kernel
theorem dX12_chance_99 : decode cX12_chance 99 = .ok (.iload_n 2, 1) := by decide +kernel
theorem dX12_chance_100 : decode cX12_chance 100 = .ok (.if_icmp .ge 64, 3) := by decide +kernel
theorem dX12_chance_103 : decode cX12_chance 103 = .ok (.iload 8, 2) := by decide +kernel
theorem dX12_chance_105 : decode cX12_chance 105 = .ok (.iload 12, 2) := by decide +kernel
theorem dX12_chance_107 : decode cX12_chance 107 = .ok (.ishr, 1) := by decide +kernel
theorem dX12_chance_108 : decode cX12_chance 108 = .ok (.iconst 1, 1) := by decide +kernel
theorem dX12_chance_109 : decode cX12_chance 109 = .ok (.iand, 1) := by decide +kernel
theorem dX12_chance_110 : decode cX12_chance 110 = .ok (.iconst 1, 1) := by decide +kernel
theorem dX12_chance_111 : decode cX12_chance 111 = .ok (.if_icmp .ne 7, 3) := by decide +kernel
theorem dX12_chance_114 : decode cX12_chance 114 = .ok (.iconst 1, 1) := by decide +kernel
theorem dX12_chance_115 : decode cX12_chance 115 = .ok (.goto 4, 3) := by decide +kernel
theorem dX12_chance_118 : decode cX12_chance 118 = .ok (.iconst 0, 1) := by decide +kernel
theorem dX12_chance_119 : decode cX12_chance 119 = .ok (.istore 13, 2) := by decide +kernel
theorem dX12_chance_121 : decode cX12_chance 121 = .ok (.lload 9, 2) := by decide +kernel
theorem dX12_chance_123 : decode cX12_chance 123 = .ok (.iload 13, 2) := by decide +kernel
theorem dX12_chance_125 : decode cX12_chance 125 = .ok (.ifCond .eq 8, 3) := by decide +kernel
theorem dX12_chance_128 : decode cX12_chance 128 = .ok (.iload_n 3, 1) := by decide +kernel
theorem dX12_chance_129 : decode cX12_chance 129 = .ok (.i2l, 1) := by decide +kernel
theorem dX12_chance_130 : decode cX12_chance 130 = .ok (.goto 8, 3) := by decide +kernel
theorem dX12_chance_133 : decode cX12_chance 133 = .ok (.bipush 10, 2) := by decide +kernel
theorem dX12_chance_135 : decode cX12_chance 135 = .ok (.iload_n 3, 1) := by decide +kernel
theorem dX12_chance_136 : decode cX12_chance 136 = .ok (.isub, 1) := by decide +kernel
theorem dX12_chance_137 : decode cX12_chance 137 = .ok (.i2l, 1) := by decide +kernel
theorem dX12_chance_138 : decode cX12_chance 138 = .ok (.lmul, 1) := by decide +kernel
theorem dX12_chance_139 : decode cX12_chance 139 = .ok (.lstore 9, 2) := by decide +kernel
theorem dX12_chance_141 : decode cX12_chance 141 = .ok (.aload_n 0, 1) := by decide +kernel
theorem dX12_chance_142 : decode cX12_chance 142 = .ok (.iload 13, 2) := by decide +kernel
theorem dX12_chance_144 : decode cX12_chance 144 = .ok (.ifCond .eq 8, 3) := by decide +kernel
theorem dX12_chance_147 : decode cX12_chance 147 = .ok (.bipush 9, 2) := by decide +kernel
theorem dX12_chance_149 : decode cX12_chance 149 = .ok (.goto 4, 3) := by decide +kernel
theorem dX12_chance_152 : decode cX12_chance 152 = .ok (.iconst 0, 1) := by decide +kernel
theorem dX12_chance_153 : decode cX12_chance 153 = .ok (.invokevirtual 392, 3) := by decide +kernel
theorem dX12_chance_156 : decode cX12_chance 156 = .ok (.istore 11, 2) := by decide +kernel
theorem dX12_chance_158 : decode cX12_chance 158 = .ok (.iinc 12 1, 3) := by decide +kernel
theorem dX12_chance_161 : decode cX12_chance 161 = .ok (.goto (-64), 3) := by decide +kernel
theorem dX12_chance_164 : decode cX12_chance 164 = .ok (.iload 11, 2) := by decide +kernel
theorem dX12_chance_166 : decode cX12_chance 166 = .ok (.iload_n 1, 1) := by decide +kernel
theorem dX12_chance_167 : decode cX12_chance 167 = .ok (.if_icmp .ne 10, 3) := by decide +kernel
theorem dX12_chance_170 : decode cX12_chance 170 = .ok (.lload 4, 2) := by decide +kernel
theorem dX12_chance_172 : decode cX12_chance 172 = .ok (.lload 9, 2) := by decide +kernel
theorem dX12_chance_174 : decode cX12_chance 174 = .ok (.ladd, 1) := by decide +kernel
theorem dX12_chance_175 : decode cX12_chance 175 = .ok (.lstore 4, 2) := by decide +kernel
theorem dX12_chance_177 : decode cX12_chance 177 = .ok (.aload_n 0, 1) := by decide +kernel
theorem dX12_chance_178 : decode cX12_chance 178 = .ok (.getfield 123, 3) := by decide +kernel
theorem dX12_chance_181 : decode cX12_chance 181 = .ok (.iconst 0, 1) := by decide +kernel
theorem dX12_chance_182 : decode cX12_chance 182 = .ok (.aload_n 0, 1) := by decide +kernel
theorem dX12_chance_183 : decode cX12_chance 183 = .ok (.getfield 117, 3) := by decide +kernel
theorem dX12_chance_186 : decode cX12_chance 186 = .ok (.iconst 0, 1) := by decide +kernel
theorem dX12_chance_187 : decode cX12_chance 187 = .ok (.invokestatic 401, 3) := by decide +kernel
theorem dX12_chance_190 : decode cX12_chance 190 = .ok (.iinc 8 1, 3) := by decide +kernel
theorem dX12_chance_193 : decode cX12_chance 193 = .ok (.goto (-113), 3) := by decide +kernel
theorem dX12_chance_196 : decode cX12_chance 196 = .ok (.lload 4, 2) := by decide +kernel
theorem dX12_chance_198 : decode cX12_chance 198 = .ok (.ldc2_w 459, 3) := by decide +kernel
theorem dX12_chance_201 : decode cX12_chance 201 = .ok (.lmul, 1) := by decide +kernel
theorem dX12_chance_202 : decode cX12_chance 202 = .ok (.lload 6, 2) := by decide +kernel
theorem dX12_chance_204 : decode cX12_chance 204 = .ok (.ldiv, 1) := by decide +kernel
theorem dX12_chance_205 : decode cX12_chance 205 = .ok (.l2i, 1) := by decide +kernel
theorem dX12_chance_206 : decode cX12_chance 206 = .ok (.ireturn, 1) := by decide +kernel
theorem dX12_getsBy_0 : decode cX12_getsBy 0 = .ok (.iload_n 3, 1) := by decide +kernel
theorem dX12_getsBy_1 : decode cX12_getsBy 1 = .ok (.iconst 1, 1) := by decide +kernel
theorem dX12_getsBy_2 : decode cX12_getsBy 2 = .ok (.if_icmp .ne 18, 3) := by decide +kernel
theorem dX12_getsBy_5 : decode cX12_getsBy 5 = .ok (.iload 4, 2) := by decide +kernel
theorem dX12_getsBy_7 : decode cX12_getsBy 7 = .ok (.iconst 1, 1) := by decide +kernel
theorem dX12_getsBy_8 : decode cX12_getsBy 8 = .ok (.if_icmp .ne 8, 3) := by decide +kernel
theorem dX12_getsBy_11 : decode cX12_getsBy 11 = .ok (.iload_n 0, 1) := by decide +kernel
theorem dX12_getsBy_12 : decode cX12_getsBy 12 = .ok (.ineg, 1) := by decide +kernel
theorem dX12_getsBy_13 : decode cX12_getsBy 13 = .ok (.goto 18, 3) := by decide +kernel
theorem dX12_getsBy_16 : decode cX12_getsBy 16 = .ok (.iload_n 1, 1) := by decide +kernel
theorem dX12_getsBy_17 : decode cX12_getsBy 17 = .ok (.goto 14, 3) := by decide +kernel
theorem dX12_getsBy_20 : decode cX12_getsBy 20 = .ok (.iload 4, 2) := by decide +kernel
theorem dX12_getsBy_22 : decode cX12_getsBy 22 = .ok (.iconst 1, 1) := by decide +kernel
theorem dX12_getsBy_23 : decode cX12_getsBy 23 = .ok (.if_icmp .ne 7, 3) := by decide +kernel
theorem dX12_getsBy_26 : decode cX12_getsBy 26 = .ok (.iload_n 2, 1) := by decide +kernel
theorem dX12_getsBy_27 : decode cX12_getsBy 27 = .ok (.goto 4, 3) := by decide +kernel
theorem dX12_getsBy_30 : decode cX12_getsBy 30 = .ok (.iconst 0, 1) := by decide +kernel
theorem dX12_getsBy_31 : decode cX12_getsBy 31 = .ok (.ireturn, 1) := by decide +kernel
theorem dX12_rests_0 : decode cX12_rests 0 = .ok (.aload_n 0, 1) := by decide +kernel
theorem dX12_rests_1 : decode cX12_rests 1 = .ok (.iload_n 1, 1) := by decide +kernel
theorem dX12_rests_2 : decode cX12_rests 2 = .ok (.iconst 0, 1) := by decide +kernel
theorem dX12_rests_3 : decode cX12_rests 3 = .ok (.bipush 9, 2) := by decide +kernel
theorem dX12_rests_5 : decode cX12_rests 5 = .ok (.invokestatic 268, 3) := by decide +kernel
theorem dX12_rests_8 : decode cX12_rests 8 = .ok (.ifCond .eq 33, 3) := by decide +kernel
theorem dX12_rests_11 : decode cX12_rests 11 = .ok (.iload_n 2, 1) := by decide +kernel
theorem dX12_rests_12 : decode cX12_rests 12 = .ok (.iconst 0, 1) := by decide +kernel
theorem dX12_rests_13 : decode cX12_rests 13 = .ok (.bipush 9, 2) := by decide +kernel
theorem dX12_rests_15 : decode cX12_rests 15 = .ok (.invokestatic 268, 3) := by decide +kernel
theorem dX12_rests_18 : decode cX12_rests 18 = .ok (.ifCond .eq 23, 3) := by decide +kernel
theorem dX12_rests_21 : decode cX12_rests 21 = .ok (.iload_n 3, 1) := by decide +kernel
theorem dX12_rests_22 : decode cX12_rests 22 = .ok (.iconst 0, 1) := by decide +kernel
theorem dX12_rests_23 : decode cX12_rests 23 = .ok (.bipush 9, 2) := by decide +kernel
theorem dX12_rests_25 : decode cX12_rests 25 = .ok (.invokestatic 268, 3) := by decide +kernel
theorem dX12_rests_28 : decode cX12_rests 28 = .ok (.ifCond .eq 13, 3) := by decide +kernel
theorem dX12_rests_31 : decode cX12_rests 31 = .ok (.iload 4, 2) := by decide +kernel
theorem dX12_rests_33 : decode cX12_rests 33 = .ok (.iconst (-1), 1) := by decide +kernel
theorem dX12_rests_34 : decode cX12_rests 34 = .ok (.if_icmp .lt 7, 3) := by decide +kernel
theorem dX12_rests_37 : decode cX12_rests 37 = .ok (.iconst 0, 1) := by decide +kernel
theorem dX12_rests_38 : decode cX12_rests 38 = .ok (.goto 4, 3) := by decide +kernel
theorem dX12_rests_41 : decode cX12_rests 41 = .ok (.iconst 1, 1) := by decide +kernel
theorem dX12_rests_42 : decode cX12_rests 42 = .ok (.putfield 147, 3) := by decide +kernel
theorem dX12_rests_45 : decode cX12_rests 45 = .ok (.aload_n 0, 1) := by decide +kernel
theorem dX12_rests_46 : decode cX12_rests 46 = .ok (.getfield 147, 3) := by decide +kernel
theorem dX12_rests_49 : decode cX12_rests 49 = .ok (.iconst 1, 1) := by decide +kernel
theorem dX12_rests_50 : decode cX12_rests 50 = .ok (.if_icmp .ne 5, 3) := by decide +kernel
theorem dX12_rests_53 : decode cX12_rests 53 = .ok (.iconst 0, 1) := by decide +kernel
theorem dX12_rests_54 : decode cX12_rests 54 = .ok (.ireturn, 1) := by decide +kernel
theorem dX12_rests_55 : decode cX12_rests 55 = .ok (.iconst 0, 1) := by decide +kernel
theorem dX12_rests_56 : decode cX12_rests 56 = .ok (.istore 5, 2) := by decide +kernel
theorem dX12_rests_58 : decode cX12_rests 58 = .ok (.iconst 0, 1) := by decide +kernel
theorem dX12_rests_59 : decode cX12_rests 59 = .ok (.istore 6, 2) := by decide +kernel
theorem dX12_rests_61 : decode cX12_rests 61 = .ok (.iload 6, 2) := by decide +kernel
theorem dX12_rests_63 : decode cX12_rests 63 = .ok (.iconst 4, 1) := by decide +kernel
theorem dX12_rests_64 : decode cX12_rests 64 = .ok (.if_icmp .ge 87, 3) := by decide +kernel
theorem dX12_rests_67 : decode cX12_rests 67 = .ok (.iload 6, 2) := by decide +kernel
theorem dX12_rests_69 : decode cX12_rests 69 = .ok (.iconst 2, 1) := by decide +kernel
theorem dX12_rests_70 : decode cX12_rests 70 = .ok (.idiv, 1) := by decide +kernel
theorem dX12_rests_71 : decode cX12_rests 71 = .ok (.istore 7, 2) := by decide +kernel
theorem dX12_rests_73 : decode cX12_rests 73 = .ok (.iload 6, 2) := by decide +kernel
theorem dX12_rests_75 : decode cX12_rests 75 = .ok (.iconst 2, 1) := by decide +kernel
theorem dX12_rests_76 : decode cX12_rests 76 = .ok (.irem, 1) := by decide +kernel
theorem dX12_rests_77 : decode cX12_rests 77 = .ok (.istore 8, 2) := by decide +kernel
theorem dX12_rests_79 : decode cX12_rests 79 = .ok (.iload_n 1, 1) := by decide +kernel
theorem dX12_rests_80 : decode cX12_rests 80 = .ok (.iload_n 2, 1) := by decide +kernel
theorem dX12_rests_81 : decode cX12_rests 81 = .ok (.iload_n 3, 1) := by decide +kernel
theorem dX12_rests_82 : decode cX12_rests 82 = .ok (.iconst 1, 1) := by decide +kernel
theorem dX12_rests_83 : decode cX12_rests 83 = .ok (.iload 7, 2) := by decide +kernel
theorem dX12_rests_85 : decode cX12_rests 85 = .ok (.isub, 1) := by decide +kernel
theorem dX12_rests_86 : decode cX12_rests 86 = .ok (.iload 8, 2) := by decide +kernel
theorem dX12_rests_88 : decode cX12_rests 88 = .ok (.invokestatic 461, 3) := by decide +kernel
theorem dX12_rests_91 : decode cX12_rests 91 = .ok (.iload_n 1, 1) := by decide +kernel
theorem dX12_rests_92 : decode cX12_rests 92 = .ok (.iload_n 2, 1) := by decide +kernel
theorem dX12_rests_93 : decode cX12_rests 93 = .ok (.iload_n 3, 1) := by decide +kernel
theorem dX12_rests_94 : decode cX12_rests 94 = .ok (.iload 7, 2) := by decide +kernel
theorem dX12_rests_96 : decode cX12_rests 96 = .ok (.iload 8, 2) := by decide +kernel
theorem dX12_rests_98 : decode cX12_rests 98 = .ok (.invokestatic 461, 3) := by decide +kernel
theorem dX12_rests_101 : decode cX12_rests 101 = .ok (.if_icmp .gt 44, 3) := by decide +kernel
theorem dX12_rests_104 : decode cX12_rests 104 = .ok (.iload_n 1, 1) := by decide +kernel
theorem dX12_rests_105 : decode cX12_rests 105 = .ok (.iload_n 2, 1) := by decide +kernel
theorem dX12_rests_106 : decode cX12_rests 106 = .ok (.iload_n 3, 1) := by decide +kernel
theorem dX12_rests_107 : decode cX12_rests 107 = .ok (.iconst 1, 1) := by decide +kernel
theorem dX12_rests_108 : decode cX12_rests 108 = .ok (.iload 8, 2) := by decide +kernel
theorem dX12_rests_110 : decode cX12_rests 110 = .ok (.isub, 1) := by decide +kernel
theorem dX12_rests_111 : decode cX12_rests 111 = .ok (.iload 7, 2) := by decide +kernel
theorem dX12_rests_113 : decode cX12_rests 113 = .ok (.invokestatic 461, 3) := by decide +kernel
theorem dX12_rests_116 : decode cX12_rests 116 = .ok (.iload_n 1, 1) := by decide +kernel
theorem dX12_rests_117 : decode cX12_rests 117 = .ok (.iload_n 2, 1) := by decide +kernel
theorem dX12_rests_118 : decode cX12_rests 118 = .ok (.iload_n 3, 1) := by decide +kernel
theorem dX12_rests_119 : decode cX12_rests 119 = .ok (.iload 8, 2) := by decide +kernel
theorem dX12_rests_121 : decode cX12_rests 121 = .ok (.iload 7, 2) := by decide +kernel
theorem dX12_rests_123 : decode cX12_rests 123 = .ok (.invokestatic 461, 3) := by decide +kernel
theorem dX12_rests_126 : decode cX12_rests 126 = .ok (.if_icmp .le 6, 3) := by decide +kernel
theorem dX12_rests_129 : decode cX12_rests 129 = .ok (.goto 16, 3) := by decide +kernel
theorem dX12_rests_132 : decode cX12_rests 132 = .ok (.iload 5, 2) := by decide +kernel
theorem dX12_rests_134 : decode cX12_rests 134 = .ok (.iload 4, 2) := by decide +kernel
theorem dX12_rests_136 : decode cX12_rests 136 = .ok (.if_icmp .ne 6, 3) := by decide +kernel
theorem dX12_rests_139 : decode cX12_rests 139 = .ok (.iload 6, 2) := by decide +kernel
theorem dX12_rests_141 : decode cX12_rests 141 = .ok (.ireturn, 1) := by decide +kernel
theorem dX12_rests_142 : decode cX12_rests 142 = .ok (.iinc 5 1, 3) := by decide +kernel
theorem dX12_rests_145 : decode cX12_rests 145 = .ok (.iinc 6 1, 3) := by decide +kernel
theorem dX12_rests_148 : decode cX12_rests 148 = .ok (.goto (-87), 3) := by decide +kernel
theorem dX12_rests_151 : decode cX12_rests 151 = .ok (.aload_n 0, 1) := by decide +kernel
theorem dX12_rests_152 : decode cX12_rests 152 = .ok (.iload 4, 2) := by decide +kernel
theorem dX12_rests_154 : decode cX12_rests 154 = .ok (.iconst (-1), 1) := by decide +kernel
theorem dX12_rests_155 : decode cX12_rests 155 = .ok (.if_icmp .ne 7, 3) := by decide +kernel
theorem dX12_rests_158 : decode cX12_rests 158 = .ok (.iconst 0, 1) := by decide +kernel
theorem dX12_rests_159 : decode cX12_rests 159 = .ok (.goto 4, 3) := by decide +kernel
theorem dX12_rests_162 : decode cX12_rests 162 = .ok (.iconst 1, 1) := by decide +kernel
theorem dX12_rests_163 : decode cX12_rests 163 = .ok (.putfield 147, 3) := by decide +kernel
theorem dX12_rests_166 : decode cX12_rests 166 = .ok (.iload 4, 2) := by decide +kernel
theorem dX12_rests_168 : decode cX12_rests 168 = .ok (.iconst (-1), 1) := by decide +kernel
theorem dX12_rests_169 : decode cX12_rests 169 = .ok (.if_icmp .ne 8, 3) := by decide +kernel
theorem dX12_rests_172 : decode cX12_rests 172 = .ok (.iload 5, 2) := by decide +kernel
theorem dX12_rests_174 : decode cX12_rests 174 = .ok (.goto 4, 3) := by decide +kernel
theorem dX12_rests_177 : decode cX12_rests 177 = .ok (.iconst 0, 1) := by decide +kernel
theorem dX12_rests_178 : decode cX12_rests 178 = .ok (.ireturn, 1) := by decide +kernel
theorem dX12_draws_0 : decode cX12_draws 0 = .ok (.aload_n 0, 1) := by decide +kernel
theorem dX12_draws_1 : decode cX12_draws 1 = .ok (.aload_n 0, 1) := by decide +kernel
theorem dX12_draws_2 : decode cX12_draws 2 = .ok (.getfield 465, 3) := by decide +kernel
theorem dX12_draws_5 : decode cX12_draws 5 = .ok (.ldc2_w 468, 3) := by decide +kernel
theorem dX12_draws_8 : decode cX12_draws 8 = .ok (.lmul, 1) := by decide +kernel
theorem dX12_draws_9 : decode cX12_draws 9 = .ok (.ldc2_w 470, 3) := by decide +kernel
theorem dX12_draws_12 : decode cX12_draws 12 = .ok (.ladd, 1) := by decide +kernel
theorem dX12_draws_13 : decode cX12_draws 13 = .ok (.ldc2_w 472, 3) := by decide +kernel
theorem dX12_draws_16 : decode cX12_draws 16 = .ok (.lrem, 1) := by decide +kernel
theorem dX12_draws_17 : decode cX12_draws 17 = .ok (.putfield 465, 3) := by decide +kernel
theorem dX12_draws_20 : decode cX12_draws 20 = .ok (.aload_n 0, 1) := by decide +kernel
theorem dX12_draws_21 : decode cX12_draws 21 = .ok (.getfield 465, 3) := by decide +kernel
theorem dX12_draws_24 : decode cX12_draws 24 = .ok (.ldc2_w 474, 3) := by decide +kernel
theorem dX12_draws_27 : decode cX12_draws 27 = .ok (.ldiv, 1) := by decide +kernel
theorem dX12_draws_28 : decode cX12_draws 28 = .ok (.iload_n 1, 1) := by decide +kernel
theorem dX12_draws_29 : decode cX12_draws 29 = .ok (.i2l, 1) := by decide +kernel
theorem dX12_draws_30 : decode cX12_draws 30 = .ok (.lrem, 1) := by decide +kernel
theorem dX12_draws_31 : decode cX12_draws 31 = .ok (.l2i, 1) := by decide +kernel
theorem dX12_draws_32 : decode cX12_draws 32 = .ok (.ireturn, 1) := by decide +kernel
theorem dX12_livesMinute_0 : decode cX12_livesMinute 0 = .ok (.aload_n 0, 1) := by decide +kernel
theorem dX12_livesMinute_1 : decode cX12_livesMinute 1 = .ok (.getfield 13, 3) := by decide +kernel
theorem dX12_livesMinute_4 : decode cX12_livesMinute 4 = .ok (.iconst 0, 1) := by decide +kernel
theorem dX12_livesMinute_5 : decode cX12_livesMinute 5 = .ok (.iaload, 1) := by decide +kernel
theorem dX12_livesMinute_6 : decode cX12_livesMinute 6 = .ok (.ifCond .le 73, 3) := by decide +kernel
theorem dX12_livesMinute_9 : decode cX12_livesMinute 9 = .ok (.aload_n 0, 1) := by decide +kernel
theorem dX12_livesMinute_10 : decode cX12_livesMinute 10 = .ok (.aload_n 0, 1) := by decide +kernel
theorem dX12_livesMinute_11 : decode cX12_livesMinute 11 = .ok (.getfield 13, 3) := by decide +kernel
theorem dX12_livesMinute_14 : decode cX12_livesMinute 14 = .ok (.iconst 0, 1) := by decide +kernel
theorem dX12_livesMinute_15 : decode cX12_livesMinute 15 = .ok (.iaload, 1) := by decide +kernel
theorem dX12_livesMinute_16 : decode cX12_livesMinute 16 = .ok (.invokevirtual 476, 3) := by decide +kernel
theorem dX12_livesMinute_19 : decode cX12_livesMinute 19 = .ok (.istore_n 1, 1) := by decide +kernel
theorem dX12_livesMinute_20 : decode cX12_livesMinute 20 = .ok (.aload_n 0, 1) := by decide +kernel
theorem dX12_livesMinute_21 : decode cX12_livesMinute 21 = .ok (.iconst 5, 1) := by decide +kernel
theorem dX12_livesMinute_22 : decode cX12_livesMinute 22 = .ok (.invokevirtual 476, 3) := by decide +kernel
theorem dX12_livesMinute_25 : decode cX12_livesMinute 25 = .ok (.istore_n 2, 1) := by decide +kernel
theorem dX12_livesMinute_26 : decode cX12_livesMinute 26 = .ok (.iload_n 2, 1) := by decide +kernel
theorem dX12_livesMinute_27 : decode cX12_livesMinute 27 = .ok (.ifCond .ne 16, 3) := by decide +kernel
theorem dX12_livesMinute_30 : decode cX12_livesMinute 30 = .ok (.aload_n 0, 1) := by decide +kernel
theorem dX12_livesMinute_31 : decode cX12_livesMinute 31 = .ok (.iload_n 1, 1) := by decide +kernel
theorem dX12_livesMinute_32 : decode cX12_livesMinute 32 = .ok (.aload_n 0, 1) := by decide +kernel
theorem dX12_livesMinute_33 : decode cX12_livesMinute 33 = .ok (.bipush 9, 2) := by decide +kernel
theorem dX12_livesMinute_35 : decode cX12_livesMinute 35 = .ok (.invokevirtual 476, 3) := by decide +kernel
theorem dX12_livesMinute_38 : decode cX12_livesMinute 38 = .ok (.iconst 1, 1) := by decide +kernel
theorem dX12_livesMinute_39 : decode cX12_livesMinute 39 = .ok (.iadd, 1) := by decide +kernel
theorem dX12_livesMinute_40 : decode cX12_livesMinute 40 = .ok (.invokevirtual 411, 3) := by decide +kernel
theorem dX12_livesMinute_43 : decode cX12_livesMinute 43 = .ok (.iload_n 2, 1) := by decide +kernel
theorem dX12_livesMinute_44 : decode cX12_livesMinute 44 = .ok (.iconst 1, 1) := by decide +kernel
theorem dX12_livesMinute_45 : decode cX12_livesMinute 45 = .ok (.if_icmp .ne 15, 3) := by decide +kernel
theorem dX12_livesMinute_48 : decode cX12_livesMinute 48 = .ok (.aload_n 0, 1) := by decide +kernel
theorem dX12_livesMinute_49 : decode cX12_livesMinute 49 = .ok (.getfield 117, 3) := by decide +kernel
theorem dX12_livesMinute_52 : decode cX12_livesMinute 52 = .ok (.iconst 1, 1) := by decide +kernel
theorem dX12_livesMinute_53 : decode cX12_livesMinute 53 = .ok (.dup2, 1) := by decide +kernel
theorem dX12_livesMinute_54 : decode cX12_livesMinute 54 = .ok (.iaload, 1) := by decide +kernel
theorem dX12_livesMinute_55 : decode cX12_livesMinute 55 = .ok (.iconst 1, 1) := by decide +kernel
theorem dX12_livesMinute_56 : decode cX12_livesMinute 56 = .ok (.iload_n 1, 1) := by decide +kernel
theorem dX12_livesMinute_57 : decode cX12_livesMinute 57 = .ok (.ishl, 1) := by decide +kernel
theorem dX12_livesMinute_58 : decode cX12_livesMinute 58 = .ok (.ior, 1) := by decide +kernel
theorem dX12_livesMinute_59 : decode cX12_livesMinute 59 = .ok (.iastore, 1) := by decide +kernel
theorem dX12_livesMinute_60 : decode cX12_livesMinute 60 = .ok (.iload_n 2, 1) := by decide +kernel
theorem dX12_livesMinute_61 : decode cX12_livesMinute 61 = .ok (.iconst 2, 1) := by decide +kernel
theorem dX12_livesMinute_62 : decode cX12_livesMinute 62 = .ok (.if_icmp .ne 17, 3) := by decide +kernel
theorem dX12_livesMinute_65 : decode cX12_livesMinute 65 = .ok (.aload_n 0, 1) := by decide +kernel
theorem dX12_livesMinute_66 : decode cX12_livesMinute 66 = .ok (.getfield 117, 3) := by decide +kernel
theorem dX12_livesMinute_69 : decode cX12_livesMinute 69 = .ok (.iconst 1, 1) := by decide +kernel
theorem dX12_livesMinute_70 : decode cX12_livesMinute 70 = .ok (.dup2, 1) := by decide +kernel
theorem dX12_livesMinute_71 : decode cX12_livesMinute 71 = .ok (.iaload, 1) := by decide +kernel
theorem dX12_livesMinute_72 : decode cX12_livesMinute 72 = .ok (.iconst 1, 1) := by decide +kernel
theorem dX12_livesMinute_73 : decode cX12_livesMinute 73 = .ok (.iload_n 1, 1) := by decide +kernel
theorem dX12_livesMinute_74 : decode cX12_livesMinute 74 = .ok (.ishl, 1) := by decide +kernel
theorem dX12_livesMinute_75 : decode cX12_livesMinute 75 = .ok (.iconst (-1), 1) := by decide +kernel
theorem dX12_livesMinute_76 : decode cX12_livesMinute 76 = .ok (.ixor, 1) := by decide +kernel
theorem dX12_livesMinute_77 : decode cX12_livesMinute 77 = .ok (.iand, 1) := by decide +kernel
theorem dX12_livesMinute_78 : decode cX12_livesMinute 78 = .ok (.iastore, 1) := by decide +kernel
theorem dX12_livesMinute_79 : decode cX12_livesMinute 79 = .ok (.aload_n 0, 1) := by decide +kernel
theorem dX12_livesMinute_80 : decode cX12_livesMinute 80 = .ok (.invokevirtual 408, 3) := by decide +kernel
theorem dX12_livesMinute_83 : decode cX12_livesMinute 83 = .ok (.ireturn, 1) := by decide +kernel
theorem dX12_days_0 : decode cX12_days 0 = .ok (.aload_n 0, 1) := by decide +kernel
theorem dX12_days_1 : decode cX12_days 1 = .ok (.iconst 0, 1) := by decide +kernel
theorem dX12_days_2 : decode cX12_days 2 = .ok (.putfield 147, 3) := by decide +kernel
theorem dX12_days_5 : decode cX12_days 5 = .ok (.iload_n 1, 1) := by decide +kernel
theorem dX12_days_6 : decode cX12_days 6 = .ok (.iconst 0, 1) := by decide +kernel
theorem dX12_days_7 : decode cX12_days 7 = .ok (.sipush 9999, 3) := by decide +kernel
theorem dX12_days_10 : decode cX12_days 10 = .ok (.invokestatic 268, 3) := by decide +kernel
theorem dX12_days_13 : decode cX12_days 13 = .ok (.ifCond .eq 22, 3) := by decide +kernel
theorem dX12_days_16 : decode cX12_days 16 = .ok (.iload_n 2, 1) := by decide +kernel
theorem dX12_days_17 : decode cX12_days 17 = .ok (.iconst 1, 1) := by decide +kernel
theorem dX12_days_18 : decode cX12_days 18 = .ok (.bipush 99, 2) := by decide +kernel
theorem dX12_days_20 : decode cX12_days 20 = .ok (.invokestatic 268, 3) := by decide +kernel
theorem dX12_days_23 : decode cX12_days 23 = .ok (.ifCond .eq 12, 3) := by decide +kernel
theorem dX12_days_26 : decode cX12_days 26 = .ok (.iload_n 3, 1) := by decide +kernel
theorem dX12_days_27 : decode cX12_days 27 = .ok (.iconst 0, 1) := by decide +kernel
theorem dX12_days_28 : decode cX12_days 28 = .ok (.iconst 2, 1) := by decide +kernel
theorem dX12_days_29 : decode cX12_days 29 = .ok (.invokestatic 268, 3) := by decide +kernel
theorem dX12_days_32 : decode cX12_days 32 = .ok (.ifCond .ne 5, 3) := by decide +kernel
theorem dX12_days_35 : decode cX12_days 35 = .ok (.iconst (-1), 1) := by decide +kernel
theorem dX12_days_36 : decode cX12_days 36 = .ok (.ireturn, 1) := by decide +kernel
theorem dX12_days_37 : decode cX12_days 37 = .ok (.aload_n 0, 1) := by decide +kernel
theorem dX12_days_38 : decode cX12_days 38 = .ok (.iload_n 1, 1) := by decide +kernel
theorem dX12_days_39 : decode cX12_days 39 = .ok (.i2l, 1) := by decide +kernel
theorem dX12_days_40 : decode cX12_days 40 = .ok (.putfield 465, 3) := by decide +kernel
theorem dX12_days_43 : decode cX12_days 43 = .ok (.aload_n 0, 1) := by decide +kernel
theorem dX12_days_44 : decode cX12_days 44 = .ok (.getfield 117, 3) := by decide +kernel
theorem dX12_days_47 : decode cX12_days 47 = .ok (.iconst 0, 1) := by decide +kernel
theorem dX12_days_48 : decode cX12_days 48 = .ok (.aload_n 0, 1) := by decide +kernel
theorem dX12_days_49 : decode cX12_days 49 = .ok (.getfield 120, 3) := by decide +kernel
theorem dX12_days_52 : decode cX12_days 52 = .ok (.iconst 0, 1) := by decide +kernel
theorem dX12_days_53 : decode cX12_days 53 = .ok (.invokestatic 401, 3) := by decide +kernel
theorem dX12_days_56 : decode cX12_days 56 = .ok (.iconst 0, 1) := by decide +kernel
theorem dX12_days_57 : decode cX12_days 57 = .ok (.istore 4, 2) := by decide +kernel
theorem dX12_days_59 : decode cX12_days 59 = .ok (.iconst 0, 1) := by decide +kernel
theorem dX12_days_60 : decode cX12_days 60 = .ok (.istore 5, 2) := by decide +kernel
theorem dX12_days_62 : decode cX12_days 62 = .ok (.iconst 0, 1) := by decide +kernel
theorem dX12_days_63 : decode cX12_days 63 = .ok (.istore 6, 2) := by decide +kernel
theorem dX12_days_65 : decode cX12_days 65 = .ok (.iload 6, 2) := by decide +kernel
theorem dX12_days_67 : decode cX12_days 67 = .ok (.iload_n 2, 1) := by decide +kernel
theorem dX12_days_68 : decode cX12_days 68 = .ok (.if_icmp .ge 54, 3) := by decide +kernel
theorem dX12_days_71 : decode cX12_days 71 = .ok (.aload_n 0, 1) := by decide +kernel
theorem dX12_days_72 : decode cX12_days 72 = .ok (.invokevirtual 479, 3) := by decide +kernel
theorem dX12_days_75 : decode cX12_days 75 = .ok (.istore 7, 2) := by decide +kernel
theorem dX12_days_77 : decode cX12_days 77 = .ok (.iload 4, 2) := by decide +kernel
theorem dX12_days_79 : decode cX12_days 79 = .ok (.iload 7, 2) := by decide +kernel
theorem dX12_days_81 : decode cX12_days 81 = .ok (.ifCond .lt 14, 3) := by decide +kernel
theorem dX12_days_84 : decode cX12_days 84 = .ok (.iload 7, 2) := by decide +kernel
theorem dX12_days_86 : decode cX12_days 86 = .ok (.bipush 6, 2) := by decide +kernel
theorem dX12_days_88 : decode cX12_days 88 = .ok (.if_icmp .eq 7, 3) := by decide +kernel
theorem dX12_days_91 : decode cX12_days 91 = .ok (.iconst 1, 1) := by decide +kernel
theorem dX12_days_92 : decode cX12_days 92 = .ok (.goto 4, 3) := by decide +kernel
theorem dX12_days_95 : decode cX12_days 95 = .ok (.iconst 0, 1) := by decide +kernel
theorem dX12_days_96 : decode cX12_days 96 = .ok (.iadd, 1) := by decide +kernel
theorem dX12_days_97 : decode cX12_days 97 = .ok (.istore 4, 2) := by decide +kernel
theorem dX12_days_99 : decode cX12_days 99 = .ok (.iload 5, 2) := by decide +kernel
theorem dX12_days_101 : decode cX12_days 101 = .ok (.iload 7, 2) := by decide +kernel
theorem dX12_days_103 : decode cX12_days 103 = .ok (.bipush 6, 2) := by decide +kernel
theorem dX12_days_105 : decode cX12_days 105 = .ok (.if_icmp .ne 7, 3) := by decide +kernel
theorem dX12_days_108 : decode cX12_days 108 = .ok (.iconst 1, 1) := by decide +kernel
theorem dX12_days_109 : decode cX12_days 109 = .ok (.goto 4, 3) := by decide +kernel
theorem dX12_days_112 : decode cX12_days 112 = .ok (.iconst 0, 1) := by decide +kernel
theorem dX12_days_113 : decode cX12_days 113 = .ok (.iadd, 1) := by decide +kernel
theorem dX12_days_114 : decode cX12_days 114 = .ok (.istore 5, 2) := by decide +kernel
theorem dX12_days_116 : decode cX12_days 116 = .ok (.iinc 6 1, 3) := by decide +kernel
theorem dX12_days_119 : decode cX12_days 119 = .ok (.goto (-54), 3) := by decide +kernel
theorem dX12_days_122 : decode cX12_days 122 = .ok (.aload_n 0, 1) := by decide +kernel
theorem dX12_days_123 : decode cX12_days 123 = .ok (.invokevirtual 417, 3) := by decide +kernel
theorem dX12_days_126 : decode cX12_days 126 = .ok (.istore 6, 2) := by decide +kernel
theorem dX12_days_128 : decode cX12_days 128 = .ok (.aload_n 0, 1) := by decide +kernel
theorem dX12_days_129 : decode cX12_days 129 = .ok (.getfield 120, 3) := by decide +kernel
theorem dX12_days_132 : decode cX12_days 132 = .ok (.iconst 0, 1) := by decide +kernel
theorem dX12_days_133 : decode cX12_days 133 = .ok (.aload_n 0, 1) := by decide +kernel
theorem dX12_days_134 : decode cX12_days 134 = .ok (.getfield 117, 3) := by decide +kernel
theorem dX12_days_137 : decode cX12_days 137 = .ok (.iconst 0, 1) := by decide +kernel
theorem dX12_days_138 : decode cX12_days 138 = .ok (.invokestatic 401, 3) := by decide +kernel
theorem dX12_days_141 : decode cX12_days 141 = .ok (.iload_n 3, 1) := by decide +kernel
theorem dX12_days_142 : decode cX12_days 142 = .ok (.ifCond .ne 8, 3) := by decide +kernel
theorem dX12_days_145 : decode cX12_days 145 = .ok (.iload 4, 2) := by decide +kernel
theorem dX12_days_147 : decode cX12_days 147 = .ok (.goto 15, 3) := by decide +kernel
theorem dX12_days_150 : decode cX12_days 150 = .ok (.iload_n 3, 1) := by decide +kernel
theorem dX12_days_151 : decode cX12_days 151 = .ok (.iconst 1, 1) := by decide +kernel
theorem dX12_days_152 : decode cX12_days 152 = .ok (.if_icmp .ne 8, 3) := by decide +kernel
theorem dX12_days_155 : decode cX12_days 155 = .ok (.iload 5, 2) := by decide +kernel
theorem dX12_days_157 : decode cX12_days 157 = .ok (.goto 5, 3) := by decide +kernel
theorem dX12_days_160 : decode cX12_days 160 = .ok (.iload 6, 2) := by decide +kernel
theorem dX12_days_162 : decode cX12_days 162 = .ok (.ireturn, 1) := by decide +kernel
theorem dX12_mark_0 : decode cX12_mark 0 = .ok (.aload_n 0, 1) := by decide +kernel
theorem dX12_mark_1 : decode cX12_mark 1 = .ok (.iconst 0, 1) := by decide +kernel
theorem dX12_mark_2 : decode cX12_mark 2 = .ok (.putfield 147, 3) := by decide +kernel
theorem dX12_mark_5 : decode cX12_mark 5 = .ok (.iload_n 1, 1) := by decide +kernel
theorem dX12_mark_6 : decode cX12_mark 6 = .ok (.iconst 0, 1) := by decide +kernel
theorem dX12_mark_7 : decode cX12_mark 7 = .ok (.iconst 3, 1) := by decide +kernel
theorem dX12_mark_8 : decode cX12_mark 8 = .ok (.invokestatic 268, 3) := by decide +kernel
theorem dX12_mark_11 : decode cX12_mark 11 = .ok (.ifCond .eq 16, 3) := by decide +kernel
theorem dX12_mark_14 : decode cX12_mark 14 = .ok (.iload_n 2, 1) := by decide +kernel
theorem dX12_mark_15 : decode cX12_mark 15 = .ok (.ifCond .eq 14, 3) := by decide +kernel
theorem dX12_mark_18 : decode cX12_mark 18 = .ok (.aload_n 0, 1) := by decide +kernel
theorem dX12_mark_19 : decode cX12_mark 19 = .ok (.getfield 132, 3) := by decide +kernel
theorem dX12_mark_22 : decode cX12_mark 22 = .ok (.iload_n 1, 1) := by decide +kernel
theorem dX12_mark_23 : decode cX12_mark 23 = .ok (.baload, 1) := by decide +kernel
theorem dX12_mark_24 : decode cX12_mark 24 = .ok (.ifCond .ne 5, 3) := by decide +kernel
theorem dX12_mark_27 : decode cX12_mark 27 = .ok (.iconst 0, 1) := by decide +kernel
theorem dX12_mark_28 : decode cX12_mark 28 = .ok (.ireturn, 1) := by decide +kernel
theorem dX12_mark_29 : decode cX12_mark 29 = .ok (.aload_n 0, 1) := by decide +kernel
theorem dX12_mark_30 : decode cX12_mark 30 = .ok (.getfield 132, 3) := by decide +kernel
theorem dX12_mark_33 : decode cX12_mark 33 = .ok (.iload_n 1, 1) := by decide +kernel
theorem dX12_mark_34 : decode cX12_mark 34 = .ok (.iconst 1, 1) := by decide +kernel
theorem dX12_mark_35 : decode cX12_mark 35 = .ok (.bastore, 1) := by decide +kernel
theorem dX12_mark_36 : decode cX12_mark 36 = .ok (.iload_n 2, 1) := by decide +kernel
theorem dX12_mark_37 : decode cX12_mark 37 = .ok (.ifCond .eq 9, 3) := by decide +kernel
theorem dX12_mark_40 : decode cX12_mark 40 = .ok (.iconst 1, 1) := by decide +kernel
theorem dX12_mark_41 : decode cX12_mark 41 = .ok (.iload_n 1, 1) := by decide +kernel
theorem dX12_mark_42 : decode cX12_mark 42 = .ok (.iadd, 1) := by decide +kernel
theorem dX12_mark_43 : decode cX12_mark 43 = .ok (.goto 4, 3) := by decide +kernel
theorem dX12_mark_46 : decode cX12_mark 46 = .ok (.iconst 0, 1) := by decide +kernel
theorem dX12_mark_47 : decode cX12_mark 47 = .ok (.istore_n 3, 1) := by decide +kernel
theorem dX12_mark_48 : decode cX12_mark 48 = .ok (.iload_n 2, 1) := by decide +kernel
theorem dX12_mark_49 : decode cX12_mark 49 = .ok (.ifCond .eq 7, 3) := by decide +kernel
theorem dX12_mark_52 : decode cX12_mark 52 = .ok (.iconst 0, 1) := by decide +kernel
theorem dX12_mark_53 : decode cX12_mark 53 = .ok (.goto 6, 3) := by decide +kernel
theorem dX12_mark_56 : decode cX12_mark 56 = .ok (.iconst 1, 1) := by decide +kernel
theorem dX12_mark_57 : decode cX12_mark 57 = .ok (.iload_n 1, 1) := by decide +kernel
theorem dX12_mark_58 : decode cX12_mark 58 = .ok (.iadd, 1) := by decide +kernel
theorem dX12_mark_59 : decode cX12_mark 59 = .ok (.istore 4, 2) := by decide +kernel
theorem dX12_mark_61 : decode cX12_mark 61 = .ok (.aload_n 0, 1) := by decide +kernel
theorem dX12_mark_62 : decode cX12_mark 62 = .ok (.iload_n 3, 1) := by decide +kernel
theorem dX12_mark_63 : decode cX12_mark 63 = .ok (.iload 4, 2) := by decide +kernel
theorem dX12_mark_65 : decode cX12_mark 65 = .ok (.invokevirtual 349, 3) := by decide +kernel
theorem dX12_mark_68 : decode cX12_mark 68 = .ok (.aload_n 0, 1) := by decide +kernel
theorem dX12_mark_69 : decode cX12_mark 69 = .ok (.iload_n 3, 1) := by decide +kernel
theorem dX12_mark_70 : decode cX12_mark 70 = .ok (.iload 4, 2) := by decide +kernel
theorem dX12_mark_72 : decode cX12_mark 72 = .ok (.invokevirtual 356, 3) := by decide +kernel
theorem dX12_mark_75 : decode cX12_mark 75 = .ok (.aload_n 0, 1) := by decide +kernel
theorem dX12_mark_76 : decode cX12_mark 76 = .ok (.iload_n 3, 1) := by decide +kernel
theorem dX12_mark_77 : decode cX12_mark 77 = .ok (.iload 4, 2) := by decide +kernel
theorem dX12_mark_79 : decode cX12_mark 79 = .ok (.invokevirtual 482, 3) := by decide +kernel
theorem dX12_mark_82 : decode cX12_mark 82 = .ok (.iload_n 2, 1) := by decide +kernel
theorem dX12_mark_83 : decode cX12_mark 83 = .ok (.ifCond .eq 27, 3) := by decide +kernel
theorem dX12_mark_86 : decode cX12_mark 86 = .ok (.aload_n 0, 1) := by decide +kernel
theorem dX12_mark_87 : decode cX12_mark 87 = .ok (.getfield 126, 3) := by decide +kernel
theorem dX12_mark_90 : decode cX12_mark 90 = .ok (.bipush 59, 2) := by decide +kernel
theorem dX12_mark_92 : decode cX12_mark 92 = .ok (.iload_n 1, 1) := by decide +kernel
theorem dX12_mark_93 : decode cX12_mark 93 = .ok (.imul, 1) := by decide +kernel
theorem dX12_mark_94 : decode cX12_mark 94 = .ok (.aload_n 0, 1) := by decide +kernel
theorem dX12_mark_95 : decode cX12_mark 95 = .ok (.getfield 117, 3) := by decide +kernel
theorem dX12_mark_98 : decode cX12_mark 98 = .ok (.iconst 0, 1) := by decide +kernel
theorem dX12_mark_99 : decode cX12_mark 99 = .ok (.invokestatic 401, 3) := by decide +kernel
theorem dX12_mark_102 : decode cX12_mark 102 = .ok (.aload_n 0, 1) := by decide +kernel
theorem dX12_mark_103 : decode cX12_mark 103 = .ok (.iconst 0, 1) := by decide +kernel
theorem dX12_mark_104 : decode cX12_mark 104 = .ok (.putfield 343, 3) := by decide +kernel
theorem dX12_mark_107 : decode cX12_mark 107 = .ok (.goto 19, 3) := by decide +kernel
theorem dX12_mark_110 : decode cX12_mark 110 = .ok (.aload_n 0, 1) := by decide +kernel
theorem dX12_mark_111 : decode cX12_mark 111 = .ok (.getfield 117, 3) := by decide +kernel
theorem dX12_mark_114 : decode cX12_mark 114 = .ok (.iconst 0, 1) := by decide +kernel
theorem dX12_mark_115 : decode cX12_mark 115 = .ok (.aload_n 0, 1) := by decide +kernel
theorem dX12_mark_116 : decode cX12_mark 116 = .ok (.getfield 126, 3) := by decide +kernel
theorem dX12_mark_119 : decode cX12_mark 119 = .ok (.bipush 59, 2) := by decide +kernel
theorem dX12_mark_121 : decode cX12_mark 121 = .ok (.iload_n 1, 1) := by decide +kernel
theorem dX12_mark_122 : decode cX12_mark 122 = .ok (.imul, 1) := by decide +kernel
theorem dX12_mark_123 : decode cX12_mark 123 = .ok (.invokestatic 401, 3) := by decide +kernel
theorem dX12_mark_126 : decode cX12_mark 126 = .ok (.iconst 1, 1) := by decide +kernel
theorem dX12_mark_127 : decode cX12_mark 127 = .ok (.ireturn, 1) := by decide +kernel
theorem dX12_count_0 : decode cX12_count 0 = .ok (.aload_n 0, 1) := by decide +kernel
theorem dX12_count_1 : decode cX12_count 1 = .ok (.iconst 0, 1) := by decide +kernel
theorem dX12_count_2 : decode cX12_count 2 = .ok (.putfield 147, 3) := by decide +kernel
theorem dX12_count_5 : decode cX12_count 5 = .ok (.iload_n 1, 1) := by decide +kernel
theorem dX12_count_6 : decode cX12_count 6 = .ok (.iconst 0, 1) := by decide +kernel
theorem dX12_count_7 : decode cX12_count 7 = .ok (.bipush 12, 2) := by decide +kernel
theorem dX12_count_9 : decode cX12_count 9 = .ok (.invokestatic 268, 3) := by decide +kernel
theorem dX12_count_12 : decode cX12_count 12 = .ok (.ifCond .ne 5, 3) := by decide +kernel
theorem dX12_count_15 : decode cX12_count 15 = .ok (.iconst (-1), 1) := by decide +kernel
theorem dX12_count_16 : decode cX12_count 16 = .ok (.ireturn, 1) := by decide +kernel
theorem dX12_count_17 : decode cX12_count 17 = .ok (.iload_n 1, 1) := by decide +kernel
theorem dX12_count_18 : decode cX12_count 18 = .ok (.iconst 2, 1) := by decide +kernel
theorem dX12_count_19 : decode cX12_count 19 = .ok (.if_icmp .ge 10, 3) := by decide +kernel
theorem dX12_count_22 : decode cX12_count 22 = .ok (.aload_n 0, 1) := by decide +kernel
theorem dX12_count_23 : decode cX12_count 23 = .ok (.getfield 13, 3) := by decide +kernel
theorem dX12_count_26 : decode cX12_count 26 = .ok (.iload_n 1, 1) := by decide +kernel
theorem dX12_count_27 : decode cX12_count 27 = .ok (.iaload, 1) := by decide +kernel
theorem dX12_count_28 : decode cX12_count 28 = .ok (.ireturn, 1) := by decide +kernel
theorem dX12_count_29 : decode cX12_count 29 = .ok (.iload_n 1, 1) := by decide +kernel
theorem dX12_count_30 : decode cX12_count 30 = .ok (.iconst 5, 1) := by decide +kernel
theorem dX12_count_31 : decode cX12_count 31 = .ok (.if_icmp .ge 40, 3) := by decide +kernel
theorem dX12_count_34 : decode cX12_count 34 = .ok (.iload_n 1, 1) := by decide +kernel
theorem dX12_count_35 : decode cX12_count 35 = .ok (.iconst 2, 1) := by decide +kernel
theorem dX12_count_36 : decode cX12_count 36 = .ok (.if_icmp .ne 12, 3) := by decide +kernel
theorem dX12_count_39 : decode cX12_count 39 = .ok (.aload_n 0, 1) := by decide +kernel
theorem dX12_count_40 : decode cX12_count 40 = .ok (.getfield 117, 3) := by decide +kernel
theorem dX12_count_43 : decode cX12_count 43 = .ok (.iconst 0, 1) := by decide +kernel
theorem dX12_count_44 : decode cX12_count 44 = .ok (.iaload, 1) := by decide +kernel
theorem dX12_count_45 : decode cX12_count 45 = .ok (.goto 25, 3) := by decide +kernel
theorem dX12_count_48 : decode cX12_count 48 = .ok (.iload_n 1, 1) := by decide +kernel
theorem dX12_count_49 : decode cX12_count 49 = .ok (.iconst 3, 1) := by decide +kernel
theorem dX12_count_50 : decode cX12_count 50 = .ok (.if_icmp .ne 16, 3) := by decide +kernel
theorem dX12_count_53 : decode cX12_count 53 = .ok (.aload_n 0, 1) := by decide +kernel
theorem dX12_count_54 : decode cX12_count 54 = .ok (.aload_n 0, 1) := by decide +kernel
theorem dX12_count_55 : decode cX12_count 55 = .ok (.getfield 117, 3) := by decide +kernel
theorem dX12_count_58 : decode cX12_count 58 = .ok (.iconst 0, 1) := by decide +kernel
theorem dX12_count_59 : decode cX12_count 59 = .ok (.iaload, 1) := by decide +kernel
theorem dX12_count_60 : decode cX12_count 60 = .ok (.invokevirtual 389, 3) := by decide +kernel
theorem dX12_count_63 : decode cX12_count 63 = .ok (.goto 7, 3) := by decide +kernel
theorem dX12_count_66 : decode cX12_count 66 = .ok (.aload_n 0, 1) := by decide +kernel
theorem dX12_count_67 : decode cX12_count 67 = .ok (.invokevirtual 417, 3) := by decide +kernel
theorem dX12_count_70 : decode cX12_count 70 = .ok (.ireturn, 1) := by decide +kernel
theorem dX12_count_71 : decode cX12_count 71 = .ok (.iload_n 1, 1) := by decide +kernel
theorem dX12_count_72 : decode cX12_count 72 = .ok (.bipush 8, 2) := by decide +kernel
theorem dX12_count_74 : decode cX12_count 74 = .ok (.if_icmp .ge 37, 3) := by decide +kernel
theorem dX12_count_77 : decode cX12_count 77 = .ok (.iload_n 1, 1) := by decide +kernel
theorem dX12_count_78 : decode cX12_count 78 = .ok (.iconst 5, 1) := by decide +kernel
theorem dX12_count_79 : decode cX12_count 79 = .ok (.if_icmp .ne 12, 3) := by decide +kernel
theorem dX12_count_82 : decode cX12_count 82 = .ok (.aload_n 0, 1) := by decide +kernel
theorem dX12_count_83 : decode cX12_count 83 = .ok (.getfield 117, 3) := by decide +kernel
theorem dX12_count_86 : decode cX12_count 86 = .ok (.iconst 1, 1) := by decide +kernel
theorem dX12_count_87 : decode cX12_count 87 = .ok (.iaload, 1) := by decide +kernel
theorem dX12_count_88 : decode cX12_count 88 = .ok (.goto 22, 3) := by decide +kernel
theorem dX12_count_91 : decode cX12_count 91 = .ok (.iload_n 1, 1) := by decide +kernel
theorem dX12_count_92 : decode cX12_count 92 = .ok (.bipush 6, 2) := by decide +kernel
theorem dX12_count_94 : decode cX12_count 94 = .ok (.if_icmp .ne 12, 3) := by decide +kernel
theorem dX12_count_97 : decode cX12_count 97 = .ok (.aload_n 0, 1) := by decide +kernel
theorem dX12_count_98 : decode cX12_count 98 = .ok (.getfield 117, 3) := by decide +kernel
theorem dX12_count_101 : decode cX12_count 101 = .ok (.iconst 4, 1) := by decide +kernel
theorem dX12_count_102 : decode cX12_count 102 = .ok (.iaload, 1) := by decide +kernel
theorem dX12_count_103 : decode cX12_count 103 = .ok (.goto 7, 3) := by decide +kernel
theorem dX12_count_106 : decode cX12_count 106 = .ok (.aload_n 0, 1) := by decide +kernel
theorem dX12_count_107 : decode cX12_count 107 = .ok (.invokevirtual 414, 3) := by decide +kernel
theorem dX12_count_110 : decode cX12_count 110 = .ok (.ireturn, 1) := by decide +kernel
theorem dX12_count_111 : decode cX12_count 111 = .ok (.iload_n 1, 1) := by decide +kernel
theorem dX12_count_112 : decode cX12_count 112 = .ok (.bipush 11, 2) := by decide +kernel
theorem dX12_count_114 : decode cX12_count 114 = .ok (.if_icmp .ge 40, 3) := by decide +kernel
theorem dX12_count_117 : decode cX12_count 117 = .ok (.iload_n 1, 1) := by decide +kernel
theorem dX12_count_118 : decode cX12_count 118 = .ok (.bipush 8, 2) := by decide +kernel
theorem dX12_count_120 : decode cX12_count 120 = .ok (.if_icmp .ne 12, 3) := by decide +kernel
theorem dX12_count_123 : decode cX12_count 123 = .ok (.aload_n 0, 1) := by decide +kernel
theorem dX12_count_124 : decode cX12_count 124 = .ok (.getfield 90, 3) := by decide +kernel
theorem dX12_count_127 : decode cX12_count 127 = .ok (.iconst 0, 1) := by decide +kernel
theorem dX12_count_128 : decode cX12_count 128 = .ok (.iaload, 1) := by decide +kernel
theorem dX12_count_129 : decode cX12_count 129 = .ok (.goto 24, 3) := by decide +kernel
theorem dX12_count_132 : decode cX12_count 132 = .ok (.iload_n 1, 1) := by decide +kernel
theorem dX12_count_133 : decode cX12_count 133 = .ok (.bipush 9, 2) := by decide +kernel
theorem dX12_count_135 : decode cX12_count 135 = .ok (.if_icmp .ne 12, 3) := by decide +kernel
theorem dX12_count_138 : decode cX12_count 138 = .ok (.aload_n 0, 1) := by decide +kernel
theorem dX12_count_139 : decode cX12_count 139 = .ok (.getfield 102, 3) := by decide +kernel
theorem dX12_count_142 : decode cX12_count 142 = .ok (.iconst 0, 1) := by decide +kernel
theorem dX12_count_143 : decode cX12_count 143 = .ok (.iaload, 1) := by decide +kernel
theorem dX12_count_144 : decode cX12_count 144 = .ok (.goto 9, 3) := by decide +kernel
theorem dX12_count_147 : decode cX12_count 147 = .ok (.aload_n 0, 1) := by decide +kernel
theorem dX12_count_148 : decode cX12_count 148 = .ok (.getfield 108, 3) := by decide +kernel
theorem dX12_count_151 : decode cX12_count 151 = .ok (.iconst 0, 1) := by decide +kernel
theorem dX12_count_152 : decode cX12_count 152 = .ok (.iaload, 1) := by decide +kernel
theorem dX12_count_153 : decode cX12_count 153 = .ok (.ireturn, 1) := by decide +kernel
theorem dX12_count_154 : decode cX12_count 154 = .ok (.iload_n 1, 1) := by decide +kernel
theorem dX12_count_155 : decode cX12_count 155 = .ok (.bipush 11, 2) := by decide +kernel
theorem dX12_count_157 : decode cX12_count 157 = .ok (.if_icmp .ne 10, 3) := by decide +kernel
theorem dX12_count_160 : decode cX12_count 160 = .ok (.aload_n 0, 1) := by decide +kernel
theorem dX12_count_161 : decode cX12_count 161 = .ok (.getfield 343, 3) := by decide +kernel
theorem dX12_count_164 : decode cX12_count 164 = .ok (.goto 7, 3) := by decide +kernel
theorem dX12_count_167 : decode cX12_count 167 = .ok (.aload_n 0, 1) := by decide +kernel
theorem dX12_count_168 : decode cX12_count 168 = .ok (.getfield 153, 3) := by decide +kernel
theorem dX12_count_171 : decode cX12_count 171 = .ok (.ireturn, 1) := by decide +kernel
theorem dJ11_isValidCodePoint_9a6ad_0 : decode cJ11_isValidCodePoint_9a6ad 0 = .ok (.iload_n 0, 1) := by decide +kernel
theorem dJ11_isValidCodePoint_9a6ad_1 : decode cJ11_isValidCodePoint_9a6ad 1 = .ok (.bipush 16, 2) := by decide +kernel
theorem dJ11_isValidCodePoint_9a6ad_3 : decode cJ11_isValidCodePoint_9a6ad 3 = .ok (.iushr, 1) := by decide +kernel
theorem dJ11_isValidCodePoint_9a6ad_4 : decode cJ11_isValidCodePoint_9a6ad 4 = .ok (.istore_n 1, 1) := by decide +kernel
theorem dJ11_isValidCodePoint_9a6ad_5 : decode cJ11_isValidCodePoint_9a6ad 5 = .ok (.iload_n 1, 1) := by decide +kernel
theorem dJ11_isValidCodePoint_9a6ad_6 : decode cJ11_isValidCodePoint_9a6ad 6 = .ok (.bipush 17, 2) := by decide +kernel
theorem dJ11_isValidCodePoint_9a6ad_8 : decode cJ11_isValidCodePoint_9a6ad 8 = .ok (.if_icmp .ge 7, 3) := by decide +kernel
theorem dJ11_isValidCodePoint_9a6ad_11 : decode cJ11_isValidCodePoint_9a6ad 11 = .ok (.iconst 1, 1) := by decide +kernel
theorem dJ11_isValidCodePoint_9a6ad_12 : decode cJ11_isValidCodePoint_9a6ad 12 = .ok (.goto 4, 3) := by decide +kernel
theorem dJ11_isValidCodePoint_9a6ad_15 : decode cJ11_isValidCodePoint_9a6ad 15 = .ok (.iconst 0, 1) := by decide +kernel
theorem dJ11_isValidCodePoint_9a6ad_16 : decode cJ11_isValidCodePoint_9a6ad 16 = .ok (.ireturn, 1) := by decide +kernel
theorem dJ11_highSurrogate_5068e_0 : decode cJ11_highSurrogate_5068e 0 = .ok (.iload_n 0, 1) := by decide +kernel
theorem dJ11_highSurrogate_5068e_1 : decode cJ11_highSurrogate_5068e 1 = .ok (.bipush 10, 2) := by decide +kernel
theorem dJ11_highSurrogate_5068e_3 : decode cJ11_highSurrogate_5068e 3 = .ok (.iushr, 1) := by decide +kernel
theorem dJ11_highSurrogate_5068e_4 : decode cJ11_highSurrogate_5068e 4 = .ok (.ldc 110, 2) := by decide +kernel
theorem dJ11_highSurrogate_5068e_6 : decode cJ11_highSurrogate_5068e 6 = .ok (.iadd, 1) := by decide +kernel
theorem dJ11_highSurrogate_5068e_7 : decode cJ11_highSurrogate_5068e 7 = .ok (.i2c, 1) := by decide +kernel
theorem dJ11_highSurrogate_5068e_8 : decode cJ11_highSurrogate_5068e 8 = .ok (.ireturn, 1) := by decide +kernel
theorem dJ11_lowSurrogate_5068e_0 : decode cJ11_lowSurrogate_5068e 0 = .ok (.iload_n 0, 1) := by decide +kernel
theorem dJ11_lowSurrogate_5068e_1 : decode cJ11_lowSurrogate_5068e 1 = .ok (.sipush 1023, 3) := by decide +kernel
theorem dJ11_lowSurrogate_5068e_4 : decode cJ11_lowSurrogate_5068e 4 = .ok (.iand, 1) := by decide +kernel
theorem dJ11_lowSurrogate_5068e_5 : decode cJ11_lowSurrogate_5068e 5 = .ok (.ldc 76, 2) := by decide +kernel
theorem dJ11_lowSurrogate_5068e_7 : decode cJ11_lowSurrogate_5068e 7 = .ok (.iadd, 1) := by decide +kernel
theorem dJ11_lowSurrogate_5068e_8 : decode cJ11_lowSurrogate_5068e 8 = .ok (.i2c, 1) := by decide +kernel
theorem dJ11_lowSurrogate_5068e_9 : decode cJ11_lowSurrogate_5068e 9 = .ok (.ireturn, 1) := by decide +kernel
theorem dJ6_bitCount_0f7a4_0 : decode cJ6_bitCount_0f7a4 0 = .ok (.iload_n 0, 1) := by decide +kernel
theorem dJ6_bitCount_0f7a4_1 : decode cJ6_bitCount_0f7a4 1 = .ok (.iload_n 0, 1) := by decide +kernel
theorem dJ6_bitCount_0f7a4_2 : decode cJ6_bitCount_0f7a4 2 = .ok (.iconst 1, 1) := by decide +kernel
theorem dJ6_bitCount_0f7a4_3 : decode cJ6_bitCount_0f7a4 3 = .ok (.iushr, 1) := by decide +kernel
theorem dJ6_bitCount_0f7a4_4 : decode cJ6_bitCount_0f7a4 4 = .ok (.ldc_w 265, 3) := by decide +kernel
theorem dJ6_bitCount_0f7a4_7 : decode cJ6_bitCount_0f7a4 7 = .ok (.iand, 1) := by decide +kernel
theorem dJ6_bitCount_0f7a4_8 : decode cJ6_bitCount_0f7a4 8 = .ok (.isub, 1) := by decide +kernel
theorem dJ6_bitCount_0f7a4_9 : decode cJ6_bitCount_0f7a4 9 = .ok (.istore_n 0, 1) := by decide +kernel
theorem dJ6_bitCount_0f7a4_10 : decode cJ6_bitCount_0f7a4 10 = .ok (.iload_n 0, 1) := by decide +kernel
theorem dJ6_bitCount_0f7a4_11 : decode cJ6_bitCount_0f7a4 11 = .ok (.ldc_w 266, 3) := by decide +kernel
theorem dJ6_bitCount_0f7a4_14 : decode cJ6_bitCount_0f7a4 14 = .ok (.iand, 1) := by decide +kernel
theorem dJ6_bitCount_0f7a4_15 : decode cJ6_bitCount_0f7a4 15 = .ok (.iload_n 0, 1) := by decide +kernel
theorem dJ6_bitCount_0f7a4_16 : decode cJ6_bitCount_0f7a4 16 = .ok (.iconst 2, 1) := by decide +kernel
theorem dJ6_bitCount_0f7a4_17 : decode cJ6_bitCount_0f7a4 17 = .ok (.iushr, 1) := by decide +kernel
theorem dJ6_bitCount_0f7a4_18 : decode cJ6_bitCount_0f7a4 18 = .ok (.ldc_w 266, 3) := by decide +kernel
theorem dJ6_bitCount_0f7a4_21 : decode cJ6_bitCount_0f7a4 21 = .ok (.iand, 1) := by decide +kernel
theorem dJ6_bitCount_0f7a4_22 : decode cJ6_bitCount_0f7a4 22 = .ok (.iadd, 1) := by decide +kernel
theorem dJ6_bitCount_0f7a4_23 : decode cJ6_bitCount_0f7a4 23 = .ok (.istore_n 0, 1) := by decide +kernel
theorem dJ6_bitCount_0f7a4_24 : decode cJ6_bitCount_0f7a4 24 = .ok (.iload_n 0, 1) := by decide +kernel
theorem dJ6_bitCount_0f7a4_25 : decode cJ6_bitCount_0f7a4 25 = .ok (.iload_n 0, 1) := by decide +kernel
theorem dJ6_bitCount_0f7a4_26 : decode cJ6_bitCount_0f7a4 26 = .ok (.iconst 4, 1) := by decide +kernel
theorem dJ6_bitCount_0f7a4_27 : decode cJ6_bitCount_0f7a4 27 = .ok (.iushr, 1) := by decide +kernel
theorem dJ6_bitCount_0f7a4_28 : decode cJ6_bitCount_0f7a4 28 = .ok (.iadd, 1) := by decide +kernel
theorem dJ6_bitCount_0f7a4_29 : decode cJ6_bitCount_0f7a4 29 = .ok (.ldc_w 267, 3) := by decide +kernel
theorem dJ6_bitCount_0f7a4_32 : decode cJ6_bitCount_0f7a4 32 = .ok (.iand, 1) := by decide +kernel
theorem dJ6_bitCount_0f7a4_33 : decode cJ6_bitCount_0f7a4 33 = .ok (.istore_n 0, 1) := by decide +kernel
theorem dJ6_bitCount_0f7a4_34 : decode cJ6_bitCount_0f7a4 34 = .ok (.iload_n 0, 1) := by decide +kernel
theorem dJ6_bitCount_0f7a4_35 : decode cJ6_bitCount_0f7a4 35 = .ok (.iload_n 0, 1) := by decide +kernel
theorem dJ6_bitCount_0f7a4_36 : decode cJ6_bitCount_0f7a4 36 = .ok (.bipush 8, 2) := by decide +kernel
theorem dJ6_bitCount_0f7a4_38 : decode cJ6_bitCount_0f7a4 38 = .ok (.iushr, 1) := by decide +kernel
theorem dJ6_bitCount_0f7a4_39 : decode cJ6_bitCount_0f7a4 39 = .ok (.iadd, 1) := by decide +kernel
theorem dJ6_bitCount_0f7a4_40 : decode cJ6_bitCount_0f7a4 40 = .ok (.istore_n 0, 1) := by decide +kernel
theorem dJ6_bitCount_0f7a4_41 : decode cJ6_bitCount_0f7a4 41 = .ok (.iload_n 0, 1) := by decide +kernel
theorem dJ6_bitCount_0f7a4_42 : decode cJ6_bitCount_0f7a4 42 = .ok (.iload_n 0, 1) := by decide +kernel
theorem dJ6_bitCount_0f7a4_43 : decode cJ6_bitCount_0f7a4 43 = .ok (.bipush 16, 2) := by decide +kernel
theorem dJ6_bitCount_0f7a4_45 : decode cJ6_bitCount_0f7a4 45 = .ok (.iushr, 1) := by decide +kernel
theorem dJ6_bitCount_0f7a4_46 : decode cJ6_bitCount_0f7a4 46 = .ok (.iadd, 1) := by decide +kernel
theorem dJ6_bitCount_0f7a4_47 : decode cJ6_bitCount_0f7a4 47 = .ok (.istore_n 0, 1) := by decide +kernel
theorem dJ6_bitCount_0f7a4_48 : decode cJ6_bitCount_0f7a4 48 = .ok (.iload_n 0, 1) := by decide +kernel
theorem dJ6_bitCount_0f7a4_49 : decode cJ6_bitCount_0f7a4 49 = .ok (.bipush 63, 2) := by decide +kernel
theorem dJ6_bitCount_0f7a4_51 : decode cJ6_bitCount_0f7a4 51 = .ok (.iand, 1) := by decide +kernel
theorem dJ6_bitCount_0f7a4_52 : decode cJ6_bitCount_0f7a4 52 = .ok (.ireturn, 1) := by decide +kernel
theorem dJ9_max_7cf53_0 : decode cJ9_max_7cf53 0 = .ok (.iload_n 0, 1) := by decide +kernel
theorem dJ9_max_7cf53_1 : decode cJ9_max_7cf53 1 = .ok (.iload_n 1, 1) := by decide +kernel
theorem dJ9_max_7cf53_2 : decode cJ9_max_7cf53 2 = .ok (.if_icmp .lt 7, 3) := by decide +kernel
theorem dJ9_max_7cf53_5 : decode cJ9_max_7cf53 5 = .ok (.iload_n 0, 1) := by decide +kernel
theorem dJ9_max_7cf53_6 : decode cJ9_max_7cf53 6 = .ok (.goto 4, 3) := by decide +kernel
theorem dJ9_max_7cf53_9 : decode cJ9_max_7cf53 9 = .ok (.iload_n 1, 1) := by decide +kernel
theorem dJ9_max_7cf53_10 : decode cJ9_max_7cf53 10 = .ok (.ireturn, 1) := by decide +kernel
theorem dJ9_min_7cf53_0 : decode cJ9_min_7cf53 0 = .ok (.iload_n 0, 1) := by decide +kernel
theorem dJ9_min_7cf53_1 : decode cJ9_min_7cf53 1 = .ok (.iload_n 1, 1) := by decide +kernel
theorem dJ9_min_7cf53_2 : decode cJ9_min_7cf53 2 = .ok (.if_icmp .gt 7, 3) := by decide +kernel
theorem dJ9_min_7cf53_5 : decode cJ9_min_7cf53 5 = .ok (.iload_n 0, 1) := by decide +kernel
theorem dJ9_min_7cf53_6 : decode cJ9_min_7cf53 6 = .ok (.goto 4, 3) := by decide +kernel
theorem dJ9_min_7cf53_9 : decode cJ9_min_7cf53 9 = .ok (.iload_n 1, 1) := by decide +kernel
theorem dJ9_min_7cf53_10 : decode cJ9_min_7cf53 10 = .ok (.ireturn, 1) := by decide +kernel
theorem dJ0_length_8abf5_0 : decode cJ0_length_8abf5 0 = .ok (.aload_n 0, 1) := by decide +kernel
theorem dJ0_length_8abf5_1 : decode cJ0_length_8abf5 1 = .ok (.getfield 9, 3) := by decide +kernel
theorem dJ0_length_8abf5_4 : decode cJ0_length_8abf5 4 = .ok (.arraylength, 1) := by decide +kernel
theorem dJ0_length_8abf5_5 : decode cJ0_length_8abf5 5 = .ok (.aload_n 0, 1) := by decide +kernel
theorem dJ0_length_8abf5_6 : decode cJ0_length_8abf5 6 = .ok (.invokevirtual 335, 3) := by decide +kernel
theorem dJ0_length_8abf5_9 : decode cJ0_length_8abf5 9 = .ok (.ishr, 1) := by decide +kernel
theorem dJ0_length_8abf5_10 : decode cJ0_length_8abf5 10 = .ok (.ireturn, 1) := by decide +kernel
theorem dJ0_charAt_5068e_0 : decode cJ0_charAt_5068e 0 = .ok (.aload_n 0, 1) := by decide +kernel
theorem dJ0_charAt_5068e_1 : decode cJ0_charAt_5068e 1 = .ok (.invokevirtual 492, 3) := by decide +kernel
theorem dJ0_charAt_5068e_4 : decode cJ0_charAt_5068e 4 = .ok (.ifCond .eq 12, 3) := by decide +kernel
theorem dJ0_charAt_5068e_7 : decode cJ0_charAt_5068e 7 = .ok (.aload_n 0, 1) := by decide +kernel
theorem dJ0_charAt_5068e_8 : decode cJ0_charAt_5068e 8 = .ok (.getfield 9, 3) := by decide +kernel
theorem dJ0_charAt_5068e_11 : decode cJ0_charAt_5068e 11 = .ok (.iload_n 1, 1) := by decide +kernel
theorem dJ0_charAt_5068e_12 : decode cJ0_charAt_5068e 12 = .ok (.invokestatic 495, 3) := by decide +kernel
theorem dJ0_charAt_5068e_15 : decode cJ0_charAt_5068e 15 = .ok (.ireturn, 1) := by decide +kernel
theorem dJ0_charAt_5068e_16 : decode cJ0_charAt_5068e 16 = .ok (.aload_n 0, 1) := by decide +kernel
theorem dJ0_charAt_5068e_17 : decode cJ0_charAt_5068e 17 = .ok (.getfield 9, 3) := by decide +kernel
theorem dJ0_charAt_5068e_20 : decode cJ0_charAt_5068e 20 = .ok (.iload_n 1, 1) := by decide +kernel
theorem dJ0_charAt_5068e_21 : decode cJ0_charAt_5068e 21 = .ok (.invokestatic 498, 3) := by decide +kernel
theorem dJ0_charAt_5068e_24 : decode cJ0_charAt_5068e 24 = .ok (.ireturn, 1) := by decide +kernel
theorem dJ0_indexOf_0f7a4_0 : decode cJ0_indexOf_0f7a4 0 = .ok (.aload_n 0, 1) := by decide +kernel
theorem dJ0_indexOf_0f7a4_1 : decode cJ0_indexOf_0f7a4 1 = .ok (.iload_n 1, 1) := by decide +kernel
theorem dJ0_indexOf_0f7a4_2 : decode cJ0_indexOf_0f7a4 2 = .ok (.iconst 0, 1) := by decide +kernel
theorem dJ0_indexOf_0f7a4_3 : decode cJ0_indexOf_0f7a4 3 = .ok (.invokevirtual 633, 3) := by decide +kernel
theorem dJ0_indexOf_0f7a4_6 : decode cJ0_indexOf_0f7a4 6 = .ok (.ireturn, 1) := by decide +kernel
theorem dJ0_indexOf_7cf53_0 : decode cJ0_indexOf_7cf53 0 = .ok (.aload_n 0, 1) := by decide +kernel
theorem dJ0_indexOf_7cf53_1 : decode cJ0_indexOf_7cf53 1 = .ok (.invokevirtual 492, 3) := by decide +kernel
theorem dJ0_indexOf_7cf53_4 : decode cJ0_indexOf_7cf53 4 = .ok (.ifCond .eq 19, 3) := by decide +kernel
theorem dJ0_indexOf_7cf53_7 : decode cJ0_indexOf_7cf53 7 = .ok (.aload_n 0, 1) := by decide +kernel
theorem dJ0_indexOf_7cf53_8 : decode cJ0_indexOf_7cf53 8 = .ok (.getfield 9, 3) := by decide +kernel
theorem dJ0_indexOf_7cf53_11 : decode cJ0_indexOf_7cf53 11 = .ok (.iload_n 1, 1) := by decide +kernel
theorem dJ0_indexOf_7cf53_12 : decode cJ0_indexOf_7cf53 12 = .ok (.iload_n 2, 1) := by decide +kernel
theorem dJ0_indexOf_7cf53_13 : decode cJ0_indexOf_7cf53 13 = .ok (.aload_n 0, 1) := by decide +kernel
theorem dJ0_indexOf_7cf53_14 : decode cJ0_indexOf_7cf53 14 = .ok (.invokevirtual 505, 3) := by decide +kernel
theorem dJ0_indexOf_7cf53_17 : decode cJ0_indexOf_7cf53 17 = .ok (.invokestatic 637, 3) := by decide +kernel
theorem dJ0_indexOf_7cf53_20 : decode cJ0_indexOf_7cf53 20 = .ok (.goto 16, 3) := by decide +kernel
theorem dJ0_indexOf_7cf53_23 : decode cJ0_indexOf_7cf53 23 = .ok (.aload_n 0, 1) := by decide +kernel
theorem dJ0_indexOf_7cf53_24 : decode cJ0_indexOf_7cf53 24 = .ok (.getfield 9, 3) := by decide +kernel
theorem dJ0_indexOf_7cf53_27 : decode cJ0_indexOf_7cf53 27 = .ok (.iload_n 1, 1) := by decide +kernel
theorem dJ0_indexOf_7cf53_28 : decode cJ0_indexOf_7cf53 28 = .ok (.iload_n 2, 1) := by decide +kernel
theorem dJ0_indexOf_7cf53_29 : decode cJ0_indexOf_7cf53 29 = .ok (.aload_n 0, 1) := by decide +kernel
theorem dJ0_indexOf_7cf53_30 : decode cJ0_indexOf_7cf53 30 = .ok (.invokevirtual 505, 3) := by decide +kernel
theorem dJ0_indexOf_7cf53_33 : decode cJ0_indexOf_7cf53 33 = .ok (.invokestatic 640, 3) := by decide +kernel
theorem dJ0_indexOf_7cf53_36 : decode cJ0_indexOf_7cf53 36 = .ok (.ireturn, 1) := by decide +kernel
theorem dJ0_coder_7d493_0 : decode cJ0_coder_7d493 0 = .ok (.getstatic 38, 3) := by decide +kernel
theorem dJ0_coder_7d493_3 : decode cJ0_coder_7d493 3 = .ok (.ifCond .eq 10, 3) := by decide +kernel
theorem dJ0_coder_7d493_6 : decode cJ0_coder_7d493 6 = .ok (.aload_n 0, 1) := by decide +kernel
theorem dJ0_coder_7d493_7 : decode cJ0_coder_7d493 7 = .ok (.getfield 15, 3) := by decide +kernel
theorem dJ0_coder_7d493_10 : decode cJ0_coder_7d493 10 = .ok (.goto 4, 3) := by decide +kernel
theorem dJ0_coder_7d493_13 : decode cJ0_coder_7d493 13 = .ok (.iconst 1, 1) := by decide +kernel
theorem dJ0_coder_7d493_14 : decode cJ0_coder_7d493 14 = .ok (.ireturn, 1) := by decide +kernel
theorem dJ0_isLatin1_aae02_0 : decode cJ0_isLatin1_aae02 0 = .ok (.getstatic 38, 3) := by decide +kernel
theorem dJ0_isLatin1_aae02_3 : decode cJ0_isLatin1_aae02 3 = .ok (.ifCond .eq 14, 3) := by decide +kernel
theorem dJ0_isLatin1_aae02_6 : decode cJ0_isLatin1_aae02 6 = .ok (.aload_n 0, 1) := by decide +kernel
theorem dJ0_isLatin1_aae02_7 : decode cJ0_isLatin1_aae02 7 = .ok (.getfield 15, 3) := by decide +kernel
theorem dJ0_isLatin1_aae02_10 : decode cJ0_isLatin1_aae02 10 = .ok (.ifCond .ne 7, 3) := by decide +kernel
theorem dJ0_isLatin1_aae02_13 : decode cJ0_isLatin1_aae02 13 = .ok (.iconst 1, 1) := by decide +kernel
theorem dJ0_isLatin1_aae02_14 : decode cJ0_isLatin1_aae02 14 = .ok (.goto 4, 3) := by decide +kernel
theorem dJ0_isLatin1_aae02_17 : decode cJ0_isLatin1_aae02 17 = .ok (.iconst 0, 1) := by decide +kernel
theorem dJ0_isLatin1_aae02_18 : decode cJ0_isLatin1_aae02 18 = .ok (.ireturn, 1) := by decide +kernel
theorem dJ0_checkIndex_df160_0 : decode cJ0_checkIndex_df160 0 = .ok (.iload_n 0, 1) := by decide +kernel
theorem dJ0_checkIndex_df160_1 : decode cJ0_checkIndex_df160 1 = .ok (.iload_n 1, 1) := by decide +kernel
theorem dJ0_checkIndex_df160_2 : decode cJ0_checkIndex_df160 2 = .ok (.getstatic 1053, 3) := by decide +kernel
theorem dJ0_checkIndex_df160_5 : decode cJ0_checkIndex_df160 5 = .ok (.invokestatic 1059, 3) := by decide +kernel
theorem dJ0_checkIndex_df160_8 : decode cJ0_checkIndex_df160 8 = .ok (.pop, 1) := by decide +kernel
theorem dJ0_checkIndex_df160_9 : decode cJ0_checkIndex_df160 9 = .ok (.return_, 1) := by decide +kernel
theorem dJ0_checkBoundsBeginEnd_23922_0 : decode cJ0_checkBoundsBeginEnd_23922 0 = .ok (.iload_n 0, 1) := by decide +kernel
theorem dJ0_checkBoundsBeginEnd_23922_1 : decode cJ0_checkBoundsBeginEnd_23922 1 = .ok (.iload_n 1, 1) := by decide +kernel
theorem dJ0_checkBoundsBeginEnd_23922_2 : decode cJ0_checkBoundsBeginEnd_23922 2 = .ok (.iload_n 2, 1) := by decide +kernel
theorem dJ0_checkBoundsBeginEnd_23922_3 : decode cJ0_checkBoundsBeginEnd_23922 3 = .ok (.getstatic 1053, 3) := by decide +kernel
theorem dJ0_checkBoundsBeginEnd_23922_6 : decode cJ0_checkBoundsBeginEnd_23922 6 = .ok (.invokestatic 1062, 3) := by decide +kernel
theorem dJ0_checkBoundsBeginEnd_23922_9 : decode cJ0_checkBoundsBeginEnd_23922 9 = .ok (.pop, 1) := by decide +kernel
theorem dJ0_checkBoundsBeginEnd_23922_10 : decode cJ0_checkBoundsBeginEnd_23922 10 = .ok (.return_, 1) := by decide +kernel
theorem dJ1_charAt_3b067_0 : decode cJ1_charAt_3b067 0 = .ok (.iload_n 1, 1) := by decide +kernel
theorem dJ1_charAt_3b067_1 : decode cJ1_charAt_3b067 1 = .ok (.aload_n 0, 1) := by decide +kernel
theorem dJ1_charAt_3b067_2 : decode cJ1_charAt_3b067 2 = .ok (.arraylength, 1) := by decide +kernel
theorem dJ1_charAt_3b067_3 : decode cJ1_charAt_3b067 3 = .ok (.invokestatic 9, 3) := by decide +kernel
theorem dJ1_charAt_3b067_6 : decode cJ1_charAt_3b067 6 = .ok (.aload_n 0, 1) := by decide +kernel
theorem dJ1_charAt_3b067_7 : decode cJ1_charAt_3b067 7 = .ok (.iload_n 1, 1) := by decide +kernel
theorem dJ1_charAt_3b067_8 : decode cJ1_charAt_3b067 8 = .ok (.baload, 1) := by decide +kernel
theorem dJ1_charAt_3b067_9 : decode cJ1_charAt_3b067 9 = .ok (.sipush 255, 3) := by decide +kernel
theorem dJ1_charAt_3b067_12 : decode cJ1_charAt_3b067 12 = .ok (.iand, 1) := by decide +kernel
theorem dJ1_charAt_3b067_13 : decode cJ1_charAt_3b067 13 = .ok (.i2c, 1) := by decide +kernel
theorem dJ1_charAt_3b067_14 : decode cJ1_charAt_3b067 14 = .ok (.ireturn, 1) := by decide +kernel
theorem dJ1_canEncode_9a6ad_0 : decode cJ1_canEncode_9a6ad 0 = .ok (.iload_n 0, 1) := by decide +kernel
theorem dJ1_canEncode_9a6ad_1 : decode cJ1_canEncode_9a6ad 1 = .ok (.ifCond .lt 14, 3) := by decide +kernel
theorem dJ1_canEncode_9a6ad_4 : decode cJ1_canEncode_9a6ad 4 = .ok (.iload_n 0, 1) := by decide +kernel
theorem dJ1_canEncode_9a6ad_5 : decode cJ1_canEncode_9a6ad 5 = .ok (.sipush 255, 3) := by decide +kernel
theorem dJ1_canEncode_9a6ad_8 : decode cJ1_canEncode_9a6ad 8 = .ok (.if_icmp .gt 7, 3) := by decide +kernel
theorem dJ1_canEncode_9a6ad_11 : decode cJ1_canEncode_9a6ad 11 = .ok (.iconst 1, 1) := by decide +kernel
theorem dJ1_canEncode_9a6ad_12 : decode cJ1_canEncode_9a6ad 12 = .ok (.goto 4, 3) := by decide +kernel
theorem dJ1_canEncode_9a6ad_15 : decode cJ1_canEncode_9a6ad 15 = .ok (.iconst 0, 1) := by decide +kernel
theorem dJ1_canEncode_9a6ad_16 : decode cJ1_canEncode_9a6ad 16 = .ok (.ireturn, 1) := by decide +kernel
theorem dJ1_indexOf_4cfef_0 : decode cJ1_indexOf_4cfef 0 = .ok (.iload_n 1, 1) := by decide +kernel
theorem dJ1_indexOf_4cfef_1 : decode cJ1_indexOf_4cfef 1 = .ok (.invokestatic 88, 3) := by decide +kernel
theorem dJ1_indexOf_4cfef_4 : decode cJ1_indexOf_4cfef 4 = .ok (.ifCond .ne 5, 3) := by decide +kernel
theorem dJ1_indexOf_4cfef_7 : decode cJ1_indexOf_4cfef 7 = .ok (.iconst (-1), 1) := by decide +kernel
theorem dJ1_indexOf_4cfef_8 : decode cJ1_indexOf_4cfef 8 = .ok (.ireturn, 1) := by decide +kernel
theorem dJ1_indexOf_4cfef_9 : decode cJ1_indexOf_4cfef 9 = .ok (.iload_n 2, 1) := by decide +kernel
theorem dJ1_indexOf_4cfef_10 : decode cJ1_indexOf_4cfef 10 = .ok (.iconst 0, 1) := by decide +kernel
theorem dJ1_indexOf_4cfef_11 : decode cJ1_indexOf_4cfef 11 = .ok (.invokestatic 92, 3) := by decide +kernel
theorem dJ1_indexOf_4cfef_14 : decode cJ1_indexOf_4cfef 14 = .ok (.istore_n 2, 1) := by decide +kernel
theorem dJ1_indexOf_4cfef_15 : decode cJ1_indexOf_4cfef 15 = .ok (.iload_n 3, 1) := by decide +kernel
theorem dJ1_indexOf_4cfef_16 : decode cJ1_indexOf_4cfef 16 = .ok (.aload_n 0, 1) := by decide +kernel
theorem dJ1_indexOf_4cfef_17 : decode cJ1_indexOf_4cfef 17 = .ok (.arraylength, 1) := by decide +kernel
theorem dJ1_indexOf_4cfef_18 : decode cJ1_indexOf_4cfef 18 = .ok (.invokestatic 38, 3) := by decide +kernel
theorem dJ1_indexOf_4cfef_21 : decode cJ1_indexOf_4cfef 21 = .ok (.istore_n 3, 1) := by decide +kernel
theorem dJ1_indexOf_4cfef_22 : decode cJ1_indexOf_4cfef 22 = .ok (.iload_n 2, 1) := by decide +kernel
theorem dJ1_indexOf_4cfef_23 : decode cJ1_indexOf_4cfef 23 = .ok (.iload_n 3, 1) := by decide +kernel
theorem dJ1_indexOf_4cfef_24 : decode cJ1_indexOf_4cfef 24 = .ok (.if_icmp .lt 5, 3) := by decide +kernel
theorem dJ1_indexOf_4cfef_27 : decode cJ1_indexOf_4cfef 27 = .ok (.iconst (-1), 1) := by decide +kernel
theorem dJ1_indexOf_4cfef_28 : decode cJ1_indexOf_4cfef 28 = .ok (.ireturn, 1) := by decide +kernel
theorem dJ1_indexOf_4cfef_29 : decode cJ1_indexOf_4cfef 29 = .ok (.aload_n 0, 1) := by decide +kernel
theorem dJ1_indexOf_4cfef_30 : decode cJ1_indexOf_4cfef 30 = .ok (.iload_n 1, 1) := by decide +kernel
theorem dJ1_indexOf_4cfef_31 : decode cJ1_indexOf_4cfef 31 = .ok (.iload_n 2, 1) := by decide +kernel
theorem dJ1_indexOf_4cfef_32 : decode cJ1_indexOf_4cfef 32 = .ok (.iload_n 3, 1) := by decide +kernel
theorem dJ1_indexOf_4cfef_33 : decode cJ1_indexOf_4cfef 33 = .ok (.invokestatic 95, 3) := by decide +kernel
theorem dJ1_indexOf_4cfef_36 : decode cJ1_indexOf_4cfef 36 = .ok (.ireturn, 1) := by decide +kernel
theorem dJ1_indexOfChar_4cfef_0 : decode cJ1_indexOfChar_4cfef 0 = .ok (.iload_n 1, 1) := by decide +kernel
theorem dJ1_indexOfChar_4cfef_1 : decode cJ1_indexOfChar_4cfef 1 = .ok (.i2b, 1) := by decide +kernel
theorem dJ1_indexOfChar_4cfef_2 : decode cJ1_indexOfChar_4cfef 2 = .ok (.istore 4, 2) := by decide +kernel
theorem dJ1_indexOfChar_4cfef_4 : decode cJ1_indexOfChar_4cfef 4 = .ok (.iload_n 2, 1) := by decide +kernel
theorem dJ1_indexOfChar_4cfef_5 : decode cJ1_indexOfChar_4cfef 5 = .ok (.istore 5, 2) := by decide +kernel
theorem dJ1_indexOfChar_4cfef_7 : decode cJ1_indexOfChar_4cfef 7 = .ok (.iload 5, 2) := by decide +kernel
theorem dJ1_indexOfChar_4cfef_9 : decode cJ1_indexOfChar_4cfef 9 = .ok (.iload_n 3, 1) := by decide +kernel
theorem dJ1_indexOfChar_4cfef_10 : decode cJ1_indexOfChar_4cfef 10 = .ok (.if_icmp .ge 21, 3) := by decide +kernel
theorem dJ1_indexOfChar_4cfef_13 : decode cJ1_indexOfChar_4cfef 13 = .ok (.aload_n 0, 1) := by decide +kernel
theorem dJ1_indexOfChar_4cfef_14 : decode cJ1_indexOfChar_4cfef 14 = .ok (.iload 5, 2) := by decide +kernel
theorem dJ1_indexOfChar_4cfef_16 : decode cJ1_indexOfChar_4cfef 16 = .ok (.baload, 1) := by decide +kernel
theorem dJ1_indexOfChar_4cfef_17 : decode cJ1_indexOfChar_4cfef 17 = .ok (.iload 4, 2) := by decide +kernel
theorem dJ1_indexOfChar_4cfef_19 : decode cJ1_indexOfChar_4cfef 19 = .ok (.if_icmp .ne 6, 3) := by decide +kernel
theorem dJ1_indexOfChar_4cfef_22 : decode cJ1_indexOfChar_4cfef 22 = .ok (.iload 5, 2) := by decide +kernel
theorem dJ1_indexOfChar_4cfef_24 : decode cJ1_indexOfChar_4cfef 24 = .ok (.ireturn, 1) := by decide +kernel
theorem dJ1_indexOfChar_4cfef_25 : decode cJ1_indexOfChar_4cfef 25 = .ok (.iinc 5 1, 3) := by decide +kernel
theorem dJ1_indexOfChar_4cfef_28 : decode cJ1_indexOfChar_4cfef 28 = .ok (.goto (-21), 3) := by decide +kernel
theorem dJ1_indexOfChar_4cfef_31 : decode cJ1_indexOfChar_4cfef 31 = .ok (.iconst (-1), 1) := by decide +kernel
theorem dJ1_indexOfChar_4cfef_32 : decode cJ1_indexOfChar_4cfef 32 = .ok (.ireturn, 1) := by decide +kernel
theorem dJ2_getChar_3b067_0 : decode cJ2_getChar_3b067 0 = .ok (.getstatic 44, 3) := by decide +kernel
theorem dJ2_getChar_3b067_3 : decode cJ2_getChar_3b067 3 = .ok (.ifCond .ne 25, 3) := by decide +kernel
theorem dJ2_getChar_3b067_6 : decode cJ2_getChar_3b067 6 = .ok (.iload_n 1, 1) := by decide +kernel
theorem dJ2_getChar_3b067_7 : decode cJ2_getChar_3b067 7 = .ok (.ifCond .lt 11, 3) := by decide +kernel
theorem dJ2_getChar_3b067_10 : decode cJ2_getChar_3b067 10 = .ok (.iload_n 1, 1) := by decide +kernel
theorem dJ2_getChar_3b067_11 : decode cJ2_getChar_3b067 11 = .ok (.aload_n 0, 1) := by decide +kernel
theorem dJ2_getChar_3b067_12 : decode cJ2_getChar_3b067 12 = .ok (.invokestatic 48, 3) := by decide +kernel
theorem dJ2_getChar_3b067_15 : decode cJ2_getChar_3b067 15 = .ok (.if_icmp .lt 13, 3) := by decide +kernel
theorem dJ2_getChar_3b067_18 : decode cJ2_getChar_3b067 18 = .ok (.new 52, 3) := by decide +kernel
theorem dJ2_getChar_3b067_21 : decode cJ2_getChar_3b067 21 = .ok (.dup, 1) := by decide +kernel
theorem dJ2_getChar_3b067_22 : decode cJ2_getChar_3b067 22 = .ok (.ldc 54, 2) := by decide +kernel
theorem dJ2_getChar_3b067_24 : decode cJ2_getChar_3b067 24 = .ok (.invokespecial 56, 3) := by decide +kernel
theorem dJ2_getChar_3b067_27 : decode cJ2_getChar_3b067 27 = .ok (.athrow, 1) := by decide +kernel
theorem dJ2_getChar_3b067_28 : decode cJ2_getChar_3b067 28 = .ok (.iload_n 1, 1) := by decide +kernel
theorem dJ2_getChar_3b067_29 : decode cJ2_getChar_3b067 29 = .ok (.iconst 1, 1) := by decide +kernel
theorem dJ2_getChar_3b067_30 : decode cJ2_getChar_3b067 30 = .ok (.ishl, 1) := by decide +kernel
theorem dJ2_getChar_3b067_31 : decode cJ2_getChar_3b067 31 = .ok (.istore_n 1, 1) := by decide +kernel
theorem dJ2_getChar_3b067_32 : decode cJ2_getChar_3b067 32 = .ok (.aload_n 0, 1) := by decide +kernel
theorem dJ2_getChar_3b067_33 : decode cJ2_getChar_3b067 33 = .ok (.iload_n 1, 1) := by decide +kernel
theorem dJ2_getChar_3b067_34 : decode cJ2_getChar_3b067 34 = .ok (.iinc 1 1, 3) := by decide +kernel
theorem dJ2_getChar_3b067_37 : decode cJ2_getChar_3b067 37 = .ok (.baload, 1) := by decide +kernel
theorem dJ2_getChar_3b067_38 : decode cJ2_getChar_3b067 38 = .ok (.sipush 255, 3) := by decide +kernel
theorem dJ2_getChar_3b067_41 : decode cJ2_getChar_3b067 41 = .ok (.iand, 1) := by decide +kernel
theorem dJ2_getChar_3b067_42 : decode cJ2_getChar_3b067 42 = .ok (.getstatic 59, 3) := by decide +kernel
theorem dJ2_getChar_3b067_45 : decode cJ2_getChar_3b067 45 = .ok (.ishl, 1) := by decide +kernel
theorem dJ2_getChar_3b067_46 : decode cJ2_getChar_3b067 46 = .ok (.aload_n 0, 1) := by decide +kernel
theorem dJ2_getChar_3b067_47 : decode cJ2_getChar_3b067 47 = .ok (.iload_n 1, 1) := by decide +kernel
theorem dJ2_getChar_3b067_48 : decode cJ2_getChar_3b067 48 = .ok (.baload, 1) := by decide +kernel
theorem dJ2_getChar_3b067_49 : decode cJ2_getChar_3b067 49 = .ok (.sipush 255, 3) := by decide +kernel
theorem dJ2_getChar_3b067_52 : decode cJ2_getChar_3b067 52 = .ok (.iand, 1) := by decide +kernel
theorem dJ2_getChar_3b067_53 : decode cJ2_getChar_3b067 53 = .ok (.getstatic 63, 3) := by decide +kernel
theorem dJ2_getChar_3b067_56 : decode cJ2_getChar_3b067 56 = .ok (.ishl, 1) := by decide +kernel
theorem dJ2_getChar_3b067_57 : decode cJ2_getChar_3b067 57 = .ok (.ior, 1) := by decide +kernel
theorem dJ2_getChar_3b067_58 : decode cJ2_getChar_3b067 58 = .ok (.i2c, 1) := by decide +kernel
theorem dJ2_getChar_3b067_59 : decode cJ2_getChar_3b067 59 = .ok (.ireturn, 1) := by decide +kernel
theorem dJ2_length_9d52b_0 : decode cJ2_length_9d52b 0 = .ok (.aload_n 0, 1) := by decide +kernel
theorem dJ2_length_9d52b_1 : decode cJ2_length_9d52b 1 = .ok (.arraylength, 1) := by decide +kernel
theorem dJ2_length_9d52b_2 : decode cJ2_length_9d52b 2 = .ok (.iconst 1, 1) := by decide +kernel
theorem dJ2_length_9d52b_3 : decode cJ2_length_9d52b 3 = .ok (.ishr, 1) := by decide +kernel
theorem dJ2_length_9d52b_4 : decode cJ2_length_9d52b 4 = .ok (.ireturn, 1) := by decide +kernel
theorem dJ2_indexOf_4cfef_0 : decode cJ2_indexOf_4cfef 0 = .ok (.iload_n 2, 1) := by decide +kernel
theorem dJ2_indexOf_4cfef_1 : decode cJ2_indexOf_4cfef 1 = .ok (.iconst 0, 1) := by decide +kernel
theorem dJ2_indexOf_4cfef_2 : decode cJ2_indexOf_4cfef 2 = .ok (.invokestatic 224, 3) := by decide +kernel
theorem dJ2_indexOf_4cfef_5 : decode cJ2_indexOf_4cfef 5 = .ok (.istore_n 2, 1) := by decide +kernel
theorem dJ2_indexOf_4cfef_6 : decode cJ2_indexOf_4cfef 6 = .ok (.iload_n 3, 1) := by decide +kernel
theorem dJ2_indexOf_4cfef_7 : decode cJ2_indexOf_4cfef 7 = .ok (.aload_n 0, 1) := by decide +kernel
theorem dJ2_indexOf_4cfef_8 : decode cJ2_indexOf_4cfef 8 = .ok (.arraylength, 1) := by decide +kernel
theorem dJ2_indexOf_4cfef_9 : decode cJ2_indexOf_4cfef 9 = .ok (.iconst 1, 1) := by decide +kernel
theorem dJ2_indexOf_4cfef_10 : decode cJ2_indexOf_4cfef 10 = .ok (.ishr, 1) := by decide +kernel
theorem dJ2_indexOf_4cfef_11 : decode cJ2_indexOf_4cfef 11 = .ok (.invokestatic 183, 3) := by decide +kernel
theorem dJ2_indexOf_4cfef_14 : decode cJ2_indexOf_4cfef 14 = .ok (.istore_n 3, 1) := by decide +kernel
theorem dJ2_indexOf_4cfef_15 : decode cJ2_indexOf_4cfef 15 = .ok (.iload_n 2, 1) := by decide +kernel
theorem dJ2_indexOf_4cfef_16 : decode cJ2_indexOf_4cfef 16 = .ok (.iload_n 3, 1) := by decide +kernel
theorem dJ2_indexOf_4cfef_17 : decode cJ2_indexOf_4cfef 17 = .ok (.if_icmp .lt 5, 3) := by decide +kernel
theorem dJ2_indexOf_4cfef_20 : decode cJ2_indexOf_4cfef 20 = .ok (.iconst (-1), 1) := by decide +kernel
theorem dJ2_indexOf_4cfef_21 : decode cJ2_indexOf_4cfef 21 = .ok (.ireturn, 1) := by decide +kernel
theorem dJ2_indexOf_4cfef_22 : decode cJ2_indexOf_4cfef 22 = .ok (.iload_n 1, 1) := by decide +kernel
theorem dJ2_indexOf_4cfef_23 : decode cJ2_indexOf_4cfef 23 = .ok (.ldc 227, 2) := by decide +kernel
theorem dJ2_indexOf_4cfef_25 : decode cJ2_indexOf_4cfef 25 = .ok (.if_icmp .ge 11, 3) := by decide +kernel
theorem dJ2_indexOf_4cfef_28 : decode cJ2_indexOf_4cfef 28 = .ok (.aload_n 0, 1) := by decide +kernel
theorem dJ2_indexOf_4cfef_29 : decode cJ2_indexOf_4cfef 29 = .ok (.iload_n 1, 1) := by decide +kernel
theorem dJ2_indexOf_4cfef_30 : decode cJ2_indexOf_4cfef 30 = .ok (.iload_n 2, 1) := by decide +kernel
theorem dJ2_indexOf_4cfef_31 : decode cJ2_indexOf_4cfef 31 = .ok (.iload_n 3, 1) := by decide +kernel
theorem dJ2_indexOf_4cfef_32 : decode cJ2_indexOf_4cfef 32 = .ok (.invokestatic 228, 3) := by decide +kernel
theorem dJ2_indexOf_4cfef_35 : decode cJ2_indexOf_4cfef 35 = .ok (.ireturn, 1) := by decide +kernel
theorem dJ2_indexOf_4cfef_36 : decode cJ2_indexOf_4cfef 36 = .ok (.aload_n 0, 1) := by decide +kernel
theorem dJ2_indexOf_4cfef_37 : decode cJ2_indexOf_4cfef 37 = .ok (.iload_n 1, 1) := by decide +kernel
theorem dJ2_indexOf_4cfef_38 : decode cJ2_indexOf_4cfef 38 = .ok (.iload_n 2, 1) := by decide +kernel
theorem dJ2_indexOf_4cfef_39 : decode cJ2_indexOf_4cfef 39 = .ok (.iload_n 3, 1) := by decide +kernel
theorem dJ2_indexOf_4cfef_40 : decode cJ2_indexOf_4cfef 40 = .ok (.invokestatic 232, 3) := by decide +kernel
theorem dJ2_indexOf_4cfef_43 : decode cJ2_indexOf_4cfef 43 = .ok (.ireturn, 1) := by decide +kernel
theorem dJ2_indexOfChar_4cfef_0 : decode cJ2_indexOfChar_4cfef 0 = .ok (.iload_n 2, 1) := by decide +kernel
theorem dJ2_indexOfChar_4cfef_1 : decode cJ2_indexOfChar_4cfef 1 = .ok (.iload_n 3, 1) := by decide +kernel
theorem dJ2_indexOfChar_4cfef_2 : decode cJ2_indexOfChar_4cfef 2 = .ok (.aload_n 0, 1) := by decide +kernel
theorem dJ2_indexOfChar_4cfef_3 : decode cJ2_indexOfChar_4cfef 3 = .ok (.invokestatic 96, 3) := by decide +kernel
theorem dJ2_indexOfChar_4cfef_6 : decode cJ2_indexOfChar_4cfef 6 = .ok (.aload_n 0, 1) := by decide +kernel
theorem dJ2_indexOfChar_4cfef_7 : decode cJ2_indexOfChar_4cfef 7 = .ok (.iload_n 1, 1) := by decide +kernel
theorem dJ2_indexOfChar_4cfef_8 : decode cJ2_indexOfChar_4cfef 8 = .ok (.iload_n 2, 1) := by decide +kernel
theorem dJ2_indexOfChar_4cfef_9 : decode cJ2_indexOfChar_4cfef 9 = .ok (.iload_n 3, 1) := by decide +kernel
theorem dJ2_indexOfChar_4cfef_10 : decode cJ2_indexOfChar_4cfef 10 = .ok (.invokestatic 244, 3) := by decide +kernel
theorem dJ2_indexOfChar_4cfef_13 : decode cJ2_indexOfChar_4cfef 13 = .ok (.ireturn, 1) := by decide +kernel
theorem dJ2_indexOfCharUnsafe_4cfef_0 : decode cJ2_indexOfCharUnsafe_4cfef 0 = .ok (.iload_n 2, 1) := by decide +kernel
theorem dJ2_indexOfCharUnsafe_4cfef_1 : decode cJ2_indexOfCharUnsafe_4cfef 1 = .ok (.istore 4, 2) := by decide +kernel
theorem dJ2_indexOfCharUnsafe_4cfef_3 : decode cJ2_indexOfCharUnsafe_4cfef 3 = .ok (.iload 4, 2) := by decide +kernel
theorem dJ2_indexOfCharUnsafe_4cfef_5 : decode cJ2_indexOfCharUnsafe_4cfef 5 = .ok (.iload_n 3, 1) := by decide +kernel
theorem dJ2_indexOfCharUnsafe_4cfef_6 : decode cJ2_indexOfCharUnsafe_4cfef 6 = .ok (.if_icmp .ge 22, 3) := by decide +kernel
theorem dJ2_indexOfCharUnsafe_4cfef_9 : decode cJ2_indexOfCharUnsafe_4cfef 9 = .ok (.aload_n 0, 1) := by decide +kernel
theorem dJ2_indexOfCharUnsafe_4cfef_10 : decode cJ2_indexOfCharUnsafe_4cfef 10 = .ok (.iload 4, 2) := by decide +kernel
theorem dJ2_indexOfCharUnsafe_4cfef_12 : decode cJ2_indexOfCharUnsafe_4cfef 12 = .ok (.invokestatic 71, 3) := by decide +kernel
theorem dJ2_indexOfCharUnsafe_4cfef_15 : decode cJ2_indexOfCharUnsafe_4cfef 15 = .ok (.iload_n 1, 1) := by decide +kernel
theorem dJ2_indexOfCharUnsafe_4cfef_16 : decode cJ2_indexOfCharUnsafe_4cfef 16 = .ok (.if_icmp .ne 6, 3) := by decide +kernel
theorem dJ2_indexOfCharUnsafe_4cfef_19 : decode cJ2_indexOfCharUnsafe_4cfef 19 = .ok (.iload 4, 2) := by decide +kernel
theorem dJ2_indexOfCharUnsafe_4cfef_21 : decode cJ2_indexOfCharUnsafe_4cfef 21 = .ok (.ireturn, 1) := by decide +kernel
theorem dJ2_indexOfCharUnsafe_4cfef_22 : decode cJ2_indexOfCharUnsafe_4cfef 22 = .ok (.iinc 4 1, 3) := by decide +kernel
theorem dJ2_indexOfCharUnsafe_4cfef_25 : decode cJ2_indexOfCharUnsafe_4cfef 25 = .ok (.goto (-22), 3) := by decide +kernel
theorem dJ2_indexOfCharUnsafe_4cfef_28 : decode cJ2_indexOfCharUnsafe_4cfef 28 = .ok (.iconst (-1), 1) := by decide +kernel
theorem dJ2_indexOfCharUnsafe_4cfef_29 : decode cJ2_indexOfCharUnsafe_4cfef 29 = .ok (.ireturn, 1) := by decide +kernel
theorem dJ2_indexOfSupplementary_4cfef_0 : decode cJ2_indexOfSupplementary_4cfef 0 = .ok (.iload_n 1, 1) := by decide +kernel
theorem dJ2_indexOfSupplementary_4cfef_1 : decode cJ2_indexOfSupplementary_4cfef 1 = .ok (.invokestatic 164, 3) := by decide +kernel
theorem dJ2_indexOfSupplementary_4cfef_4 : decode cJ2_indexOfSupplementary_4cfef 4 = .ok (.ifCond .eq 65, 3) := by decide +kernel
theorem dJ2_indexOfSupplementary_4cfef_7 : decode cJ2_indexOfSupplementary_4cfef 7 = .ok (.iload_n 1, 1) := by decide +kernel
theorem dJ2_indexOfSupplementary_4cfef_8 : decode cJ2_indexOfSupplementary_4cfef 8 = .ok (.invokestatic 157, 3) := by decide +kernel
theorem dJ2_indexOfSupplementary_4cfef_11 : decode cJ2_indexOfSupplementary_4cfef 11 = .ok (.istore 4, 2) := by decide +kernel
theorem dJ2_indexOfSupplementary_4cfef_13 : decode cJ2_indexOfSupplementary_4cfef 13 = .ok (.iload_n 1, 1) := by decide +kernel
theorem dJ2_indexOfSupplementary_4cfef_14 : decode cJ2_indexOfSupplementary_4cfef 14 = .ok (.invokestatic 161, 3) := by decide +kernel
theorem dJ2_indexOfSupplementary_4cfef_17 : decode cJ2_indexOfSupplementary_4cfef 17 = .ok (.istore 5, 2) := by decide +kernel
theorem dJ2_indexOfSupplementary_4cfef_19 : decode cJ2_indexOfSupplementary_4cfef 19 = .ok (.iload_n 2, 1) := by decide +kernel
theorem dJ2_indexOfSupplementary_4cfef_20 : decode cJ2_indexOfSupplementary_4cfef 20 = .ok (.iload_n 3, 1) := by decide +kernel
theorem dJ2_indexOfSupplementary_4cfef_21 : decode cJ2_indexOfSupplementary_4cfef 21 = .ok (.aload_n 0, 1) := by decide +kernel
theorem dJ2_indexOfSupplementary_4cfef_22 : decode cJ2_indexOfSupplementary_4cfef 22 = .ok (.invokestatic 96, 3) := by decide +kernel
theorem dJ2_indexOfSupplementary_4cfef_25 : decode cJ2_indexOfSupplementary_4cfef 25 = .ok (.iload_n 2, 1) := by decide +kernel
theorem dJ2_indexOfSupplementary_4cfef_26 : decode cJ2_indexOfSupplementary_4cfef 26 = .ok (.istore 6, 2) := by decide +kernel
theorem dJ2_indexOfSupplementary_4cfef_28 : decode cJ2_indexOfSupplementary_4cfef 28 = .ok (.iload 6, 2) := by decide +kernel
theorem dJ2_indexOfSupplementary_4cfef_30 : decode cJ2_indexOfSupplementary_4cfef 30 = .ok (.iload_n 3, 1) := by decide +kernel
theorem dJ2_indexOfSupplementary_4cfef_31 : decode cJ2_indexOfSupplementary_4cfef 31 = .ok (.iconst 1, 1) := by decide +kernel
theorem dJ2_indexOfSupplementary_4cfef_32 : decode cJ2_indexOfSupplementary_4cfef 32 = .ok (.isub, 1) := by decide +kernel
theorem dJ2_indexOfSupplementary_4cfef_33 : decode cJ2_indexOfSupplementary_4cfef 33 = .ok (.if_icmp .ge 36, 3) := by decide +kernel
theorem dJ2_indexOfSupplementary_4cfef_36 : decode cJ2_indexOfSupplementary_4cfef 36 = .ok (.aload_n 0, 1) := by decide +kernel
theorem dJ2_indexOfSupplementary_4cfef_37 : decode cJ2_indexOfSupplementary_4cfef 37 = .ok (.iload 6, 2) := by decide +kernel
theorem dJ2_indexOfSupplementary_4cfef_39 : decode cJ2_indexOfSupplementary_4cfef 39 = .ok (.invokestatic 71, 3) := by decide +kernel
theorem dJ2_indexOfSupplementary_4cfef_42 : decode cJ2_indexOfSupplementary_4cfef 42 = .ok (.iload 4, 2) := by decide +kernel
theorem dJ2_indexOfSupplementary_4cfef_44 : decode cJ2_indexOfSupplementary_4cfef 44 = .ok (.if_icmp .ne 19, 3) := by decide +kernel
theorem dJ2_indexOfSupplementary_4cfef_47 : decode cJ2_indexOfSupplementary_4cfef 47 = .ok (.aload_n 0, 1) := by decide +kernel
theorem dJ2_indexOfSupplementary_4cfef_48 : decode cJ2_indexOfSupplementary_4cfef 48 = .ok (.iload 6, 2) := by decide +kernel
theorem dJ2_indexOfSupplementary_4cfef_50 : decode cJ2_indexOfSupplementary_4cfef 50 = .ok (.iconst 1, 1) := by decide +kernel
theorem dJ2_indexOfSupplementary_4cfef_51 : decode cJ2_indexOfSupplementary_4cfef 51 = .ok (.iadd, 1) := by decide +kernel
theorem dJ2_indexOfSupplementary_4cfef_52 : decode cJ2_indexOfSupplementary_4cfef 52 = .ok (.invokestatic 71, 3) := by decide +kernel
theorem dJ2_indexOfSupplementary_4cfef_55 : decode cJ2_indexOfSupplementary_4cfef 55 = .ok (.iload 5, 2) := by decide +kernel
theorem dJ2_indexOfSupplementary_4cfef_57 : decode cJ2_indexOfSupplementary_4cfef 57 = .ok (.if_icmp .ne 6, 3) := by decide +kernel
theorem dJ2_indexOfSupplementary_4cfef_60 : decode cJ2_indexOfSupplementary_4cfef 60 = .ok (.iload 6, 2) := by decide +kernel
theorem dJ2_indexOfSupplementary_4cfef_62 : decode cJ2_indexOfSupplementary_4cfef 62 = .ok (.ireturn, 1) := by decide +kernel
theorem dJ2_indexOfSupplementary_4cfef_63 : decode cJ2_indexOfSupplementary_4cfef 63 = .ok (.iinc 6 1, 3) := by decide +kernel
theorem dJ2_indexOfSupplementary_4cfef_66 : decode cJ2_indexOfSupplementary_4cfef 66 = .ok (.goto (-38), 3) := by decide +kernel
theorem dJ2_indexOfSupplementary_4cfef_69 : decode cJ2_indexOfSupplementary_4cfef 69 = .ok (.iconst (-1), 1) := by decide +kernel
theorem dJ2_indexOfSupplementary_4cfef_70 : decode cJ2_indexOfSupplementary_4cfef 70 = .ok (.ireturn, 1) := by decide +kernel
theorem dJ2_charAt_3b067_0 : decode cJ2_charAt_3b067 0 = .ok (.iload_n 1, 1) := by decide +kernel
theorem dJ2_charAt_3b067_1 : decode cJ2_charAt_3b067 1 = .ok (.aload_n 0, 1) := by decide +kernel
theorem dJ2_charAt_3b067_2 : decode cJ2_charAt_3b067 2 = .ok (.invokestatic 67, 3) := by decide +kernel
theorem dJ2_charAt_3b067_5 : decode cJ2_charAt_3b067 5 = .ok (.aload_n 0, 1) := by decide +kernel
theorem dJ2_charAt_3b067_6 : decode cJ2_charAt_3b067 6 = .ok (.iload_n 1, 1) := by decide +kernel
theorem dJ2_charAt_3b067_7 : decode cJ2_charAt_3b067 7 = .ok (.invokestatic 71, 3) := by decide +kernel
theorem dJ2_charAt_3b067_10 : decode cJ2_charAt_3b067 10 = .ok (.ireturn, 1) := by decide +kernel
theorem dJ2_checkIndex_2214a_0 : decode cJ2_checkIndex_2214a 0 = .ok (.iload_n 0, 1) := by decide +kernel
theorem dJ2_checkIndex_2214a_1 : decode cJ2_checkIndex_2214a 1 = .ok (.aload_n 1, 1) := by decide +kernel
theorem dJ2_checkIndex_2214a_2 : decode cJ2_checkIndex_2214a 2 = .ok (.invokestatic 48, 3) := by decide +kernel
theorem dJ2_checkIndex_2214a_5 : decode cJ2_checkIndex_2214a 5 = .ok (.invokestatic 414, 3) := by decide +kernel
theorem dJ2_checkIndex_2214a_8 : decode cJ2_checkIndex_2214a 8 = .ok (.return_, 1) := by decide +kernel
theorem dJ2_checkBoundsBeginEnd_d044e_0 : decode cJ2_checkBoundsBeginEnd_d044e 0 = .ok (.iload_n 0, 1) := by decide +kernel
theorem dJ2_checkBoundsBeginEnd_d044e_1 : decode cJ2_checkBoundsBeginEnd_d044e 1 = .ok (.iload_n 1, 1) := by decide +kernel
theorem dJ2_checkBoundsBeginEnd_d044e_2 : decode cJ2_checkBoundsBeginEnd_d044e 2 = .ok (.aload_n 2, 1) := by decide +kernel
theorem dJ2_checkBoundsBeginEnd_d044e_3 : decode cJ2_checkBoundsBeginEnd_d044e 3 = .ok (.invokestatic 48, 3) := by decide +kernel
theorem dJ2_checkBoundsBeginEnd_d044e_6 : decode cJ2_checkBoundsBeginEnd_d044e 6 = .ok (.invokestatic 241, 3) := by decide +kernel
theorem dJ2_checkBoundsBeginEnd_d044e_9 : decode cJ2_checkBoundsBeginEnd_d044e 9 = .ok (.return_, 1) := by decide +kernel
theorem dJ3_checkIndex_8e157_0 : decode cJ3_checkIndex_8e157 0 = .ok (.iload_n 0, 1) := by decide +kernel
theorem dJ3_checkIndex_8e157_1 : decode cJ3_checkIndex_8e157 1 = .ok (.ifCond .lt 8, 3) := by decide +kernel
theorem dJ3_checkIndex_8e157_4 : decode cJ3_checkIndex_8e157 4 = .ok (.iload_n 0, 1) := by decide +kernel
theorem dJ3_checkIndex_8e157_5 : decode cJ3_checkIndex_8e157 5 = .ok (.iload_n 1, 1) := by decide +kernel
theorem dJ3_checkIndex_8e157_6 : decode cJ3_checkIndex_8e157 6 = .ok (.if_icmp .lt 10, 3) := by decide +kernel
theorem dJ3_checkIndex_8e157_9 : decode cJ3_checkIndex_8e157 9 = .ok (.aload_n 2, 1) := by decide +kernel
theorem dJ3_checkIndex_8e157_10 : decode cJ3_checkIndex_8e157 10 = .ok (.iload_n 0, 1) := by decide +kernel
theorem dJ3_checkIndex_8e157_11 : decode cJ3_checkIndex_8e157 11 = .ok (.iload_n 1, 1) := by decide +kernel
theorem dJ3_checkIndex_8e157_12 : decode cJ3_checkIndex_8e157 12 = .ok (.invokestatic 95, 3) := by decide +kernel
theorem dJ3_checkIndex_8e157_15 : decode cJ3_checkIndex_8e157 15 = .ok (.athrow, 1) := by decide +kernel
theorem dJ3_checkIndex_8e157_16 : decode cJ3_checkIndex_8e157 16 = .ok (.iload_n 0, 1) := by decide +kernel
theorem dJ3_checkIndex_8e157_17 : decode cJ3_checkIndex_8e157 17 = .ok (.ireturn, 1) := by decide +kernel
theorem dJ3_checkFromToIndex_8c36e_0 : decode cJ3_checkFromToIndex_8c36e 0 = .ok (.iload_n 0, 1) := by decide +kernel
theorem dJ3_checkFromToIndex_8c36e_1 : decode cJ3_checkFromToIndex_8c36e 1 = .ok (.ifCond .lt 13, 3) := by decide +kernel
theorem dJ3_checkFromToIndex_8c36e_4 : decode cJ3_checkFromToIndex_8c36e 4 = .ok (.iload_n 0, 1) := by decide +kernel
theorem dJ3_checkFromToIndex_8c36e_5 : decode cJ3_checkFromToIndex_8c36e 5 = .ok (.iload_n 1, 1) := by decide +kernel
theorem dJ3_checkFromToIndex_8c36e_6 : decode cJ3_checkFromToIndex_8c36e 6 = .ok (.if_icmp .gt 8, 3) := by decide +kernel
theorem dJ3_checkFromToIndex_8c36e_9 : decode cJ3_checkFromToIndex_8c36e 9 = .ok (.iload_n 1, 1) := by decide +kernel
theorem dJ3_checkFromToIndex_8c36e_10 : decode cJ3_checkFromToIndex_8c36e 10 = .ok (.iload_n 2, 1) := by decide +kernel
theorem dJ3_checkFromToIndex_8c36e_11 : decode cJ3_checkFromToIndex_8c36e 11 = .ok (.if_icmp .le 11, 3) := by decide +kernel
theorem dJ3_checkFromToIndex_8c36e_14 : decode cJ3_checkFromToIndex_8c36e 14 = .ok (.aload_n 3, 1) := by decide +kernel
theorem dJ3_checkFromToIndex_8c36e_15 : decode cJ3_checkFromToIndex_8c36e 15 = .ok (.iload_n 0, 1) := by decide +kernel
theorem dJ3_checkFromToIndex_8c36e_16 : decode cJ3_checkFromToIndex_8c36e 16 = .ok (.iload_n 1, 1) := by decide +kernel
theorem dJ3_checkFromToIndex_8c36e_17 : decode cJ3_checkFromToIndex_8c36e 17 = .ok (.iload_n 2, 1) := by decide +kernel
theorem dJ3_checkFromToIndex_8c36e_18 : decode cJ3_checkFromToIndex_8c36e 18 = .ok (.invokestatic 99, 3) := by decide +kernel
theorem dJ3_checkFromToIndex_8c36e_21 : decode cJ3_checkFromToIndex_8c36e 21 = .ok (.athrow, 1) := by decide +kernel
theorem dJ3_checkFromToIndex_8c36e_22 : decode cJ3_checkFromToIndex_8c36e 22 = .ok (.iload_n 0, 1) := by decide +kernel
theorem dJ3_checkFromToIndex_8c36e_23 : decode cJ3_checkFromToIndex_8c36e 23 = .ok (.ireturn, 1) := by decide +kernel
theorem dL_rests_0 : decode cL_rests 0 = .ok (.aload 5, 2) := by decide +kernel
theorem dL_rests_2 : decode cL_rests 2 = .ok (.iconst 0, 1) := by decide +kernel
theorem dL_rests_3 : decode cL_rests 3 = .ok (.aload_n 0, 1) := by decide +kernel
theorem dL_rests_4 : decode cL_rests 4 = .ok (.iload_n 1, 1) := by decide +kernel
theorem dL_rests_5 : decode cL_rests 5 = .ok (.iload_n 2, 1) := by decide +kernel
theorem dL_rests_6 : decode cL_rests 6 = .ok (.iload_n 3, 1) := by decide +kernel
theorem dL_rests_7 : decode cL_rests 7 = .ok (.iload 4, 2) := by decide +kernel
theorem dL_rests_9 : decode cL_rests 9 = .ok (.invokevirtual 7, 3) := by decide +kernel
theorem dL_rests_12 : decode cL_rests 12 = .ok (.i2l, 1) := by decide +kernel
theorem dL_rests_13 : decode cL_rests 13 = .ok (.lastore, 1) := by decide +kernel
theorem dL_rests_14 : decode cL_rests 14 = .ok (.goto 7, 3) := by decide +kernel
theorem dL_rests_17 : decode cL_rests 17 = .ok (.astore 6, 2) := by decide +kernel
theorem dL_rests_19 : decode cL_rests 19 = .ok (.iconst 1, 1) := by decide +kernel
theorem dL_rests_20 : decode cL_rests 20 = .ok (.ireturn, 1) := by decide +kernel
theorem dL_rests_21 : decode cL_rests 21 = .ok (.iconst 0, 1) := by decide +kernel
theorem dL_rests_22 : decode cL_rests 22 = .ok (.ireturn, 1) := by decide +kernel
