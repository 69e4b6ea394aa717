theorem dX0_init_0 : decode cX0_init 0 = .ok (.aload_n 0, 1) := by decide +kernel
theorem dX0_init_1 : decode cX0_init 1 = .ok (.invokespecial 3, 3) := by decide +kernel
theorem dX0_init_4 : decode cX0_init 4 = .ok (.aload_n 0, 1) := by decide +kernel
theorem dX0_init_5 : decode cX0_init 5 = .ok (.bipush 40, 2) := by decide +kernel
theorem dX0_init_7 : decode cX0_init 7 = .ok (.newarray .int, 2) := by decide +kernel
theorem dX0_init_9 : decode cX0_init 9 = .ok (.putfield 9, 3) := by decide +kernel
theorem dX0_init_12 : decode cX0_init 12 = .ok (.aload_n 0, 1) := by decide +kernel
theorem dX0_init_13 : decode cX0_init 13 = .ok (.bipush 40, 2) := by decide +kernel
theorem dX0_init_15 : decode cX0_init 15 = .ok (.newarray .int, 2) := by decide +kernel
theorem dX0_init_17 : decode cX0_init 17 = .ok (.putfield 15, 3) := by decide +kernel
theorem dX0_init_20 : decode cX0_init 20 = .ok (.aload_n 0, 1) := by decide +kernel
theorem dX0_init_21 : decode cX0_init 21 = .ok (.bipush 40, 2) := by decide +kernel
theorem dX0_init_23 : decode cX0_init 23 = .ok (.newarray .int, 2) := by decide +kernel
theorem dX0_init_25 : decode cX0_init 25 = .ok (.putfield 18, 3) := by decide +kernel
theorem dX0_init_28 : decode cX0_init 28 = .ok (.return_, 1) := by decide +kernel
theorem dX0_copyFrom_0 : decode cX0_copyFrom 0 = .ok (.aload_n 0, 1) := by decide +kernel
theorem dX0_copyFrom_1 : decode cX0_copyFrom 1 = .ok (.aload_n 1, 1) := by decide +kernel
theorem dX0_copyFrom_2 : decode cX0_copyFrom 2 = .ok (.getfield 21, 3) := by decide +kernel
theorem dX0_copyFrom_5 : decode cX0_copyFrom 5 = .ok (.putfield 21, 3) := by decide +kernel
theorem dX0_copyFrom_8 : decode cX0_copyFrom 8 = .ok (.aload_n 1, 1) := by decide +kernel
theorem dX0_copyFrom_9 : decode cX0_copyFrom 9 = .ok (.getfield 9, 3) := by decide +kernel
theorem dX0_copyFrom_12 : decode cX0_copyFrom 12 = .ok (.iconst 0, 1) := by decide +kernel
theorem dX0_copyFrom_13 : decode cX0_copyFrom 13 = .ok (.aload_n 0, 1) := by decide +kernel
theorem dX0_copyFrom_14 : decode cX0_copyFrom 14 = .ok (.getfield 9, 3) := by decide +kernel
theorem dX0_copyFrom_17 : decode cX0_copyFrom 17 = .ok (.iconst 0, 1) := by decide +kernel
theorem dX0_copyFrom_18 : decode cX0_copyFrom 18 = .ok (.bipush 40, 2) := by decide +kernel
theorem dX0_copyFrom_20 : decode cX0_copyFrom 20 = .ok (.invokestatic 25, 3) := by decide +kernel
theorem dX0_copyFrom_23 : decode cX0_copyFrom 23 = .ok (.aload_n 1, 1) := by decide +kernel
theorem dX0_copyFrom_24 : decode cX0_copyFrom 24 = .ok (.getfield 15, 3) := by decide +kernel
theorem dX0_copyFrom_27 : decode cX0_copyFrom 27 = .ok (.iconst 0, 1) := by decide +kernel
theorem dX0_copyFrom_28 : decode cX0_copyFrom 28 = .ok (.aload_n 0, 1) := by decide +kernel
theorem dX0_copyFrom_29 : decode cX0_copyFrom 29 = .ok (.getfield 15, 3) := by decide +kernel
theorem dX0_copyFrom_32 : decode cX0_copyFrom 32 = .ok (.iconst 0, 1) := by decide +kernel
theorem dX0_copyFrom_33 : decode cX0_copyFrom 33 = .ok (.bipush 40, 2) := by decide +kernel
theorem dX0_copyFrom_35 : decode cX0_copyFrom 35 = .ok (.invokestatic 25, 3) := by decide +kernel
theorem dX0_copyFrom_38 : decode cX0_copyFrom 38 = .ok (.aload_n 1, 1) := by decide +kernel
theorem dX0_copyFrom_39 : decode cX0_copyFrom 39 = .ok (.getfield 18, 3) := by decide +kernel
theorem dX0_copyFrom_42 : decode cX0_copyFrom 42 = .ok (.iconst 0, 1) := by decide +kernel
theorem dX0_copyFrom_43 : decode cX0_copyFrom 43 = .ok (.aload_n 0, 1) := by decide +kernel
theorem dX0_copyFrom_44 : decode cX0_copyFrom 44 = .ok (.getfield 18, 3) := by decide +kernel
theorem dX0_copyFrom_47 : decode cX0_copyFrom 47 = .ok (.iconst 0, 1) := by decide +kernel
theorem dX0_copyFrom_48 : decode cX0_copyFrom 48 = .ok (.bipush 40, 2) := by decide +kernel
theorem dX0_copyFrom_50 : decode cX0_copyFrom 50 = .ok (.invokestatic 25, 3) := by decide +kernel
theorem dX0_copyFrom_53 : decode cX0_copyFrom 53 = .ok (.return_, 1) := by decide +kernel
theorem dX1_init_0 : decode cX1_init 0 = .ok (.aload_n 0, 1) := by decide +kernel
theorem dX1_init_1 : decode cX1_init 1 = .ok (.invokespecial 3, 3) := by decide +kernel
theorem dX1_init_4 : decode cX1_init 4 = .ok (.aload_n 0, 1) := by decide +kernel
theorem dX1_init_5 : decode cX1_init 5 = .ok (.bipush 7, 2) := by decide +kernel
theorem dX1_init_7 : decode cX1_init 7 = .ok (.newarray .long, 2) := by decide +kernel
theorem dX1_init_9 : decode cX1_init 9 = .ok (.putfield 9, 3) := by decide +kernel
theorem dX1_init_12 : decode cX1_init 12 = .ok (.aload_n 0, 1) := by decide +kernel
theorem dX1_init_13 : decode cX1_init 13 = .ok (.bipush 7, 2) := by decide +kernel
theorem dX1_init_15 : decode cX1_init 15 = .ok (.newarray .int, 2) := by decide +kernel
theorem dX1_init_17 : decode cX1_init 17 = .ok (.putfield 15, 3) := by decide +kernel
theorem dX1_init_20 : decode cX1_init 20 = .ok (.aload_n 0, 1) := by decide +kernel
theorem dX1_init_21 : decode cX1_init 21 = .ok (.bipush 7, 2) := by decide +kernel
theorem dX1_init_23 : decode cX1_init 23 = .ok (.newarray .int, 2) := by decide +kernel
theorem dX1_init_25 : decode cX1_init 25 = .ok (.putfield 19, 3) := by decide +kernel
theorem dX1_init_28 : decode cX1_init 28 = .ok (.aload_n 0, 1) := by decide +kernel
theorem dX1_init_29 : decode cX1_init 29 = .ok (.bipush 7, 2) := by decide +kernel
theorem dX1_init_31 : decode cX1_init 31 = .ok (.newarray .int, 2) := by decide +kernel
theorem dX1_init_33 : decode cX1_init 33 = .ok (.putfield 22, 3) := by decide +kernel
theorem dX1_init_36 : decode cX1_init 36 = .ok (.aload_n 0, 1) := by decide +kernel
theorem dX1_init_37 : decode cX1_init 37 = .ok (.bipush 7, 2) := by decide +kernel
theorem dX1_init_39 : decode cX1_init 39 = .ok (.newarray .int, 2) := by decide +kernel
theorem dX1_init_41 : decode cX1_init 41 = .ok (.putfield 25, 3) := by decide +kernel
theorem dX1_init_44 : decode cX1_init 44 = .ok (.aload_n 0, 1) := by decide +kernel
theorem dX1_init_45 : decode cX1_init 45 = .ok (.bipush 7, 2) := by decide +kernel
theorem dX1_init_47 : decode cX1_init 47 = .ok (.newarray .int, 2) := by decide +kernel
theorem dX1_init_49 : decode cX1_init 49 = .ok (.putfield 28, 3) := by decide +kernel
theorem dX1_init_52 : decode cX1_init 52 = .ok (.aload_n 0, 1) := by decide +kernel
theorem dX1_init_53 : decode cX1_init 53 = .ok (.bipush 7, 2) := by decide +kernel
theorem dX1_init_55 : decode cX1_init 55 = .ok (.newarray .int, 2) := by decide +kernel
theorem dX1_init_57 : decode cX1_init 57 = .ok (.putfield 31, 3) := by decide +kernel
theorem dX1_init_60 : decode cX1_init 60 = .ok (.aload_n 0, 1) := by decide +kernel
theorem dX1_init_61 : decode cX1_init 61 = .ok (.bipush 6, 2) := by decide +kernel
theorem dX1_init_63 : decode cX1_init 63 = .ok (.newarray .long, 2) := by decide +kernel
theorem dX1_init_65 : decode cX1_init 65 = .ok (.putfield 34, 3) := by decide +kernel
theorem dX1_init_68 : decode cX1_init 68 = .ok (.aload_n 0, 1) := by decide +kernel
theorem dX1_init_69 : decode cX1_init 69 = .ok (.bipush 6, 2) := by decide +kernel
theorem dX1_init_71 : decode cX1_init 71 = .ok (.newarray .int, 2) := by decide +kernel
theorem dX1_init_73 : decode cX1_init 73 = .ok (.putfield 37, 3) := by decide +kernel
theorem dX1_init_76 : decode cX1_init 76 = .ok (.aload_n 0, 1) := by decide +kernel
theorem dX1_init_77 : decode cX1_init 77 = .ok (.bipush 12, 2) := by decide +kernel
theorem dX1_init_79 : decode cX1_init 79 = .ok (.newarray .int, 2) := by decide +kernel
theorem dX1_init_81 : decode cX1_init 81 = .ok (.putfield 40, 3) := by decide +kernel
theorem dX1_init_84 : decode cX1_init 84 = .ok (.aload_n 0, 1) := by decide +kernel
theorem dX1_init_85 : decode cX1_init 85 = .ok (.new 43, 3) := by decide +kernel
theorem dX1_init_88 : decode cX1_init 88 = .ok (.dup, 1) := by decide +kernel
theorem dX1_init_89 : decode cX1_init 89 = .ok (.invokespecial 45, 3) := by decide +kernel
theorem dX1_init_92 : decode cX1_init 92 = .ok (.putfield 46, 3) := by decide +kernel
theorem dX1_init_95 : decode cX1_init 95 = .ok (.return_, 1) := by decide +kernel
theorem dX1_forget_0 : decode cX1_forget 0 = .ok (.aload_n 0, 1) := by decide +kernel
theorem dX1_forget_1 : decode cX1_forget 1 = .ok (.iconst 0, 1) := by decide +kernel
theorem dX1_forget_2 : decode cX1_forget 2 = .ok (.putfield 50, 3) := by decide +kernel
theorem dX1_forget_5 : decode cX1_forget 5 = .ok (.aload_n 0, 1) := by decide +kernel
theorem dX1_forget_6 : decode cX1_forget 6 = .ok (.iconst 0, 1) := by decide +kernel
theorem dX1_forget_7 : decode cX1_forget 7 = .ok (.putfield 54, 3) := by decide +kernel
theorem dX1_forget_10 : decode cX1_forget 10 = .ok (.aload_n 0, 1) := by decide +kernel
theorem dX1_forget_11 : decode cX1_forget 11 = .ok (.iconst 0, 1) := by decide +kernel
theorem dX1_forget_12 : decode cX1_forget 12 = .ok (.putfield 57, 3) := by decide +kernel
theorem dX1_forget_15 : decode cX1_forget 15 = .ok (.aload_n 0, 1) := by decide +kernel
theorem dX1_forget_16 : decode cX1_forget 16 = .ok (.getfield 46, 3) := by decide +kernel
theorem dX1_forget_19 : decode cX1_forget 19 = .ok (.iconst 0, 1) := by decide +kernel
theorem dX1_forget_20 : decode cX1_forget 20 = .ok (.putfield 60, 3) := by decide +kernel
theorem dX1_forget_23 : decode cX1_forget 23 = .ok (.return_, 1) := by decide +kernel
theorem dX1_mouthNamed_0 : decode cX1_mouthNamed 0 = .ok (.iconst 0, 1) := by decide +kernel
theorem dX1_mouthNamed_1 : decode cX1_mouthNamed 1 = .ok (.istore_n 3, 1) := by decide +kernel
theorem dX1_mouthNamed_2 : decode cX1_mouthNamed 2 = .ok (.iload_n 3, 1) := by decide +kernel
theorem dX1_mouthNamed_3 : decode cX1_mouthNamed 3 = .ok (.aload_n 0, 1) := by decide +kernel
theorem dX1_mouthNamed_4 : decode cX1_mouthNamed 4 = .ok (.getfield 50, 3) := by decide +kernel
theorem dX1_mouthNamed_7 : decode cX1_mouthNamed 7 = .ok (.if_icmp .ge 22, 3) := by decide +kernel
theorem dX1_mouthNamed_10 : decode cX1_mouthNamed 10 = .ok (.aload_n 0, 1) := by decide +kernel
theorem dX1_mouthNamed_11 : decode cX1_mouthNamed 11 = .ok (.getfield 9, 3) := by decide +kernel
theorem dX1_mouthNamed_14 : decode cX1_mouthNamed 14 = .ok (.iload_n 3, 1) := by decide +kernel
theorem dX1_mouthNamed_15 : decode cX1_mouthNamed 15 = .ok (.laload, 1) := by decide +kernel
theorem dX1_mouthNamed_16 : decode cX1_mouthNamed 16 = .ok (.lload_n 1, 1) := by decide +kernel
theorem dX1_mouthNamed_17 : decode cX1_mouthNamed 17 = .ok (.lcmp, 1) := by decide +kernel
theorem dX1_mouthNamed_18 : decode cX1_mouthNamed 18 = .ok (.ifCond .ne 5, 3) := by decide +kernel
theorem dX1_mouthNamed_21 : decode cX1_mouthNamed 21 = .ok (.iload_n 3, 1) := by decide +kernel
theorem dX1_mouthNamed_22 : decode cX1_mouthNamed 22 = .ok (.ireturn, 1) := by decide +kernel
theorem dX1_mouthNamed_23 : decode cX1_mouthNamed 23 = .ok (.iinc 3 1, 3) := by decide +kernel
theorem dX1_mouthNamed_26 : decode cX1_mouthNamed 26 = .ok (.goto (-24), 3) := by decide +kernel
theorem dX1_mouthNamed_29 : decode cX1_mouthNamed 29 = .ok (.iconst (-1), 1) := by decide +kernel
theorem dX1_mouthNamed_30 : decode cX1_mouthNamed 30 = .ok (.ireturn, 1) := by decide +kernel
theorem dX1_letterNamed_0 : decode cX1_letterNamed 0 = .ok (.iconst 0, 1) := by decide +kernel
theorem dX1_letterNamed_1 : decode cX1_letterNamed 1 = .ok (.istore_n 3, 1) := by decide +kernel
theorem dX1_letterNamed_2 : decode cX1_letterNamed 2 = .ok (.iload_n 3, 1) := by decide +kernel
theorem dX1_letterNamed_3 : decode cX1_letterNamed 3 = .ok (.aload_n 0, 1) := by decide +kernel
theorem dX1_letterNamed_4 : decode cX1_letterNamed 4 = .ok (.getfield 54, 3) := by decide +kernel
theorem dX1_letterNamed_7 : decode cX1_letterNamed 7 = .ok (.if_icmp .ge 22, 3) := by decide +kernel
theorem dX1_letterNamed_10 : decode cX1_letterNamed 10 = .ok (.aload_n 0, 1) := by decide +kernel
theorem dX1_letterNamed_11 : decode cX1_letterNamed 11 = .ok (.getfield 34, 3) := by decide +kernel
theorem dX1_letterNamed_14 : decode cX1_letterNamed 14 = .ok (.iload_n 3, 1) := by decide +kernel
theorem dX1_letterNamed_15 : decode cX1_letterNamed 15 = .ok (.laload, 1) := by decide +kernel
theorem dX1_letterNamed_16 : decode cX1_letterNamed 16 = .ok (.lload_n 1, 1) := by decide +kernel
theorem dX1_letterNamed_17 : decode cX1_letterNamed 17 = .ok (.lcmp, 1) := by decide +kernel
theorem dX1_letterNamed_18 : decode cX1_letterNamed 18 = .ok (.ifCond .ne 5, 3) := by decide +kernel
theorem dX1_letterNamed_21 : decode cX1_letterNamed 21 = .ok (.iload_n 3, 1) := by decide +kernel
theorem dX1_letterNamed_22 : decode cX1_letterNamed 22 = .ok (.ireturn, 1) := by decide +kernel
theorem dX1_letterNamed_23 : decode cX1_letterNamed 23 = .ok (.iinc 3 1, 3) := by decide +kernel
theorem dX1_letterNamed_26 : decode cX1_letterNamed 26 = .ok (.goto (-24), 3) := by decide +kernel
theorem dX1_letterNamed_29 : decode cX1_letterNamed 29 = .ok (.iconst (-1), 1) := by decide +kernel
theorem dX1_letterNamed_30 : decode cX1_letterNamed 30 = .ok (.ireturn, 1) := by decide +kernel
theorem dX1_isTold_0 : decode cX1_isTold 0 = .ok (.aload_n 0, 1) := by decide +kernel
theorem dX1_isTold_1 : decode cX1_isTold 1 = .ok (.lload_n 1, 1) := by decide +kernel
theorem dX1_isTold_2 : decode cX1_isTold 2 = .ok (.invokevirtual 63, 3) := by decide +kernel
theorem dX1_isTold_5 : decode cX1_isTold 5 = .ok (.iconst (-1), 1) := by decide +kernel
theorem dX1_isTold_6 : decode cX1_isTold 6 = .ok (.if_icmp .ne 12, 3) := by decide +kernel
theorem dX1_isTold_9 : decode cX1_isTold 9 = .ok (.aload_n 0, 1) := by decide +kernel
theorem dX1_isTold_10 : decode cX1_isTold 10 = .ok (.lload_n 1, 1) := by decide +kernel
theorem dX1_isTold_11 : decode cX1_isTold 11 = .ok (.invokevirtual 67, 3) := by decide +kernel
theorem dX1_isTold_14 : decode cX1_isTold 14 = .ok (.iconst (-1), 1) := by decide +kernel
theorem dX1_isTold_15 : decode cX1_isTold 15 = .ok (.if_icmp .eq 7, 3) := by decide +kernel
theorem dX1_isTold_18 : decode cX1_isTold 18 = .ok (.iconst 1, 1) := by decide +kernel
theorem dX1_isTold_19 : decode cX1_isTold 19 = .ok (.goto 4, 3) := by decide +kernel
theorem dX1_isTold_22 : decode cX1_isTold 22 = .ok (.iconst 0, 1) := by decide +kernel
theorem dX1_isTold_23 : decode cX1_isTold 23 = .ok (.ireturn, 1) := by decide +kernel
theorem dX1_letterOf_0 : decode cX1_letterOf 0 = .ok (.iconst 0, 1) := by decide +kernel
theorem dX1_letterOf_1 : decode cX1_letterOf 1 = .ok (.istore_n 2, 1) := by decide +kernel
theorem dX1_letterOf_2 : decode cX1_letterOf 2 = .ok (.iload_n 2, 1) := by decide +kernel
theorem dX1_letterOf_3 : decode cX1_letterOf 3 = .ok (.aload_n 0, 1) := by decide +kernel
theorem dX1_letterOf_4 : decode cX1_letterOf 4 = .ok (.getfield 54, 3) := by decide +kernel
theorem dX1_letterOf_7 : decode cX1_letterOf 7 = .ok (.if_icmp .ge 21, 3) := by decide +kernel
theorem dX1_letterOf_10 : decode cX1_letterOf 10 = .ok (.aload_n 0, 1) := by decide +kernel
theorem dX1_letterOf_11 : decode cX1_letterOf 11 = .ok (.getfield 37, 3) := by decide +kernel
theorem dX1_letterOf_14 : decode cX1_letterOf 14 = .ok (.iload_n 2, 1) := by decide +kernel
theorem dX1_letterOf_15 : decode cX1_letterOf 15 = .ok (.iaload, 1) := by decide +kernel
theorem dX1_letterOf_16 : decode cX1_letterOf 16 = .ok (.iload_n 1, 1) := by decide +kernel
theorem dX1_letterOf_17 : decode cX1_letterOf 17 = .ok (.if_icmp .ne 5, 3) := by decide +kernel
theorem dX1_letterOf_20 : decode cX1_letterOf 20 = .ok (.iload_n 2, 1) := by decide +kernel
theorem dX1_letterOf_21 : decode cX1_letterOf 21 = .ok (.ireturn, 1) := by decide +kernel
theorem dX1_letterOf_22 : decode cX1_letterOf 22 = .ok (.iinc 2 1, 3) := by decide +kernel
theorem dX1_letterOf_25 : decode cX1_letterOf 25 = .ok (.goto (-23), 3) := by decide +kernel
theorem dX1_letterOf_28 : decode cX1_letterOf 28 = .ok (.iconst (-1), 1) := by decide +kernel
theorem dX1_letterOf_29 : decode cX1_letterOf 29 = .ok (.ireturn, 1) := by decide +kernel
theorem dX1_readOf_0 : decode cX1_readOf 0 = .ok (.aload_n 0, 1) := by decide +kernel
theorem dX1_readOf_1 : decode cX1_readOf 1 = .ok (.iload_n 1, 1) := by decide +kernel
theorem dX1_readOf_2 : decode cX1_readOf 2 = .ok (.invokevirtual 70, 3) := by decide +kernel
theorem dX1_readOf_5 : decode cX1_readOf 5 = .ok (.istore_n 2, 1) := by decide +kernel
theorem dX1_readOf_6 : decode cX1_readOf 6 = .ok (.iload_n 2, 1) := by decide +kernel
theorem dX1_readOf_7 : decode cX1_readOf 7 = .ok (.iconst (-1), 1) := by decide +kernel
theorem dX1_readOf_8 : decode cX1_readOf 8 = .ok (.if_icmp .ne 12, 3) := by decide +kernel
theorem dX1_readOf_11 : decode cX1_readOf 11 = .ok (.iload_n 1, 1) := by decide +kernel
theorem dX1_readOf_12 : decode cX1_readOf 12 = .ok (.ifCond .eq 8, 3) := by decide +kernel
theorem dX1_readOf_15 : decode cX1_readOf 15 = .ok (.bipush 6, 2) := by decide +kernel
theorem dX1_readOf_17 : decode cX1_readOf 17 = .ok (.goto 4, 3) := by decide +kernel
theorem dX1_readOf_20 : decode cX1_readOf 20 = .ok (.iload_n 2, 1) := by decide +kernel
theorem dX1_readOf_21 : decode cX1_readOf 21 = .ok (.ireturn, 1) := by decide +kernel
theorem dX1_rainOf_0 : decode cX1_rainOf 0 = .ok (.aload_n 0, 1) := by decide +kernel
theorem dX1_rainOf_1 : decode cX1_rainOf 1 = .ok (.getfield 57, 3) := by decide +kernel
theorem dX1_rainOf_4 : decode cX1_rainOf 4 = .ok (.ifCond .le 21, 3) := by decide +kernel
theorem dX1_rainOf_7 : decode cX1_rainOf 7 = .ok (.iload_n 1, 1) := by decide +kernel
theorem dX1_rainOf_8 : decode cX1_rainOf 8 = .ok (.ifCond .lt 17, 3) := by decide +kernel
theorem dX1_rainOf_11 : decode cX1_rainOf 11 = .ok (.aload_n 0, 1) := by decide +kernel
theorem dX1_rainOf_12 : decode cX1_rainOf 12 = .ok (.getfield 40, 3) := by decide +kernel
theorem dX1_rainOf_15 : decode cX1_rainOf 15 = .ok (.iload_n 1, 1) := by decide +kernel
theorem dX1_rainOf_16 : decode cX1_rainOf 16 = .ok (.aload_n 0, 1) := by decide +kernel
theorem dX1_rainOf_17 : decode cX1_rainOf 17 = .ok (.getfield 57, 3) := by decide +kernel
theorem dX1_rainOf_20 : decode cX1_rainOf 20 = .ok (.irem, 1) := by decide +kernel
theorem dX1_rainOf_21 : decode cX1_rainOf 21 = .ok (.iaload, 1) := by decide +kernel
theorem dX1_rainOf_22 : decode cX1_rainOf 22 = .ok (.goto 4, 3) := by decide +kernel
theorem dX1_rainOf_25 : decode cX1_rainOf 25 = .ok (.iconst 0, 1) := by decide +kernel
theorem dX1_rainOf_26 : decode cX1_rainOf 26 = .ok (.ireturn, 1) := by decide +kernel
theorem dX1_nests_0 : decode cX1_nests 0 = .ok (.iconst 0, 1) := by decide +kernel
theorem dX1_nests_1 : decode cX1_nests 1 = .ok (.istore_n 1, 1) := by decide +kernel
theorem dX1_nests_2 : decode cX1_nests 2 = .ok (.iconst 0, 1) := by decide +kernel
theorem dX1_nests_3 : decode cX1_nests 3 = .ok (.istore_n 2, 1) := by decide +kernel
theorem dX1_nests_4 : decode cX1_nests 4 = .ok (.iload_n 2, 1) := by decide +kernel
theorem dX1_nests_5 : decode cX1_nests 5 = .ok (.aload_n 0, 1) := by decide +kernel
theorem dX1_nests_6 : decode cX1_nests 6 = .ok (.getfield 50, 3) := by decide +kernel
theorem dX1_nests_9 : decode cX1_nests 9 = .ok (.if_icmp .ge 25, 3) := by decide +kernel
theorem dX1_nests_12 : decode cX1_nests 12 = .ok (.aload_n 0, 1) := by decide +kernel
theorem dX1_nests_13 : decode cX1_nests 13 = .ok (.getfield 15, 3) := by decide +kernel
theorem dX1_nests_16 : decode cX1_nests 16 = .ok (.iload_n 2, 1) := by decide +kernel
theorem dX1_nests_17 : decode cX1_nests 17 = .ok (.iaload, 1) := by decide +kernel
theorem dX1_nests_18 : decode cX1_nests 18 = .ok (.iconst 3, 1) := by decide +kernel
theorem dX1_nests_19 : decode cX1_nests 19 = .ok (.if_icmp .ne 9, 3) := by decide +kernel
theorem dX1_nests_22 : decode cX1_nests 22 = .ok (.iload_n 1, 1) := by decide +kernel
theorem dX1_nests_23 : decode cX1_nests 23 = .ok (.iconst 1, 1) := by decide +kernel
theorem dX1_nests_24 : decode cX1_nests 24 = .ok (.iload_n 2, 1) := by decide +kernel
theorem dX1_nests_25 : decode cX1_nests 25 = .ok (.ishl, 1) := by decide +kernel
theorem dX1_nests_26 : decode cX1_nests 26 = .ok (.ior, 1) := by decide +kernel
theorem dX1_nests_27 : decode cX1_nests 27 = .ok (.istore_n 1, 1) := by decide +kernel
theorem dX1_nests_28 : decode cX1_nests 28 = .ok (.iinc 2 1, 3) := by decide +kernel
theorem dX1_nests_31 : decode cX1_nests 31 = .ok (.goto (-27), 3) := by decide +kernel
theorem dX1_nests_34 : decode cX1_nests 34 = .ok (.iload_n 1, 1) := by decide +kernel
theorem dX1_nests_35 : decode cX1_nests 35 = .ok (.ireturn, 1) := by decide +kernel
theorem dX1_mostSpouted_0 : decode cX1_mostSpouted 0 = .ok (.aload_n 0, 1) := by decide +kernel
theorem dX1_mostSpouted_1 : decode cX1_mostSpouted 1 = .ok (.getfield 15, 3) := by decide +kernel
theorem dX1_mostSpouted_4 : decode cX1_mostSpouted 4 = .ok (.iload_n 1, 1) := by decide +kernel
theorem dX1_mostSpouted_5 : decode cX1_mostSpouted 5 = .ok (.iaload, 1) := by decide +kernel
theorem dX1_mostSpouted_6 : decode cX1_mostSpouted 6 = .ok (.iconst 1, 1) := by decide +kernel
theorem dX1_mostSpouted_7 : decode cX1_mostSpouted 7 = .ok (.if_icmp .ne 6, 3) := by decide +kernel
theorem dX1_mostSpouted_10 : decode cX1_mostSpouted 10 = .ok (.bipush 6, 2) := by decide +kernel
theorem dX1_mostSpouted_12 : decode cX1_mostSpouted 12 = .ok (.ireturn, 1) := by decide +kernel
theorem dX1_mostSpouted_13 : decode cX1_mostSpouted 13 = .ok (.aload_n 0, 1) := by decide +kernel
theorem dX1_mostSpouted_14 : decode cX1_mostSpouted 14 = .ok (.getfield 15, 3) := by decide +kernel
theorem dX1_mostSpouted_17 : decode cX1_mostSpouted 17 = .ok (.iload_n 1, 1) := by decide +kernel
theorem dX1_mostSpouted_18 : decode cX1_mostSpouted 18 = .ok (.iaload, 1) := by decide +kernel
theorem dX1_mostSpouted_19 : decode cX1_mostSpouted 19 = .ok (.iconst 2, 1) := by decide +kernel
theorem dX1_mostSpouted_20 : decode cX1_mostSpouted 20 = .ok (.if_icmp .ne 7, 3) := by decide +kernel
theorem dX1_mostSpouted_23 : decode cX1_mostSpouted 23 = .ok (.iconst 1, 1) := by decide +kernel
theorem dX1_mostSpouted_24 : decode cX1_mostSpouted 24 = .ok (.goto 4, 3) := by decide +kernel
theorem dX1_mostSpouted_27 : decode cX1_mostSpouted 27 = .ok (.iconst 3, 1) := by decide +kernel
theorem dX1_mostSpouted_28 : decode cX1_mostSpouted 28 = .ok (.ireturn, 1) := by decide +kernel
theorem dX1_below_0 : decode cX1_below 0 = .ok (.iconst 0, 1) := by decide +kernel
theorem dX1_below_1 : decode cX1_below 1 = .ok (.istore_n 2, 1) := by decide +kernel
theorem dX1_below_2 : decode cX1_below 2 = .ok (.aload_n 0, 1) := by decide +kernel
theorem dX1_below_3 : decode cX1_below 3 = .ok (.getfield 28, 3) := by decide +kernel
theorem dX1_below_6 : decode cX1_below 6 = .ok (.iload_n 1, 1) := by decide +kernel
theorem dX1_below_7 : decode cX1_below 7 = .ok (.iaload, 1) := by decide +kernel
theorem dX1_below_8 : decode cX1_below 8 = .ok (.istore_n 3, 1) := by decide +kernel
theorem dX1_below_9 : decode cX1_below 9 = .ok (.iconst 0, 1) := by decide +kernel
theorem dX1_below_10 : decode cX1_below 10 = .ok (.istore 4, 2) := by decide +kernel
theorem dX1_below_12 : decode cX1_below 12 = .ok (.iload 4, 2) := by decide +kernel
theorem dX1_below_14 : decode cX1_below 14 = .ok (.bipush 7, 2) := by decide +kernel
theorem dX1_below_16 : decode cX1_below 16 = .ok (.if_icmp .ge 27, 3) := by decide +kernel
theorem dX1_below_19 : decode cX1_below 19 = .ok (.iload_n 3, 1) := by decide +kernel
theorem dX1_below_20 : decode cX1_below 20 = .ok (.iconst (-1), 1) := by decide +kernel
theorem dX1_below_21 : decode cX1_below 21 = .ok (.if_icmp .eq 22, 3) := by decide +kernel
theorem dX1_below_24 : decode cX1_below 24 = .ok (.iload_n 2, 1) := by decide +kernel
theorem dX1_below_25 : decode cX1_below 25 = .ok (.iconst 1, 1) := by decide +kernel
theorem dX1_below_26 : decode cX1_below 26 = .ok (.iload_n 3, 1) := by decide +kernel
theorem dX1_below_27 : decode cX1_below 27 = .ok (.ishl, 1) := by decide +kernel
theorem dX1_below_28 : decode cX1_below 28 = .ok (.ior, 1) := by decide +kernel
theorem dX1_below_29 : decode cX1_below 29 = .ok (.istore_n 2, 1) := by decide +kernel
theorem dX1_below_30 : decode cX1_below 30 = .ok (.aload_n 0, 1) := by decide +kernel
theorem dX1_below_31 : decode cX1_below 31 = .ok (.getfield 28, 3) := by decide +kernel
theorem dX1_below_34 : decode cX1_below 34 = .ok (.iload_n 3, 1) := by decide +kernel
theorem dX1_below_35 : decode cX1_below 35 = .ok (.iaload, 1) := by decide +kernel
theorem dX1_below_36 : decode cX1_below 36 = .ok (.istore_n 3, 1) := by decide +kernel
theorem dX1_below_37 : decode cX1_below 37 = .ok (.iinc 4 1, 3) := by decide +kernel
theorem dX1_below_40 : decode cX1_below 40 = .ok (.goto (-28), 3) := by decide +kernel
theorem dX1_below_43 : decode cX1_below 43 = .ok (.iload_n 2, 1) := by decide +kernel
theorem dX1_below_44 : decode cX1_below 44 = .ok (.ireturn, 1) := by decide +kernel
theorem dX1_putInOrder_0 : decode cX1_putInOrder 0 = .ok (.iload_n 1, 1) := by decide +kernel
theorem dX1_putInOrder_1 : decode cX1_putInOrder 1 = .ok (.istore_n 2, 1) := by decide +kernel
theorem dX1_putInOrder_2 : decode cX1_putInOrder 2 = .ok (.iload_n 2, 1) := by decide +kernel
theorem dX1_putInOrder_3 : decode cX1_putInOrder 3 = .ok (.ifCond .le 45, 3) := by decide +kernel
theorem dX1_putInOrder_6 : decode cX1_putInOrder 6 = .ok (.aload_n 0, 1) := by decide +kernel
theorem dX1_putInOrder_7 : decode cX1_putInOrder 7 = .ok (.getfield 19, 3) := by decide +kernel
theorem dX1_putInOrder_10 : decode cX1_putInOrder 10 = .ok (.aload_n 0, 1) := by decide +kernel
theorem dX1_putInOrder_11 : decode cX1_putInOrder 11 = .ok (.getfield 31, 3) := by decide +kernel
theorem dX1_putInOrder_14 : decode cX1_putInOrder 14 = .ok (.iload_n 2, 1) := by decide +kernel
theorem dX1_putInOrder_15 : decode cX1_putInOrder 15 = .ok (.iconst 1, 1) := by decide +kernel
theorem dX1_putInOrder_16 : decode cX1_putInOrder 16 = .ok (.isub, 1) := by decide +kernel
theorem dX1_putInOrder_17 : decode cX1_putInOrder 17 = .ok (.iaload, 1) := by decide +kernel
theorem dX1_putInOrder_18 : decode cX1_putInOrder 18 = .ok (.iaload, 1) := by decide +kernel
theorem dX1_putInOrder_19 : decode cX1_putInOrder 19 = .ok (.aload_n 0, 1) := by decide +kernel
theorem dX1_putInOrder_20 : decode cX1_putInOrder 20 = .ok (.getfield 19, 3) := by decide +kernel
theorem dX1_putInOrder_23 : decode cX1_putInOrder 23 = .ok (.iload_n 1, 1) := by decide +kernel
theorem dX1_putInOrder_24 : decode cX1_putInOrder 24 = .ok (.iaload, 1) := by decide +kernel
theorem dX1_putInOrder_25 : decode cX1_putInOrder 25 = .ok (.if_icmp .ge 23, 3) := by decide +kernel
theorem dX1_putInOrder_28 : decode cX1_putInOrder 28 = .ok (.aload_n 0, 1) := by decide +kernel
theorem dX1_putInOrder_29 : decode cX1_putInOrder 29 = .ok (.getfield 31, 3) := by decide +kernel
theorem dX1_putInOrder_32 : decode cX1_putInOrder 32 = .ok (.iload_n 2, 1) := by decide +kernel
theorem dX1_putInOrder_33 : decode cX1_putInOrder 33 = .ok (.aload_n 0, 1) := by decide +kernel
theorem dX1_putInOrder_34 : decode cX1_putInOrder 34 = .ok (.getfield 31, 3) := by decide +kernel
theorem dX1_putInOrder_37 : decode cX1_putInOrder 37 = .ok (.iload_n 2, 1) := by decide +kernel
theorem dX1_putInOrder_38 : decode cX1_putInOrder 38 = .ok (.iconst 1, 1) := by decide +kernel
theorem dX1_putInOrder_39 : decode cX1_putInOrder 39 = .ok (.isub, 1) := by decide +kernel
theorem dX1_putInOrder_40 : decode cX1_putInOrder 40 = .ok (.iaload, 1) := by decide +kernel
theorem dX1_putInOrder_41 : decode cX1_putInOrder 41 = .ok (.iastore, 1) := by decide +kernel
theorem dX1_putInOrder_42 : decode cX1_putInOrder 42 = .ok (.iinc 2 (-1), 3) := by decide +kernel
theorem dX1_putInOrder_45 : decode cX1_putInOrder 45 = .ok (.goto (-43), 3) := by decide +kernel
theorem dX1_putInOrder_48 : decode cX1_putInOrder 48 = .ok (.aload_n 0, 1) := by decide +kernel
theorem dX1_putInOrder_49 : decode cX1_putInOrder 49 = .ok (.getfield 31, 3) := by decide +kernel
theorem dX1_putInOrder_52 : decode cX1_putInOrder 52 = .ok (.iload_n 2, 1) := by decide +kernel
theorem dX1_putInOrder_53 : decode cX1_putInOrder 53 = .ok (.iload_n 1, 1) := by decide +kernel
theorem dX1_putInOrder_54 : decode cX1_putInOrder 54 = .ok (.iastore, 1) := by decide +kernel
theorem dX1_putInOrder_55 : decode cX1_putInOrder 55 = .ok (.return_, 1) := by decide +kernel
theorem dX2_init_0 : decode cX2_init 0 = .ok (.aload_n 0, 1) := by decide +kernel
theorem dX2_init_1 : decode cX2_init 1 = .ok (.invokespecial 3, 3) := by decide +kernel
theorem dX2_init_4 : decode cX2_init 4 = .ok (.aload_n 0, 1) := by decide +kernel
theorem dX2_init_5 : decode cX2_init 5 = .ok (.aload_n 1, 1) := by decide +kernel
theorem dX2_init_6 : decode cX2_init 6 = .ok (.putfield 9, 3) := by decide +kernel
theorem dX2_init_9 : decode cX2_init 9 = .ok (.aload_n 0, 1) := by decide +kernel
theorem dX2_init_10 : decode cX2_init 10 = .ok (.new 15, 3) := by decide +kernel
theorem dX2_init_13 : decode cX2_init 13 = .ok (.dup, 1) := by decide +kernel
theorem dX2_init_14 : decode cX2_init 14 = .ok (.aload_n 1, 1) := by decide +kernel
theorem dX2_init_15 : decode cX2_init 15 = .ok (.invokespecial 17, 3) := by decide +kernel
theorem dX2_init_18 : decode cX2_init 18 = .ok (.putfield 20, 3) := by decide +kernel
theorem dX2_init_21 : decode cX2_init 21 = .ok (.return_, 1) := by decide +kernel
theorem dX2_readFront_0 : decode cX2_readFront 0 = .ok (.aload_n 1, 1) := by decide +kernel
theorem dX2_readFront_1 : decode cX2_readFront 1 = .ok (.invokevirtual 24, 3) := by decide +kernel
theorem dX2_readFront_4 : decode cX2_readFront 4 = .ok (.aload_n 0, 1) := by decide +kernel
theorem dX2_readFront_5 : decode cX2_readFront 5 = .ok (.getfield 9, 3) := by decide +kernel
theorem dX2_readFront_8 : decode cX2_readFront 8 = .ok (.invokevirtual 29, 3) := by decide +kernel
theorem dX2_readFront_11 : decode cX2_readFront 11 = .ok (.iconst 1, 1) := by decide +kernel
theorem dX2_readFront_12 : decode cX2_readFront 12 = .ok (.istore_n 2, 1) := by decide +kernel
theorem dX2_readFront_13 : decode cX2_readFront 13 = .ok (.iconst 0, 1) := by decide +kernel
theorem dX2_readFront_14 : decode cX2_readFront 14 = .ok (.istore_n 3, 1) := by decide +kernel
theorem dX2_readFront_15 : decode cX2_readFront 15 = .ok (.iload_n 3, 1) := by decide +kernel
theorem dX2_readFront_16 : decode cX2_readFront 16 = .ok (.sipush 1000, 3) := by decide +kernel
theorem dX2_readFront_19 : decode cX2_readFront 19 = .ok (.if_icmp .ge 49, 3) := by decide +kernel
theorem dX2_readFront_22 : decode cX2_readFront 22 = .ok (.iload_n 2, 1) := by decide +kernel
theorem dX2_readFront_23 : decode cX2_readFront 23 = .ok (.ifCond .eq 45, 3) := by decide +kernel
theorem dX2_readFront_26 : decode cX2_readFront 26 = .ok (.aload_n 0, 1) := by decide +kernel
theorem dX2_readFront_27 : decode cX2_readFront 27 = .ok (.getfield 9, 3) := by decide +kernel
theorem dX2_readFront_30 : decode cX2_readFront 30 = .ok (.invokevirtual 34, 3) := by decide +kernel
theorem dX2_readFront_33 : decode cX2_readFront 33 = .ok (.ifCond .ne 35, 3) := by decide +kernel
theorem dX2_readFront_36 : decode cX2_readFront 36 = .ok (.aload_n 0, 1) := by decide +kernel
theorem dX2_readFront_37 : decode cX2_readFront 37 = .ok (.aload_n 1, 1) := by decide +kernel
theorem dX2_readFront_38 : decode cX2_readFront 38 = .ok (.invokevirtual 38, 3) := by decide +kernel
theorem dX2_readFront_41 : decode cX2_readFront 41 = .ok (.ifCond .eq 19, 3) := by decide +kernel
theorem dX2_readFront_44 : decode cX2_readFront 44 = .ok (.aload_n 0, 1) := by decide +kernel
theorem dX2_readFront_45 : decode cX2_readFront 45 = .ok (.getfield 9, 3) := by decide +kernel
theorem dX2_readFront_48 : decode cX2_readFront 48 = .ok (.bipush 59, 2) := by decide +kernel
theorem dX2_readFront_50 : decode cX2_readFront 50 = .ok (.invokevirtual 42, 3) := by decide +kernel
theorem dX2_readFront_53 : decode cX2_readFront 53 = .ok (.ifCond .eq 7, 3) := by decide +kernel
theorem dX2_readFront_56 : decode cX2_readFront 56 = .ok (.iconst 1, 1) := by decide +kernel
theorem dX2_readFront_57 : decode cX2_readFront 57 = .ok (.goto 4, 3) := by decide +kernel
theorem dX2_readFront_60 : decode cX2_readFront 60 = .ok (.iconst 0, 1) := by decide +kernel
theorem dX2_readFront_61 : decode cX2_readFront 61 = .ok (.istore_n 2, 1) := by decide +kernel
theorem dX2_readFront_62 : decode cX2_readFront 62 = .ok (.iinc 3 1, 3) := by decide +kernel
theorem dX2_readFront_65 : decode cX2_readFront 65 = .ok (.goto (-50), 3) := by decide +kernel
theorem dX2_readFront_68 : decode cX2_readFront 68 = .ok (.aload_n 0, 1) := by decide +kernel
theorem dX2_readFront_69 : decode cX2_readFront 69 = .ok (.getfield 9, 3) := by decide +kernel
theorem dX2_readFront_72 : decode cX2_readFront 72 = .ok (.invokevirtual 46, 3) := by decide +kernel
theorem dX2_readFront_75 : decode cX2_readFront 75 = .ok (.ireturn, 1) := by decide +kernel
theorem dX2_readLine_0 : decode cX2_readLine 0 = .ok (.aload_n 0, 1) := by decide +kernel
theorem dX2_readLine_1 : decode cX2_readLine 1 = .ok (.getfield 9, 3) := by decide +kernel
theorem dX2_readLine_4 : decode cX2_readLine 4 = .ok (.ldc 50, 2) := by decide +kernel
theorem dX2_readLine_6 : decode cX2_readLine 6 = .ok (.invokevirtual 52, 3) := by decide +kernel
theorem dX2_readLine_9 : decode cX2_readLine 9 = .ok (.ifCond .eq 9, 3) := by decide +kernel
theorem dX2_readLine_12 : decode cX2_readLine 12 = .ok (.aload_n 0, 1) := by decide +kernel
theorem dX2_readLine_13 : decode cX2_readLine 13 = .ok (.aload_n 1, 1) := by decide +kernel
theorem dX2_readLine_14 : decode cX2_readLine 14 = .ok (.invokevirtual 56, 3) := by decide +kernel
theorem dX2_readLine_17 : decode cX2_readLine 17 = .ok (.ireturn, 1) := by decide +kernel
theorem dX2_readLine_18 : decode cX2_readLine 18 = .ok (.aload_n 0, 1) := by decide +kernel
theorem dX2_readLine_19 : decode cX2_readLine 19 = .ok (.getfield 9, 3) := by decide +kernel
theorem dX2_readLine_22 : decode cX2_readLine 22 = .ok (.ldc 59, 2) := by decide +kernel
theorem dX2_readLine_24 : decode cX2_readLine 24 = .ok (.invokevirtual 52, 3) := by decide +kernel
theorem dX2_readLine_27 : decode cX2_readLine 27 = .ok (.ifCond .eq 9, 3) := by decide +kernel
theorem dX2_readLine_30 : decode cX2_readLine 30 = .ok (.aload_n 0, 1) := by decide +kernel
theorem dX2_readLine_31 : decode cX2_readLine 31 = .ok (.aload_n 1, 1) := by decide +kernel
theorem dX2_readLine_32 : decode cX2_readLine 32 = .ok (.invokevirtual 61, 3) := by decide +kernel
theorem dX2_readLine_35 : decode cX2_readLine 35 = .ok (.ireturn, 1) := by decide +kernel
theorem dX2_readLine_36 : decode cX2_readLine 36 = .ok (.aload_n 0, 1) := by decide +kernel
theorem dX2_readLine_37 : decode cX2_readLine 37 = .ok (.getfield 9, 3) := by decide +kernel
theorem dX2_readLine_40 : decode cX2_readLine 40 = .ok (.ldc 64, 2) := by decide +kernel
theorem dX2_readLine_42 : decode cX2_readLine 42 = .ok (.invokevirtual 52, 3) := by decide +kernel
theorem dX2_readLine_45 : decode cX2_readLine 45 = .ok (.ifCond .eq 25, 3) := by decide +kernel
theorem dX2_readLine_48 : decode cX2_readLine 48 = .ok (.aload_n 0, 1) := by decide +kernel
theorem dX2_readLine_49 : decode cX2_readLine 49 = .ok (.aload_n 1, 1) := by decide +kernel
theorem dX2_readLine_50 : decode cX2_readLine 50 = .ok (.invokevirtual 66, 3) := by decide +kernel
theorem dX2_readLine_53 : decode cX2_readLine 53 = .ok (.ifCond .eq 15, 3) := by decide +kernel
theorem dX2_readLine_56 : decode cX2_readLine 56 = .ok (.aload_n 0, 1) := by decide +kernel
theorem dX2_readLine_57 : decode cX2_readLine 57 = .ok (.aload_n 1, 1) := by decide +kernel
theorem dX2_readLine_58 : decode cX2_readLine 58 = .ok (.invokevirtual 69, 3) := by decide +kernel
theorem dX2_readLine_61 : decode cX2_readLine 61 = .ok (.ifCond .eq 7, 3) := by decide +kernel
theorem dX2_readLine_64 : decode cX2_readLine 64 = .ok (.iconst 1, 1) := by decide +kernel
theorem dX2_readLine_65 : decode cX2_readLine 65 = .ok (.goto 4, 3) := by decide +kernel
theorem dX2_readLine_68 : decode cX2_readLine 68 = .ok (.iconst 0, 1) := by decide +kernel
theorem dX2_readLine_69 : decode cX2_readLine 69 = .ok (.ireturn, 1) := by decide +kernel
theorem dX2_readLine_70 : decode cX2_readLine 70 = .ok (.aload_n 0, 1) := by decide +kernel
theorem dX2_readLine_71 : decode cX2_readLine 71 = .ok (.getfield 9, 3) := by decide +kernel
theorem dX2_readLine_74 : decode cX2_readLine 74 = .ok (.ldc 72, 2) := by decide +kernel
theorem dX2_readLine_76 : decode cX2_readLine 76 = .ok (.invokevirtual 52, 3) := by decide +kernel
theorem dX2_readLine_79 : decode cX2_readLine 79 = .ok (.ifCond .eq 9, 3) := by decide +kernel
theorem dX2_readLine_82 : decode cX2_readLine 82 = .ok (.aload_n 0, 1) := by decide +kernel
theorem dX2_readLine_83 : decode cX2_readLine 83 = .ok (.aload_n 1, 1) := by decide +kernel
theorem dX2_readLine_84 : decode cX2_readLine 84 = .ok (.invokevirtual 74, 3) := by decide +kernel
theorem dX2_readLine_87 : decode cX2_readLine 87 = .ok (.ireturn, 1) := by decide +kernel
theorem dX2_readLine_88 : decode cX2_readLine 88 = .ok (.aload_n 0, 1) := by decide +kernel
theorem dX2_readLine_89 : decode cX2_readLine 89 = .ok (.getfield 9, 3) := by decide +kernel
theorem dX2_readLine_92 : decode cX2_readLine 92 = .ok (.ldc 77, 2) := by decide +kernel
theorem dX2_readLine_94 : decode cX2_readLine 94 = .ok (.invokevirtual 52, 3) := by decide +kernel
theorem dX2_readLine_97 : decode cX2_readLine 97 = .ok (.ifCond .ne 12, 3) := by decide +kernel
theorem dX2_readLine_100 : decode cX2_readLine 100 = .ok (.aload_n 0, 1) := by decide +kernel
theorem dX2_readLine_101 : decode cX2_readLine 101 = .ok (.getfield 9, 3) := by decide +kernel
theorem dX2_readLine_104 : decode cX2_readLine 104 = .ok (.iconst 1, 1) := by decide +kernel
theorem dX2_readLine_105 : decode cX2_readLine 105 = .ok (.invokevirtual 79, 3) := by decide +kernel
theorem dX2_readLine_108 : decode cX2_readLine 108 = .ok (.ireturn, 1) := by decide +kernel
theorem dX2_readLine_109 : decode cX2_readLine 109 = .ok (.aload_n 1, 1) := by decide +kernel
theorem dX2_readLine_110 : decode cX2_readLine 110 = .ok (.getfield 83, 3) := by decide +kernel
theorem dX2_readLine_113 : decode cX2_readLine 113 = .ok (.getfield 87, 3) := by decide +kernel
theorem dX2_readLine_116 : decode cX2_readLine 116 = .ok (.ifCond .le 12, 3) := by decide +kernel
theorem dX2_readLine_119 : decode cX2_readLine 119 = .ok (.aload_n 0, 1) := by decide +kernel
theorem dX2_readLine_120 : decode cX2_readLine 120 = .ok (.getfield 9, 3) := by decide +kernel
theorem dX2_readLine_123 : decode cX2_readLine 123 = .ok (.iconst 3, 1) := by decide +kernel
theorem dX2_readLine_124 : decode cX2_readLine 124 = .ok (.invokevirtual 79, 3) := by decide +kernel
theorem dX2_readLine_127 : decode cX2_readLine 127 = .ok (.ireturn, 1) := by decide +kernel
theorem dX2_readLine_128 : decode cX2_readLine 128 = .ok (.aload_n 0, 1) := by decide +kernel
theorem dX2_readLine_129 : decode cX2_readLine 129 = .ok (.getfield 9, 3) := by decide +kernel
theorem dX2_readLine_132 : decode cX2_readLine 132 = .ok (.invokevirtual 93, 3) := by decide +kernel
theorem dX2_readLine_135 : decode cX2_readLine 135 = .ok (.aload_n 0, 1) := by decide +kernel
theorem dX2_readLine_136 : decode cX2_readLine 136 = .ok (.getfield 20, 3) := by decide +kernel
theorem dX2_readLine_139 : decode cX2_readLine 139 = .ok (.aload_n 1, 1) := by decide +kernel
theorem dX2_readLine_140 : decode cX2_readLine 140 = .ok (.getfield 83, 3) := by decide +kernel
theorem dX2_readLine_143 : decode cX2_readLine 143 = .ok (.iconst 0, 1) := by decide +kernel
theorem dX2_readLine_144 : decode cX2_readLine 144 = .ok (.iconst 0, 1) := by decide +kernel
theorem dX2_readLine_145 : decode cX2_readLine 145 = .ok (.invokevirtual 96, 3) := by decide +kernel
theorem dX2_readLine_148 : decode cX2_readLine 148 = .ok (.ireturn, 1) := by decide +kernel
theorem dX2_readMouth_0 : decode cX2_readMouth 0 = .ok (.aload_n 1, 1) := by decide +kernel
theorem dX2_readMouth_1 : decode cX2_readMouth 1 = .ok (.getfield 100, 3) := by decide +kernel
theorem dX2_readMouth_4 : decode cX2_readMouth 4 = .ok (.istore_n 2, 1) := by decide +kernel
theorem dX2_readMouth_5 : decode cX2_readMouth 5 = .ok (.iload_n 2, 1) := by decide +kernel
theorem dX2_readMouth_6 : decode cX2_readMouth 6 = .ok (.bipush 7, 2) := by decide +kernel
theorem dX2_readMouth_8 : decode cX2_readMouth 8 = .ok (.if_icmp .lt 12, 3) := by decide +kernel
theorem dX2_readMouth_11 : decode cX2_readMouth 11 = .ok (.aload_n 0, 1) := by decide +kernel
theorem dX2_readMouth_12 : decode cX2_readMouth 12 = .ok (.getfield 9, 3) := by decide +kernel
theorem dX2_readMouth_15 : decode cX2_readMouth 15 = .ok (.iconst 5, 1) := by decide +kernel
theorem dX2_readMouth_16 : decode cX2_readMouth 16 = .ok (.invokevirtual 79, 3) := by decide +kernel
theorem dX2_readMouth_19 : decode cX2_readMouth 19 = .ok (.ireturn, 1) := by decide +kernel
theorem dX2_readMouth_20 : decode cX2_readMouth 20 = .ok (.aload_n 0, 1) := by decide +kernel
theorem dX2_readMouth_21 : decode cX2_readMouth 21 = .ok (.getfield 9, 3) := by decide +kernel
theorem dX2_readMouth_24 : decode cX2_readMouth 24 = .ok (.invokevirtual 93, 3) := by decide +kernel
theorem dX2_readMouth_27 : decode cX2_readMouth 27 = .ok (.aload_n 0, 1) := by decide +kernel
theorem dX2_readMouth_28 : decode cX2_readMouth 28 = .ok (.aload_n 1, 1) := by decide +kernel
theorem dX2_readMouth_29 : decode cX2_readMouth 29 = .ok (.invokevirtual 103, 3) := by decide +kernel
theorem dX2_readMouth_32 : decode cX2_readMouth 32 = .ok (.ifCond .ne 5, 3) := by decide +kernel
theorem dX2_readMouth_35 : decode cX2_readMouth 35 = .ok (.iconst 0, 1) := by decide +kernel
theorem dX2_readMouth_36 : decode cX2_readMouth 36 = .ok (.ireturn, 1) := by decide +kernel
theorem dX2_readMouth_37 : decode cX2_readMouth 37 = .ok (.aload_n 1, 1) := by decide +kernel
theorem dX2_readMouth_38 : decode cX2_readMouth 38 = .ok (.getfield 106, 3) := by decide +kernel
theorem dX2_readMouth_41 : decode cX2_readMouth 41 = .ok (.iload_n 2, 1) := by decide +kernel
theorem dX2_readMouth_42 : decode cX2_readMouth 42 = .ok (.aload_n 0, 1) := by decide +kernel
theorem dX2_readMouth_43 : decode cX2_readMouth 43 = .ok (.getfield 9, 3) := by decide +kernel
theorem dX2_readMouth_46 : decode cX2_readMouth 46 = .ok (.getfield 110, 3) := by decide +kernel
theorem dX2_readMouth_49 : decode cX2_readMouth 49 = .ok (.lastore, 1) := by decide +kernel
theorem dX2_readMouth_50 : decode cX2_readMouth 50 = .ok (.aload_n 0, 1) := by decide +kernel
theorem dX2_readMouth_51 : decode cX2_readMouth 51 = .ok (.getfield 9, 3) := by decide +kernel
theorem dX2_readMouth_54 : decode cX2_readMouth 54 = .ok (.invokevirtual 93, 3) := by decide +kernel
theorem dX2_readMouth_57 : decode cX2_readMouth 57 = .ok (.aload_n 1, 1) := by decide +kernel
theorem dX2_readMouth_58 : decode cX2_readMouth 58 = .ok (.getfield 114, 3) := by decide +kernel
theorem dX2_readMouth_61 : decode cX2_readMouth 61 = .ok (.iload_n 2, 1) := by decide +kernel
theorem dX2_readMouth_62 : decode cX2_readMouth 62 = .ok (.aload_n 0, 1) := by decide +kernel
theorem dX2_readMouth_63 : decode cX2_readMouth 63 = .ok (.invokevirtual 118, 3) := by decide +kernel
theorem dX2_readMouth_66 : decode cX2_readMouth 66 = .ok (.iastore, 1) := by decide +kernel
theorem dX2_readMouth_67 : decode cX2_readMouth 67 = .ok (.aload_n 1, 1) := by decide +kernel
theorem dX2_readMouth_68 : decode cX2_readMouth 68 = .ok (.getfield 114, 3) := by decide +kernel
theorem dX2_readMouth_71 : decode cX2_readMouth 71 = .ok (.iload_n 2, 1) := by decide +kernel
theorem dX2_readMouth_72 : decode cX2_readMouth 72 = .ok (.iaload, 1) := by decide +kernel
theorem dX2_readMouth_73 : decode cX2_readMouth 73 = .ok (.iconst (-1), 1) := by decide +kernel
theorem dX2_readMouth_74 : decode cX2_readMouth 74 = .ok (.if_icmp .ne 12, 3) := by decide +kernel
theorem dX2_readMouth_77 : decode cX2_readMouth 77 = .ok (.aload_n 0, 1) := by decide +kernel
theorem dX2_readMouth_78 : decode cX2_readMouth 78 = .ok (.getfield 9, 3) := by decide +kernel
theorem dX2_readMouth_81 : decode cX2_readMouth 81 = .ok (.iconst 1, 1) := by decide +kernel
theorem dX2_readMouth_82 : decode cX2_readMouth 82 = .ok (.invokevirtual 79, 3) := by decide +kernel
theorem dX2_readMouth_85 : decode cX2_readMouth 85 = .ok (.ireturn, 1) := by decide +kernel
theorem dX2_readMouth_86 : decode cX2_readMouth 86 = .ok (.aload_n 0, 1) := by decide +kernel
theorem dX2_readMouth_87 : decode cX2_readMouth 87 = .ok (.getfield 9, 3) := by decide +kernel
theorem dX2_readMouth_90 : decode cX2_readMouth 90 = .ok (.invokevirtual 93, 3) := by decide +kernel
theorem dX2_readMouth_93 : decode cX2_readMouth 93 = .ok (.aload_n 1, 1) := by decide +kernel
theorem dX2_readMouth_94 : decode cX2_readMouth 94 = .ok (.getfield 121, 3) := by decide +kernel
theorem dX2_readMouth_97 : decode cX2_readMouth 97 = .ok (.iload_n 2, 1) := by decide +kernel
theorem dX2_readMouth_98 : decode cX2_readMouth 98 = .ok (.aload_n 0, 1) := by decide +kernel
theorem dX2_readMouth_99 : decode cX2_readMouth 99 = .ok (.ldc 124, 2) := by decide +kernel
theorem dX2_readMouth_101 : decode cX2_readMouth 101 = .ok (.iconst 1, 1) := by decide +kernel
theorem dX2_readMouth_102 : decode cX2_readMouth 102 = .ok (.bipush 20, 2) := by decide +kernel
theorem dX2_readMouth_104 : decode cX2_readMouth 104 = .ok (.invokevirtual 125, 3) := by decide +kernel
theorem dX2_readMouth_107 : decode cX2_readMouth 107 = .ok (.iastore, 1) := by decide +kernel
theorem dX2_readMouth_108 : decode cX2_readMouth 108 = .ok (.aload_n 1, 1) := by decide +kernel
theorem dX2_readMouth_109 : decode cX2_readMouth 109 = .ok (.getfield 129, 3) := by decide +kernel
theorem dX2_readMouth_112 : decode cX2_readMouth 112 = .ok (.iload_n 2, 1) := by decide +kernel
theorem dX2_readMouth_113 : decode cX2_readMouth 113 = .ok (.aload_n 1, 1) := by decide +kernel
theorem dX2_readMouth_114 : decode cX2_readMouth 114 = .ok (.getfield 121, 3) := by decide +kernel
theorem dX2_readMouth_117 : decode cX2_readMouth 117 = .ok (.iload_n 2, 1) := by decide +kernel
theorem dX2_readMouth_118 : decode cX2_readMouth 118 = .ok (.iaload, 1) := by decide +kernel
theorem dX2_readMouth_119 : decode cX2_readMouth 119 = .ok (.iconst (-1), 1) := by decide +kernel
theorem dX2_readMouth_120 : decode cX2_readMouth 120 = .ok (.if_icmp .ne 7, 3) := by decide +kernel
theorem dX2_readMouth_123 : decode cX2_readMouth 123 = .ok (.iconst (-1), 1) := by decide +kernel
theorem dX2_readMouth_124 : decode cX2_readMouth 124 = .ok (.goto 12, 3) := by decide +kernel
theorem dX2_readMouth_127 : decode cX2_readMouth 127 = .ok (.aload_n 0, 1) := by decide +kernel
theorem dX2_readMouth_128 : decode cX2_readMouth 128 = .ok (.ldc 132, 2) := by decide +kernel
theorem dX2_readMouth_130 : decode cX2_readMouth 130 = .ok (.iconst 0, 1) := by decide +kernel
theorem dX2_readMouth_131 : decode cX2_readMouth 131 = .ok (.bipush 9, 2) := by decide +kernel
theorem dX2_readMouth_133 : decode cX2_readMouth 133 = .ok (.invokevirtual 125, 3) := by decide +kernel
theorem dX2_readMouth_136 : decode cX2_readMouth 136 = .ok (.iastore, 1) := by decide +kernel
theorem dX2_readMouth_137 : decode cX2_readMouth 137 = .ok (.aload_n 1, 1) := by decide +kernel
theorem dX2_readMouth_138 : decode cX2_readMouth 138 = .ok (.getfield 133, 3) := by decide +kernel
theorem dX2_readMouth_141 : decode cX2_readMouth 141 = .ok (.iload_n 2, 1) := by decide +kernel
theorem dX2_readMouth_142 : decode cX2_readMouth 142 = .ok (.aload_n 1, 1) := by decide +kernel
theorem dX2_readMouth_143 : decode cX2_readMouth 143 = .ok (.getfield 129, 3) := by decide +kernel
theorem dX2_readMouth_146 : decode cX2_readMouth 146 = .ok (.iload_n 2, 1) := by decide +kernel
theorem dX2_readMouth_147 : decode cX2_readMouth 147 = .ok (.iaload, 1) := by decide +kernel
theorem dX2_readMouth_148 : decode cX2_readMouth 148 = .ok (.iconst (-1), 1) := by decide +kernel
theorem dX2_readMouth_149 : decode cX2_readMouth 149 = .ok (.if_icmp .ne 7, 3) := by decide +kernel
theorem dX2_readMouth_152 : decode cX2_readMouth 152 = .ok (.iconst (-1), 1) := by decide +kernel
theorem dX2_readMouth_153 : decode cX2_readMouth 153 = .ok (.goto 12, 3) := by decide +kernel
theorem dX2_readMouth_156 : decode cX2_readMouth 156 = .ok (.aload_n 0, 1) := by decide +kernel
theorem dX2_readMouth_157 : decode cX2_readMouth 157 = .ok (.ldc 136, 2) := by decide +kernel
theorem dX2_readMouth_159 : decode cX2_readMouth 159 = .ok (.iconst 0, 1) := by decide +kernel
theorem dX2_readMouth_160 : decode cX2_readMouth 160 = .ok (.bipush 40, 2) := by decide +kernel
theorem dX2_readMouth_162 : decode cX2_readMouth 162 = .ok (.invokevirtual 125, 3) := by decide +kernel
theorem dX2_readMouth_165 : decode cX2_readMouth 165 = .ok (.iastore, 1) := by decide +kernel
theorem dX2_readMouth_166 : decode cX2_readMouth 166 = .ok (.aload_n 1, 1) := by decide +kernel
theorem dX2_readMouth_167 : decode cX2_readMouth 167 = .ok (.getfield 133, 3) := by decide +kernel
theorem dX2_readMouth_170 : decode cX2_readMouth 170 = .ok (.iload_n 2, 1) := by decide +kernel
theorem dX2_readMouth_171 : decode cX2_readMouth 171 = .ok (.iaload, 1) := by decide +kernel
theorem dX2_readMouth_172 : decode cX2_readMouth 172 = .ok (.iconst (-1), 1) := by decide +kernel
theorem dX2_readMouth_173 : decode cX2_readMouth 173 = .ok (.if_icmp .ne 5, 3) := by decide +kernel
theorem dX2_readMouth_176 : decode cX2_readMouth 176 = .ok (.iconst 0, 1) := by decide +kernel
theorem dX2_readMouth_177 : decode cX2_readMouth 177 = .ok (.ireturn, 1) := by decide +kernel
theorem dX2_readMouth_178 : decode cX2_readMouth 178 = .ok (.aload_n 1, 1) := by decide +kernel
theorem dX2_readMouth_179 : decode cX2_readMouth 179 = .ok (.getfield 137, 3) := by decide +kernel
theorem dX2_readMouth_182 : decode cX2_readMouth 182 = .ok (.iload_n 2, 1) := by decide +kernel
theorem dX2_readMouth_183 : decode cX2_readMouth 183 = .ok (.iconst (-1), 1) := by decide +kernel
theorem dX2_readMouth_184 : decode cX2_readMouth 184 = .ok (.iastore, 1) := by decide +kernel
theorem dX2_readMouth_185 : decode cX2_readMouth 185 = .ok (.aload_n 1, 1) := by decide +kernel
theorem dX2_readMouth_186 : decode cX2_readMouth 186 = .ok (.iload_n 2, 1) := by decide +kernel
theorem dX2_readMouth_187 : decode cX2_readMouth 187 = .ok (.invokevirtual 139, 3) := by decide +kernel
theorem dX2_readMouth_190 : decode cX2_readMouth 190 = .ok (.aload_n 1, 1) := by decide +kernel
theorem dX2_readMouth_191 : decode cX2_readMouth 191 = .ok (.dup, 1) := by decide +kernel
theorem dX2_readMouth_192 : decode cX2_readMouth 192 = .ok (.getfield 100, 3) := by decide +kernel
theorem dX2_readMouth_195 : decode cX2_readMouth 195 = .ok (.iconst 1, 1) := by decide +kernel
theorem dX2_readMouth_196 : decode cX2_readMouth 196 = .ok (.iadd, 1) := by decide +kernel
theorem dX2_readMouth_197 : decode cX2_readMouth 197 = .ok (.putfield 100, 3) := by decide +kernel
theorem dX2_readMouth_200 : decode cX2_readMouth 200 = .ok (.iconst 1, 1) := by decide +kernel
theorem dX2_readMouth_201 : decode cX2_readMouth 201 = .ok (.ireturn, 1) := by decide +kernel
theorem dX2_isNewName_0 : decode cX2_isNewName 0 = .ok (.aload_n 0, 1) := by decide +kernel
theorem dX2_isNewName_1 : decode cX2_isNewName 1 = .ok (.getfield 9, 3) := by decide +kernel
theorem dX2_isNewName_4 : decode cX2_isNewName 4 = .ok (.invokevirtual 143, 3) := by decide +kernel
theorem dX2_isNewName_7 : decode cX2_isNewName 7 = .ok (.ifCond .ne 12, 3) := by decide +kernel
theorem dX2_isNewName_10 : decode cX2_isNewName 10 = .ok (.aload_n 0, 1) := by decide +kernel
theorem dX2_isNewName_11 : decode cX2_isNewName 11 = .ok (.getfield 9, 3) := by decide +kernel
theorem dX2_isNewName_14 : decode cX2_isNewName 14 = .ok (.iconst 1, 1) := by decide +kernel
theorem dX2_isNewName_15 : decode cX2_isNewName 15 = .ok (.invokevirtual 79, 3) := by decide +kernel
theorem dX2_isNewName_18 : decode cX2_isNewName 18 = .ok (.ireturn, 1) := by decide +kernel
theorem dX2_isNewName_19 : decode cX2_isNewName 19 = .ok (.aload_n 1, 1) := by decide +kernel
theorem dX2_isNewName_20 : decode cX2_isNewName 20 = .ok (.aload_n 0, 1) := by decide +kernel
theorem dX2_isNewName_21 : decode cX2_isNewName 21 = .ok (.getfield 9, 3) := by decide +kernel
theorem dX2_isNewName_24 : decode cX2_isNewName 24 = .ok (.getfield 110, 3) := by decide +kernel
theorem dX2_isNewName_27 : decode cX2_isNewName 27 = .ok (.invokevirtual 146, 3) := by decide +kernel
theorem dX2_isNewName_30 : decode cX2_isNewName 30 = .ok (.ifCond .eq 14, 3) := by decide +kernel
theorem dX2_isNewName_33 : decode cX2_isNewName 33 = .ok (.aload_n 0, 1) := by decide +kernel
theorem dX2_isNewName_34 : decode cX2_isNewName 34 = .ok (.getfield 9, 3) := by decide +kernel
theorem dX2_isNewName_37 : decode cX2_isNewName 37 = .ok (.iconst 3, 1) := by decide +kernel
theorem dX2_isNewName_38 : decode cX2_isNewName 38 = .ok (.invokevirtual 79, 3) := by decide +kernel
theorem dX2_isNewName_41 : decode cX2_isNewName 41 = .ok (.ifCond .eq 7, 3) := by decide +kernel
theorem dX2_isNewName_44 : decode cX2_isNewName 44 = .ok (.iconst 1, 1) := by decide +kernel
theorem dX2_isNewName_45 : decode cX2_isNewName 45 = .ok (.goto 4, 3) := by decide +kernel
theorem dX2_isNewName_48 : decode cX2_isNewName 48 = .ok (.iconst 0, 1) := by decide +kernel
theorem dX2_isNewName_49 : decode cX2_isNewName 49 = .ok (.ireturn, 1) := by decide +kernel
theorem dX2_kindHere_0 : decode cX2_kindHere 0 = .ok (.aload_n 0, 1) := by decide +kernel
theorem dX2_kindHere_1 : decode cX2_kindHere 1 = .ok (.getfield 9, 3) := by decide +kernel
theorem dX2_kindHere_4 : decode cX2_kindHere 4 = .ok (.ldc 150, 2) := by decide +kernel
theorem dX2_kindHere_6 : decode cX2_kindHere 6 = .ok (.invokevirtual 52, 3) := by decide +kernel
theorem dX2_kindHere_9 : decode cX2_kindHere 9 = .ok (.ifCond .eq 5, 3) := by decide +kernel
theorem dX2_kindHere_12 : decode cX2_kindHere 12 = .ok (.iconst 0, 1) := by decide +kernel
theorem dX2_kindHere_13 : decode cX2_kindHere 13 = .ok (.ireturn, 1) := by decide +kernel
theorem dX2_kindHere_14 : decode cX2_kindHere 14 = .ok (.aload_n 0, 1) := by decide +kernel
theorem dX2_kindHere_15 : decode cX2_kindHere 15 = .ok (.getfield 9, 3) := by decide +kernel
theorem dX2_kindHere_18 : decode cX2_kindHere 18 = .ok (.ldc 152, 2) := by decide +kernel
theorem dX2_kindHere_20 : decode cX2_kindHere 20 = .ok (.invokevirtual 52, 3) := by decide +kernel
theorem dX2_kindHere_23 : decode cX2_kindHere 23 = .ok (.ifCond .eq 5, 3) := by decide +kernel
theorem dX2_kindHere_26 : decode cX2_kindHere 26 = .ok (.iconst 1, 1) := by decide +kernel
theorem dX2_kindHere_27 : decode cX2_kindHere 27 = .ok (.ireturn, 1) := by decide +kernel
theorem dX2_kindHere_28 : decode cX2_kindHere 28 = .ok (.aload_n 0, 1) := by decide +kernel
theorem dX2_kindHere_29 : decode cX2_kindHere 29 = .ok (.getfield 9, 3) := by decide +kernel
theorem dX2_kindHere_32 : decode cX2_kindHere 32 = .ok (.ldc 154, 2) := by decide +kernel
theorem dX2_kindHere_34 : decode cX2_kindHere 34 = .ok (.invokevirtual 52, 3) := by decide +kernel
theorem dX2_kindHere_37 : decode cX2_kindHere 37 = .ok (.ifCond .eq 5, 3) := by decide +kernel
theorem dX2_kindHere_40 : decode cX2_kindHere 40 = .ok (.iconst 2, 1) := by decide +kernel
theorem dX2_kindHere_41 : decode cX2_kindHere 41 = .ok (.ireturn, 1) := by decide +kernel
theorem dX2_kindHere_42 : decode cX2_kindHere 42 = .ok (.aload_n 0, 1) := by decide +kernel
theorem dX2_kindHere_43 : decode cX2_kindHere 43 = .ok (.getfield 9, 3) := by decide +kernel
theorem dX2_kindHere_46 : decode cX2_kindHere 46 = .ok (.ldc 156, 2) := by decide +kernel
theorem dX2_kindHere_48 : decode cX2_kindHere 48 = .ok (.invokevirtual 52, 3) := by decide +kernel
theorem dX2_kindHere_51 : decode cX2_kindHere 51 = .ok (.ifCond .eq 7, 3) := by decide +kernel
theorem dX2_kindHere_54 : decode cX2_kindHere 54 = .ok (.iconst 3, 1) := by decide +kernel
theorem dX2_kindHere_55 : decode cX2_kindHere 55 = .ok (.goto 4, 3) := by decide +kernel
theorem dX2_kindHere_58 : decode cX2_kindHere 58 = .ok (.iconst (-1), 1) := by decide +kernel
theorem dX2_kindHere_59 : decode cX2_kindHere 59 = .ok (.ireturn, 1) := by decide +kernel
theorem dX2_readMeasure_0 : decode cX2_readMeasure 0 = .ok (.aload_n 0, 1) := by decide +kernel
theorem dX2_readMeasure_1 : decode cX2_readMeasure 1 = .ok (.getfield 9, 3) := by decide +kernel
theorem dX2_readMeasure_4 : decode cX2_readMeasure 4 = .ok (.aload_n 1, 1) := by decide +kernel
theorem dX2_readMeasure_5 : decode cX2_readMeasure 5 = .ok (.invokevirtual 158, 3) := by decide +kernel
theorem dX2_readMeasure_8 : decode cX2_readMeasure 8 = .ok (.ifCond .eq 15, 3) := by decide +kernel
theorem dX2_readMeasure_11 : decode cX2_readMeasure 11 = .ok (.aload_n 0, 1) := by decide +kernel
theorem dX2_readMeasure_12 : decode cX2_readMeasure 12 = .ok (.getfield 9, 3) := by decide +kernel
theorem dX2_readMeasure_15 : decode cX2_readMeasure 15 = .ok (.iload_n 2, 1) := by decide +kernel
theorem dX2_readMeasure_16 : decode cX2_readMeasure 16 = .ok (.iload_n 3, 1) := by decide +kernel
theorem dX2_readMeasure_17 : decode cX2_readMeasure 17 = .ok (.invokevirtual 161, 3) := by decide +kernel
theorem dX2_readMeasure_20 : decode cX2_readMeasure 20 = .ok (.goto 4, 3) := by decide +kernel
theorem dX2_readMeasure_23 : decode cX2_readMeasure 23 = .ok (.iconst (-1), 1) := by decide +kernel
theorem dX2_readMeasure_24 : decode cX2_readMeasure 24 = .ok (.ireturn, 1) := by decide +kernel
theorem dX2_readGutter_0 : decode cX2_readGutter 0 = .ok (.aload_n 0, 1) := by decide +kernel
theorem dX2_readGutter_1 : decode cX2_readGutter 1 = .ok (.getfield 9, 3) := by decide +kernel
theorem dX2_readGutter_4 : decode cX2_readGutter 4 = .ok (.invokevirtual 93, 3) := by decide +kernel
theorem dX2_readGutter_7 : decode cX2_readGutter 7 = .ok (.aload_n 0, 1) := by decide +kernel
theorem dX2_readGutter_8 : decode cX2_readGutter 8 = .ok (.getfield 9, 3) := by decide +kernel
theorem dX2_readGutter_11 : decode cX2_readGutter 11 = .ok (.aload_n 1, 1) := by decide +kernel
theorem dX2_readGutter_12 : decode cX2_readGutter 12 = .ok (.invokevirtual 165, 3) := by decide +kernel
theorem dX2_readGutter_15 : decode cX2_readGutter 15 = .ok (.istore_n 2, 1) := by decide +kernel
theorem dX2_readGutter_16 : decode cX2_readGutter 16 = .ok (.iload_n 2, 1) := by decide +kernel
theorem dX2_readGutter_17 : decode cX2_readGutter 17 = .ok (.iconst (-1), 1) := by decide +kernel
theorem dX2_readGutter_18 : decode cX2_readGutter 18 = .ok (.if_icmp .ne 5, 3) := by decide +kernel
theorem dX2_readGutter_21 : decode cX2_readGutter 21 = .ok (.iconst 0, 1) := by decide +kernel
theorem dX2_readGutter_22 : decode cX2_readGutter 22 = .ok (.ireturn, 1) := by decide +kernel
theorem dX2_readGutter_23 : decode cX2_readGutter 23 = .ok (.aload_n 1, 1) := by decide +kernel
theorem dX2_readGutter_24 : decode cX2_readGutter 24 = .ok (.getfield 137, 3) := by decide +kernel
theorem dX2_readGutter_27 : decode cX2_readGutter 27 = .ok (.iload_n 2, 1) := by decide +kernel
theorem dX2_readGutter_28 : decode cX2_readGutter 28 = .ok (.iaload, 1) := by decide +kernel
theorem dX2_readGutter_29 : decode cX2_readGutter 29 = .ok (.iconst (-1), 1) := by decide +kernel
theorem dX2_readGutter_30 : decode cX2_readGutter 30 = .ok (.if_icmp .eq 12, 3) := by decide +kernel
theorem dX2_readGutter_33 : decode cX2_readGutter 33 = .ok (.aload_n 0, 1) := by decide +kernel
theorem dX2_readGutter_34 : decode cX2_readGutter 34 = .ok (.getfield 9, 3) := by decide +kernel
theorem dX2_readGutter_37 : decode cX2_readGutter 37 = .ok (.iconst 3, 1) := by decide +kernel
theorem dX2_readGutter_38 : decode cX2_readGutter 38 = .ok (.invokevirtual 79, 3) := by decide +kernel
theorem dX2_readGutter_41 : decode cX2_readGutter 41 = .ok (.ireturn, 1) := by decide +kernel
theorem dX2_readGutter_42 : decode cX2_readGutter 42 = .ok (.aload_n 0, 1) := by decide +kernel
theorem dX2_readGutter_43 : decode cX2_readGutter 43 = .ok (.getfield 9, 3) := by decide +kernel
theorem dX2_readGutter_46 : decode cX2_readGutter 46 = .ok (.invokevirtual 93, 3) := by decide +kernel
theorem dX2_readGutter_49 : decode cX2_readGutter 49 = .ok (.aload_n 0, 1) := by decide +kernel
theorem dX2_readGutter_50 : decode cX2_readGutter 50 = .ok (.getfield 9, 3) := by decide +kernel
theorem dX2_readGutter_53 : decode cX2_readGutter 53 = .ok (.aload_n 1, 1) := by decide +kernel
theorem dX2_readGutter_54 : decode cX2_readGutter 54 = .ok (.invokevirtual 165, 3) := by decide +kernel
theorem dX2_readGutter_57 : decode cX2_readGutter 57 = .ok (.istore_n 3, 1) := by decide +kernel
theorem dX2_readGutter_58 : decode cX2_readGutter 58 = .ok (.iload_n 3, 1) := by decide +kernel
theorem dX2_readGutter_59 : decode cX2_readGutter 59 = .ok (.iconst (-1), 1) := by decide +kernel
theorem dX2_readGutter_60 : decode cX2_readGutter 60 = .ok (.if_icmp .ne 5, 3) := by decide +kernel
theorem dX2_readGutter_63 : decode cX2_readGutter 63 = .ok (.iconst 0, 1) := by decide +kernel
theorem dX2_readGutter_64 : decode cX2_readGutter 64 = .ok (.ireturn, 1) := by decide +kernel
theorem dX2_readGutter_65 : decode cX2_readGutter 65 = .ok (.aload_n 1, 1) := by decide +kernel
theorem dX2_readGutter_66 : decode cX2_readGutter 66 = .ok (.getfield 121, 3) := by decide +kernel
theorem dX2_readGutter_69 : decode cX2_readGutter 69 = .ok (.iload_n 3, 1) := by decide +kernel
theorem dX2_readGutter_70 : decode cX2_readGutter 70 = .ok (.iaload, 1) := by decide +kernel
theorem dX2_readGutter_71 : decode cX2_readGutter 71 = .ok (.aload_n 1, 1) := by decide +kernel
theorem dX2_readGutter_72 : decode cX2_readGutter 72 = .ok (.getfield 121, 3) := by decide +kernel
theorem dX2_readGutter_75 : decode cX2_readGutter 75 = .ok (.iload_n 2, 1) := by decide +kernel
theorem dX2_readGutter_76 : decode cX2_readGutter 76 = .ok (.iaload, 1) := by decide +kernel
theorem dX2_readGutter_77 : decode cX2_readGutter 77 = .ok (.if_icmp .lt 12, 3) := by decide +kernel
theorem dX2_readGutter_80 : decode cX2_readGutter 80 = .ok (.aload_n 0, 1) := by decide +kernel
theorem dX2_readGutter_81 : decode cX2_readGutter 81 = .ok (.getfield 9, 3) := by decide +kernel
theorem dX2_readGutter_84 : decode cX2_readGutter 84 = .ok (.iconst 3, 1) := by decide +kernel
theorem dX2_readGutter_85 : decode cX2_readGutter 85 = .ok (.invokevirtual 79, 3) := by decide +kernel
theorem dX2_readGutter_88 : decode cX2_readGutter 88 = .ok (.ireturn, 1) := by decide +kernel
theorem dX2_readGutter_89 : decode cX2_readGutter 89 = .ok (.aload_n 0, 1) := by decide +kernel
theorem dX2_readGutter_90 : decode cX2_readGutter 90 = .ok (.getfield 9, 3) := by decide +kernel
theorem dX2_readGutter_93 : decode cX2_readGutter 93 = .ok (.invokevirtual 93, 3) := by decide +kernel
theorem dX2_readGutter_96 : decode cX2_readGutter 96 = .ok (.aload_n 1, 1) := by decide +kernel
theorem dX2_readGutter_97 : decode cX2_readGutter 97 = .ok (.getfield 137, 3) := by decide +kernel
theorem dX2_readGutter_100 : decode cX2_readGutter 100 = .ok (.iload_n 2, 1) := by decide +kernel
theorem dX2_readGutter_101 : decode cX2_readGutter 101 = .ok (.iload_n 3, 1) := by decide +kernel
theorem dX2_readGutter_102 : decode cX2_readGutter 102 = .ok (.iastore, 1) := by decide +kernel
theorem dX2_readGutter_103 : decode cX2_readGutter 103 = .ok (.iconst 1, 1) := by decide +kernel
theorem dX2_readGutter_104 : decode cX2_readGutter 104 = .ok (.ireturn, 1) := by decide +kernel
theorem dX2_readLetterNamed_0 : decode cX2_readLetterNamed 0 = .ok (.aload_n 1, 1) := by decide +kernel
theorem dX2_readLetterNamed_1 : decode cX2_readLetterNamed 1 = .ok (.getfield 169, 3) := by decide +kernel
theorem dX2_readLetterNamed_4 : decode cX2_readLetterNamed 4 = .ok (.istore_n 2, 1) := by decide +kernel
theorem dX2_readLetterNamed_5 : decode cX2_readLetterNamed 5 = .ok (.iload_n 2, 1) := by decide +kernel
theorem dX2_readLetterNamed_6 : decode cX2_readLetterNamed 6 = .ok (.bipush 6, 2) := by decide +kernel
theorem dX2_readLetterNamed_8 : decode cX2_readLetterNamed 8 = .ok (.if_icmp .lt 12, 3) := by decide +kernel
theorem dX2_readLetterNamed_11 : decode cX2_readLetterNamed 11 = .ok (.aload_n 0, 1) := by decide +kernel
theorem dX2_readLetterNamed_12 : decode cX2_readLetterNamed 12 = .ok (.getfield 9, 3) := by decide +kernel
theorem dX2_readLetterNamed_15 : decode cX2_readLetterNamed 15 = .ok (.iconst 5, 1) := by decide +kernel
theorem dX2_readLetterNamed_16 : decode cX2_readLetterNamed 16 = .ok (.invokevirtual 79, 3) := by decide +kernel
theorem dX2_readLetterNamed_19 : decode cX2_readLetterNamed 19 = .ok (.ireturn, 1) := by decide +kernel
theorem dX2_readLetterNamed_20 : decode cX2_readLetterNamed 20 = .ok (.aload_n 0, 1) := by decide +kernel
theorem dX2_readLetterNamed_21 : decode cX2_readLetterNamed 21 = .ok (.getfield 9, 3) := by decide +kernel
theorem dX2_readLetterNamed_24 : decode cX2_readLetterNamed 24 = .ok (.invokevirtual 93, 3) := by decide +kernel
theorem dX2_readLetterNamed_27 : decode cX2_readLetterNamed 27 = .ok (.aload_n 0, 1) := by decide +kernel
theorem dX2_readLetterNamed_28 : decode cX2_readLetterNamed 28 = .ok (.aload_n 1, 1) := by decide +kernel
theorem dX2_readLetterNamed_29 : decode cX2_readLetterNamed 29 = .ok (.invokevirtual 103, 3) := by decide +kernel
theorem dX2_readLetterNamed_32 : decode cX2_readLetterNamed 32 = .ok (.ifCond .ne 5, 3) := by decide +kernel
theorem dX2_readLetterNamed_35 : decode cX2_readLetterNamed 35 = .ok (.iconst 0, 1) := by decide +kernel
theorem dX2_readLetterNamed_36 : decode cX2_readLetterNamed 36 = .ok (.ireturn, 1) := by decide +kernel
theorem dX2_readLetterNamed_37 : decode cX2_readLetterNamed 37 = .ok (.aload_n 1, 1) := by decide +kernel
theorem dX2_readLetterNamed_38 : decode cX2_readLetterNamed 38 = .ok (.getfield 172, 3) := by decide +kernel
theorem dX2_readLetterNamed_41 : decode cX2_readLetterNamed 41 = .ok (.iload_n 2, 1) := by decide +kernel
theorem dX2_readLetterNamed_42 : decode cX2_readLetterNamed 42 = .ok (.aload_n 0, 1) := by decide +kernel
theorem dX2_readLetterNamed_43 : decode cX2_readLetterNamed 43 = .ok (.getfield 9, 3) := by decide +kernel
theorem dX2_readLetterNamed_46 : decode cX2_readLetterNamed 46 = .ok (.getfield 110, 3) := by decide +kernel
theorem dX2_readLetterNamed_49 : decode cX2_readLetterNamed 49 = .ok (.lastore, 1) := by decide +kernel
theorem dX2_readLetterNamed_50 : decode cX2_readLetterNamed 50 = .ok (.aload_n 0, 1) := by decide +kernel
theorem dX2_readLetterNamed_51 : decode cX2_readLetterNamed 51 = .ok (.getfield 9, 3) := by decide +kernel
theorem dX2_readLetterNamed_54 : decode cX2_readLetterNamed 54 = .ok (.invokevirtual 93, 3) := by decide +kernel
theorem dX2_readLetterNamed_57 : decode cX2_readLetterNamed 57 = .ok (.aload_n 0, 1) := by decide +kernel
theorem dX2_readLetterNamed_58 : decode cX2_readLetterNamed 58 = .ok (.getfield 9, 3) := by decide +kernel
theorem dX2_readLetterNamed_61 : decode cX2_readLetterNamed 61 = .ok (.ldc 175, 2) := by decide +kernel
theorem dX2_readLetterNamed_63 : decode cX2_readLetterNamed 63 = .ok (.invokevirtual 158, 3) := by decide +kernel
theorem dX2_readLetterNamed_66 : decode cX2_readLetterNamed 66 = .ok (.ireturn, 1) := by decide +kernel
theorem dX2_readLetterMouths_0 : decode cX2_readLetterMouths 0 = .ok (.iconst 0, 1) := by decide +kernel
theorem dX2_readLetterMouths_1 : decode cX2_readLetterMouths 1 = .ok (.istore_n 2, 1) := by decide +kernel
theorem dX2_readLetterMouths_2 : decode cX2_readLetterMouths 2 = .ok (.iconst 0, 1) := by decide +kernel
theorem dX2_readLetterMouths_3 : decode cX2_readLetterMouths 3 = .ok (.istore_n 3, 1) := by decide +kernel
theorem dX2_readLetterMouths_4 : decode cX2_readLetterMouths 4 = .ok (.iload_n 3, 1) := by decide +kernel
theorem dX2_readLetterMouths_5 : decode cX2_readLetterMouths 5 = .ok (.bipush 7, 2) := by decide +kernel
theorem dX2_readLetterMouths_7 : decode cX2_readLetterMouths 7 = .ok (.if_icmp .gt 75, 3) := by decide +kernel
theorem dX2_readLetterMouths_10 : decode cX2_readLetterMouths 10 = .ok (.iload_n 2, 1) := by decide +kernel
theorem dX2_readLetterMouths_11 : decode cX2_readLetterMouths 11 = .ok (.ifCond .eq 15, 3) := by decide +kernel
theorem dX2_readLetterMouths_14 : decode cX2_readLetterMouths 14 = .ok (.aload_n 0, 1) := by decide +kernel
theorem dX2_readLetterMouths_15 : decode cX2_readLetterMouths 15 = .ok (.getfield 9, 3) := by decide +kernel
theorem dX2_readLetterMouths_18 : decode cX2_readLetterMouths 18 = .ok (.bipush 59, 2) := by decide +kernel
theorem dX2_readLetterMouths_20 : decode cX2_readLetterMouths 20 = .ok (.invokevirtual 177, 3) := by decide +kernel
theorem dX2_readLetterMouths_23 : decode cX2_readLetterMouths 23 = .ok (.ifCond .ne 59, 3) := by decide +kernel
theorem dX2_readLetterMouths_26 : decode cX2_readLetterMouths 26 = .ok (.aload_n 0, 1) := by decide +kernel
theorem dX2_readLetterMouths_27 : decode cX2_readLetterMouths 27 = .ok (.getfield 9, 3) := by decide +kernel
theorem dX2_readLetterMouths_30 : decode cX2_readLetterMouths 30 = .ok (.aload_n 1, 1) := by decide +kernel
theorem dX2_readLetterMouths_31 : decode cX2_readLetterMouths 31 = .ok (.invokevirtual 165, 3) := by decide +kernel
theorem dX2_readLetterMouths_34 : decode cX2_readLetterMouths 34 = .ok (.istore 4, 2) := by decide +kernel
theorem dX2_readLetterMouths_36 : decode cX2_readLetterMouths 36 = .ok (.iload 4, 2) := by decide +kernel
theorem dX2_readLetterMouths_38 : decode cX2_readLetterMouths 38 = .ok (.iconst (-1), 1) := by decide +kernel
theorem dX2_readLetterMouths_39 : decode cX2_readLetterMouths 39 = .ok (.if_icmp .ne 5, 3) := by decide +kernel
theorem dX2_readLetterMouths_42 : decode cX2_readLetterMouths 42 = .ok (.iconst 0, 1) := by decide +kernel
theorem dX2_readLetterMouths_43 : decode cX2_readLetterMouths 43 = .ok (.ireturn, 1) := by decide +kernel
theorem dX2_readLetterMouths_44 : decode cX2_readLetterMouths 44 = .ok (.iload_n 2, 1) := by decide +kernel
theorem dX2_readLetterMouths_45 : decode cX2_readLetterMouths 45 = .ok (.iload 4, 2) := by decide +kernel
theorem dX2_readLetterMouths_47 : decode cX2_readLetterMouths 47 = .ok (.ishr, 1) := by decide +kernel
theorem dX2_readLetterMouths_48 : decode cX2_readLetterMouths 48 = .ok (.iconst 1, 1) := by decide +kernel
theorem dX2_readLetterMouths_49 : decode cX2_readLetterMouths 49 = .ok (.iand, 1) := by decide +kernel
theorem dX2_readLetterMouths_50 : decode cX2_readLetterMouths 50 = .ok (.ifCond .eq 12, 3) := by decide +kernel
theorem dX2_readLetterMouths_53 : decode cX2_readLetterMouths 53 = .ok (.aload_n 0, 1) := by decide +kernel
theorem dX2_readLetterMouths_54 : decode cX2_readLetterMouths 54 = .ok (.getfield 9, 3) := by decide +kernel
theorem dX2_readLetterMouths_57 : decode cX2_readLetterMouths 57 = .ok (.iconst 3, 1) := by decide +kernel
theorem dX2_readLetterMouths_58 : decode cX2_readLetterMouths 58 = .ok (.invokevirtual 79, 3) := by decide +kernel
theorem dX2_readLetterMouths_61 : decode cX2_readLetterMouths 61 = .ok (.ireturn, 1) := by decide +kernel
theorem dX2_readLetterMouths_62 : decode cX2_readLetterMouths 62 = .ok (.iload_n 2, 1) := by decide +kernel
theorem dX2_readLetterMouths_63 : decode cX2_readLetterMouths 63 = .ok (.iconst 1, 1) := by decide +kernel
theorem dX2_readLetterMouths_64 : decode cX2_readLetterMouths 64 = .ok (.iload 4, 2) := by decide +kernel
theorem dX2_readLetterMouths_66 : decode cX2_readLetterMouths 66 = .ok (.ishl, 1) := by decide +kernel
theorem dX2_readLetterMouths_67 : decode cX2_readLetterMouths 67 = .ok (.ior, 1) := by decide +kernel
theorem dX2_readLetterMouths_68 : decode cX2_readLetterMouths 68 = .ok (.istore_n 2, 1) := by decide +kernel
theorem dX2_readLetterMouths_69 : decode cX2_readLetterMouths 69 = .ok (.aload_n 0, 1) := by decide +kernel
theorem dX2_readLetterMouths_70 : decode cX2_readLetterMouths 70 = .ok (.getfield 9, 3) := by decide +kernel
theorem dX2_readLetterMouths_73 : decode cX2_readLetterMouths 73 = .ok (.invokevirtual 93, 3) := by decide +kernel
theorem dX2_readLetterMouths_76 : decode cX2_readLetterMouths 76 = .ok (.iinc 3 1, 3) := by decide +kernel
theorem dX2_readLetterMouths_79 : decode cX2_readLetterMouths 79 = .ok (.goto (-75), 3) := by decide +kernel
theorem dX2_readLetterMouths_82 : decode cX2_readLetterMouths 82 = .ok (.aload_n 1, 1) := by decide +kernel
theorem dX2_readLetterMouths_83 : decode cX2_readLetterMouths 83 = .ok (.iload_n 2, 1) := by decide +kernel
theorem dX2_readLetterMouths_84 : decode cX2_readLetterMouths 84 = .ok (.invokevirtual 180, 3) := by decide +kernel
theorem dX2_readLetterMouths_87 : decode cX2_readLetterMouths 87 = .ok (.iconst (-1), 1) := by decide +kernel
theorem dX2_readLetterMouths_88 : decode cX2_readLetterMouths 88 = .ok (.if_icmp .eq 12, 3) := by decide +kernel
theorem dX2_readLetterMouths_91 : decode cX2_readLetterMouths 91 = .ok (.aload_n 0, 1) := by decide +kernel
theorem dX2_readLetterMouths_92 : decode cX2_readLetterMouths 92 = .ok (.getfield 9, 3) := by decide +kernel
theorem dX2_readLetterMouths_95 : decode cX2_readLetterMouths 95 = .ok (.iconst 3, 1) := by decide +kernel
theorem dX2_readLetterMouths_96 : decode cX2_readLetterMouths 96 = .ok (.invokevirtual 79, 3) := by decide +kernel
theorem dX2_readLetterMouths_99 : decode cX2_readLetterMouths 99 = .ok (.ireturn, 1) := by decide +kernel
theorem dX2_readLetterMouths_100 : decode cX2_readLetterMouths 100 = .ok (.aload_n 1, 1) := by decide +kernel
theorem dX2_readLetterMouths_101 : decode cX2_readLetterMouths 101 = .ok (.getfield 169, 3) := by decide +kernel
theorem dX2_readLetterMouths_104 : decode cX2_readLetterMouths 104 = .ok (.istore_n 3, 1) := by decide +kernel
theorem dX2_readLetterMouths_105 : decode cX2_readLetterMouths 105 = .ok (.iload_n 3, 1) := by decide +kernel
theorem dX2_readLetterMouths_106 : decode cX2_readLetterMouths 106 = .ok (.bipush 6, 2) := by decide +kernel
theorem dX2_readLetterMouths_108 : decode cX2_readLetterMouths 108 = .ok (.if_icmp .lt 12, 3) := by decide +kernel
theorem dX2_readLetterMouths_111 : decode cX2_readLetterMouths 111 = .ok (.aload_n 0, 1) := by decide +kernel
theorem dX2_readLetterMouths_112 : decode cX2_readLetterMouths 112 = .ok (.getfield 9, 3) := by decide +kernel
theorem dX2_readLetterMouths_115 : decode cX2_readLetterMouths 115 = .ok (.iconst 5, 1) := by decide +kernel
theorem dX2_readLetterMouths_116 : decode cX2_readLetterMouths 116 = .ok (.invokevirtual 79, 3) := by decide +kernel
theorem dX2_readLetterMouths_119 : decode cX2_readLetterMouths 119 = .ok (.ireturn, 1) := by decide +kernel
theorem dX2_readLetterMouths_120 : decode cX2_readLetterMouths 120 = .ok (.aload_n 1, 1) := by decide +kernel
theorem dX2_readLetterMouths_121 : decode cX2_readLetterMouths 121 = .ok (.getfield 184, 3) := by decide +kernel
theorem dX2_readLetterMouths_124 : decode cX2_readLetterMouths 124 = .ok (.iload_n 3, 1) := by decide +kernel
theorem dX2_readLetterMouths_125 : decode cX2_readLetterMouths 125 = .ok (.iload_n 2, 1) := by decide +kernel
theorem dX2_readLetterMouths_126 : decode cX2_readLetterMouths 126 = .ok (.iastore, 1) := by decide +kernel
theorem dX2_readLetterMouths_127 : decode cX2_readLetterMouths 127 = .ok (.aload_n 1, 1) := by decide +kernel
theorem dX2_readLetterMouths_128 : decode cX2_readLetterMouths 128 = .ok (.dup, 1) := by decide +kernel
theorem dX2_readLetterMouths_129 : decode cX2_readLetterMouths 129 = .ok (.getfield 169, 3) := by decide +kernel
theorem dX2_readLetterMouths_132 : decode cX2_readLetterMouths 132 = .ok (.iconst 1, 1) := by decide +kernel
theorem dX2_readLetterMouths_133 : decode cX2_readLetterMouths 133 = .ok (.iadd, 1) := by decide +kernel
theorem dX2_readLetterMouths_134 : decode cX2_readLetterMouths 134 = .ok (.putfield 169, 3) := by decide +kernel
theorem dX2_readLetterMouths_137 : decode cX2_readLetterMouths 137 = .ok (.iconst 1, 1) := by decide +kernel
theorem dX2_readLetterMouths_138 : decode cX2_readLetterMouths 138 = .ok (.ireturn, 1) := by decide +kernel
theorem dX2_readRain_0 : decode cX2_readRain 0 = .ok (.aload_n 1, 1) := by decide +kernel
theorem dX2_readRain_1 : decode cX2_readRain 1 = .ok (.getfield 187, 3) := by decide +kernel
theorem dX2_readRain_4 : decode cX2_readRain 4 = .ok (.ifCond .le 12, 3) := by decide +kernel
theorem dX2_readRain_7 : decode cX2_readRain 7 = .ok (.aload_n 0, 1) := by decide +kernel
theorem dX2_readRain_8 : decode cX2_readRain 8 = .ok (.getfield 9, 3) := by decide +kernel
theorem dX2_readRain_11 : decode cX2_readRain 11 = .ok (.iconst 3, 1) := by decide +kernel
theorem dX2_readRain_12 : decode cX2_readRain 12 = .ok (.invokevirtual 79, 3) := by decide +kernel
theorem dX2_readRain_15 : decode cX2_readRain 15 = .ok (.ireturn, 1) := by decide +kernel
theorem dX2_readRain_16 : decode cX2_readRain 16 = .ok (.aload_n 0, 1) := by decide +kernel
theorem dX2_readRain_17 : decode cX2_readRain 17 = .ok (.getfield 9, 3) := by decide +kernel
theorem dX2_readRain_20 : decode cX2_readRain 20 = .ok (.invokevirtual 93, 3) := by decide +kernel
theorem dX2_readRain_23 : decode cX2_readRain 23 = .ok (.iconst 0, 1) := by decide +kernel
theorem dX2_readRain_24 : decode cX2_readRain 24 = .ok (.istore_n 2, 1) := by decide +kernel
theorem dX2_readRain_25 : decode cX2_readRain 25 = .ok (.iload_n 2, 1) := by decide +kernel
theorem dX2_readRain_26 : decode cX2_readRain 26 = .ok (.bipush 12, 2) := by decide +kernel
theorem dX2_readRain_28 : decode cX2_readRain 28 = .ok (.if_icmp .ge 60, 3) := by decide +kernel
theorem dX2_readRain_31 : decode cX2_readRain 31 = .ok (.iload_n 2, 1) := by decide +kernel
theorem dX2_readRain_32 : decode cX2_readRain 32 = .ok (.ifCond .eq 15, 3) := by decide +kernel
theorem dX2_readRain_35 : decode cX2_readRain 35 = .ok (.aload_n 0, 1) := by decide +kernel
theorem dX2_readRain_36 : decode cX2_readRain 36 = .ok (.getfield 9, 3) := by decide +kernel
theorem dX2_readRain_39 : decode cX2_readRain 39 = .ok (.bipush 59, 2) := by decide +kernel
theorem dX2_readRain_41 : decode cX2_readRain 41 = .ok (.invokevirtual 177, 3) := by decide +kernel
theorem dX2_readRain_44 : decode cX2_readRain 44 = .ok (.ifCond .ne 44, 3) := by decide +kernel
theorem dX2_readRain_47 : decode cX2_readRain 47 = .ok (.aload_n 1, 1) := by decide +kernel
theorem dX2_readRain_48 : decode cX2_readRain 48 = .ok (.getfield 190, 3) := by decide +kernel
theorem dX2_readRain_51 : decode cX2_readRain 51 = .ok (.iload_n 2, 1) := by decide +kernel
theorem dX2_readRain_52 : decode cX2_readRain 52 = .ok (.aload_n 0, 1) := by decide +kernel
theorem dX2_readRain_53 : decode cX2_readRain 53 = .ok (.getfield 9, 3) := by decide +kernel
theorem dX2_readRain_56 : decode cX2_readRain 56 = .ok (.iconst 0, 1) := by decide +kernel
theorem dX2_readRain_57 : decode cX2_readRain 57 = .ok (.bipush 9, 2) := by decide +kernel
theorem dX2_readRain_59 : decode cX2_readRain 59 = .ok (.invokevirtual 161, 3) := by decide +kernel
theorem dX2_readRain_62 : decode cX2_readRain 62 = .ok (.iastore, 1) := by decide +kernel
theorem dX2_readRain_63 : decode cX2_readRain 63 = .ok (.aload_n 1, 1) := by decide +kernel
theorem dX2_readRain_64 : decode cX2_readRain 64 = .ok (.getfield 190, 3) := by decide +kernel
theorem dX2_readRain_67 : decode cX2_readRain 67 = .ok (.iload_n 2, 1) := by decide +kernel
theorem dX2_readRain_68 : decode cX2_readRain 68 = .ok (.iaload, 1) := by decide +kernel
theorem dX2_readRain_69 : decode cX2_readRain 69 = .ok (.iconst (-1), 1) := by decide +kernel
theorem dX2_readRain_70 : decode cX2_readRain 70 = .ok (.if_icmp .ne 5, 3) := by decide +kernel
theorem dX2_readRain_73 : decode cX2_readRain 73 = .ok (.iconst 0, 1) := by decide +kernel
theorem dX2_readRain_74 : decode cX2_readRain 74 = .ok (.ireturn, 1) := by decide +kernel
theorem dX2_readRain_75 : decode cX2_readRain 75 = .ok (.aload_n 1, 1) := by decide +kernel
theorem dX2_readRain_76 : decode cX2_readRain 76 = .ok (.iload_n 2, 1) := by decide +kernel
theorem dX2_readRain_77 : decode cX2_readRain 77 = .ok (.iconst 1, 1) := by decide +kernel
theorem dX2_readRain_78 : decode cX2_readRain 78 = .ok (.iadd, 1) := by decide +kernel
theorem dX2_readRain_79 : decode cX2_readRain 79 = .ok (.putfield 187, 3) := by decide +kernel
theorem dX2_readRain_82 : decode cX2_readRain 82 = .ok (.iinc 2 1, 3) := by decide +kernel
theorem dX2_readRain_85 : decode cX2_readRain 85 = .ok (.goto (-60), 3) := by decide +kernel
theorem dX2_readRain_88 : decode cX2_readRain 88 = .ok (.aload_n 0, 1) := by decide +kernel
theorem dX2_readRain_89 : decode cX2_readRain 89 = .ok (.getfield 9, 3) := by decide +kernel
theorem dX2_readRain_92 : decode cX2_readRain 92 = .ok (.invokevirtual 192, 3) := by decide +kernel
theorem dX2_readRain_95 : decode cX2_readRain 95 = .ok (.ifCond .eq 38, 3) := by decide +kernel
theorem dX2_readRain_98 : decode cX2_readRain 98 = .ok (.aload_n 0, 1) := by decide +kernel
theorem dX2_readRain_99 : decode cX2_readRain 99 = .ok (.getfield 9, 3) := by decide +kernel
theorem dX2_readRain_102 : decode cX2_readRain 102 = .ok (.getfield 195, 3) := by decide +kernel
theorem dX2_readRain_105 : decode cX2_readRain 105 = .ok (.bipush 9, 2) := by decide +kernel
theorem dX2_readRain_107 : decode cX2_readRain 107 = .ok (.if_icmp .gt 7, 3) := by decide +kernel
theorem dX2_readRain_110 : decode cX2_readRain 110 = .ok (.iconst 1, 1) := by decide +kernel
theorem dX2_readRain_111 : decode cX2_readRain 111 = .ok (.goto 4, 3) := by decide +kernel
theorem dX2_readRain_114 : decode cX2_readRain 114 = .ok (.iconst 0, 1) := by decide +kernel
theorem dX2_readRain_115 : decode cX2_readRain 115 = .ok (.istore_n 2, 1) := by decide +kernel
theorem dX2_readRain_116 : decode cX2_readRain 116 = .ok (.aload_n 0, 1) := by decide +kernel
theorem dX2_readRain_117 : decode cX2_readRain 117 = .ok (.getfield 9, 3) := by decide +kernel
theorem dX2_readRain_120 : decode cX2_readRain 120 = .ok (.iload_n 2, 1) := by decide +kernel
theorem dX2_readRain_121 : decode cX2_readRain 121 = .ok (.ifCond .eq 7, 3) := by decide +kernel
theorem dX2_readRain_124 : decode cX2_readRain 124 = .ok (.iconst 5, 1) := by decide +kernel
theorem dX2_readRain_125 : decode cX2_readRain 125 = .ok (.goto 4, 3) := by decide +kernel
theorem dX2_readRain_128 : decode cX2_readRain 128 = .ok (.iconst 4, 1) := by decide +kernel
theorem dX2_readRain_129 : decode cX2_readRain 129 = .ok (.invokevirtual 79, 3) := by decide +kernel
theorem dX2_readRain_132 : decode cX2_readRain 132 = .ok (.ireturn, 1) := by decide +kernel
theorem dX2_readRain_133 : decode cX2_readRain 133 = .ok (.iconst 1, 1) := by decide +kernel
theorem dX2_readRain_134 : decode cX2_readRain 134 = .ok (.ireturn, 1) := by decide +kernel
theorem dX3_init_0 : decode cX3_init 0 = .ok (.aload_n 0, 1) := by decide +kernel
theorem dX3_init_1 : decode cX3_init 1 = .ok (.invokespecial 3, 3) := by decide +kernel
theorem dX3_init_4 : decode cX3_init 4 = .ok (.aload_n 0, 1) := by decide +kernel
theorem dX3_init_5 : decode cX3_init 5 = .ok (.sipush 1000, 3) := by decide +kernel
theorem dX3_init_8 : decode cX3_init 8 = .ok (.newarray .int, 2) := by decide +kernel
theorem dX3_init_10 : decode cX3_init 10 = .ok (.putfield 9, 3) := by decide +kernel
theorem dX3_init_13 : decode cX3_init 13 = .ok (.aload_n 0, 1) := by decide +kernel
theorem dX3_init_14 : decode cX3_init 14 = .ok (.bipush 24, 2) := by decide +kernel
theorem dX3_init_16 : decode cX3_init 16 = .ok (.newarray .int, 2) := by decide +kernel
theorem dX3_init_18 : decode cX3_init 18 = .ok (.putfield 15, 3) := by decide +kernel
theorem dX3_init_21 : decode cX3_init 21 = .ok (.return_, 1) := by decide +kernel
theorem dX3_add_0 : decode cX3_add 0 = .ok (.aload_n 0, 1) := by decide +kernel
theorem dX3_add_1 : decode cX3_add 1 = .ok (.getfield 18, 3) := by decide +kernel
theorem dX3_add_4 : decode cX3_add 4 = .ok (.sipush 1000, 3) := by decide +kernel
theorem dX3_add_7 : decode cX3_add 7 = .ok (.if_icmp .ge 23, 3) := by decide +kernel
theorem dX3_add_10 : decode cX3_add 10 = .ok (.aload_n 0, 1) := by decide +kernel
theorem dX3_add_11 : decode cX3_add 11 = .ok (.getfield 9, 3) := by decide +kernel
theorem dX3_add_14 : decode cX3_add 14 = .ok (.aload_n 0, 1) := by decide +kernel
theorem dX3_add_15 : decode cX3_add 15 = .ok (.getfield 18, 3) := by decide +kernel
theorem dX3_add_18 : decode cX3_add 18 = .ok (.iload_n 1, 1) := by decide +kernel
theorem dX3_add_19 : decode cX3_add 19 = .ok (.iastore, 1) := by decide +kernel
theorem dX3_add_20 : decode cX3_add 20 = .ok (.aload_n 0, 1) := by decide +kernel
theorem dX3_add_21 : decode cX3_add 21 = .ok (.dup, 1) := by decide +kernel
theorem dX3_add_22 : decode cX3_add 22 = .ok (.getfield 18, 3) := by decide +kernel
theorem dX3_add_25 : decode cX3_add 25 = .ok (.iconst 1, 1) := by decide +kernel
theorem dX3_add_26 : decode cX3_add 26 = .ok (.iadd, 1) := by decide +kernel
theorem dX3_add_27 : decode cX3_add 27 = .ok (.putfield 18, 3) := by decide +kernel
theorem dX3_add_30 : decode cX3_add 30 = .ok (.return_, 1) := by decide +kernel
theorem dX3_valueFor_0 : decode cX3_valueFor 0 = .ok (.aload_n 0, 1) := by decide +kernel
theorem dX3_valueFor_1 : decode cX3_valueFor 1 = .ok (.getfield 18, 3) := by decide +kernel
theorem dX3_valueFor_4 : decode cX3_valueFor 4 = .ok (.ifCond .ne 5, 3) := by decide +kernel
theorem dX3_valueFor_7 : decode cX3_valueFor 7 = .ok (.iload_n 1, 1) := by decide +kernel
theorem dX3_valueFor_8 : decode cX3_valueFor 8 = .ok (.ireturn, 1) := by decide +kernel
theorem dX3_valueFor_9 : decode cX3_valueFor 9 = .ok (.iconst 0, 1) := by decide +kernel
theorem dX3_valueFor_10 : decode cX3_valueFor 10 = .ok (.istore 5, 2) := by decide +kernel
theorem dX3_valueFor_12 : decode cX3_valueFor 12 = .ok (.iconst 0, 1) := by decide +kernel
theorem dX3_valueFor_13 : decode cX3_valueFor 13 = .ok (.istore 6, 2) := by decide +kernel
theorem dX3_valueFor_15 : decode cX3_valueFor 15 = .ok (.iload 6, 2) := by decide +kernel
theorem dX3_valueFor_17 : decode cX3_valueFor 17 = .ok (.aload_n 0, 1) := by decide +kernel
theorem dX3_valueFor_18 : decode cX3_valueFor 18 = .ok (.getfield 18, 3) := by decide +kernel
theorem dX3_valueFor_21 : decode cX3_valueFor 21 = .ok (.if_icmp .ge 146, 3) := by decide +kernel
theorem dX3_valueFor_24 : decode cX3_valueFor 24 = .ok (.aload_n 0, 1) := by decide +kernel
theorem dX3_valueFor_25 : decode cX3_valueFor 25 = .ok (.getfield 9, 3) := by decide +kernel
theorem dX3_valueFor_28 : decode cX3_valueFor 28 = .ok (.iload 6, 2) := by decide +kernel
theorem dX3_valueFor_30 : decode cX3_valueFor 30 = .ok (.iaload, 1) := by decide +kernel
theorem dX3_valueFor_31 : decode cX3_valueFor 31 = .ok (.istore 7, 2) := by decide +kernel
theorem dX3_valueFor_33 : decode cX3_valueFor 33 = .ok (.iload 7, 2) := by decide +kernel
theorem dX3_valueFor_35 : decode cX3_valueFor 35 = .ok (.bipush (-6), 2) := by decide +kernel
theorem dX3_valueFor_37 : decode cX3_valueFor 37 = .ok (.if_icmp .gt 45, 3) := by decide +kernel
theorem dX3_valueFor_40 : decode cX3_valueFor 40 = .ok (.iload 5, 2) := by decide +kernel
theorem dX3_valueFor_42 : decode cX3_valueFor 42 = .ok (.iconst 2, 1) := by decide +kernel
theorem dX3_valueFor_43 : decode cX3_valueFor 43 = .ok (.if_icmp .lt 118, 3) := by decide +kernel
theorem dX3_valueFor_46 : decode cX3_valueFor 46 = .ok (.iinc 5 (-1), 3) := by decide +kernel
theorem dX3_valueFor_49 : decode cX3_valueFor 49 = .ok (.aload_n 0, 1) := by decide +kernel
theorem dX3_valueFor_50 : decode cX3_valueFor 50 = .ok (.getfield 15, 3) := by decide +kernel
theorem dX3_valueFor_53 : decode cX3_valueFor 53 = .ok (.iload 5, 2) := by decide +kernel
theorem dX3_valueFor_55 : decode cX3_valueFor 55 = .ok (.iconst 1, 1) := by decide +kernel
theorem dX3_valueFor_56 : decode cX3_valueFor 56 = .ok (.isub, 1) := by decide +kernel
theorem dX3_valueFor_57 : decode cX3_valueFor 57 = .ok (.iload 7, 2) := by decide +kernel
theorem dX3_valueFor_59 : decode cX3_valueFor 59 = .ok (.aload_n 0, 1) := by decide +kernel
theorem dX3_valueFor_60 : decode cX3_valueFor 60 = .ok (.getfield 15, 3) := by decide +kernel
theorem dX3_valueFor_63 : decode cX3_valueFor 63 = .ok (.iload 5, 2) := by decide +kernel
theorem dX3_valueFor_65 : decode cX3_valueFor 65 = .ok (.iconst 1, 1) := by decide +kernel
theorem dX3_valueFor_66 : decode cX3_valueFor 66 = .ok (.isub, 1) := by decide +kernel
theorem dX3_valueFor_67 : decode cX3_valueFor 67 = .ok (.iaload, 1) := by decide +kernel
theorem dX3_valueFor_68 : decode cX3_valueFor 68 = .ok (.aload_n 0, 1) := by decide +kernel
theorem dX3_valueFor_69 : decode cX3_valueFor 69 = .ok (.getfield 15, 3) := by decide +kernel
theorem dX3_valueFor_72 : decode cX3_valueFor 72 = .ok (.iload 5, 2) := by decide +kernel
theorem dX3_valueFor_74 : decode cX3_valueFor 74 = .ok (.iaload, 1) := by decide +kernel
theorem dX3_valueFor_75 : decode cX3_valueFor 75 = .ok (.invokestatic 22, 3) := by decide +kernel
theorem dX3_valueFor_78 : decode cX3_valueFor 78 = .ok (.iastore, 1) := by decide +kernel
theorem dX3_valueFor_79 : decode cX3_valueFor 79 = .ok (.goto 82, 3) := by decide +kernel
theorem dX3_valueFor_82 : decode cX3_valueFor 82 = .ok (.iload 7, 2) := by decide +kernel
theorem dX3_valueFor_84 : decode cX3_valueFor 84 = .ok (.bipush (-5), 2) := by decide +kernel
theorem dX3_valueFor_86 : decode cX3_valueFor 86 = .ok (.if_icmp .ne 38, 3) := by decide +kernel
theorem dX3_valueFor_89 : decode cX3_valueFor 89 = .ok (.iload 5, 2) := by decide +kernel
theorem dX3_valueFor_91 : decode cX3_valueFor 91 = .ok (.iconst 1, 1) := by decide +kernel
theorem dX3_valueFor_92 : decode cX3_valueFor 92 = .ok (.if_icmp .lt 69, 3) := by decide +kernel
theorem dX3_valueFor_95 : decode cX3_valueFor 95 = .ok (.aload_n 0, 1) := by decide +kernel
theorem dX3_valueFor_96 : decode cX3_valueFor 96 = .ok (.getfield 15, 3) := by decide +kernel
theorem dX3_valueFor_99 : decode cX3_valueFor 99 = .ok (.iload 5, 2) := by decide +kernel
theorem dX3_valueFor_101 : decode cX3_valueFor 101 = .ok (.iconst 1, 1) := by decide +kernel
theorem dX3_valueFor_102 : decode cX3_valueFor 102 = .ok (.isub, 1) := by decide +kernel
theorem dX3_valueFor_103 : decode cX3_valueFor 103 = .ok (.aload_n 0, 1) := by decide +kernel
theorem dX3_valueFor_104 : decode cX3_valueFor 104 = .ok (.getfield 15, 3) := by decide +kernel
theorem dX3_valueFor_107 : decode cX3_valueFor 107 = .ok (.iload 5, 2) := by decide +kernel
theorem dX3_valueFor_109 : decode cX3_valueFor 109 = .ok (.iconst 1, 1) := by decide +kernel
theorem dX3_valueFor_110 : decode cX3_valueFor 110 = .ok (.isub, 1) := by decide +kernel
theorem dX3_valueFor_111 : decode cX3_valueFor 111 = .ok (.iaload, 1) := by decide +kernel
theorem dX3_valueFor_112 : decode cX3_valueFor 112 = .ok (.ifCond .ne 7, 3) := by decide +kernel
theorem dX3_valueFor_115 : decode cX3_valueFor 115 = .ok (.iconst 1, 1) := by decide +kernel
theorem dX3_valueFor_116 : decode cX3_valueFor 116 = .ok (.goto 4, 3) := by decide +kernel
theorem dX3_valueFor_119 : decode cX3_valueFor 119 = .ok (.iconst 0, 1) := by decide +kernel
theorem dX3_valueFor_120 : decode cX3_valueFor 120 = .ok (.iastore, 1) := by decide +kernel
theorem dX3_valueFor_121 : decode cX3_valueFor 121 = .ok (.goto 40, 3) := by decide +kernel
theorem dX3_valueFor_124 : decode cX3_valueFor 124 = .ok (.iload 5, 2) := by decide +kernel
theorem dX3_valueFor_126 : decode cX3_valueFor 126 = .ok (.bipush 24, 2) := by decide +kernel
theorem dX3_valueFor_128 : decode cX3_valueFor 128 = .ok (.if_icmp .ge 33, 3) := by decide +kernel
theorem dX3_valueFor_131 : decode cX3_valueFor 131 = .ok (.aload_n 0, 1) := by decide +kernel
theorem dX3_valueFor_132 : decode cX3_valueFor 132 = .ok (.getfield 15, 3) := by decide +kernel
theorem dX3_valueFor_135 : decode cX3_valueFor 135 = .ok (.iload 5, 2) := by decide +kernel
theorem dX3_valueFor_137 : decode cX3_valueFor 137 = .ok (.iload 7, 2) := by decide +kernel
theorem dX3_valueFor_139 : decode cX3_valueFor 139 = .ok (.ifCond .lt 8, 3) := by decide +kernel
theorem dX3_valueFor_142 : decode cX3_valueFor 142 = .ok (.iload 7, 2) := by decide +kernel
theorem dX3_valueFor_144 : decode cX3_valueFor 144 = .ok (.goto 13, 3) := by decide +kernel
theorem dX3_valueFor_147 : decode cX3_valueFor 147 = .ok (.iload 7, 2) := by decide +kernel
theorem dX3_valueFor_149 : decode cX3_valueFor 149 = .ok (.iload_n 1, 1) := by decide +kernel
theorem dX3_valueFor_150 : decode cX3_valueFor 150 = .ok (.iload_n 2, 1) := by decide +kernel
theorem dX3_valueFor_151 : decode cX3_valueFor 151 = .ok (.iload_n 3, 1) := by decide +kernel
theorem dX3_valueFor_152 : decode cX3_valueFor 152 = .ok (.iload 4, 2) := by decide +kernel
theorem dX3_valueFor_154 : decode cX3_valueFor 154 = .ok (.invokestatic 26, 3) := by decide +kernel
theorem dX3_valueFor_157 : decode cX3_valueFor 157 = .ok (.iastore, 1) := by decide +kernel
theorem dX3_valueFor_158 : decode cX3_valueFor 158 = .ok (.iinc 5 1, 3) := by decide +kernel
theorem dX3_valueFor_161 : decode cX3_valueFor 161 = .ok (.iinc 6 1, 3) := by decide +kernel
theorem dX3_valueFor_164 : decode cX3_valueFor 164 = .ok (.goto (-149), 3) := by decide +kernel
theorem dX3_valueFor_167 : decode cX3_valueFor 167 = .ok (.aload_n 0, 1) := by decide +kernel
theorem dX3_valueFor_168 : decode cX3_valueFor 168 = .ok (.getfield 15, 3) := by decide +kernel
theorem dX3_valueFor_171 : decode cX3_valueFor 171 = .ok (.iconst 0, 1) := by decide +kernel
theorem dX3_valueFor_172 : decode cX3_valueFor 172 = .ok (.iaload, 1) := by decide +kernel
theorem dX3_valueFor_173 : decode cX3_valueFor 173 = .ok (.ireturn, 1) := by decide +kernel
theorem dX3_fact_0 : decode cX3_fact 0 = .ok (.iload_n 0, 1) := by decide +kernel
theorem dX3_fact_1 : decode cX3_fact 1 = .ok (.tableswitch 33 (-3) (-1) #[31, 29, 27], 27) := by decide +kernel
theorem dX3_fact_28 : decode cX3_fact 28 = .ok (.iload_n 1, 1) := by decide +kernel
theorem dX3_fact_29 : decode cX3_fact 29 = .ok (.ireturn, 1) := by decide +kernel
theorem dX3_fact_30 : decode cX3_fact 30 = .ok (.iload_n 2, 1) := by decide +kernel
theorem dX3_fact_31 : decode cX3_fact 31 = .ok (.ireturn, 1) := by decide +kernel
theorem dX3_fact_32 : decode cX3_fact 32 = .ok (.iload_n 3, 1) := by decide +kernel
theorem dX3_fact_33 : decode cX3_fact 33 = .ok (.ireturn, 1) := by decide +kernel
theorem dX3_fact_34 : decode cX3_fact 34 = .ok (.iload 4, 2) := by decide +kernel
theorem dX3_fact_36 : decode cX3_fact 36 = .ok (.ireturn, 1) := by decide +kernel
theorem dX3_join_0 : decode cX3_join 0 = .ok (.iload_n 0, 1) := by decide +kernel
theorem dX3_join_1 : decode cX3_join 1 = .ok (.tableswitch 97 (-11) (-6) #[93, 89, 78, 67, 53, 39], 39) := by decide +kernel
theorem dX3_join_40 : decode cX3_join 40 = .ok (.iload_n 1, 1) := by decide +kernel
theorem dX3_join_41 : decode cX3_join 41 = .ok (.ifCond .eq 11, 3) := by decide +kernel
theorem dX3_join_44 : decode cX3_join 44 = .ok (.iload_n 2, 1) := by decide +kernel
theorem dX3_join_45 : decode cX3_join 45 = .ok (.ifCond .eq 7, 3) := by decide +kernel
theorem dX3_join_48 : decode cX3_join 48 = .ok (.iconst 1, 1) := by decide +kernel
theorem dX3_join_49 : decode cX3_join 49 = .ok (.goto 4, 3) := by decide +kernel
theorem dX3_join_52 : decode cX3_join 52 = .ok (.iconst 0, 1) := by decide +kernel
theorem dX3_join_53 : decode cX3_join 53 = .ok (.ireturn, 1) := by decide +kernel
theorem dX3_join_54 : decode cX3_join 54 = .ok (.iload_n 1, 1) := by decide +kernel
theorem dX3_join_55 : decode cX3_join 55 = .ok (.ifCond .ne 7, 3) := by decide +kernel
theorem dX3_join_58 : decode cX3_join 58 = .ok (.iload_n 2, 1) := by decide +kernel
theorem dX3_join_59 : decode cX3_join 59 = .ok (.ifCond .eq 7, 3) := by decide +kernel
theorem dX3_join_62 : decode cX3_join 62 = .ok (.iconst 1, 1) := by decide +kernel
theorem dX3_join_63 : decode cX3_join 63 = .ok (.goto 4, 3) := by decide +kernel
theorem dX3_join_66 : decode cX3_join 66 = .ok (.iconst 0, 1) := by decide +kernel
theorem dX3_join_67 : decode cX3_join 67 = .ok (.ireturn, 1) := by decide +kernel
theorem dX3_join_68 : decode cX3_join 68 = .ok (.iload_n 1, 1) := by decide +kernel
theorem dX3_join_69 : decode cX3_join 69 = .ok (.iload_n 2, 1) := by decide +kernel
theorem dX3_join_70 : decode cX3_join 70 = .ok (.if_icmp .ge 7, 3) := by decide +kernel
theorem dX3_join_73 : decode cX3_join 73 = .ok (.iconst 1, 1) := by decide +kernel
theorem dX3_join_74 : decode cX3_join 74 = .ok (.goto 4, 3) := by decide +kernel
theorem dX3_join_77 : decode cX3_join 77 = .ok (.iconst 0, 1) := by decide +kernel
theorem dX3_join_78 : decode cX3_join 78 = .ok (.ireturn, 1) := by decide +kernel
theorem dX3_join_79 : decode cX3_join 79 = .ok (.iload_n 1, 1) := by decide +kernel
theorem dX3_join_80 : decode cX3_join 80 = .ok (.iload_n 2, 1) := by decide +kernel
theorem dX3_join_81 : decode cX3_join 81 = .ok (.if_icmp .ne 7, 3) := by decide +kernel
theorem dX3_join_84 : decode cX3_join 84 = .ok (.iconst 1, 1) := by decide +kernel
theorem dX3_join_85 : decode cX3_join 85 = .ok (.goto 4, 3) := by decide +kernel
theorem dX3_join_88 : decode cX3_join 88 = .ok (.iconst 0, 1) := by decide +kernel
theorem dX3_join_89 : decode cX3_join 89 = .ok (.ireturn, 1) := by decide +kernel
theorem dX3_join_90 : decode cX3_join 90 = .ok (.iload_n 1, 1) := by decide +kernel
theorem dX3_join_91 : decode cX3_join 91 = .ok (.iload_n 2, 1) := by decide +kernel
theorem dX3_join_92 : decode cX3_join 92 = .ok (.iadd, 1) := by decide +kernel
theorem dX3_join_93 : decode cX3_join 93 = .ok (.ireturn, 1) := by decide +kernel
theorem dX3_join_94 : decode cX3_join 94 = .ok (.iload_n 1, 1) := by decide +kernel
theorem dX3_join_95 : decode cX3_join 95 = .ok (.iload_n 2, 1) := by decide +kernel
theorem dX3_join_96 : decode cX3_join 96 = .ok (.isub, 1) := by decide +kernel
theorem dX3_join_97 : decode cX3_join 97 = .ok (.ireturn, 1) := by decide +kernel
theorem dX3_join_98 : decode cX3_join 98 = .ok (.iload_n 1, 1) := by decide +kernel
theorem dX3_join_99 : decode cX3_join 99 = .ok (.iload_n 2, 1) := by decide +kernel
theorem dX3_join_100 : decode cX3_join 100 = .ok (.imul, 1) := by decide +kernel
theorem dX3_join_101 : decode cX3_join 101 = .ok (.ireturn, 1) := by decide +kernel
theorem dX4_init_0 : decode cX4_init 0 = .ok (.aload_n 0, 1) := by decide +kernel
theorem dX4_init_1 : decode cX4_init 1 = .ok (.invokespecial 3, 3) := by decide +kernel
theorem dX4_init_4 : decode cX4_init 4 = .ok (.aload_n 0, 1) := by decide +kernel
theorem dX4_init_5 : decode cX4_init 5 = .ok (.aload_n 1, 1) := by decide +kernel
theorem dX4_init_6 : decode cX4_init 6 = .ok (.putfield 9, 3) := by decide +kernel
theorem dX4_init_9 : decode cX4_init 9 = .ok (.return_, 1) := by decide +kernel
theorem dX4_readLevel_0 : decode cX4_readLevel 0 = .ok (.iload_n 2, 1) := by decide +kernel
theorem dX4_readLevel_1 : decode cX4_readLevel 1 = .ok (.iconst 3, 1) := by decide +kernel
theorem dX4_readLevel_2 : decode cX4_readLevel 2 = .ok (.if_icmp .le 10, 3) := by decide +kernel
theorem dX4_readLevel_5 : decode cX4_readLevel 5 = .ok (.aload_n 0, 1) := by decide +kernel
theorem dX4_readLevel_6 : decode cX4_readLevel 6 = .ok (.aload_n 1, 1) := by decide +kernel
theorem dX4_readLevel_7 : decode cX4_readLevel 7 = .ok (.iload_n 3, 1) := by decide +kernel
theorem dX4_readLevel_8 : decode cX4_readLevel 8 = .ok (.invokevirtual 15, 3) := by decide +kernel
theorem dX4_readLevel_11 : decode cX4_readLevel 11 = .ok (.ireturn, 1) := by decide +kernel
theorem dX4_readLevel_12 : decode cX4_readLevel 12 = .ok (.aload_n 0, 1) := by decide +kernel
theorem dX4_readLevel_13 : decode cX4_readLevel 13 = .ok (.aload_n 1, 1) := by decide +kernel
theorem dX4_readLevel_14 : decode cX4_readLevel 14 = .ok (.iload_n 2, 1) := by decide +kernel
theorem dX4_readLevel_15 : decode cX4_readLevel 15 = .ok (.iconst 1, 1) := by decide +kernel
theorem dX4_readLevel_16 : decode cX4_readLevel 16 = .ok (.iadd, 1) := by decide +kernel
theorem dX4_readLevel_17 : decode cX4_readLevel 17 = .ok (.iload_n 3, 1) := by decide +kernel
theorem dX4_readLevel_18 : decode cX4_readLevel 18 = .ok (.invokevirtual 19, 3) := by decide +kernel
theorem dX4_readLevel_21 : decode cX4_readLevel 21 = .ok (.istore 4, 2) := by decide +kernel
theorem dX4_readLevel_23 : decode cX4_readLevel 23 = .ok (.aload_n 0, 1) := by decide +kernel
theorem dX4_readLevel_24 : decode cX4_readLevel 24 = .ok (.iload_n 2, 1) := by decide +kernel
theorem dX4_readLevel_25 : decode cX4_readLevel 25 = .ok (.invokevirtual 23, 3) := by decide +kernel
theorem dX4_readLevel_28 : decode cX4_readLevel 28 = .ok (.istore 5, 2) := by decide +kernel
theorem dX4_readLevel_30 : decode cX4_readLevel 30 = .ok (.iconst 0, 1) := by decide +kernel
theorem dX4_readLevel_31 : decode cX4_readLevel 31 = .ok (.istore 6, 2) := by decide +kernel
theorem dX4_readLevel_33 : decode cX4_readLevel 33 = .ok (.iload 6, 2) := by decide +kernel
theorem dX4_readLevel_35 : decode cX4_readLevel 35 = .ok (.sipush 1000, 3) := by decide +kernel
theorem dX4_readLevel_38 : decode cX4_readLevel 38 = .ok (.if_icmp .ge 59, 3) := by decide +kernel
theorem dX4_readLevel_41 : decode cX4_readLevel 41 = .ok (.iload 4, 2) := by decide +kernel
theorem dX4_readLevel_43 : decode cX4_readLevel 43 = .ok (.ifCond .eq 54, 3) := by decide +kernel
theorem dX4_readLevel_46 : decode cX4_readLevel 46 = .ok (.iload 5, 2) := by decide +kernel
theorem dX4_readLevel_48 : decode cX4_readLevel 48 = .ok (.ifCond .eq 49, 3) := by decide +kernel
theorem dX4_readLevel_51 : decode cX4_readLevel 51 = .ok (.aload_n 0, 1) := by decide +kernel
theorem dX4_readLevel_52 : decode cX4_readLevel 52 = .ok (.getfield 9, 3) := by decide +kernel
theorem dX4_readLevel_55 : decode cX4_readLevel 55 = .ok (.invokevirtual 27, 3) := by decide +kernel
theorem dX4_readLevel_58 : decode cX4_readLevel 58 = .ok (.aload_n 0, 1) := by decide +kernel
theorem dX4_readLevel_59 : decode cX4_readLevel 59 = .ok (.aload_n 1, 1) := by decide +kernel
theorem dX4_readLevel_60 : decode cX4_readLevel 60 = .ok (.iload_n 2, 1) := by decide +kernel
theorem dX4_readLevel_61 : decode cX4_readLevel 61 = .ok (.iconst 1, 1) := by decide +kernel
theorem dX4_readLevel_62 : decode cX4_readLevel 62 = .ok (.iadd, 1) := by decide +kernel
theorem dX4_readLevel_63 : decode cX4_readLevel 63 = .ok (.iload_n 3, 1) := by decide +kernel
theorem dX4_readLevel_64 : decode cX4_readLevel 64 = .ok (.invokevirtual 19, 3) := by decide +kernel
theorem dX4_readLevel_67 : decode cX4_readLevel 67 = .ok (.istore 4, 2) := by decide +kernel
theorem dX4_readLevel_69 : decode cX4_readLevel 69 = .ok (.aload_n 1, 1) := by decide +kernel
theorem dX4_readLevel_70 : decode cX4_readLevel 70 = .ok (.iload 5, 2) := by decide +kernel
theorem dX4_readLevel_72 : decode cX4_readLevel 72 = .ok (.invokevirtual 32, 3) := by decide +kernel
theorem dX4_readLevel_75 : decode cX4_readLevel 75 = .ok (.iload_n 2, 1) := by decide +kernel
theorem dX4_readLevel_76 : decode cX4_readLevel 76 = .ok (.iconst 1, 1) := by decide +kernel
theorem dX4_readLevel_77 : decode cX4_readLevel 77 = .ok (.if_icmp .ne 7, 3) := by decide +kernel
theorem dX4_readLevel_80 : decode cX4_readLevel 80 = .ok (.iconst 0, 1) := by decide +kernel
theorem dX4_readLevel_81 : decode cX4_readLevel 81 = .ok (.goto 8, 3) := by decide +kernel
theorem dX4_readLevel_84 : decode cX4_readLevel 84 = .ok (.aload_n 0, 1) := by decide +kernel
theorem dX4_readLevel_85 : decode cX4_readLevel 85 = .ok (.iload_n 2, 1) := by decide +kernel
theorem dX4_readLevel_86 : decode cX4_readLevel 86 = .ok (.invokevirtual 23, 3) := by decide +kernel
theorem dX4_readLevel_89 : decode cX4_readLevel 89 = .ok (.istore 5, 2) := by decide +kernel
theorem dX4_readLevel_91 : decode cX4_readLevel 91 = .ok (.iinc 6 1, 3) := by decide +kernel
theorem dX4_readLevel_94 : decode cX4_readLevel 94 = .ok (.goto (-61), 3) := by decide +kernel
theorem dX4_readLevel_97 : decode cX4_readLevel 97 = .ok (.iload 4, 2) := by decide +kernel
theorem dX4_readLevel_99 : decode cX4_readLevel 99 = .ok (.ireturn, 1) := by decide +kernel
theorem dX4_readPart_0 : decode cX4_readPart 0 = .ok (.aload_n 0, 1) := by decide +kernel
theorem dX4_readPart_1 : decode cX4_readPart 1 = .ok (.invokevirtual 38, 3) := by decide +kernel
theorem dX4_readPart_4 : decode cX4_readPart 4 = .ok (.istore_n 3, 1) := by decide +kernel
theorem dX4_readPart_5 : decode cX4_readPart 5 = .ok (.aload_n 0, 1) := by decide +kernel
theorem dX4_readPart_6 : decode cX4_readPart 6 = .ok (.getfield 9, 3) := by decide +kernel
theorem dX4_readPart_9 : decode cX4_readPart 9 = .ok (.ldc 42, 2) := by decide +kernel
theorem dX4_readPart_11 : decode cX4_readPart 11 = .ok (.invokevirtual 44, 3) := by decide +kernel
theorem dX4_readPart_14 : decode cX4_readPart 14 = .ok (.istore 4, 2) := by decide +kernel
theorem dX4_readPart_16 : decode cX4_readPart 16 = .ok (.aload_n 0, 1) := by decide +kernel
theorem dX4_readPart_17 : decode cX4_readPart 17 = .ok (.getfield 9, 3) := by decide +kernel
theorem dX4_readPart_20 : decode cX4_readPart 20 = .ok (.bipush 40, 2) := by decide +kernel
theorem dX4_readPart_22 : decode cX4_readPart 22 = .ok (.invokevirtual 48, 3) := by decide +kernel
theorem dX4_readPart_25 : decode cX4_readPart 25 = .ok (.istore 5, 2) := by decide +kernel
theorem dX4_readPart_27 : decode cX4_readPart 27 = .ok (.iload_n 3, 1) := by decide +kernel
theorem dX4_readPart_28 : decode cX4_readPart 28 = .ok (.ifCond .ne 32, 3) := by decide +kernel
theorem dX4_readPart_31 : decode cX4_readPart 31 = .ok (.iload 4, 2) := by decide +kernel
theorem dX4_readPart_33 : decode cX4_readPart 33 = .ok (.ifCond .ne 27, 3) := by decide +kernel
theorem dX4_readPart_36 : decode cX4_readPart 36 = .ok (.iload 5, 2) := by decide +kernel
theorem dX4_readPart_38 : decode cX4_readPart 38 = .ok (.ifCond .ne 22, 3) := by decide +kernel
theorem dX4_readPart_41 : decode cX4_readPart 41 = .ok (.aload_n 0, 1) := by decide +kernel
theorem dX4_readPart_42 : decode cX4_readPart 42 = .ok (.getfield 9, 3) := by decide +kernel
theorem dX4_readPart_45 : decode cX4_readPart 45 = .ok (.invokevirtual 52, 3) := by decide +kernel
theorem dX4_readPart_48 : decode cX4_readPart 48 = .ok (.ifCond .ne 12, 3) := by decide +kernel
theorem dX4_readPart_51 : decode cX4_readPart 51 = .ok (.aload_n 0, 1) := by decide +kernel
theorem dX4_readPart_52 : decode cX4_readPart 52 = .ok (.getfield 9, 3) := by decide +kernel
theorem dX4_readPart_55 : decode cX4_readPart 55 = .ok (.iconst 1, 1) := by decide +kernel
theorem dX4_readPart_56 : decode cX4_readPart 56 = .ok (.invokevirtual 56, 3) := by decide +kernel
theorem dX4_readPart_59 : decode cX4_readPart 59 = .ok (.ireturn, 1) := by decide +kernel
theorem dX4_readPart_60 : decode cX4_readPart 60 = .ok (.iload_n 2, 1) := by decide +kernel
theorem dX4_readPart_61 : decode cX4_readPart 61 = .ok (.iconst 5, 1) := by decide +kernel
theorem dX4_readPart_62 : decode cX4_readPart 62 = .ok (.if_icmp .lt 12, 3) := by decide +kernel
theorem dX4_readPart_65 : decode cX4_readPart 65 = .ok (.aload_n 0, 1) := by decide +kernel
theorem dX4_readPart_66 : decode cX4_readPart 66 = .ok (.getfield 9, 3) := by decide +kernel
theorem dX4_readPart_69 : decode cX4_readPart 69 = .ok (.iconst 5, 1) := by decide +kernel
theorem dX4_readPart_70 : decode cX4_readPart 70 = .ok (.invokevirtual 56, 3) := by decide +kernel
theorem dX4_readPart_73 : decode cX4_readPart 73 = .ok (.ireturn, 1) := by decide +kernel
theorem dX4_readPart_74 : decode cX4_readPart 74 = .ok (.iload 4, 2) := by decide +kernel
theorem dX4_readPart_76 : decode cX4_readPart 76 = .ok (.ifCond .ne 27, 3) := by decide +kernel
theorem dX4_readPart_79 : decode cX4_readPart 79 = .ok (.iload 5, 2) := by decide +kernel
theorem dX4_readPart_81 : decode cX4_readPart 81 = .ok (.ifCond .ne 22, 3) := by decide +kernel
theorem dX4_readPart_84 : decode cX4_readPart 84 = .ok (.aload_n 1, 1) := by decide +kernel
theorem dX4_readPart_85 : decode cX4_readPart 85 = .ok (.iload_n 3, 1) := by decide +kernel
theorem dX4_readPart_86 : decode cX4_readPart 86 = .ok (.ifCond .ne 13, 3) := by decide +kernel
theorem dX4_readPart_89 : decode cX4_readPart 89 = .ok (.aload_n 0, 1) := by decide +kernel
theorem dX4_readPart_90 : decode cX4_readPart 90 = .ok (.getfield 9, 3) := by decide +kernel
theorem dX4_readPart_93 : decode cX4_readPart 93 = .ok (.getfield 60, 3) := by decide +kernel
theorem dX4_readPart_96 : decode cX4_readPart 96 = .ok (.goto 4, 3) := by decide +kernel
theorem dX4_readPart_99 : decode cX4_readPart 99 = .ok (.iload_n 3, 1) := by decide +kernel
theorem dX4_readPart_100 : decode cX4_readPart 100 = .ok (.invokevirtual 32, 3) := by decide +kernel
theorem dX4_readPart_103 : decode cX4_readPart 103 = .ok (.aload_n 0, 1) := by decide +kernel
theorem dX4_readPart_104 : decode cX4_readPart 104 = .ok (.getfield 9, 3) := by decide +kernel
theorem dX4_readPart_107 : decode cX4_readPart 107 = .ok (.invokevirtual 27, 3) := by decide +kernel
theorem dX4_readPart_110 : decode cX4_readPart 110 = .ok (.iload 4, 2) := by decide +kernel
theorem dX4_readPart_112 : decode cX4_readPart 112 = .ok (.ifCond .eq 22, 3) := by decide +kernel
theorem dX4_readPart_115 : decode cX4_readPart 115 = .ok (.aload_n 0, 1) := by decide +kernel
theorem dX4_readPart_116 : decode cX4_readPart 116 = .ok (.aload_n 1, 1) := by decide +kernel
theorem dX4_readPart_117 : decode cX4_readPart 117 = .ok (.iload_n 2, 1) := by decide +kernel
theorem dX4_readPart_118 : decode cX4_readPart 118 = .ok (.iconst 1, 1) := by decide +kernel
theorem dX4_readPart_119 : decode cX4_readPart 119 = .ok (.iadd, 1) := by decide +kernel
theorem dX4_readPart_120 : decode cX4_readPart 120 = .ok (.invokevirtual 15, 3) := by decide +kernel
theorem dX4_readPart_123 : decode cX4_readPart 123 = .ok (.istore 6, 2) := by decide +kernel
theorem dX4_readPart_125 : decode cX4_readPart 125 = .ok (.aload_n 1, 1) := by decide +kernel
theorem dX4_readPart_126 : decode cX4_readPart 126 = .ok (.bipush (-5), 2) := by decide +kernel
theorem dX4_readPart_128 : decode cX4_readPart 128 = .ok (.invokevirtual 32, 3) := by decide +kernel
theorem dX4_readPart_131 : decode cX4_readPart 131 = .ok (.iload 6, 2) := by decide +kernel
theorem dX4_readPart_133 : decode cX4_readPart 133 = .ok (.ireturn, 1) := by decide +kernel
theorem dX4_readPart_134 : decode cX4_readPart 134 = .ok (.iload 5, 2) := by decide +kernel
theorem dX4_readPart_136 : decode cX4_readPart 136 = .ok (.ifCond .eq 27, 3) := by decide +kernel
theorem dX4_readPart_139 : decode cX4_readPart 139 = .ok (.aload_n 0, 1) := by decide +kernel
theorem dX4_readPart_140 : decode cX4_readPart 140 = .ok (.aload_n 1, 1) := by decide +kernel
theorem dX4_readPart_141 : decode cX4_readPart 141 = .ok (.iconst 0, 1) := by decide +kernel
theorem dX4_readPart_142 : decode cX4_readPart 142 = .ok (.iload_n 2, 1) := by decide +kernel
theorem dX4_readPart_143 : decode cX4_readPart 143 = .ok (.iconst 1, 1) := by decide +kernel
theorem dX4_readPart_144 : decode cX4_readPart 144 = .ok (.iadd, 1) := by decide +kernel
theorem dX4_readPart_145 : decode cX4_readPart 145 = .ok (.invokevirtual 19, 3) := by decide +kernel
theorem dX4_readPart_148 : decode cX4_readPart 148 = .ok (.ifCond .eq 19, 3) := by decide +kernel
theorem dX4_readPart_151 : decode cX4_readPart 151 = .ok (.aload_n 0, 1) := by decide +kernel
theorem dX4_readPart_152 : decode cX4_readPart 152 = .ok (.getfield 9, 3) := by decide +kernel
theorem dX4_readPart_155 : decode cX4_readPart 155 = .ok (.bipush 41, 2) := by decide +kernel
theorem dX4_readPart_157 : decode cX4_readPart 157 = .ok (.invokevirtual 64, 3) := by decide +kernel
theorem dX4_readPart_160 : decode cX4_readPart 160 = .ok (.ifCond .eq 7, 3) := by decide +kernel
theorem dX4_readPart_163 : decode cX4_readPart 163 = .ok (.iconst 1, 1) := by decide +kernel
theorem dX4_readPart_164 : decode cX4_readPart 164 = .ok (.goto 4, 3) := by decide +kernel
theorem dX4_readPart_167 : decode cX4_readPart 167 = .ok (.iconst 0, 1) := by decide +kernel
theorem dX4_readPart_168 : decode cX4_readPart 168 = .ok (.ireturn, 1) := by decide +kernel
theorem dX4_factHere_0 : decode cX4_factHere 0 = .ok (.aload_n 0, 1) := by decide +kernel
theorem dX4_factHere_1 : decode cX4_factHere 1 = .ok (.getfield 9, 3) := by decide +kernel
theorem dX4_factHere_4 : decode cX4_factHere 4 = .ok (.ldc 67, 2) := by decide +kernel
theorem dX4_factHere_6 : decode cX4_factHere 6 = .ok (.invokevirtual 44, 3) := by decide +kernel
theorem dX4_factHere_9 : decode cX4_factHere 9 = .ok (.ifCond .eq 5, 3) := by decide +kernel
theorem dX4_factHere_12 : decode cX4_factHere 12 = .ok (.iconst (-1), 1) := by decide +kernel
theorem dX4_factHere_13 : decode cX4_factHere 13 = .ok (.ireturn, 1) := by decide +kernel
theorem dX4_factHere_14 : decode cX4_factHere 14 = .ok (.aload_n 0, 1) := by decide +kernel
theorem dX4_factHere_15 : decode cX4_factHere 15 = .ok (.getfield 9, 3) := by decide +kernel
theorem dX4_factHere_18 : decode cX4_factHere 18 = .ok (.ldc 69, 2) := by decide +kernel
theorem dX4_factHere_20 : decode cX4_factHere 20 = .ok (.invokevirtual 44, 3) := by decide +kernel
theorem dX4_factHere_23 : decode cX4_factHere 23 = .ok (.ifCond .eq 6, 3) := by decide +kernel
theorem dX4_factHere_26 : decode cX4_factHere 26 = .ok (.bipush (-2), 2) := by decide +kernel
theorem dX4_factHere_28 : decode cX4_factHere 28 = .ok (.ireturn, 1) := by decide +kernel
theorem dX4_factHere_29 : decode cX4_factHere 29 = .ok (.aload_n 0, 1) := by decide +kernel
theorem dX4_factHere_30 : decode cX4_factHere 30 = .ok (.getfield 9, 3) := by decide +kernel
theorem dX4_factHere_33 : decode cX4_factHere 33 = .ok (.ldc 71, 2) := by decide +kernel
theorem dX4_factHere_35 : decode cX4_factHere 35 = .ok (.invokevirtual 44, 3) := by decide +kernel
theorem dX4_factHere_38 : decode cX4_factHere 38 = .ok (.ifCond .eq 6, 3) := by decide +kernel
theorem dX4_factHere_41 : decode cX4_factHere 41 = .ok (.bipush (-3), 2) := by decide +kernel
theorem dX4_factHere_43 : decode cX4_factHere 43 = .ok (.ireturn, 1) := by decide +kernel
theorem dX4_factHere_44 : decode cX4_factHere 44 = .ok (.aload_n 0, 1) := by decide +kernel
theorem dX4_factHere_45 : decode cX4_factHere 45 = .ok (.getfield 9, 3) := by decide +kernel
theorem dX4_factHere_48 : decode cX4_factHere 48 = .ok (.ldc 73, 2) := by decide +kernel
theorem dX4_factHere_50 : decode cX4_factHere 50 = .ok (.invokevirtual 44, 3) := by decide +kernel
theorem dX4_factHere_53 : decode cX4_factHere 53 = .ok (.ifCond .eq 8, 3) := by decide +kernel
theorem dX4_factHere_56 : decode cX4_factHere 56 = .ok (.bipush (-4), 2) := by decide +kernel
theorem dX4_factHere_58 : decode cX4_factHere 58 = .ok (.goto 4, 3) := by decide +kernel
theorem dX4_factHere_61 : decode cX4_factHere 61 = .ok (.iconst 0, 1) := by decide +kernel
theorem dX4_factHere_62 : decode cX4_factHere 62 = .ok (.ireturn, 1) := by decide +kernel
theorem dX4_joinHere_0 : decode cX4_joinHere 0 = .ok (.iload_n 1, 1) := by decide +kernel
theorem dX4_joinHere_1 : decode cX4_joinHere 1 = .ok (.tableswitch 135 0 2 #[27, 63, 99], 27) := by decide +kernel
theorem dX4_joinHere_28 : decode cX4_joinHere 28 = .ok (.aload_n 0, 1) := by decide +kernel
theorem dX4_joinHere_29 : decode cX4_joinHere 29 = .ok (.getfield 9, 3) := by decide +kernel
theorem dX4_joinHere_32 : decode cX4_joinHere 32 = .ok (.ldc 75, 2) := by decide +kernel
theorem dX4_joinHere_34 : decode cX4_joinHere 34 = .ok (.invokevirtual 44, 3) := by decide +kernel
theorem dX4_joinHere_37 : decode cX4_joinHere 37 = .ok (.ifCond .eq 8, 3) := by decide +kernel
theorem dX4_joinHere_40 : decode cX4_joinHere 40 = .ok (.bipush (-6), 2) := by decide +kernel
theorem dX4_joinHere_42 : decode cX4_joinHere 42 = .ok (.goto 21, 3) := by decide +kernel
theorem dX4_joinHere_45 : decode cX4_joinHere 45 = .ok (.aload_n 0, 1) := by decide +kernel
theorem dX4_joinHere_46 : decode cX4_joinHere 46 = .ok (.getfield 9, 3) := by decide +kernel
theorem dX4_joinHere_49 : decode cX4_joinHere 49 = .ok (.ldc 77, 2) := by decide +kernel
theorem dX4_joinHere_51 : decode cX4_joinHere 51 = .ok (.invokevirtual 44, 3) := by decide +kernel
theorem dX4_joinHere_54 : decode cX4_joinHere 54 = .ok (.ifCond .eq 8, 3) := by decide +kernel
theorem dX4_joinHere_57 : decode cX4_joinHere 57 = .ok (.bipush (-7), 2) := by decide +kernel
theorem dX4_joinHere_59 : decode cX4_joinHere 59 = .ok (.goto 4, 3) := by decide +kernel
theorem dX4_joinHere_62 : decode cX4_joinHere 62 = .ok (.iconst 0, 1) := by decide +kernel
theorem dX4_joinHere_63 : decode cX4_joinHere 63 = .ok (.ireturn, 1) := by decide +kernel
theorem dX4_joinHere_64 : decode cX4_joinHere 64 = .ok (.aload_n 0, 1) := by decide +kernel
theorem dX4_joinHere_65 : decode cX4_joinHere 65 = .ok (.getfield 9, 3) := by decide +kernel
theorem dX4_joinHere_68 : decode cX4_joinHere 68 = .ok (.bipush 60, 2) := by decide +kernel
theorem dX4_joinHere_70 : decode cX4_joinHere 70 = .ok (.invokevirtual 48, 3) := by decide +kernel
theorem dX4_joinHere_73 : decode cX4_joinHere 73 = .ok (.ifCond .eq 8, 3) := by decide +kernel
theorem dX4_joinHere_76 : decode cX4_joinHere 76 = .ok (.bipush (-8), 2) := by decide +kernel
theorem dX4_joinHere_78 : decode cX4_joinHere 78 = .ok (.goto 21, 3) := by decide +kernel
theorem dX4_joinHere_81 : decode cX4_joinHere 81 = .ok (.aload_n 0, 1) := by decide +kernel
theorem dX4_joinHere_82 : decode cX4_joinHere 82 = .ok (.getfield 9, 3) := by decide +kernel
theorem dX4_joinHere_85 : decode cX4_joinHere 85 = .ok (.bipush 61, 2) := by decide +kernel
theorem dX4_joinHere_87 : decode cX4_joinHere 87 = .ok (.invokevirtual 48, 3) := by decide +kernel
theorem dX4_joinHere_90 : decode cX4_joinHere 90 = .ok (.ifCond .eq 8, 3) := by decide +kernel
theorem dX4_joinHere_93 : decode cX4_joinHere 93 = .ok (.bipush (-9), 2) := by decide +kernel
theorem dX4_joinHere_95 : decode cX4_joinHere 95 = .ok (.goto 4, 3) := by decide +kernel
theorem dX4_joinHere_98 : decode cX4_joinHere 98 = .ok (.iconst 0, 1) := by decide +kernel
theorem dX4_joinHere_99 : decode cX4_joinHere 99 = .ok (.ireturn, 1) := by decide +kernel
theorem dX4_joinHere_100 : decode cX4_joinHere 100 = .ok (.aload_n 0, 1) := by decide +kernel
theorem dX4_joinHere_101 : decode cX4_joinHere 101 = .ok (.getfield 9, 3) := by decide +kernel
theorem dX4_joinHere_104 : decode cX4_joinHere 104 = .ok (.bipush 43, 2) := by decide +kernel
theorem dX4_joinHere_106 : decode cX4_joinHere 106 = .ok (.invokevirtual 48, 3) := by decide +kernel
theorem dX4_joinHere_109 : decode cX4_joinHere 109 = .ok (.ifCond .eq 8, 3) := by decide +kernel
theorem dX4_joinHere_112 : decode cX4_joinHere 112 = .ok (.bipush (-10), 2) := by decide +kernel
theorem dX4_joinHere_114 : decode cX4_joinHere 114 = .ok (.goto 21, 3) := by decide +kernel
theorem dX4_joinHere_117 : decode cX4_joinHere 117 = .ok (.aload_n 0, 1) := by decide +kernel
theorem dX4_joinHere_118 : decode cX4_joinHere 118 = .ok (.getfield 9, 3) := by decide +kernel
theorem dX4_joinHere_121 : decode cX4_joinHere 121 = .ok (.bipush 45, 2) := by decide +kernel
theorem dX4_joinHere_123 : decode cX4_joinHere 123 = .ok (.invokevirtual 48, 3) := by decide +kernel
theorem dX4_joinHere_126 : decode cX4_joinHere 126 = .ok (.ifCond .eq 8, 3) := by decide +kernel
theorem dX4_joinHere_129 : decode cX4_joinHere 129 = .ok (.bipush (-11), 2) := by decide +kernel
theorem dX4_joinHere_131 : decode cX4_joinHere 131 = .ok (.goto 4, 3) := by decide +kernel
theorem dX4_joinHere_134 : decode cX4_joinHere 134 = .ok (.iconst 0, 1) := by decide +kernel
theorem dX4_joinHere_135 : decode cX4_joinHere 135 = .ok (.ireturn, 1) := by decide +kernel
theorem dX4_joinHere_136 : decode cX4_joinHere 136 = .ok (.aload_n 0, 1) := by decide +kernel
theorem dX4_joinHere_137 : decode cX4_joinHere 137 = .ok (.getfield 9, 3) := by decide +kernel
theorem dX4_joinHere_140 : decode cX4_joinHere 140 = .ok (.bipush 42, 2) := by decide +kernel
theorem dX4_joinHere_142 : decode cX4_joinHere 142 = .ok (.invokevirtual 48, 3) := by decide +kernel
theorem dX4_joinHere_145 : decode cX4_joinHere 145 = .ok (.ifCond .eq 8, 3) := by decide +kernel
theorem dX4_joinHere_148 : decode cX4_joinHere 148 = .ok (.bipush (-12), 2) := by decide +kernel
theorem dX4_joinHere_150 : decode cX4_joinHere 150 = .ok (.goto 4, 3) := by decide +kernel
theorem dX4_joinHere_153 : decode cX4_joinHere 153 = .ok (.iconst 0, 1) := by decide +kernel
theorem dX4_joinHere_154 : decode cX4_joinHere 154 = .ok (.ireturn, 1) := by decide +kernel
theorem dX5_init_0 : decode cX5_init 0 = .ok (.aload_n 0, 1) := by decide +kernel
theorem dX5_init_1 : decode cX5_init 1 = .ok (.invokespecial 3, 3) := by decide +kernel
theorem dX5_init_4 : decode cX5_init 4 = .ok (.aload_n 0, 1) := by decide +kernel
theorem dX5_init_5 : decode cX5_init 5 = .ok (.aload_n 1, 1) := by decide +kernel
theorem dX5_init_6 : decode cX5_init 6 = .ok (.putfield 9, 3) := by decide +kernel
theorem dX5_init_9 : decode cX5_init 9 = .ok (.return_, 1) := by decide +kernel
theorem dX5_readDay_0 : decode cX5_readDay 0 = .ok (.aload_n 2, 1) := by decide +kernel
theorem dX5_readDay_1 : decode cX5_readDay 1 = .ok (.iconst 0, 1) := by decide +kernel
theorem dX5_readDay_2 : decode cX5_readDay 2 = .ok (.putfield 15, 3) := by decide +kernel
theorem dX5_readDay_5 : decode cX5_readDay 5 = .ok (.aload_n 0, 1) := by decide +kernel
theorem dX5_readDay_6 : decode cX5_readDay 6 = .ok (.getfield 9, 3) := by decide +kernel
theorem dX5_readDay_9 : decode cX5_readDay 9 = .ok (.invokevirtual 21, 3) := by decide +kernel
theorem dX5_readDay_12 : decode cX5_readDay 12 = .ok (.iconst 1, 1) := by decide +kernel
theorem dX5_readDay_13 : decode cX5_readDay 13 = .ok (.istore_n 3, 1) := by decide +kernel
theorem dX5_readDay_14 : decode cX5_readDay 14 = .ok (.iconst 0, 1) := by decide +kernel
theorem dX5_readDay_15 : decode cX5_readDay 15 = .ok (.istore 4, 2) := by decide +kernel
theorem dX5_readDay_17 : decode cX5_readDay 17 = .ok (.iload 4, 2) := by decide +kernel
theorem dX5_readDay_19 : decode cX5_readDay 19 = .ok (.bipush 40, 2) := by decide +kernel
theorem dX5_readDay_21 : decode cX5_readDay 21 = .ok (.if_icmp .gt 50, 3) := by decide +kernel
theorem dX5_readDay_24 : decode cX5_readDay 24 = .ok (.iload_n 3, 1) := by decide +kernel
theorem dX5_readDay_25 : decode cX5_readDay 25 = .ok (.ifCond .eq 46, 3) := by decide +kernel
theorem dX5_readDay_28 : decode cX5_readDay 28 = .ok (.aload_n 0, 1) := by decide +kernel
theorem dX5_readDay_29 : decode cX5_readDay 29 = .ok (.getfield 9, 3) := by decide +kernel
theorem dX5_readDay_32 : decode cX5_readDay 32 = .ok (.invokevirtual 26, 3) := by decide +kernel
theorem dX5_readDay_35 : decode cX5_readDay 35 = .ok (.ifCond .ne 36, 3) := by decide +kernel
theorem dX5_readDay_38 : decode cX5_readDay 38 = .ok (.aload_n 0, 1) := by decide +kernel
theorem dX5_readDay_39 : decode cX5_readDay 39 = .ok (.aload_n 1, 1) := by decide +kernel
theorem dX5_readDay_40 : decode cX5_readDay 40 = .ok (.aload_n 2, 1) := by decide +kernel
theorem dX5_readDay_41 : decode cX5_readDay 41 = .ok (.invokevirtual 30, 3) := by decide +kernel
theorem dX5_readDay_44 : decode cX5_readDay 44 = .ok (.ifCond .eq 19, 3) := by decide +kernel
theorem dX5_readDay_47 : decode cX5_readDay 47 = .ok (.aload_n 0, 1) := by decide +kernel
theorem dX5_readDay_48 : decode cX5_readDay 48 = .ok (.getfield 9, 3) := by decide +kernel
theorem dX5_readDay_51 : decode cX5_readDay 51 = .ok (.bipush 59, 2) := by decide +kernel
theorem dX5_readDay_53 : decode cX5_readDay 53 = .ok (.invokevirtual 34, 3) := by decide +kernel
theorem dX5_readDay_56 : decode cX5_readDay 56 = .ok (.ifCond .eq 7, 3) := by decide +kernel
theorem dX5_readDay_59 : decode cX5_readDay 59 = .ok (.iconst 1, 1) := by decide +kernel
theorem dX5_readDay_60 : decode cX5_readDay 60 = .ok (.goto 4, 3) := by decide +kernel
theorem dX5_readDay_63 : decode cX5_readDay 63 = .ok (.iconst 0, 1) := by decide +kernel
theorem dX5_readDay_64 : decode cX5_readDay 64 = .ok (.istore_n 3, 1) := by decide +kernel
theorem dX5_readDay_65 : decode cX5_readDay 65 = .ok (.iinc 4 1, 3) := by decide +kernel
theorem dX5_readDay_68 : decode cX5_readDay 68 = .ok (.goto (-51), 3) := by decide +kernel
theorem dX5_readDay_71 : decode cX5_readDay 71 = .ok (.aload_n 0, 1) := by decide +kernel
theorem dX5_readDay_72 : decode cX5_readDay 72 = .ok (.getfield 9, 3) := by decide +kernel
theorem dX5_readDay_75 : decode cX5_readDay 75 = .ok (.invokevirtual 38, 3) := by decide +kernel
theorem dX5_readDay_78 : decode cX5_readDay 78 = .ok (.ireturn, 1) := by decide +kernel
theorem dX5_readLine_0 : decode cX5_readLine 0 = .ok (.aload_n 0, 1) := by decide +kernel
theorem dX5_readLine_1 : decode cX5_readLine 1 = .ok (.invokevirtual 42, 3) := by decide +kernel
theorem dX5_readLine_4 : decode cX5_readLine 4 = .ok (.istore_n 3, 1) := by decide +kernel
theorem dX5_readLine_5 : decode cX5_readLine 5 = .ok (.iload_n 3, 1) := by decide +kernel
theorem dX5_readLine_6 : decode cX5_readLine 6 = .ok (.iconst (-1), 1) := by decide +kernel
theorem dX5_readLine_7 : decode cX5_readLine 7 = .ok (.if_icmp .ne 12, 3) := by decide +kernel
theorem dX5_readLine_10 : decode cX5_readLine 10 = .ok (.aload_n 0, 1) := by decide +kernel
theorem dX5_readLine_11 : decode cX5_readLine 11 = .ok (.getfield 9, 3) := by decide +kernel
theorem dX5_readLine_14 : decode cX5_readLine 14 = .ok (.iconst 1, 1) := by decide +kernel
theorem dX5_readLine_15 : decode cX5_readLine 15 = .ok (.invokevirtual 45, 3) := by decide +kernel
theorem dX5_readLine_18 : decode cX5_readLine 18 = .ok (.ireturn, 1) := by decide +kernel
theorem dX5_readLine_19 : decode cX5_readLine 19 = .ok (.aload_n 2, 1) := by decide +kernel
theorem dX5_readLine_20 : decode cX5_readLine 20 = .ok (.getfield 15, 3) := by decide +kernel
theorem dX5_readLine_23 : decode cX5_readLine 23 = .ok (.istore 4, 2) := by decide +kernel
theorem dX5_readLine_25 : decode cX5_readLine 25 = .ok (.iload 4, 2) := by decide +kernel
theorem dX5_readLine_27 : decode cX5_readLine 27 = .ok (.bipush 40, 2) := by decide +kernel
theorem dX5_readLine_29 : decode cX5_readLine 29 = .ok (.if_icmp .lt 12, 3) := by decide +kernel
theorem dX5_readLine_32 : decode cX5_readLine 32 = .ok (.aload_n 0, 1) := by decide +kernel
theorem dX5_readLine_33 : decode cX5_readLine 33 = .ok (.getfield 9, 3) := by decide +kernel
theorem dX5_readLine_36 : decode cX5_readLine 36 = .ok (.iconst 5, 1) := by decide +kernel
theorem dX5_readLine_37 : decode cX5_readLine 37 = .ok (.invokevirtual 45, 3) := by decide +kernel
theorem dX5_readLine_40 : decode cX5_readLine 40 = .ok (.ireturn, 1) := by decide +kernel
theorem dX5_readLine_41 : decode cX5_readLine 41 = .ok (.aload_n 0, 1) := by decide +kernel
theorem dX5_readLine_42 : decode cX5_readLine 42 = .ok (.getfield 9, 3) := by decide +kernel
theorem dX5_readLine_45 : decode cX5_readLine 45 = .ok (.invokevirtual 49, 3) := by decide +kernel
theorem dX5_readLine_48 : decode cX5_readLine 48 = .ok (.aload_n 2, 1) := by decide +kernel
theorem dX5_readLine_49 : decode cX5_readLine 49 = .ok (.getfield 52, 3) := by decide +kernel
theorem dX5_readLine_52 : decode cX5_readLine 52 = .ok (.iload 4, 2) := by decide +kernel
theorem dX5_readLine_54 : decode cX5_readLine 54 = .ok (.iload_n 3, 1) := by decide +kernel
theorem dX5_readLine_55 : decode cX5_readLine 55 = .ok (.iastore, 1) := by decide +kernel
theorem dX5_readLine_56 : decode cX5_readLine 56 = .ok (.aload_n 2, 1) := by decide +kernel
theorem dX5_readLine_57 : decode cX5_readLine 57 = .ok (.dup, 1) := by decide +kernel
theorem dX5_readLine_58 : decode cX5_readLine 58 = .ok (.getfield 15, 3) := by decide +kernel
theorem dX5_readLine_61 : decode cX5_readLine 61 = .ok (.iconst 1, 1) := by decide +kernel
theorem dX5_readLine_62 : decode cX5_readLine 62 = .ok (.iadd, 1) := by decide +kernel
theorem dX5_readLine_63 : decode cX5_readLine 63 = .ok (.putfield 15, 3) := by decide +kernel
theorem dX5_readLine_66 : decode cX5_readLine 66 = .ok (.iload_n 3, 1) := by decide +kernel
theorem dX5_readLine_67 : decode cX5_readLine 67 = .ok (.ifCond .ne 5, 3) := by decide +kernel
theorem dX5_readLine_70 : decode cX5_readLine 70 = .ok (.iconst 1, 1) := by decide +kernel
theorem dX5_readLine_71 : decode cX5_readLine 71 = .ok (.ireturn, 1) := by decide +kernel
theorem dX5_readLine_72 : decode cX5_readLine 72 = .ok (.aload_n 0, 1) := by decide +kernel
theorem dX5_readLine_73 : decode cX5_readLine 73 = .ok (.getfield 9, 3) := by decide +kernel
theorem dX5_readLine_76 : decode cX5_readLine 76 = .ok (.aload_n 1, 1) := by decide +kernel
theorem dX5_readLine_77 : decode cX5_readLine 77 = .ok (.invokevirtual 56, 3) := by decide +kernel
theorem dX5_readLine_80 : decode cX5_readLine 80 = .ok (.istore 5, 2) := by decide +kernel
theorem dX5_readLine_82 : decode cX5_readLine 82 = .ok (.iload 5, 2) := by decide +kernel
theorem dX5_readLine_84 : decode cX5_readLine 84 = .ok (.iconst (-1), 1) := by decide +kernel
theorem dX5_readLine_85 : decode cX5_readLine 85 = .ok (.if_icmp .ne 5, 3) := by decide +kernel
theorem dX5_readLine_88 : decode cX5_readLine 88 = .ok (.iconst 0, 1) := by decide +kernel
theorem dX5_readLine_89 : decode cX5_readLine 89 = .ok (.ireturn, 1) := by decide +kernel
theorem dX5_readLine_90 : decode cX5_readLine 90 = .ok (.aload_n 0, 1) := by decide +kernel
theorem dX5_readLine_91 : decode cX5_readLine 91 = .ok (.getfield 9, 3) := by decide +kernel
theorem dX5_readLine_94 : decode cX5_readLine 94 = .ok (.invokevirtual 49, 3) := by decide +kernel
theorem dX5_readLine_97 : decode cX5_readLine 97 = .ok (.aload_n 2, 1) := by decide +kernel
theorem dX5_readLine_98 : decode cX5_readLine 98 = .ok (.getfield 60, 3) := by decide +kernel
theorem dX5_readLine_101 : decode cX5_readLine 101 = .ok (.iload 4, 2) := by decide +kernel
theorem dX5_readLine_103 : decode cX5_readLine 103 = .ok (.iload 5, 2) := by decide +kernel
theorem dX5_readLine_105 : decode cX5_readLine 105 = .ok (.iastore, 1) := by decide +kernel
theorem dX5_readLine_106 : decode cX5_readLine 106 = .ok (.iload_n 3, 1) := by decide +kernel
theorem dX5_readLine_107 : decode cX5_readLine 107 = .ok (.iconst 1, 1) := by decide +kernel
theorem dX5_readLine_108 : decode cX5_readLine 108 = .ok (.if_icmp .ne 37, 3) := by decide +kernel
theorem dX5_readLine_111 : decode cX5_readLine 111 = .ok (.aload_n 2, 1) := by decide +kernel
theorem dX5_readLine_112 : decode cX5_readLine 112 = .ok (.getfield 63, 3) := by decide +kernel
theorem dX5_readLine_115 : decode cX5_readLine 115 = .ok (.iload 4, 2) := by decide +kernel
theorem dX5_readLine_117 : decode cX5_readLine 117 = .ok (.aload_n 0, 1) := by decide +kernel
theorem dX5_readLine_118 : decode cX5_readLine 118 = .ok (.getfield 9, 3) := by decide +kernel
theorem dX5_readLine_121 : decode cX5_readLine 121 = .ok (.iconst 1, 1) := by decide +kernel
theorem dX5_readLine_122 : decode cX5_readLine 122 = .ok (.bipush 20, 2) := by decide +kernel
theorem dX5_readLine_124 : decode cX5_readLine 124 = .ok (.invokevirtual 66, 3) := by decide +kernel
theorem dX5_readLine_127 : decode cX5_readLine 127 = .ok (.iastore, 1) := by decide +kernel
theorem dX5_readLine_128 : decode cX5_readLine 128 = .ok (.aload_n 2, 1) := by decide +kernel
theorem dX5_readLine_129 : decode cX5_readLine 129 = .ok (.getfield 63, 3) := by decide +kernel
theorem dX5_readLine_132 : decode cX5_readLine 132 = .ok (.iload 4, 2) := by decide +kernel
theorem dX5_readLine_134 : decode cX5_readLine 134 = .ok (.iaload, 1) := by decide +kernel
theorem dX5_readLine_135 : decode cX5_readLine 135 = .ok (.iconst (-1), 1) := by decide +kernel
theorem dX5_readLine_136 : decode cX5_readLine 136 = .ok (.if_icmp .eq 7, 3) := by decide +kernel
theorem dX5_readLine_139 : decode cX5_readLine 139 = .ok (.iconst 1, 1) := by decide +kernel
theorem dX5_readLine_140 : decode cX5_readLine 140 = .ok (.goto 4, 3) := by decide +kernel
theorem dX5_readLine_143 : decode cX5_readLine 143 = .ok (.iconst 0, 1) := by decide +kernel
theorem dX5_readLine_144 : decode cX5_readLine 144 = .ok (.ireturn, 1) := by decide +kernel
theorem dX5_readLine_145 : decode cX5_readLine 145 = .ok (.iconst 1, 1) := by decide +kernel
theorem dX5_readLine_146 : decode cX5_readLine 146 = .ok (.ireturn, 1) := by decide +kernel
theorem dX5_actHere_0 : decode cX5_actHere 0 = .ok (.aload_n 0, 1) := by decide +kernel
theorem dX5_actHere_1 : decode cX5_actHere 1 = .ok (.getfield 9, 3) := by decide +kernel
theorem dX5_actHere_4 : decode cX5_actHere 4 = .ok (.ldc 70, 2) := by decide +kernel
theorem dX5_actHere_6 : decode cX5_actHere 6 = .ok (.invokevirtual 72, 3) := by decide +kernel
theorem dX5_actHere_9 : decode cX5_actHere 9 = .ok (.ifCond .eq 5, 3) := by decide +kernel
theorem dX5_actHere_12 : decode cX5_actHere 12 = .ok (.iconst 0, 1) := by decide +kernel
theorem dX5_actHere_13 : decode cX5_actHere 13 = .ok (.ireturn, 1) := by decide +kernel
theorem dX5_actHere_14 : decode cX5_actHere 14 = .ok (.aload_n 0, 1) := by decide +kernel
theorem dX5_actHere_15 : decode cX5_actHere 15 = .ok (.getfield 9, 3) := by decide +kernel
theorem dX5_actHere_18 : decode cX5_actHere 18 = .ok (.ldc 76, 2) := by decide +kernel
theorem dX5_actHere_20 : decode cX5_actHere 20 = .ok (.invokevirtual 72, 3) := by decide +kernel
theorem dX5_actHere_23 : decode cX5_actHere 23 = .ok (.ifCond .eq 5, 3) := by decide +kernel
theorem dX5_actHere_26 : decode cX5_actHere 26 = .ok (.iconst 1, 1) := by decide +kernel
theorem dX5_actHere_27 : decode cX5_actHere 27 = .ok (.ireturn, 1) := by decide +kernel
theorem dX5_actHere_28 : decode cX5_actHere 28 = .ok (.aload_n 0, 1) := by decide +kernel
theorem dX5_actHere_29 : decode cX5_actHere 29 = .ok (.getfield 9, 3) := by decide +kernel
theorem dX5_actHere_32 : decode cX5_actHere 32 = .ok (.ldc 78, 2) := by decide +kernel
theorem dX5_actHere_34 : decode cX5_actHere 34 = .ok (.invokevirtual 72, 3) := by decide +kernel
theorem dX5_actHere_37 : decode cX5_actHere 37 = .ok (.ifCond .eq 5, 3) := by decide +kernel
theorem dX5_actHere_40 : decode cX5_actHere 40 = .ok (.iconst 2, 1) := by decide +kernel
theorem dX5_actHere_41 : decode cX5_actHere 41 = .ok (.ireturn, 1) := by decide +kernel
theorem dX5_actHere_42 : decode cX5_actHere 42 = .ok (.aload_n 0, 1) := by decide +kernel
theorem dX5_actHere_43 : decode cX5_actHere 43 = .ok (.getfield 9, 3) := by decide +kernel
theorem dX5_actHere_46 : decode cX5_actHere 46 = .ok (.ldc 80, 2) := by decide +kernel
theorem dX5_actHere_48 : decode cX5_actHere 48 = .ok (.invokevirtual 72, 3) := by decide +kernel
theorem dX5_actHere_51 : decode cX5_actHere 51 = .ok (.ifCond .eq 7, 3) := by decide +kernel
theorem dX5_actHere_54 : decode cX5_actHere 54 = .ok (.iconst 3, 1) := by decide +kernel
theorem dX5_actHere_55 : decode cX5_actHere 55 = .ok (.goto 4, 3) := by decide +kernel
theorem dX5_actHere_58 : decode cX5_actHere 58 = .ok (.iconst (-1), 1) := by decide +kernel
theorem dX5_actHere_59 : decode cX5_actHere 59 = .ok (.ireturn, 1) := by decide +kernel
theorem dX5_readWord_0 : decode cX5_readWord 0 = .ok (.aload_n 2, 1) := by decide +kernel
theorem dX5_readWord_1 : decode cX5_readWord 1 = .ok (.iconst 0, 1) := by decide +kernel
theorem dX5_readWord_2 : decode cX5_readWord 2 = .ok (.putfield 82, 3) := by decide +kernel
theorem dX5_readWord_5 : decode cX5_readWord 5 = .ok (.aload_n 0, 1) := by decide +kernel
theorem dX5_readWord_6 : decode cX5_readWord 6 = .ok (.getfield 9, 3) := by decide +kernel
theorem dX5_readWord_9 : decode cX5_readWord 9 = .ok (.invokevirtual 21, 3) := by decide +kernel
theorem dX5_readWord_12 : decode cX5_readWord 12 = .ok (.iconst 1, 1) := by decide +kernel
theorem dX5_readWord_13 : decode cX5_readWord 13 = .ok (.istore_n 3, 1) := by decide +kernel
theorem dX5_readWord_14 : decode cX5_readWord 14 = .ok (.iconst 0, 1) := by decide +kernel
theorem dX5_readWord_15 : decode cX5_readWord 15 = .ok (.istore 4, 2) := by decide +kernel
theorem dX5_readWord_17 : decode cX5_readWord 17 = .ok (.iload 4, 2) := by decide +kernel
theorem dX5_readWord_19 : decode cX5_readWord 19 = .ok (.bipush 7, 2) := by decide +kernel
theorem dX5_readWord_21 : decode cX5_readWord 21 = .ok (.if_icmp .gt 35, 3) := by decide +kernel
theorem dX5_readWord_24 : decode cX5_readWord 24 = .ok (.iload_n 3, 1) := by decide +kernel
theorem dX5_readWord_25 : decode cX5_readWord 25 = .ok (.ifCond .eq 31, 3) := by decide +kernel
theorem dX5_readWord_28 : decode cX5_readWord 28 = .ok (.iload 4, 2) := by decide +kernel
theorem dX5_readWord_30 : decode cX5_readWord 30 = .ok (.ifCond .eq 13, 3) := by decide +kernel
theorem dX5_readWord_33 : decode cX5_readWord 33 = .ok (.aload_n 0, 1) := by decide +kernel
theorem dX5_readWord_34 : decode cX5_readWord 34 = .ok (.getfield 9, 3) := by decide +kernel
theorem dX5_readWord_37 : decode cX5_readWord 37 = .ok (.invokevirtual 26, 3) := by decide +kernel
theorem dX5_readWord_40 : decode cX5_readWord 40 = .ok (.ifCond .ne 16, 3) := by decide +kernel
theorem dX5_readWord_43 : decode cX5_readWord 43 = .ok (.aload_n 0, 1) := by decide +kernel
theorem dX5_readWord_44 : decode cX5_readWord 44 = .ok (.aload_n 1, 1) := by decide +kernel
theorem dX5_readWord_45 : decode cX5_readWord 45 = .ok (.aload_n 2, 1) := by decide +kernel
theorem dX5_readWord_46 : decode cX5_readWord 46 = .ok (.invokevirtual 85, 3) := by decide +kernel
theorem dX5_readWord_49 : decode cX5_readWord 49 = .ok (.istore_n 3, 1) := by decide +kernel
theorem dX5_readWord_50 : decode cX5_readWord 50 = .ok (.iinc 4 1, 3) := by decide +kernel
theorem dX5_readWord_53 : decode cX5_readWord 53 = .ok (.goto (-36), 3) := by decide +kernel
theorem dX5_readWord_56 : decode cX5_readWord 56 = .ok (.aload_n 0, 1) := by decide +kernel
theorem dX5_readWord_57 : decode cX5_readWord 57 = .ok (.getfield 9, 3) := by decide +kernel
theorem dX5_readWord_60 : decode cX5_readWord 60 = .ok (.invokevirtual 38, 3) := by decide +kernel
theorem dX5_readWord_63 : decode cX5_readWord 63 = .ok (.ireturn, 1) := by decide +kernel
