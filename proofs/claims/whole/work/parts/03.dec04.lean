theorem dX12_mouthNamed_0 : decode cX12_mouthNamed 0 = .ok (.bipush 7, 2) := by decide +kernel
theorem dX12_mouthNamed_2 : decode cX12_mouthNamed 2 = .ok (.iload_n 1, 1) := by decide +kernel
theorem dX12_mouthNamed_3 : decode cX12_mouthNamed 3 = .ok (.imul, 1) := by decide +kernel
theorem dX12_mouthNamed_4 : decode cX12_mouthNamed 4 = .ok (.istore_n 2, 1) := by decide +kernel
theorem dX12_mouthNamed_5 : decode cX12_mouthNamed 5 = .ok (.iload_n 2, 1) := by decide +kernel
theorem dX12_mouthNamed_6 : decode cX12_mouthNamed 6 = .ok (.bipush 7, 2) := by decide +kernel
theorem dX12_mouthNamed_8 : decode cX12_mouthNamed 8 = .ok (.iload_n 1, 1) := by decide +kernel
theorem dX12_mouthNamed_9 : decode cX12_mouthNamed 9 = .ok (.imul, 1) := by decide +kernel
theorem dX12_mouthNamed_10 : decode cX12_mouthNamed 10 = .ok (.aload_n 0, 1) := by decide +kernel
theorem dX12_mouthNamed_11 : decode cX12_mouthNamed 11 = .ok (.getfield 13, 3) := by decide +kernel
theorem dX12_mouthNamed_14 : decode cX12_mouthNamed 14 = .ok (.iconst 3, 1) := by decide +kernel
theorem dX12_mouthNamed_15 : decode cX12_mouthNamed 15 = .ok (.iload_n 1, 1) := by decide +kernel
theorem dX12_mouthNamed_16 : decode cX12_mouthNamed 16 = .ok (.imul, 1) := by decide +kernel
theorem dX12_mouthNamed_17 : decode cX12_mouthNamed 17 = .ok (.iconst 0, 1) := by decide +kernel
theorem dX12_mouthNamed_18 : decode cX12_mouthNamed 18 = .ok (.iadd, 1) := by decide +kernel
theorem dX12_mouthNamed_19 : decode cX12_mouthNamed 19 = .ok (.iaload, 1) := by decide +kernel
theorem dX12_mouthNamed_20 : decode cX12_mouthNamed 20 = .ok (.iadd, 1) := by decide +kernel
theorem dX12_mouthNamed_21 : decode cX12_mouthNamed 21 = .ok (.if_icmp .ge 30, 3) := by decide +kernel
theorem dX12_mouthNamed_24 : decode cX12_mouthNamed 24 = .ok (.aload_n 0, 1) := by decide +kernel
theorem dX12_mouthNamed_25 : decode cX12_mouthNamed 25 = .ok (.getfield 16, 3) := by decide +kernel
theorem dX12_mouthNamed_28 : decode cX12_mouthNamed 28 = .ok (.iload_n 2, 1) := by decide +kernel
theorem dX12_mouthNamed_29 : decode cX12_mouthNamed 29 = .ok (.laload, 1) := by decide +kernel
theorem dX12_mouthNamed_30 : decode cX12_mouthNamed 30 = .ok (.aload_n 0, 1) := by decide +kernel
theorem dX12_mouthNamed_31 : decode cX12_mouthNamed 31 = .ok (.getfield 165, 3) := by decide +kernel
theorem dX12_mouthNamed_34 : decode cX12_mouthNamed 34 = .ok (.lcmp, 1) := by decide +kernel
theorem dX12_mouthNamed_35 : decode cX12_mouthNamed 35 = .ok (.ifCond .ne 10, 3) := by decide +kernel
theorem dX12_mouthNamed_38 : decode cX12_mouthNamed 38 = .ok (.iload_n 2, 1) := by decide +kernel
theorem dX12_mouthNamed_39 : decode cX12_mouthNamed 39 = .ok (.bipush 7, 2) := by decide +kernel
theorem dX12_mouthNamed_41 : decode cX12_mouthNamed 41 = .ok (.iload_n 1, 1) := by decide +kernel
theorem dX12_mouthNamed_42 : decode cX12_mouthNamed 42 = .ok (.imul, 1) := by decide +kernel
theorem dX12_mouthNamed_43 : decode cX12_mouthNamed 43 = .ok (.isub, 1) := by decide +kernel
theorem dX12_mouthNamed_44 : decode cX12_mouthNamed 44 = .ok (.ireturn, 1) := by decide +kernel
theorem dX12_mouthNamed_45 : decode cX12_mouthNamed 45 = .ok (.iinc 2 1, 3) := by decide +kernel
theorem dX12_mouthNamed_48 : decode cX12_mouthNamed 48 = .ok (.goto (-43), 3) := by decide +kernel
theorem dX12_mouthNamed_51 : decode cX12_mouthNamed 51 = .ok (.iconst (-1), 1) := by decide +kernel
theorem dX12_mouthNamed_52 : decode cX12_mouthNamed 52 = .ok (.ireturn, 1) := by decide +kernel
theorem dX12_letterNamed_0 : decode cX12_letterNamed 0 = .ok (.bipush 6, 2) := by decide +kernel
theorem dX12_letterNamed_2 : decode cX12_letterNamed 2 = .ok (.iload_n 1, 1) := by decide +kernel
theorem dX12_letterNamed_3 : decode cX12_letterNamed 3 = .ok (.imul, 1) := by decide +kernel
theorem dX12_letterNamed_4 : decode cX12_letterNamed 4 = .ok (.istore_n 2, 1) := by decide +kernel
theorem dX12_letterNamed_5 : decode cX12_letterNamed 5 = .ok (.iload_n 2, 1) := by decide +kernel
theorem dX12_letterNamed_6 : decode cX12_letterNamed 6 = .ok (.bipush 6, 2) := by decide +kernel
theorem dX12_letterNamed_8 : decode cX12_letterNamed 8 = .ok (.iload_n 1, 1) := by decide +kernel
theorem dX12_letterNamed_9 : decode cX12_letterNamed 9 = .ok (.imul, 1) := by decide +kernel
theorem dX12_letterNamed_10 : decode cX12_letterNamed 10 = .ok (.aload_n 0, 1) := by decide +kernel
theorem dX12_letterNamed_11 : decode cX12_letterNamed 11 = .ok (.getfield 13, 3) := by decide +kernel
theorem dX12_letterNamed_14 : decode cX12_letterNamed 14 = .ok (.iconst 3, 1) := by decide +kernel
theorem dX12_letterNamed_15 : decode cX12_letterNamed 15 = .ok (.iload_n 1, 1) := by decide +kernel
theorem dX12_letterNamed_16 : decode cX12_letterNamed 16 = .ok (.imul, 1) := by decide +kernel
theorem dX12_letterNamed_17 : decode cX12_letterNamed 17 = .ok (.iconst 1, 1) := by decide +kernel
theorem dX12_letterNamed_18 : decode cX12_letterNamed 18 = .ok (.iadd, 1) := by decide +kernel
theorem dX12_letterNamed_19 : decode cX12_letterNamed 19 = .ok (.iaload, 1) := by decide +kernel
theorem dX12_letterNamed_20 : decode cX12_letterNamed 20 = .ok (.iadd, 1) := by decide +kernel
theorem dX12_letterNamed_21 : decode cX12_letterNamed 21 = .ok (.if_icmp .ge 30, 3) := by decide +kernel
theorem dX12_letterNamed_24 : decode cX12_letterNamed 24 = .ok (.aload_n 0, 1) := by decide +kernel
theorem dX12_letterNamed_25 : decode cX12_letterNamed 25 = .ok (.getfield 20, 3) := by decide +kernel
theorem dX12_letterNamed_28 : decode cX12_letterNamed 28 = .ok (.iload_n 2, 1) := by decide +kernel
theorem dX12_letterNamed_29 : decode cX12_letterNamed 29 = .ok (.laload, 1) := by decide +kernel
theorem dX12_letterNamed_30 : decode cX12_letterNamed 30 = .ok (.aload_n 0, 1) := by decide +kernel
theorem dX12_letterNamed_31 : decode cX12_letterNamed 31 = .ok (.getfield 165, 3) := by decide +kernel
theorem dX12_letterNamed_34 : decode cX12_letterNamed 34 = .ok (.lcmp, 1) := by decide +kernel
theorem dX12_letterNamed_35 : decode cX12_letterNamed 35 = .ok (.ifCond .ne 10, 3) := by decide +kernel
theorem dX12_letterNamed_38 : decode cX12_letterNamed 38 = .ok (.iload_n 2, 1) := by decide +kernel
theorem dX12_letterNamed_39 : decode cX12_letterNamed 39 = .ok (.bipush 6, 2) := by decide +kernel
theorem dX12_letterNamed_41 : decode cX12_letterNamed 41 = .ok (.iload_n 1, 1) := by decide +kernel
theorem dX12_letterNamed_42 : decode cX12_letterNamed 42 = .ok (.imul, 1) := by decide +kernel
theorem dX12_letterNamed_43 : decode cX12_letterNamed 43 = .ok (.isub, 1) := by decide +kernel
theorem dX12_letterNamed_44 : decode cX12_letterNamed 44 = .ok (.ireturn, 1) := by decide +kernel
theorem dX12_letterNamed_45 : decode cX12_letterNamed 45 = .ok (.iinc 2 1, 3) := by decide +kernel
theorem dX12_letterNamed_48 : decode cX12_letterNamed 48 = .ok (.goto (-43), 3) := by decide +kernel
theorem dX12_letterNamed_51 : decode cX12_letterNamed 51 = .ok (.iconst (-1), 1) := by decide +kernel
theorem dX12_letterNamed_52 : decode cX12_letterNamed 52 = .ok (.ireturn, 1) := by decide +kernel
theorem dX12_needsNumber_0 : decode cX12_needsNumber 0 = .ok (.aload_n 0, 1) := by decide +kernel
theorem dX12_needsNumber_1 : decode cX12_needsNumber 1 = .ok (.getfield 172, 3) := by decide +kernel
theorem dX12_needsNumber_4 : decode cX12_needsNumber 4 = .ok (.iconst 2, 1) := by decide +kernel
theorem dX12_needsNumber_5 : decode cX12_needsNumber 5 = .ok (.if_icmp .eq 9, 3) := by decide +kernel
theorem dX12_needsNumber_8 : decode cX12_needsNumber 8 = .ok (.aload_n 0, 1) := by decide +kernel
theorem dX12_needsNumber_9 : decode cX12_needsNumber 9 = .ok (.iconst 1, 1) := by decide +kernel
theorem dX12_needsNumber_10 : decode cX12_needsNumber 10 = .ok (.invokevirtual 211, 3) := by decide +kernel
theorem dX12_needsNumber_13 : decode cX12_needsNumber 13 = .ok (.ireturn, 1) := by decide +kernel
theorem dX12_needsNumber_14 : decode cX12_needsNumber 14 = .ok (.aload_n 0, 1) := by decide +kernel
theorem dX12_needsNumber_15 : decode cX12_needsNumber 15 = .ok (.getfield 169, 3) := by decide +kernel
theorem dX12_needsNumber_18 : decode cX12_needsNumber 18 = .ok (.iload_n 1, 1) := by decide +kernel
theorem dX12_needsNumber_19 : decode cX12_needsNumber 19 = .ok (.iload_n 2, 1) := by decide +kernel
theorem dX12_needsNumber_20 : decode cX12_needsNumber 20 = .ok (.invokestatic 268, 3) := by decide +kernel
theorem dX12_needsNumber_23 : decode cX12_needsNumber 23 = .ok (.ifCond .ne 9, 3) := by decide +kernel
theorem dX12_needsNumber_26 : decode cX12_needsNumber 26 = .ok (.aload_n 0, 1) := by decide +kernel
theorem dX12_needsNumber_27 : decode cX12_needsNumber 27 = .ok (.iconst 4, 1) := by decide +kernel
theorem dX12_needsNumber_28 : decode cX12_needsNumber 28 = .ok (.invokevirtual 211, 3) := by decide +kernel
theorem dX12_needsNumber_31 : decode cX12_needsNumber 31 = .ok (.ireturn, 1) := by decide +kernel
theorem dX12_needsNumber_32 : decode cX12_needsNumber 32 = .ok (.aload_n 0, 1) := by decide +kernel
theorem dX12_needsNumber_33 : decode cX12_needsNumber 33 = .ok (.aload_n 0, 1) := by decide +kernel
theorem dX12_needsNumber_34 : decode cX12_needsNumber 34 = .ok (.getfield 169, 3) := by decide +kernel
theorem dX12_needsNumber_37 : decode cX12_needsNumber 37 = .ok (.putfield 272, 3) := by decide +kernel
theorem dX12_needsNumber_40 : decode cX12_needsNumber 40 = .ok (.aload_n 0, 1) := by decide +kernel
theorem dX12_needsNumber_41 : decode cX12_needsNumber 41 = .ok (.invokevirtual 218, 3) := by decide +kernel
theorem dX12_needsNumber_44 : decode cX12_needsNumber 44 = .ok (.iconst 1, 1) := by decide +kernel
theorem dX12_needsNumber_45 : decode cX12_needsNumber 45 = .ok (.ireturn, 1) := by decide +kernel
theorem dX12_needsBoth_0 : decode cX12_needsBoth 0 = .ok (.aload_n 0, 1) := by decide +kernel
theorem dX12_needsBoth_1 : decode cX12_needsBoth 1 = .ok (.lload_n 1, 1) := by decide +kernel
theorem dX12_needsBoth_2 : decode cX12_needsBoth 2 = .ok (.invokevirtual 203, 3) := by decide +kernel
theorem dX12_needsBoth_5 : decode cX12_needsBoth 5 = .ok (.ifCond .ne 9, 3) := by decide +kernel
theorem dX12_needsBoth_8 : decode cX12_needsBoth 8 = .ok (.aload_n 0, 1) := by decide +kernel
theorem dX12_needsBoth_9 : decode cX12_needsBoth 9 = .ok (.iconst 1, 1) := by decide +kernel
theorem dX12_needsBoth_10 : decode cX12_needsBoth 10 = .ok (.invokevirtual 211, 3) := by decide +kernel
theorem dX12_needsBoth_13 : decode cX12_needsBoth 13 = .ok (.ireturn, 1) := by decide +kernel
theorem dX12_needsBoth_14 : decode cX12_needsBoth 14 = .ok (.aload_n 0, 1) := by decide +kernel
theorem dX12_needsBoth_15 : decode cX12_needsBoth 15 = .ok (.invokevirtual 218, 3) := by decide +kernel
theorem dX12_needsBoth_18 : decode cX12_needsBoth 18 = .ok (.aload_n 0, 1) := by decide +kernel
theorem dX12_needsBoth_19 : decode cX12_needsBoth 19 = .ok (.iload_n 3, 1) := by decide +kernel
theorem dX12_needsBoth_20 : decode cX12_needsBoth 20 = .ok (.iload 4, 2) := by decide +kernel
theorem dX12_needsBoth_22 : decode cX12_needsBoth 22 = .ok (.invokevirtual 275, 3) := by decide +kernel
theorem dX12_needsBoth_25 : decode cX12_needsBoth 25 = .ok (.ireturn, 1) := by decide +kernel
theorem dX12_closes_0 : decode cX12_closes 0 = .ok (.aload_n 0, 1) := by decide +kernel
theorem dX12_closes_1 : decode cX12_closes 1 = .ok (.bipush 59, 2) := by decide +kernel
theorem dX12_closes_3 : decode cX12_closes 3 = .ok (.invokevirtual 207, 3) := by decide +kernel
theorem dX12_closes_6 : decode cX12_closes 6 = .ok (.ifCond .ne 9, 3) := by decide +kernel
theorem dX12_closes_9 : decode cX12_closes 9 = .ok (.aload_n 0, 1) := by decide +kernel
theorem dX12_closes_10 : decode cX12_closes 10 = .ok (.iconst 1, 1) := by decide +kernel
theorem dX12_closes_11 : decode cX12_closes 11 = .ok (.invokevirtual 211, 3) := by decide +kernel
theorem dX12_closes_14 : decode cX12_closes 14 = .ok (.ireturn, 1) := by decide +kernel
theorem dX12_closes_15 : decode cX12_closes 15 = .ok (.aload_n 0, 1) := by decide +kernel
theorem dX12_closes_16 : decode cX12_closes 16 = .ok (.invokevirtual 218, 3) := by decide +kernel
theorem dX12_closes_19 : decode cX12_closes 19 = .ok (.iconst 1, 1) := by decide +kernel
theorem dX12_closes_20 : decode cX12_closes 20 = .ok (.ireturn, 1) := by decide +kernel
theorem dX12_needsNew_0 : decode cX12_needsNew 0 = .ok (.aload_n 0, 1) := by decide +kernel
theorem dX12_needsNew_1 : decode cX12_needsNew 1 = .ok (.invokevirtual 279, 3) := by decide +kernel
theorem dX12_needsNew_4 : decode cX12_needsNew 4 = .ok (.ifCond .eq 9, 3) := by decide +kernel
theorem dX12_needsNew_7 : decode cX12_needsNew 7 = .ok (.aload_n 0, 1) := by decide +kernel
theorem dX12_needsNew_8 : decode cX12_needsNew 8 = .ok (.iconst 1, 1) := by decide +kernel
theorem dX12_needsNew_9 : decode cX12_needsNew 9 = .ok (.invokevirtual 211, 3) := by decide +kernel
theorem dX12_needsNew_12 : decode cX12_needsNew 12 = .ok (.ireturn, 1) := by decide +kernel
theorem dX12_needsNew_13 : decode cX12_needsNew 13 = .ok (.aload_n 0, 1) := by decide +kernel
theorem dX12_needsNew_14 : decode cX12_needsNew 14 = .ok (.iconst 1, 1) := by decide +kernel
theorem dX12_needsNew_15 : decode cX12_needsNew 15 = .ok (.invokevirtual 283, 3) := by decide +kernel
theorem dX12_needsNew_18 : decode cX12_needsNew 18 = .ok (.ifCond .ge 11, 3) := by decide +kernel
theorem dX12_needsNew_21 : decode cX12_needsNew 21 = .ok (.aload_n 0, 1) := by decide +kernel
theorem dX12_needsNew_22 : decode cX12_needsNew 22 = .ok (.iconst 1, 1) := by decide +kernel
theorem dX12_needsNew_23 : decode cX12_needsNew 23 = .ok (.invokevirtual 286, 3) := by decide +kernel
theorem dX12_needsNew_26 : decode cX12_needsNew 26 = .ok (.ifCond .lt 9, 3) := by decide +kernel
theorem dX12_needsNew_29 : decode cX12_needsNew 29 = .ok (.aload_n 0, 1) := by decide +kernel
theorem dX12_needsNew_30 : decode cX12_needsNew 30 = .ok (.iconst 3, 1) := by decide +kernel
theorem dX12_needsNew_31 : decode cX12_needsNew 31 = .ok (.invokevirtual 211, 3) := by decide +kernel
theorem dX12_needsNew_34 : decode cX12_needsNew 34 = .ok (.ireturn, 1) := by decide +kernel
theorem dX12_needsNew_35 : decode cX12_needsNew 35 = .ok (.aload_n 0, 1) := by decide +kernel
theorem dX12_needsNew_36 : decode cX12_needsNew 36 = .ok (.aload_n 0, 1) := by decide +kernel
theorem dX12_needsNew_37 : decode cX12_needsNew 37 = .ok (.getfield 165, 3) := by decide +kernel
theorem dX12_needsNew_40 : decode cX12_needsNew 40 = .ok (.putfield 289, 3) := by decide +kernel
theorem dX12_needsNew_43 : decode cX12_needsNew 43 = .ok (.aload_n 0, 1) := by decide +kernel
theorem dX12_needsNew_44 : decode cX12_needsNew 44 = .ok (.invokevirtual 218, 3) := by decide +kernel
theorem dX12_needsNew_47 : decode cX12_needsNew 47 = .ok (.iconst 1, 1) := by decide +kernel
theorem dX12_needsNew_48 : decode cX12_needsNew 48 = .ok (.ireturn, 1) := by decide +kernel
theorem dX12_needsMouth_0 : decode cX12_needsMouth 0 = .ok (.aload_n 0, 1) := by decide +kernel
theorem dX12_needsMouth_1 : decode cX12_needsMouth 1 = .ok (.invokevirtual 279, 3) := by decide +kernel
theorem dX12_needsMouth_4 : decode cX12_needsMouth 4 = .ok (.ifCond .eq 9, 3) := by decide +kernel
theorem dX12_needsMouth_7 : decode cX12_needsMouth 7 = .ok (.aload_n 0, 1) := by decide +kernel
theorem dX12_needsMouth_8 : decode cX12_needsMouth 8 = .ok (.iconst 1, 1) := by decide +kernel
theorem dX12_needsMouth_9 : decode cX12_needsMouth 9 = .ok (.invokevirtual 211, 3) := by decide +kernel
theorem dX12_needsMouth_12 : decode cX12_needsMouth 12 = .ok (.ireturn, 1) := by decide +kernel
theorem dX12_needsMouth_13 : decode cX12_needsMouth 13 = .ok (.aload_n 0, 1) := by decide +kernel
theorem dX12_needsMouth_14 : decode cX12_needsMouth 14 = .ok (.aload_n 0, 1) := by decide +kernel
theorem dX12_needsMouth_15 : decode cX12_needsMouth 15 = .ok (.iload_n 1, 1) := by decide +kernel
theorem dX12_needsMouth_16 : decode cX12_needsMouth 16 = .ok (.invokevirtual 283, 3) := by decide +kernel
theorem dX12_needsMouth_19 : decode cX12_needsMouth 19 = .ok (.putfield 272, 3) := by decide +kernel
theorem dX12_needsMouth_22 : decode cX12_needsMouth 22 = .ok (.aload_n 0, 1) := by decide +kernel
theorem dX12_needsMouth_23 : decode cX12_needsMouth 23 = .ok (.getfield 272, 3) := by decide +kernel
theorem dX12_needsMouth_26 : decode cX12_needsMouth 26 = .ok (.ifCond .ge 11, 3) := by decide +kernel
theorem dX12_needsMouth_29 : decode cX12_needsMouth 29 = .ok (.aload_n 0, 1) := by decide +kernel
theorem dX12_needsMouth_30 : decode cX12_needsMouth 30 = .ok (.iconst 2, 1) := by decide +kernel
theorem dX12_needsMouth_31 : decode cX12_needsMouth 31 = .ok (.invokevirtual 211, 3) := by decide +kernel
theorem dX12_needsMouth_34 : decode cX12_needsMouth 34 = .ok (.ifCond .eq 7, 3) := by decide +kernel
theorem dX12_needsMouth_37 : decode cX12_needsMouth 37 = .ok (.iconst 1, 1) := by decide +kernel
theorem dX12_needsMouth_38 : decode cX12_needsMouth 38 = .ok (.goto 4, 3) := by decide +kernel
theorem dX12_needsMouth_41 : decode cX12_needsMouth 41 = .ok (.iconst 0, 1) := by decide +kernel
theorem dX12_needsMouth_42 : decode cX12_needsMouth 42 = .ok (.ireturn, 1) := by decide +kernel
theorem dX12_readsMouth_0 : decode cX12_readsMouth 0 = .ok (.bipush 7, 2) := by decide +kernel
theorem dX12_readsMouth_2 : decode cX12_readsMouth 2 = .ok (.aload_n 0, 1) := by decide +kernel
theorem dX12_readsMouth_3 : decode cX12_readsMouth 3 = .ok (.getfield 13, 3) := by decide +kernel
theorem dX12_readsMouth_6 : decode cX12_readsMouth 6 = .ok (.iconst 3, 1) := by decide +kernel
theorem dX12_readsMouth_7 : decode cX12_readsMouth 7 = .ok (.iaload, 1) := by decide +kernel
theorem dX12_readsMouth_8 : decode cX12_readsMouth 8 = .ok (.iadd, 1) := by decide +kernel
theorem dX12_readsMouth_9 : decode cX12_readsMouth 9 = .ok (.istore_n 1, 1) := by decide +kernel
theorem dX12_readsMouth_10 : decode cX12_readsMouth 10 = .ok (.iload_n 1, 1) := by decide +kernel
theorem dX12_readsMouth_11 : decode cX12_readsMouth 11 = .ok (.bipush 14, 2) := by decide +kernel
theorem dX12_readsMouth_13 : decode cX12_readsMouth 13 = .ok (.if_icmp .ne 9, 3) := by decide +kernel
theorem dX12_readsMouth_16 : decode cX12_readsMouth 16 = .ok (.aload_n 0, 1) := by decide +kernel
theorem dX12_readsMouth_17 : decode cX12_readsMouth 17 = .ok (.iconst 5, 1) := by decide +kernel
theorem dX12_readsMouth_18 : decode cX12_readsMouth 18 = .ok (.invokevirtual 211, 3) := by decide +kernel
theorem dX12_readsMouth_21 : decode cX12_readsMouth 21 = .ok (.ireturn, 1) := by decide +kernel
theorem dX12_readsMouth_22 : decode cX12_readsMouth 22 = .ok (.aload_n 0, 1) := by decide +kernel
theorem dX12_readsMouth_23 : decode cX12_readsMouth 23 = .ok (.invokevirtual 218, 3) := by decide +kernel
theorem dX12_readsMouth_26 : decode cX12_readsMouth 26 = .ok (.aload_n 0, 1) := by decide +kernel
theorem dX12_readsMouth_27 : decode cX12_readsMouth 27 = .ok (.invokevirtual 292, 3) := by decide +kernel
theorem dX12_readsMouth_30 : decode cX12_readsMouth 30 = .ok (.ifCond .ne 5, 3) := by decide +kernel
theorem dX12_readsMouth_33 : decode cX12_readsMouth 33 = .ok (.iconst 0, 1) := by decide +kernel
theorem dX12_readsMouth_34 : decode cX12_readsMouth 34 = .ok (.ireturn, 1) := by decide +kernel
theorem dX12_readsMouth_35 : decode cX12_readsMouth 35 = .ok (.aload_n 0, 1) := by decide +kernel
theorem dX12_readsMouth_36 : decode cX12_readsMouth 36 = .ok (.getfield 23, 3) := by decide +kernel
theorem dX12_readsMouth_39 : decode cX12_readsMouth 39 = .ok (.iload_n 1, 1) := by decide +kernel
theorem dX12_readsMouth_40 : decode cX12_readsMouth 40 = .ok (.aload_n 0, 1) := by decide +kernel
theorem dX12_readsMouth_41 : decode cX12_readsMouth 41 = .ok (.ldc2_w 260, 3) := by decide +kernel
theorem dX12_readsMouth_44 : decode cX12_readsMouth 44 = .ok (.invokevirtual 203, 3) := by decide +kernel
theorem dX12_readsMouth_47 : decode cX12_readsMouth 47 = .ok (.ifCond .eq 7, 3) := by decide +kernel
theorem dX12_readsMouth_50 : decode cX12_readsMouth 50 = .ok (.iconst 0, 1) := by decide +kernel
theorem dX12_readsMouth_51 : decode cX12_readsMouth 51 = .ok (.goto 46, 3) := by decide +kernel
theorem dX12_readsMouth_54 : decode cX12_readsMouth 54 = .ok (.aload_n 0, 1) := by decide +kernel
theorem dX12_readsMouth_55 : decode cX12_readsMouth 55 = .ok (.ldc2_w 262, 3) := by decide +kernel
theorem dX12_readsMouth_58 : decode cX12_readsMouth 58 = .ok (.invokevirtual 203, 3) := by decide +kernel
theorem dX12_readsMouth_61 : decode cX12_readsMouth 61 = .ok (.ifCond .eq 7, 3) := by decide +kernel
theorem dX12_readsMouth_64 : decode cX12_readsMouth 64 = .ok (.iconst 1, 1) := by decide +kernel
theorem dX12_readsMouth_65 : decode cX12_readsMouth 65 = .ok (.goto 32, 3) := by decide +kernel
theorem dX12_readsMouth_68 : decode cX12_readsMouth 68 = .ok (.aload_n 0, 1) := by decide +kernel
theorem dX12_readsMouth_69 : decode cX12_readsMouth 69 = .ok (.ldc2_w 264, 3) := by decide +kernel
theorem dX12_readsMouth_72 : decode cX12_readsMouth 72 = .ok (.invokevirtual 203, 3) := by decide +kernel
theorem dX12_readsMouth_75 : decode cX12_readsMouth 75 = .ok (.ifCond .eq 7, 3) := by decide +kernel
theorem dX12_readsMouth_78 : decode cX12_readsMouth 78 = .ok (.iconst 2, 1) := by decide +kernel
theorem dX12_readsMouth_79 : decode cX12_readsMouth 79 = .ok (.goto 18, 3) := by decide +kernel
theorem dX12_readsMouth_82 : decode cX12_readsMouth 82 = .ok (.aload_n 0, 1) := by decide +kernel
theorem dX12_readsMouth_83 : decode cX12_readsMouth 83 = .ok (.ldc2_w 266, 3) := by decide +kernel
theorem dX12_readsMouth_86 : decode cX12_readsMouth 86 = .ok (.invokevirtual 203, 3) := by decide +kernel
theorem dX12_readsMouth_89 : decode cX12_readsMouth 89 = .ok (.ifCond .eq 7, 3) := by decide +kernel
theorem dX12_readsMouth_92 : decode cX12_readsMouth 92 = .ok (.iconst 3, 1) := by decide +kernel
theorem dX12_readsMouth_93 : decode cX12_readsMouth 93 = .ok (.goto 4, 3) := by decide +kernel
theorem dX12_readsMouth_96 : decode cX12_readsMouth 96 = .ok (.iconst (-1), 1) := by decide +kernel
theorem dX12_readsMouth_97 : decode cX12_readsMouth 97 = .ok (.iastore, 1) := by decide +kernel
theorem dX12_readsMouth_98 : decode cX12_readsMouth 98 = .ok (.aload_n 0, 1) := by decide +kernel
theorem dX12_readsMouth_99 : decode cX12_readsMouth 99 = .ok (.getfield 23, 3) := by decide +kernel
theorem dX12_readsMouth_102 : decode cX12_readsMouth 102 = .ok (.iload_n 1, 1) := by decide +kernel
theorem dX12_readsMouth_103 : decode cX12_readsMouth 103 = .ok (.iaload, 1) := by decide +kernel
theorem dX12_readsMouth_104 : decode cX12_readsMouth 104 = .ok (.ifCond .ge 9, 3) := by decide +kernel
theorem dX12_readsMouth_107 : decode cX12_readsMouth 107 = .ok (.aload_n 0, 1) := by decide +kernel
theorem dX12_readsMouth_108 : decode cX12_readsMouth 108 = .ok (.iconst 1, 1) := by decide +kernel
theorem dX12_readsMouth_109 : decode cX12_readsMouth 109 = .ok (.invokevirtual 211, 3) := by decide +kernel
theorem dX12_readsMouth_112 : decode cX12_readsMouth 112 = .ok (.ireturn, 1) := by decide +kernel
theorem dX12_readsMouth_113 : decode cX12_readsMouth 113 = .ok (.aload_n 0, 1) := by decide +kernel
theorem dX12_readsMouth_114 : decode cX12_readsMouth 114 = .ok (.invokevirtual 218, 3) := by decide +kernel
theorem dX12_readsMouth_117 : decode cX12_readsMouth 117 = .ok (.aload_n 0, 1) := by decide +kernel
theorem dX12_readsMouth_118 : decode cX12_readsMouth 118 = .ok (.ldc2_w 236, 3) := by decide +kernel
theorem dX12_readsMouth_121 : decode cX12_readsMouth 121 = .ok (.iconst 1, 1) := by decide +kernel
theorem dX12_readsMouth_122 : decode cX12_readsMouth 122 = .ok (.bipush 20, 2) := by decide +kernel
theorem dX12_readsMouth_124 : decode cX12_readsMouth 124 = .ok (.invokevirtual 295, 3) := by decide +kernel
theorem dX12_readsMouth_127 : decode cX12_readsMouth 127 = .ok (.ifCond .ne 5, 3) := by decide +kernel
theorem dX12_readsMouth_130 : decode cX12_readsMouth 130 = .ok (.iconst 0, 1) := by decide +kernel
theorem dX12_readsMouth_131 : decode cX12_readsMouth 131 = .ok (.ireturn, 1) := by decide +kernel
theorem dX12_readsMouth_132 : decode cX12_readsMouth 132 = .ok (.aload_n 0, 1) := by decide +kernel
theorem dX12_readsMouth_133 : decode cX12_readsMouth 133 = .ok (.getfield 26, 3) := by decide +kernel
theorem dX12_readsMouth_136 : decode cX12_readsMouth 136 = .ok (.iload_n 1, 1) := by decide +kernel
theorem dX12_readsMouth_137 : decode cX12_readsMouth 137 = .ok (.aload_n 0, 1) := by decide +kernel
theorem dX12_readsMouth_138 : decode cX12_readsMouth 138 = .ok (.getfield 272, 3) := by decide +kernel
theorem dX12_readsMouth_141 : decode cX12_readsMouth 141 = .ok (.iastore, 1) := by decide +kernel
theorem dX12_readsMouth_142 : decode cX12_readsMouth 142 = .ok (.aload_n 0, 1) := by decide +kernel
theorem dX12_readsMouth_143 : decode cX12_readsMouth 143 = .ok (.ldc2_w 238, 3) := by decide +kernel
theorem dX12_readsMouth_146 : decode cX12_readsMouth 146 = .ok (.iconst 0, 1) := by decide +kernel
theorem dX12_readsMouth_147 : decode cX12_readsMouth 147 = .ok (.bipush 9, 2) := by decide +kernel
theorem dX12_readsMouth_149 : decode cX12_readsMouth 149 = .ok (.invokevirtual 295, 3) := by decide +kernel
theorem dX12_readsMouth_152 : decode cX12_readsMouth 152 = .ok (.ifCond .ne 5, 3) := by decide +kernel
theorem dX12_readsMouth_155 : decode cX12_readsMouth 155 = .ok (.iconst 0, 1) := by decide +kernel
theorem dX12_readsMouth_156 : decode cX12_readsMouth 156 = .ok (.ireturn, 1) := by decide +kernel
theorem dX12_readsMouth_157 : decode cX12_readsMouth 157 = .ok (.aload_n 0, 1) := by decide +kernel
theorem dX12_readsMouth_158 : decode cX12_readsMouth 158 = .ok (.getfield 29, 3) := by decide +kernel
theorem dX12_readsMouth_161 : decode cX12_readsMouth 161 = .ok (.iload_n 1, 1) := by decide +kernel
theorem dX12_readsMouth_162 : decode cX12_readsMouth 162 = .ok (.aload_n 0, 1) := by decide +kernel
theorem dX12_readsMouth_163 : decode cX12_readsMouth 163 = .ok (.getfield 272, 3) := by decide +kernel
theorem dX12_readsMouth_166 : decode cX12_readsMouth 166 = .ok (.iastore, 1) := by decide +kernel
theorem dX12_readsMouth_167 : decode cX12_readsMouth 167 = .ok (.aload_n 0, 1) := by decide +kernel
theorem dX12_readsMouth_168 : decode cX12_readsMouth 168 = .ok (.ldc2_w 240, 3) := by decide +kernel
theorem dX12_readsMouth_171 : decode cX12_readsMouth 171 = .ok (.iconst 0, 1) := by decide +kernel
theorem dX12_readsMouth_172 : decode cX12_readsMouth 172 = .ok (.bipush 40, 2) := by decide +kernel
theorem dX12_readsMouth_174 : decode cX12_readsMouth 174 = .ok (.invokevirtual 295, 3) := by decide +kernel
theorem dX12_readsMouth_177 : decode cX12_readsMouth 177 = .ok (.ifCond .ne 5, 3) := by decide +kernel
theorem dX12_readsMouth_180 : decode cX12_readsMouth 180 = .ok (.iconst 0, 1) := by decide +kernel
theorem dX12_readsMouth_181 : decode cX12_readsMouth 181 = .ok (.ireturn, 1) := by decide +kernel
theorem dX12_readsMouth_182 : decode cX12_readsMouth 182 = .ok (.aload_n 0, 1) := by decide +kernel
theorem dX12_readsMouth_183 : decode cX12_readsMouth 183 = .ok (.getfield 32, 3) := by decide +kernel
theorem dX12_readsMouth_186 : decode cX12_readsMouth 186 = .ok (.iload_n 1, 1) := by decide +kernel
theorem dX12_readsMouth_187 : decode cX12_readsMouth 187 = .ok (.aload_n 0, 1) := by decide +kernel
theorem dX12_readsMouth_188 : decode cX12_readsMouth 188 = .ok (.getfield 272, 3) := by decide +kernel
theorem dX12_readsMouth_191 : decode cX12_readsMouth 191 = .ok (.iastore, 1) := by decide +kernel
theorem dX12_readsMouth_192 : decode cX12_readsMouth 192 = .ok (.aload_n 0, 1) := by decide +kernel
theorem dX12_readsMouth_193 : decode cX12_readsMouth 193 = .ok (.getfield 35, 3) := by decide +kernel
theorem dX12_readsMouth_196 : decode cX12_readsMouth 196 = .ok (.iload_n 1, 1) := by decide +kernel
theorem dX12_readsMouth_197 : decode cX12_readsMouth 197 = .ok (.iconst (-1), 1) := by decide +kernel
theorem dX12_readsMouth_198 : decode cX12_readsMouth 198 = .ok (.iastore, 1) := by decide +kernel
theorem dX12_readsMouth_199 : decode cX12_readsMouth 199 = .ok (.aload_n 0, 1) := by decide +kernel
theorem dX12_readsMouth_200 : decode cX12_readsMouth 200 = .ok (.getfield 16, 3) := by decide +kernel
theorem dX12_readsMouth_203 : decode cX12_readsMouth 203 = .ok (.iload_n 1, 1) := by decide +kernel
theorem dX12_readsMouth_204 : decode cX12_readsMouth 204 = .ok (.aload_n 0, 1) := by decide +kernel
theorem dX12_readsMouth_205 : decode cX12_readsMouth 205 = .ok (.getfield 289, 3) := by decide +kernel
theorem dX12_readsMouth_208 : decode cX12_readsMouth 208 = .ok (.lastore, 1) := by decide +kernel
theorem dX12_readsMouth_209 : decode cX12_readsMouth 209 = .ok (.aload_n 0, 1) := by decide +kernel
theorem dX12_readsMouth_210 : decode cX12_readsMouth 210 = .ok (.getfield 13, 3) := by decide +kernel
theorem dX12_readsMouth_213 : decode cX12_readsMouth 213 = .ok (.iconst 3, 1) := by decide +kernel
theorem dX12_readsMouth_214 : decode cX12_readsMouth 214 = .ok (.dup2, 1) := by decide +kernel
theorem dX12_readsMouth_215 : decode cX12_readsMouth 215 = .ok (.iaload, 1) := by decide +kernel
theorem dX12_readsMouth_216 : decode cX12_readsMouth 216 = .ok (.iconst 1, 1) := by decide +kernel
theorem dX12_readsMouth_217 : decode cX12_readsMouth 217 = .ok (.iadd, 1) := by decide +kernel
theorem dX12_readsMouth_218 : decode cX12_readsMouth 218 = .ok (.iastore, 1) := by decide +kernel
theorem dX12_readsMouth_219 : decode cX12_readsMouth 219 = .ok (.aload_n 0, 1) := by decide +kernel
theorem dX12_readsMouth_220 : decode cX12_readsMouth 220 = .ok (.invokevirtual 299, 3) := by decide +kernel
theorem dX12_readsMouth_223 : decode cX12_readsMouth 223 = .ok (.ireturn, 1) := by decide +kernel
theorem dX12_readsGutter_0 : decode cX12_readsGutter 0 = .ok (.aload_n 0, 1) := by decide +kernel
theorem dX12_readsGutter_1 : decode cX12_readsGutter 1 = .ok (.invokevirtual 218, 3) := by decide +kernel
theorem dX12_readsGutter_4 : decode cX12_readsGutter 4 = .ok (.aload_n 0, 1) := by decide +kernel
theorem dX12_readsGutter_5 : decode cX12_readsGutter 5 = .ok (.iconst 1, 1) := by decide +kernel
theorem dX12_readsGutter_6 : decode cX12_readsGutter 6 = .ok (.invokevirtual 302, 3) := by decide +kernel
theorem dX12_readsGutter_9 : decode cX12_readsGutter 9 = .ok (.ifCond .ne 5, 3) := by decide +kernel
theorem dX12_readsGutter_12 : decode cX12_readsGutter 12 = .ok (.iconst 0, 1) := by decide +kernel
theorem dX12_readsGutter_13 : decode cX12_readsGutter 13 = .ok (.ireturn, 1) := by decide +kernel
theorem dX12_readsGutter_14 : decode cX12_readsGutter 14 = .ok (.bipush 7, 2) := by decide +kernel
theorem dX12_readsGutter_16 : decode cX12_readsGutter 16 = .ok (.aload_n 0, 1) := by decide +kernel
theorem dX12_readsGutter_17 : decode cX12_readsGutter 17 = .ok (.getfield 272, 3) := by decide +kernel
theorem dX12_readsGutter_20 : decode cX12_readsGutter 20 = .ok (.iadd, 1) := by decide +kernel
theorem dX12_readsGutter_21 : decode cX12_readsGutter 21 = .ok (.istore_n 1, 1) := by decide +kernel
theorem dX12_readsGutter_22 : decode cX12_readsGutter 22 = .ok (.aload_n 0, 1) := by decide +kernel
theorem dX12_readsGutter_23 : decode cX12_readsGutter 23 = .ok (.getfield 35, 3) := by decide +kernel
theorem dX12_readsGutter_26 : decode cX12_readsGutter 26 = .ok (.iload_n 1, 1) := by decide +kernel
theorem dX12_readsGutter_27 : decode cX12_readsGutter 27 = .ok (.iaload, 1) := by decide +kernel
theorem dX12_readsGutter_28 : decode cX12_readsGutter 28 = .ok (.ifCond .lt 9, 3) := by decide +kernel
theorem dX12_readsGutter_31 : decode cX12_readsGutter 31 = .ok (.aload_n 0, 1) := by decide +kernel
theorem dX12_readsGutter_32 : decode cX12_readsGutter 32 = .ok (.iconst 3, 1) := by decide +kernel
theorem dX12_readsGutter_33 : decode cX12_readsGutter 33 = .ok (.invokevirtual 211, 3) := by decide +kernel
theorem dX12_readsGutter_36 : decode cX12_readsGutter 36 = .ok (.ireturn, 1) := by decide +kernel
theorem dX12_readsGutter_37 : decode cX12_readsGutter 37 = .ok (.aload_n 0, 1) := by decide +kernel
theorem dX12_readsGutter_38 : decode cX12_readsGutter 38 = .ok (.invokevirtual 218, 3) := by decide +kernel
theorem dX12_readsGutter_41 : decode cX12_readsGutter 41 = .ok (.aload_n 0, 1) := by decide +kernel
theorem dX12_readsGutter_42 : decode cX12_readsGutter 42 = .ok (.iconst 1, 1) := by decide +kernel
theorem dX12_readsGutter_43 : decode cX12_readsGutter 43 = .ok (.invokevirtual 302, 3) := by decide +kernel
theorem dX12_readsGutter_46 : decode cX12_readsGutter 46 = .ok (.ifCond .ne 5, 3) := by decide +kernel
theorem dX12_readsGutter_49 : decode cX12_readsGutter 49 = .ok (.iconst 0, 1) := by decide +kernel
theorem dX12_readsGutter_50 : decode cX12_readsGutter 50 = .ok (.ireturn, 1) := by decide +kernel
theorem dX12_readsGutter_51 : decode cX12_readsGutter 51 = .ok (.aload_n 0, 1) := by decide +kernel
theorem dX12_readsGutter_52 : decode cX12_readsGutter 52 = .ok (.getfield 26, 3) := by decide +kernel
theorem dX12_readsGutter_55 : decode cX12_readsGutter 55 = .ok (.bipush 7, 2) := by decide +kernel
theorem dX12_readsGutter_57 : decode cX12_readsGutter 57 = .ok (.aload_n 0, 1) := by decide +kernel
theorem dX12_readsGutter_58 : decode cX12_readsGutter 58 = .ok (.getfield 272, 3) := by decide +kernel
theorem dX12_readsGutter_61 : decode cX12_readsGutter 61 = .ok (.iadd, 1) := by decide +kernel
theorem dX12_readsGutter_62 : decode cX12_readsGutter 62 = .ok (.iaload, 1) := by decide +kernel
theorem dX12_readsGutter_63 : decode cX12_readsGutter 63 = .ok (.aload_n 0, 1) := by decide +kernel
theorem dX12_readsGutter_64 : decode cX12_readsGutter 64 = .ok (.getfield 26, 3) := by decide +kernel
theorem dX12_readsGutter_67 : decode cX12_readsGutter 67 = .ok (.iload_n 1, 1) := by decide +kernel
theorem dX12_readsGutter_68 : decode cX12_readsGutter 68 = .ok (.iaload, 1) := by decide +kernel
theorem dX12_readsGutter_69 : decode cX12_readsGutter 69 = .ok (.if_icmp .lt 9, 3) := by decide +kernel
theorem dX12_readsGutter_72 : decode cX12_readsGutter 72 = .ok (.aload_n 0, 1) := by decide +kernel
theorem dX12_readsGutter_73 : decode cX12_readsGutter 73 = .ok (.iconst 3, 1) := by decide +kernel
theorem dX12_readsGutter_74 : decode cX12_readsGutter 74 = .ok (.invokevirtual 211, 3) := by decide +kernel
theorem dX12_readsGutter_77 : decode cX12_readsGutter 77 = .ok (.ireturn, 1) := by decide +kernel
theorem dX12_readsGutter_78 : decode cX12_readsGutter 78 = .ok (.aload_n 0, 1) := by decide +kernel
theorem dX12_readsGutter_79 : decode cX12_readsGutter 79 = .ok (.getfield 35, 3) := by decide +kernel
theorem dX12_readsGutter_82 : decode cX12_readsGutter 82 = .ok (.iload_n 1, 1) := by decide +kernel
theorem dX12_readsGutter_83 : decode cX12_readsGutter 83 = .ok (.aload_n 0, 1) := by decide +kernel
theorem dX12_readsGutter_84 : decode cX12_readsGutter 84 = .ok (.getfield 272, 3) := by decide +kernel
theorem dX12_readsGutter_87 : decode cX12_readsGutter 87 = .ok (.iastore, 1) := by decide +kernel
theorem dX12_readsGutter_88 : decode cX12_readsGutter 88 = .ok (.aload_n 0, 1) := by decide +kernel
theorem dX12_readsGutter_89 : decode cX12_readsGutter 89 = .ok (.invokevirtual 218, 3) := by decide +kernel
theorem dX12_readsGutter_92 : decode cX12_readsGutter 92 = .ok (.aload_n 0, 1) := by decide +kernel
theorem dX12_readsGutter_93 : decode cX12_readsGutter 93 = .ok (.invokevirtual 299, 3) := by decide +kernel
theorem dX12_readsGutter_96 : decode cX12_readsGutter 96 = .ok (.ireturn, 1) := by decide +kernel
theorem dX12_readsLetter_0 : decode cX12_readsLetter 0 = .ok (.bipush 6, 2) := by decide +kernel
theorem dX12_readsLetter_2 : decode cX12_readsLetter 2 = .ok (.aload_n 0, 1) := by decide +kernel
theorem dX12_readsLetter_3 : decode cX12_readsLetter 3 = .ok (.getfield 13, 3) := by decide +kernel
theorem dX12_readsLetter_6 : decode cX12_readsLetter 6 = .ok (.iconst 4, 1) := by decide +kernel
theorem dX12_readsLetter_7 : decode cX12_readsLetter 7 = .ok (.iaload, 1) := by decide +kernel
theorem dX12_readsLetter_8 : decode cX12_readsLetter 8 = .ok (.iadd, 1) := by decide +kernel
theorem dX12_readsLetter_9 : decode cX12_readsLetter 9 = .ok (.istore_n 1, 1) := by decide +kernel
theorem dX12_readsLetter_10 : decode cX12_readsLetter 10 = .ok (.iload_n 1, 1) := by decide +kernel
theorem dX12_readsLetter_11 : decode cX12_readsLetter 11 = .ok (.bipush 12, 2) := by decide +kernel
theorem dX12_readsLetter_13 : decode cX12_readsLetter 13 = .ok (.if_icmp .ne 9, 3) := by decide +kernel
theorem dX12_readsLetter_16 : decode cX12_readsLetter 16 = .ok (.aload_n 0, 1) := by decide +kernel
theorem dX12_readsLetter_17 : decode cX12_readsLetter 17 = .ok (.iconst 5, 1) := by decide +kernel
theorem dX12_readsLetter_18 : decode cX12_readsLetter 18 = .ok (.invokevirtual 211, 3) := by decide +kernel
theorem dX12_readsLetter_21 : decode cX12_readsLetter 21 = .ok (.ireturn, 1) := by decide +kernel
theorem dX12_readsLetter_22 : decode cX12_readsLetter 22 = .ok (.aload_n 0, 1) := by decide +kernel
theorem dX12_readsLetter_23 : decode cX12_readsLetter 23 = .ok (.invokevirtual 218, 3) := by decide +kernel
theorem dX12_readsLetter_26 : decode cX12_readsLetter 26 = .ok (.aload_n 0, 1) := by decide +kernel
theorem dX12_readsLetter_27 : decode cX12_readsLetter 27 = .ok (.invokevirtual 292, 3) := by decide +kernel
theorem dX12_readsLetter_30 : decode cX12_readsLetter 30 = .ok (.ifCond .ne 5, 3) := by decide +kernel
theorem dX12_readsLetter_33 : decode cX12_readsLetter 33 = .ok (.iconst 0, 1) := by decide +kernel
theorem dX12_readsLetter_34 : decode cX12_readsLetter 34 = .ok (.ireturn, 1) := by decide +kernel
theorem dX12_readsLetter_35 : decode cX12_readsLetter 35 = .ok (.aload_n 0, 1) := by decide +kernel
theorem dX12_readsLetter_36 : decode cX12_readsLetter 36 = .ok (.ldc2_w 246, 3) := by decide +kernel
theorem dX12_readsLetter_39 : decode cX12_readsLetter 39 = .ok (.invokevirtual 203, 3) := by decide +kernel
theorem dX12_readsLetter_42 : decode cX12_readsLetter 42 = .ok (.ifCond .ne 9, 3) := by decide +kernel
theorem dX12_readsLetter_45 : decode cX12_readsLetter 45 = .ok (.aload_n 0, 1) := by decide +kernel
theorem dX12_readsLetter_46 : decode cX12_readsLetter 46 = .ok (.iconst 1, 1) := by decide +kernel
theorem dX12_readsLetter_47 : decode cX12_readsLetter 47 = .ok (.invokevirtual 211, 3) := by decide +kernel
theorem dX12_readsLetter_50 : decode cX12_readsLetter 50 = .ok (.ireturn, 1) := by decide +kernel
theorem dX12_readsLetter_51 : decode cX12_readsLetter 51 = .ok (.aload_n 0, 1) := by decide +kernel
theorem dX12_readsLetter_52 : decode cX12_readsLetter 52 = .ok (.invokevirtual 218, 3) := by decide +kernel
theorem dX12_readsLetter_55 : decode cX12_readsLetter 55 = .ok (.iconst 0, 1) := by decide +kernel
theorem dX12_readsLetter_56 : decode cX12_readsLetter 56 = .ok (.istore_n 2, 1) := by decide +kernel
theorem dX12_readsLetter_57 : decode cX12_readsLetter 57 = .ok (.iload_n 2, 1) := by decide +kernel
theorem dX12_readsLetter_58 : decode cX12_readsLetter 58 = .ok (.ifCond .eq 12, 3) := by decide +kernel
theorem dX12_readsLetter_61 : decode cX12_readsLetter 61 = .ok (.aload_n 0, 1) := by decide +kernel
theorem dX12_readsLetter_62 : decode cX12_readsLetter 62 = .ok (.bipush 59, 2) := by decide +kernel
theorem dX12_readsLetter_64 : decode cX12_readsLetter 64 = .ok (.invokevirtual 207, 3) := by decide +kernel
theorem dX12_readsLetter_67 : decode cX12_readsLetter 67 = .ok (.ifCond .ne 47, 3) := by decide +kernel
theorem dX12_readsLetter_70 : decode cX12_readsLetter 70 = .ok (.aload_n 0, 1) := by decide +kernel
theorem dX12_readsLetter_71 : decode cX12_readsLetter 71 = .ok (.iconst 1, 1) := by decide +kernel
theorem dX12_readsLetter_72 : decode cX12_readsLetter 72 = .ok (.invokevirtual 302, 3) := by decide +kernel
theorem dX12_readsLetter_75 : decode cX12_readsLetter 75 = .ok (.ifCond .ne 5, 3) := by decide +kernel
theorem dX12_readsLetter_78 : decode cX12_readsLetter 78 = .ok (.iconst 0, 1) := by decide +kernel
theorem dX12_readsLetter_79 : decode cX12_readsLetter 79 = .ok (.ireturn, 1) := by decide +kernel
theorem dX12_readsLetter_80 : decode cX12_readsLetter 80 = .ok (.iload_n 2, 1) := by decide +kernel
theorem dX12_readsLetter_81 : decode cX12_readsLetter 81 = .ok (.aload_n 0, 1) := by decide +kernel
theorem dX12_readsLetter_82 : decode cX12_readsLetter 82 = .ok (.getfield 272, 3) := by decide +kernel
theorem dX12_readsLetter_85 : decode cX12_readsLetter 85 = .ok (.ishr, 1) := by decide +kernel
theorem dX12_readsLetter_86 : decode cX12_readsLetter 86 = .ok (.iconst 1, 1) := by decide +kernel
theorem dX12_readsLetter_87 : decode cX12_readsLetter 87 = .ok (.iand, 1) := by decide +kernel
theorem dX12_readsLetter_88 : decode cX12_readsLetter 88 = .ok (.iconst 1, 1) := by decide +kernel
theorem dX12_readsLetter_89 : decode cX12_readsLetter 89 = .ok (.if_icmp .ne 9, 3) := by decide +kernel
theorem dX12_readsLetter_92 : decode cX12_readsLetter 92 = .ok (.aload_n 0, 1) := by decide +kernel
theorem dX12_readsLetter_93 : decode cX12_readsLetter 93 = .ok (.iconst 3, 1) := by decide +kernel
theorem dX12_readsLetter_94 : decode cX12_readsLetter 94 = .ok (.invokevirtual 211, 3) := by decide +kernel
theorem dX12_readsLetter_97 : decode cX12_readsLetter 97 = .ok (.ireturn, 1) := by decide +kernel
theorem dX12_readsLetter_98 : decode cX12_readsLetter 98 = .ok (.iload_n 2, 1) := by decide +kernel
theorem dX12_readsLetter_99 : decode cX12_readsLetter 99 = .ok (.iconst 1, 1) := by decide +kernel
theorem dX12_readsLetter_100 : decode cX12_readsLetter 100 = .ok (.aload_n 0, 1) := by decide +kernel
theorem dX12_readsLetter_101 : decode cX12_readsLetter 101 = .ok (.getfield 272, 3) := by decide +kernel
theorem dX12_readsLetter_104 : decode cX12_readsLetter 104 = .ok (.ishl, 1) := by decide +kernel
theorem dX12_readsLetter_105 : decode cX12_readsLetter 105 = .ok (.ior, 1) := by decide +kernel
theorem dX12_readsLetter_106 : decode cX12_readsLetter 106 = .ok (.istore_n 2, 1) := by decide +kernel
theorem dX12_readsLetter_107 : decode cX12_readsLetter 107 = .ok (.aload_n 0, 1) := by decide +kernel
theorem dX12_readsLetter_108 : decode cX12_readsLetter 108 = .ok (.invokevirtual 218, 3) := by decide +kernel
theorem dX12_readsLetter_111 : decode cX12_readsLetter 111 = .ok (.goto (-54), 3) := by decide +kernel
theorem dX12_readsLetter_114 : decode cX12_readsLetter 114 = .ok (.bipush 6, 2) := by decide +kernel
theorem dX12_readsLetter_116 : decode cX12_readsLetter 116 = .ok (.istore_n 3, 1) := by decide +kernel
theorem dX12_readsLetter_117 : decode cX12_readsLetter 117 = .ok (.iload_n 3, 1) := by decide +kernel
theorem dX12_readsLetter_118 : decode cX12_readsLetter 118 = .ok (.iload_n 1, 1) := by decide +kernel
theorem dX12_readsLetter_119 : decode cX12_readsLetter 119 = .ok (.if_icmp .ge 25, 3) := by decide +kernel
theorem dX12_readsLetter_122 : decode cX12_readsLetter 122 = .ok (.aload_n 0, 1) := by decide +kernel
theorem dX12_readsLetter_123 : decode cX12_readsLetter 123 = .ok (.getfield 38, 3) := by decide +kernel
theorem dX12_readsLetter_126 : decode cX12_readsLetter 126 = .ok (.iload_n 3, 1) := by decide +kernel
theorem dX12_readsLetter_127 : decode cX12_readsLetter 127 = .ok (.iaload, 1) := by decide +kernel
theorem dX12_readsLetter_128 : decode cX12_readsLetter 128 = .ok (.iload_n 2, 1) := by decide +kernel
theorem dX12_readsLetter_129 : decode cX12_readsLetter 129 = .ok (.if_icmp .ne 9, 3) := by decide +kernel
theorem dX12_readsLetter_132 : decode cX12_readsLetter 132 = .ok (.aload_n 0, 1) := by decide +kernel
theorem dX12_readsLetter_133 : decode cX12_readsLetter 133 = .ok (.iconst 3, 1) := by decide +kernel
theorem dX12_readsLetter_134 : decode cX12_readsLetter 134 = .ok (.invokevirtual 211, 3) := by decide +kernel
theorem dX12_readsLetter_137 : decode cX12_readsLetter 137 = .ok (.ireturn, 1) := by decide +kernel
theorem dX12_readsLetter_138 : decode cX12_readsLetter 138 = .ok (.iinc 3 1, 3) := by decide +kernel
theorem dX12_readsLetter_141 : decode cX12_readsLetter 141 = .ok (.goto (-24), 3) := by decide +kernel
theorem dX12_readsLetter_144 : decode cX12_readsLetter 144 = .ok (.aload_n 0, 1) := by decide +kernel
theorem dX12_readsLetter_145 : decode cX12_readsLetter 145 = .ok (.getfield 38, 3) := by decide +kernel
theorem dX12_readsLetter_148 : decode cX12_readsLetter 148 = .ok (.iload_n 1, 1) := by decide +kernel
theorem dX12_readsLetter_149 : decode cX12_readsLetter 149 = .ok (.iload_n 2, 1) := by decide +kernel
theorem dX12_readsLetter_150 : decode cX12_readsLetter 150 = .ok (.iastore, 1) := by decide +kernel
theorem dX12_readsLetter_151 : decode cX12_readsLetter 151 = .ok (.aload_n 0, 1) := by decide +kernel
theorem dX12_readsLetter_152 : decode cX12_readsLetter 152 = .ok (.getfield 20, 3) := by decide +kernel
theorem dX12_readsLetter_155 : decode cX12_readsLetter 155 = .ok (.iload_n 1, 1) := by decide +kernel
theorem dX12_readsLetter_156 : decode cX12_readsLetter 156 = .ok (.aload_n 0, 1) := by decide +kernel
theorem dX12_readsLetter_157 : decode cX12_readsLetter 157 = .ok (.getfield 289, 3) := by decide +kernel
theorem dX12_readsLetter_160 : decode cX12_readsLetter 160 = .ok (.lastore, 1) := by decide +kernel
theorem dX12_readsLetter_161 : decode cX12_readsLetter 161 = .ok (.aload_n 0, 1) := by decide +kernel
theorem dX12_readsLetter_162 : decode cX12_readsLetter 162 = .ok (.getfield 13, 3) := by decide +kernel
theorem dX12_readsLetter_165 : decode cX12_readsLetter 165 = .ok (.iconst 4, 1) := by decide +kernel
theorem dX12_readsLetter_166 : decode cX12_readsLetter 166 = .ok (.dup2, 1) := by decide +kernel
theorem dX12_readsLetter_167 : decode cX12_readsLetter 167 = .ok (.iaload, 1) := by decide +kernel
theorem dX12_readsLetter_168 : decode cX12_readsLetter 168 = .ok (.iconst 1, 1) := by decide +kernel
theorem dX12_readsLetter_169 : decode cX12_readsLetter 169 = .ok (.iadd, 1) := by decide +kernel
theorem dX12_readsLetter_170 : decode cX12_readsLetter 170 = .ok (.iastore, 1) := by decide +kernel
theorem dX12_readsLetter_171 : decode cX12_readsLetter 171 = .ok (.aload_n 0, 1) := by decide +kernel
theorem dX12_readsLetter_172 : decode cX12_readsLetter 172 = .ok (.invokevirtual 299, 3) := by decide +kernel
theorem dX12_readsLetter_175 : decode cX12_readsLetter 175 = .ok (.ireturn, 1) := by decide +kernel
theorem dX12_readsRain_0 : decode cX12_readsRain 0 = .ok (.aload_n 0, 1) := by decide +kernel
theorem dX12_readsRain_1 : decode cX12_readsRain 1 = .ok (.getfield 13, 3) := by decide +kernel
theorem dX12_readsRain_4 : decode cX12_readsRain 4 = .ok (.iconst 5, 1) := by decide +kernel
theorem dX12_readsRain_5 : decode cX12_readsRain 5 = .ok (.iaload, 1) := by decide +kernel
theorem dX12_readsRain_6 : decode cX12_readsRain 6 = .ok (.ifCond .le 9, 3) := by decide +kernel
theorem dX12_readsRain_9 : decode cX12_readsRain 9 = .ok (.aload_n 0, 1) := by decide +kernel
theorem dX12_readsRain_10 : decode cX12_readsRain 10 = .ok (.iconst 3, 1) := by decide +kernel
theorem dX12_readsRain_11 : decode cX12_readsRain 11 = .ok (.invokevirtual 211, 3) := by decide +kernel
theorem dX12_readsRain_14 : decode cX12_readsRain 14 = .ok (.ireturn, 1) := by decide +kernel
theorem dX12_readsRain_15 : decode cX12_readsRain 15 = .ok (.aload_n 0, 1) := by decide +kernel
theorem dX12_readsRain_16 : decode cX12_readsRain 16 = .ok (.invokevirtual 218, 3) := by decide +kernel
theorem dX12_readsRain_19 : decode cX12_readsRain 19 = .ok (.aload_n 0, 1) := by decide +kernel
theorem dX12_readsRain_20 : decode cX12_readsRain 20 = .ok (.getfield 13, 3) := by decide +kernel
theorem dX12_readsRain_23 : decode cX12_readsRain 23 = .ok (.iconst 5, 1) := by decide +kernel
theorem dX12_readsRain_24 : decode cX12_readsRain 24 = .ok (.iaload, 1) := by decide +kernel
theorem dX12_readsRain_25 : decode cX12_readsRain 25 = .ok (.ifCond .eq 11, 3) := by decide +kernel
theorem dX12_readsRain_28 : decode cX12_readsRain 28 = .ok (.aload_n 0, 1) := by decide +kernel
theorem dX12_readsRain_29 : decode cX12_readsRain 29 = .ok (.getfield 172, 3) := by decide +kernel
theorem dX12_readsRain_32 : decode cX12_readsRain 32 = .ok (.iconst 2, 1) := by decide +kernel
theorem dX12_readsRain_33 : decode cX12_readsRain 33 = .ok (.if_icmp .ne 84, 3) := by decide +kernel
theorem dX12_readsRain_36 : decode cX12_readsRain 36 = .ok (.aload_n 0, 1) := by decide +kernel
theorem dX12_readsRain_37 : decode cX12_readsRain 37 = .ok (.getfield 172, 3) := by decide +kernel
theorem dX12_readsRain_40 : decode cX12_readsRain 40 = .ok (.iconst 2, 1) := by decide +kernel
theorem dX12_readsRain_41 : decode cX12_readsRain 41 = .ok (.if_icmp .eq 9, 3) := by decide +kernel
theorem dX12_readsRain_44 : decode cX12_readsRain 44 = .ok (.aload_n 0, 1) := by decide +kernel
theorem dX12_readsRain_45 : decode cX12_readsRain 45 = .ok (.iconst 1, 1) := by decide +kernel
theorem dX12_readsRain_46 : decode cX12_readsRain 46 = .ok (.invokevirtual 211, 3) := by decide +kernel
theorem dX12_readsRain_49 : decode cX12_readsRain 49 = .ok (.ireturn, 1) := by decide +kernel
theorem dX12_readsRain_50 : decode cX12_readsRain 50 = .ok (.aload_n 0, 1) := by decide +kernel
theorem dX12_readsRain_51 : decode cX12_readsRain 51 = .ok (.getfield 169, 3) := by decide +kernel
theorem dX12_readsRain_54 : decode cX12_readsRain 54 = .ok (.bipush 9, 2) := by decide +kernel
theorem dX12_readsRain_56 : decode cX12_readsRain 56 = .ok (.if_icmp .le 9, 3) := by decide +kernel
theorem dX12_readsRain_59 : decode cX12_readsRain 59 = .ok (.aload_n 0, 1) := by decide +kernel
theorem dX12_readsRain_60 : decode cX12_readsRain 60 = .ok (.iconst 4, 1) := by decide +kernel
theorem dX12_readsRain_61 : decode cX12_readsRain 61 = .ok (.invokevirtual 211, 3) := by decide +kernel
theorem dX12_readsRain_64 : decode cX12_readsRain 64 = .ok (.ireturn, 1) := by decide +kernel
theorem dX12_readsRain_65 : decode cX12_readsRain 65 = .ok (.aload_n 0, 1) := by decide +kernel
theorem dX12_readsRain_66 : decode cX12_readsRain 66 = .ok (.getfield 13, 3) := by decide +kernel
theorem dX12_readsRain_69 : decode cX12_readsRain 69 = .ok (.iconst 5, 1) := by decide +kernel
theorem dX12_readsRain_70 : decode cX12_readsRain 70 = .ok (.iaload, 1) := by decide +kernel
theorem dX12_readsRain_71 : decode cX12_readsRain 71 = .ok (.bipush 12, 2) := by decide +kernel
theorem dX12_readsRain_73 : decode cX12_readsRain 73 = .ok (.if_icmp .ne 9, 3) := by decide +kernel
theorem dX12_readsRain_76 : decode cX12_readsRain 76 = .ok (.aload_n 0, 1) := by decide +kernel
theorem dX12_readsRain_77 : decode cX12_readsRain 77 = .ok (.iconst 5, 1) := by decide +kernel
theorem dX12_readsRain_78 : decode cX12_readsRain 78 = .ok (.invokevirtual 211, 3) := by decide +kernel
theorem dX12_readsRain_81 : decode cX12_readsRain 81 = .ok (.ireturn, 1) := by decide +kernel
theorem dX12_readsRain_82 : decode cX12_readsRain 82 = .ok (.aload_n 0, 1) := by decide +kernel
theorem dX12_readsRain_83 : decode cX12_readsRain 83 = .ok (.getfield 41, 3) := by decide +kernel
theorem dX12_readsRain_86 : decode cX12_readsRain 86 = .ok (.bipush 12, 2) := by decide +kernel
theorem dX12_readsRain_88 : decode cX12_readsRain 88 = .ok (.aload_n 0, 1) := by decide +kernel
theorem dX12_readsRain_89 : decode cX12_readsRain 89 = .ok (.getfield 13, 3) := by decide +kernel
theorem dX12_readsRain_92 : decode cX12_readsRain 92 = .ok (.iconst 5, 1) := by decide +kernel
theorem dX12_readsRain_93 : decode cX12_readsRain 93 = .ok (.iaload, 1) := by decide +kernel
theorem dX12_readsRain_94 : decode cX12_readsRain 94 = .ok (.iadd, 1) := by decide +kernel
theorem dX12_readsRain_95 : decode cX12_readsRain 95 = .ok (.aload_n 0, 1) := by decide +kernel
theorem dX12_readsRain_96 : decode cX12_readsRain 96 = .ok (.getfield 169, 3) := by decide +kernel
theorem dX12_readsRain_99 : decode cX12_readsRain 99 = .ok (.iastore, 1) := by decide +kernel
theorem dX12_readsRain_100 : decode cX12_readsRain 100 = .ok (.aload_n 0, 1) := by decide +kernel
theorem dX12_readsRain_101 : decode cX12_readsRain 101 = .ok (.getfield 13, 3) := by decide +kernel
theorem dX12_readsRain_104 : decode cX12_readsRain 104 = .ok (.iconst 5, 1) := by decide +kernel
theorem dX12_readsRain_105 : decode cX12_readsRain 105 = .ok (.dup2, 1) := by decide +kernel
theorem dX12_readsRain_106 : decode cX12_readsRain 106 = .ok (.iaload, 1) := by decide +kernel
theorem dX12_readsRain_107 : decode cX12_readsRain 107 = .ok (.iconst 1, 1) := by decide +kernel
theorem dX12_readsRain_108 : decode cX12_readsRain 108 = .ok (.iadd, 1) := by decide +kernel
theorem dX12_readsRain_109 : decode cX12_readsRain 109 = .ok (.iastore, 1) := by decide +kernel
theorem dX12_readsRain_110 : decode cX12_readsRain 110 = .ok (.aload_n 0, 1) := by decide +kernel
theorem dX12_readsRain_111 : decode cX12_readsRain 111 = .ok (.invokevirtual 218, 3) := by decide +kernel
theorem dX12_readsRain_114 : decode cX12_readsRain 114 = .ok (.goto (-95), 3) := by decide +kernel
theorem dX12_readsRain_117 : decode cX12_readsRain 117 = .ok (.aload_n 0, 1) := by decide +kernel
theorem dX12_readsRain_118 : decode cX12_readsRain 118 = .ok (.invokevirtual 299, 3) := by decide +kernel
theorem dX12_readsRain_121 : decode cX12_readsRain 121 = .ok (.ireturn, 1) := by decide +kernel
theorem dX12_readsSounds_0 : decode cX12_readsSounds 0 = .ok (.aload_n 0, 1) := by decide +kernel
theorem dX12_readsSounds_1 : decode cX12_readsSounds 1 = .ok (.getfield 47, 3) := by decide +kernel
theorem dX12_readsSounds_4 : decode cX12_readsSounds 4 = .ok (.iconst 1, 1) := by decide +kernel
theorem dX12_readsSounds_5 : decode cX12_readsSounds 5 = .ok (.iaload, 1) := by decide +kernel
theorem dX12_readsSounds_6 : decode cX12_readsSounds 6 = .ok (.aload_n 0, 1) := by decide +kernel
theorem dX12_readsSounds_7 : decode cX12_readsSounds 7 = .ok (.getfield 44, 3) := by decide +kernel
theorem dX12_readsSounds_10 : decode cX12_readsSounds 10 = .ok (.iconst 1, 1) := by decide +kernel
theorem dX12_readsSounds_11 : decode cX12_readsSounds 11 = .ok (.iaload, 1) := by decide +kernel
theorem dX12_readsSounds_12 : decode cX12_readsSounds 12 = .ok (.if_icmp .le 9, 3) := by decide +kernel
theorem dX12_readsSounds_15 : decode cX12_readsSounds 15 = .ok (.aload_n 0, 1) := by decide +kernel
theorem dX12_readsSounds_16 : decode cX12_readsSounds 16 = .ok (.iconst 3, 1) := by decide +kernel
theorem dX12_readsSounds_17 : decode cX12_readsSounds 17 = .ok (.invokevirtual 211, 3) := by decide +kernel
theorem dX12_readsSounds_20 : decode cX12_readsSounds 20 = .ok (.ireturn, 1) := by decide +kernel
theorem dX12_readsSounds_21 : decode cX12_readsSounds 21 = .ok (.aload_n 0, 1) := by decide +kernel
theorem dX12_readsSounds_22 : decode cX12_readsSounds 22 = .ok (.invokevirtual 218, 3) := by decide +kernel
theorem dX12_readsSounds_25 : decode cX12_readsSounds 25 = .ok (.aload_n 0, 1) := by decide +kernel
theorem dX12_readsSounds_26 : decode cX12_readsSounds 26 = .ok (.getfield 44, 3) := by decide +kernel
theorem dX12_readsSounds_29 : decode cX12_readsSounds 29 = .ok (.iconst 1, 1) := by decide +kernel
theorem dX12_readsSounds_30 : decode cX12_readsSounds 30 = .ok (.aload_n 0, 1) := by decide +kernel
theorem dX12_readsSounds_31 : decode cX12_readsSounds 31 = .ok (.getfield 186, 3) := by decide +kernel
theorem dX12_readsSounds_34 : decode cX12_readsSounds 34 = .ok (.iastore, 1) := by decide +kernel
theorem dX12_readsSounds_35 : decode cX12_readsSounds 35 = .ok (.aload_n 0, 1) := by decide +kernel
theorem dX12_readsSounds_36 : decode cX12_readsSounds 36 = .ok (.invokevirtual 305, 3) := by decide +kernel
theorem dX12_readsSounds_39 : decode cX12_readsSounds 39 = .ok (.ifCond .ne 5, 3) := by decide +kernel
theorem dX12_readsSounds_42 : decode cX12_readsSounds 42 = .ok (.iconst 0, 1) := by decide +kernel
theorem dX12_readsSounds_43 : decode cX12_readsSounds 43 = .ok (.ireturn, 1) := by decide +kernel
theorem dX12_readsSounds_44 : decode cX12_readsSounds 44 = .ok (.aload_n 0, 1) := by decide +kernel
theorem dX12_readsSounds_45 : decode cX12_readsSounds 45 = .ok (.getfield 47, 3) := by decide +kernel
theorem dX12_readsSounds_48 : decode cX12_readsSounds 48 = .ok (.iconst 1, 1) := by decide +kernel
theorem dX12_readsSounds_49 : decode cX12_readsSounds 49 = .ok (.aload_n 0, 1) := by decide +kernel
theorem dX12_readsSounds_50 : decode cX12_readsSounds 50 = .ok (.getfield 186, 3) := by decide +kernel
theorem dX12_readsSounds_53 : decode cX12_readsSounds 53 = .ok (.iastore, 1) := by decide +kernel
theorem dX12_readsSounds_54 : decode cX12_readsSounds 54 = .ok (.iconst 1, 1) := by decide +kernel
theorem dX12_readsSounds_55 : decode cX12_readsSounds 55 = .ok (.ireturn, 1) := by decide +kernel
theorem dX12_begins_0 : decode cX12_begins 0 = .ok (.aload_n 0, 1) := by decide +kernel
theorem dX12_begins_1 : decode cX12_begins 1 = .ok (.aload_n 0, 1) := by decide +kernel
theorem dX12_begins_2 : decode cX12_begins 2 = .ok (.getfield 153, 3) := by decide +kernel
theorem dX12_begins_5 : decode cX12_begins 5 = .ok (.putfield 156, 3) := by decide +kernel
theorem dX12_begins_8 : decode cX12_begins 8 = .ok (.aload_n 0, 1) := by decide +kernel
theorem dX12_begins_9 : decode cX12_begins 9 = .ok (.iconst 0, 1) := by decide +kernel
theorem dX12_begins_10 : decode cX12_begins 10 = .ok (.putfield 153, 3) := by decide +kernel
theorem dX12_begins_13 : decode cX12_begins 13 = .ok (.aload_n 0, 1) := by decide +kernel
theorem dX12_begins_14 : decode cX12_begins 14 = .ok (.iconst 0, 1) := by decide +kernel
theorem dX12_begins_15 : decode cX12_begins 15 = .ok (.putfield 159, 3) := by decide +kernel
theorem dX12_begins_18 : decode cX12_begins 18 = .ok (.aload_n 0, 1) := by decide +kernel
theorem dX12_begins_19 : decode cX12_begins 19 = .ok (.invokevirtual 218, 3) := by decide +kernel
theorem dX12_begins_22 : decode cX12_begins 22 = .ok (.return_, 1) := by decide +kernel
theorem dX12_readsAll_0 : decode cX12_readsAll 0 = .ok (.iconst 0, 1) := by decide +kernel
theorem dX12_readsAll_1 : decode cX12_readsAll 1 = .ok (.istore_n 1, 1) := by decide +kernel
theorem dX12_readsAll_2 : decode cX12_readsAll 2 = .ok (.iload_n 1, 1) := by decide +kernel
theorem dX12_readsAll_3 : decode cX12_readsAll 3 = .ok (.iconst 3, 1) := by decide +kernel
theorem dX12_readsAll_4 : decode cX12_readsAll 4 = .ok (.if_icmp .ge 18, 3) := by decide +kernel
theorem dX12_readsAll_7 : decode cX12_readsAll 7 = .ok (.aload_n 0, 1) := by decide +kernel
theorem dX12_readsAll_8 : decode cX12_readsAll 8 = .ok (.getfield 13, 3) := by decide +kernel
theorem dX12_readsAll_11 : decode cX12_readsAll 11 = .ok (.iconst 3, 1) := by decide +kernel
theorem dX12_readsAll_12 : decode cX12_readsAll 12 = .ok (.iload_n 1, 1) := by decide +kernel
theorem dX12_readsAll_13 : decode cX12_readsAll 13 = .ok (.iadd, 1) := by decide +kernel
theorem dX12_readsAll_14 : decode cX12_readsAll 14 = .ok (.iconst 0, 1) := by decide +kernel
theorem dX12_readsAll_15 : decode cX12_readsAll 15 = .ok (.iastore, 1) := by decide +kernel
theorem dX12_readsAll_16 : decode cX12_readsAll 16 = .ok (.iinc 1 1, 3) := by decide +kernel
theorem dX12_readsAll_19 : decode cX12_readsAll 19 = .ok (.goto (-17), 3) := by decide +kernel
theorem dX12_readsAll_22 : decode cX12_readsAll 22 = .ok (.aload_n 0, 1) := by decide +kernel
theorem dX12_readsAll_23 : decode cX12_readsAll 23 = .ok (.getfield 44, 3) := by decide +kernel
theorem dX12_readsAll_26 : decode cX12_readsAll 26 = .ok (.iconst 1, 1) := by decide +kernel
theorem dX12_readsAll_27 : decode cX12_readsAll 27 = .ok (.sipush 1000, 3) := by decide +kernel
theorem dX12_readsAll_30 : decode cX12_readsAll 30 = .ok (.iastore, 1) := by decide +kernel
theorem dX12_readsAll_31 : decode cX12_readsAll 31 = .ok (.aload_n 0, 1) := by decide +kernel
theorem dX12_readsAll_32 : decode cX12_readsAll 32 = .ok (.getfield 47, 3) := by decide +kernel
theorem dX12_readsAll_35 : decode cX12_readsAll 35 = .ok (.iconst 1, 1) := by decide +kernel
theorem dX12_readsAll_36 : decode cX12_readsAll 36 = .ok (.sipush 1000, 3) := by decide +kernel
theorem dX12_readsAll_39 : decode cX12_readsAll 39 = .ok (.iastore, 1) := by decide +kernel
theorem dX12_readsAll_40 : decode cX12_readsAll 40 = .ok (.aload_n 0, 1) := by decide +kernel
theorem dX12_readsAll_41 : decode cX12_readsAll 41 = .ok (.sipush 1000, 3) := by decide +kernel
theorem dX12_readsAll_44 : decode cX12_readsAll 44 = .ok (.putfield 186, 3) := by decide +kernel
theorem dX12_readsAll_47 : decode cX12_readsAll 47 = .ok (.aload_n 0, 1) := by decide +kernel
theorem dX12_readsAll_48 : decode cX12_readsAll 48 = .ok (.invokevirtual 308, 3) := by decide +kernel
theorem dX12_readsAll_51 : decode cX12_readsAll 51 = .ok (.aload_n 0, 1) := by decide +kernel
theorem dX12_readsAll_52 : decode cX12_readsAll 52 = .ok (.getfield 172, 3) := by decide +kernel
theorem dX12_readsAll_55 : decode cX12_readsAll 55 = .ok (.ifCond .eq 103, 3) := by decide +kernel
theorem dX12_readsAll_58 : decode cX12_readsAll 58 = .ok (.aload_n 0, 1) := by decide +kernel
theorem dX12_readsAll_59 : decode cX12_readsAll 59 = .ok (.ldc2_w 234, 3) := by decide +kernel
theorem dX12_readsAll_62 : decode cX12_readsAll 62 = .ok (.invokevirtual 203, 3) := by decide +kernel
theorem dX12_readsAll_65 : decode cX12_readsAll 65 = .ok (.ifCond .eq 10, 3) := by decide +kernel
theorem dX12_readsAll_68 : decode cX12_readsAll 68 = .ok (.aload_n 0, 1) := by decide +kernel
theorem dX12_readsAll_69 : decode cX12_readsAll 69 = .ok (.invokevirtual 311, 3) := by decide +kernel
theorem dX12_readsAll_72 : decode cX12_readsAll 72 = .ok (.goto 76, 3) := by decide +kernel
theorem dX12_readsAll_75 : decode cX12_readsAll 75 = .ok (.aload_n 0, 1) := by decide +kernel
theorem dX12_readsAll_76 : decode cX12_readsAll 76 = .ok (.ldc2_w 242, 3) := by decide +kernel
theorem dX12_readsAll_79 : decode cX12_readsAll 79 = .ok (.invokevirtual 203, 3) := by decide +kernel
theorem dX12_readsAll_82 : decode cX12_readsAll 82 = .ok (.ifCond .eq 10, 3) := by decide +kernel
theorem dX12_readsAll_85 : decode cX12_readsAll 85 = .ok (.aload_n 0, 1) := by decide +kernel
theorem dX12_readsAll_86 : decode cX12_readsAll 86 = .ok (.invokevirtual 314, 3) := by decide +kernel
theorem dX12_readsAll_89 : decode cX12_readsAll 89 = .ok (.goto 59, 3) := by decide +kernel
theorem dX12_readsAll_92 : decode cX12_readsAll 92 = .ok (.aload_n 0, 1) := by decide +kernel
theorem dX12_readsAll_93 : decode cX12_readsAll 93 = .ok (.ldc2_w 244, 3) := by decide +kernel
theorem dX12_readsAll_96 : decode cX12_readsAll 96 = .ok (.invokevirtual 203, 3) := by decide +kernel
theorem dX12_readsAll_99 : decode cX12_readsAll 99 = .ok (.ifCond .eq 10, 3) := by decide +kernel
theorem dX12_readsAll_102 : decode cX12_readsAll 102 = .ok (.aload_n 0, 1) := by decide +kernel
theorem dX12_readsAll_103 : decode cX12_readsAll 103 = .ok (.invokevirtual 317, 3) := by decide +kernel
theorem dX12_readsAll_106 : decode cX12_readsAll 106 = .ok (.goto 42, 3) := by decide +kernel
theorem dX12_readsAll_109 : decode cX12_readsAll 109 = .ok (.aload_n 0, 1) := by decide +kernel
theorem dX12_readsAll_110 : decode cX12_readsAll 110 = .ok (.ldc2_w 248, 3) := by decide +kernel
theorem dX12_readsAll_113 : decode cX12_readsAll 113 = .ok (.invokevirtual 203, 3) := by decide +kernel
theorem dX12_readsAll_116 : decode cX12_readsAll 116 = .ok (.ifCond .eq 10, 3) := by decide +kernel
theorem dX12_readsAll_119 : decode cX12_readsAll 119 = .ok (.aload_n 0, 1) := by decide +kernel
theorem dX12_readsAll_120 : decode cX12_readsAll 120 = .ok (.invokevirtual 320, 3) := by decide +kernel
theorem dX12_readsAll_123 : decode cX12_readsAll 123 = .ok (.goto 25, 3) := by decide +kernel
theorem dX12_readsAll_126 : decode cX12_readsAll 126 = .ok (.aload_n 0, 1) := by decide +kernel
theorem dX12_readsAll_127 : decode cX12_readsAll 127 = .ok (.ldc2_w 250, 3) := by decide +kernel
theorem dX12_readsAll_130 : decode cX12_readsAll 130 = .ok (.invokevirtual 203, 3) := by decide +kernel
theorem dX12_readsAll_133 : decode cX12_readsAll 133 = .ok (.ifCond .eq 10, 3) := by decide +kernel
theorem dX12_readsAll_136 : decode cX12_readsAll 136 = .ok (.aload_n 0, 1) := by decide +kernel
theorem dX12_readsAll_137 : decode cX12_readsAll 137 = .ok (.invokevirtual 323, 3) := by decide +kernel
theorem dX12_readsAll_140 : decode cX12_readsAll 140 = .ok (.goto 8, 3) := by decide +kernel
theorem dX12_readsAll_143 : decode cX12_readsAll 143 = .ok (.aload_n 0, 1) := by decide +kernel
theorem dX12_readsAll_144 : decode cX12_readsAll 144 = .ok (.iconst 1, 1) := by decide +kernel
theorem dX12_readsAll_145 : decode cX12_readsAll 145 = .ok (.invokevirtual 211, 3) := by decide +kernel
theorem dX12_readsAll_148 : decode cX12_readsAll 148 = .ok (.istore_n 1, 1) := by decide +kernel
theorem dX12_readsAll_149 : decode cX12_readsAll 149 = .ok (.iload_n 1, 1) := by decide +kernel
theorem dX12_readsAll_150 : decode cX12_readsAll 150 = .ok (.ifCond .ne 5, 3) := by decide +kernel
theorem dX12_readsAll_153 : decode cX12_readsAll 153 = .ok (.iconst 0, 1) := by decide +kernel
theorem dX12_readsAll_154 : decode cX12_readsAll 154 = .ok (.ireturn, 1) := by decide +kernel
theorem dX12_readsAll_155 : decode cX12_readsAll 155 = .ok (.goto (-104), 3) := by decide +kernel
theorem dX12_readsAll_158 : decode cX12_readsAll 158 = .ok (.iconst 1, 1) := by decide +kernel
theorem dX12_readsAll_159 : decode cX12_readsAll 159 = .ok (.ireturn, 1) := by decide +kernel
theorem dX12_shifts_0 : decode cX12_shifts 0 = .ok (.iconst 0, 1) := by decide +kernel
theorem dX12_shifts_1 : decode cX12_shifts 1 = .ok (.istore_n 2, 1) := by decide +kernel
theorem dX12_shifts_2 : decode cX12_shifts 2 = .ok (.iload_n 2, 1) := by decide +kernel
theorem dX12_shifts_3 : decode cX12_shifts 3 = .ok (.iload_n 1, 1) := by decide +kernel
theorem dX12_shifts_4 : decode cX12_shifts 4 = .ok (.if_icmp .ge 17, 3) := by decide +kernel
theorem dX12_shifts_7 : decode cX12_shifts 7 = .ok (.aload_n 0, 1) := by decide +kernel
theorem dX12_shifts_8 : decode cX12_shifts 8 = .ok (.iload_n 2, 1) := by decide +kernel
theorem dX12_shifts_9 : decode cX12_shifts 9 = .ok (.aload_n 0, 1) := by decide +kernel
theorem dX12_shifts_10 : decode cX12_shifts 10 = .ok (.iload_n 1, 1) := by decide +kernel
theorem dX12_shifts_11 : decode cX12_shifts 11 = .ok (.iload_n 2, 1) := by decide +kernel
theorem dX12_shifts_12 : decode cX12_shifts 12 = .ok (.iadd, 1) := by decide +kernel
theorem dX12_shifts_13 : decode cX12_shifts 13 = .ok (.iaload, 1) := by decide +kernel
theorem dX12_shifts_14 : decode cX12_shifts 14 = .ok (.iastore, 1) := by decide +kernel
theorem dX12_shifts_15 : decode cX12_shifts 15 = .ok (.iinc 2 1, 3) := by decide +kernel
theorem dX12_shifts_18 : decode cX12_shifts 18 = .ok (.goto (-16), 3) := by decide +kernel
theorem dX12_shifts_21 : decode cX12_shifts 21 = .ok (.return_, 1) := by decide +kernel
theorem dX12_shiftsNames_0 : decode cX12_shiftsNames 0 = .ok (.iconst 0, 1) := by decide +kernel
theorem dX12_shiftsNames_1 : decode cX12_shiftsNames 1 = .ok (.istore_n 2, 1) := by decide +kernel
theorem dX12_shiftsNames_2 : decode cX12_shiftsNames 2 = .ok (.iload_n 2, 1) := by decide +kernel
theorem dX12_shiftsNames_3 : decode cX12_shiftsNames 3 = .ok (.iload_n 1, 1) := by decide +kernel
theorem dX12_shiftsNames_4 : decode cX12_shiftsNames 4 = .ok (.if_icmp .ge 17, 3) := by decide +kernel
theorem dX12_shiftsNames_7 : decode cX12_shiftsNames 7 = .ok (.aload_n 0, 1) := by decide +kernel
theorem dX12_shiftsNames_8 : decode cX12_shiftsNames 8 = .ok (.iload_n 2, 1) := by decide +kernel
theorem dX12_shiftsNames_9 : decode cX12_shiftsNames 9 = .ok (.aload_n 0, 1) := by decide +kernel
theorem dX12_shiftsNames_10 : decode cX12_shiftsNames 10 = .ok (.iload_n 1, 1) := by decide +kernel
theorem dX12_shiftsNames_11 : decode cX12_shiftsNames 11 = .ok (.iload_n 2, 1) := by decide +kernel
theorem dX12_shiftsNames_12 : decode cX12_shiftsNames 12 = .ok (.iadd, 1) := by decide +kernel
theorem dX12_shiftsNames_13 : decode cX12_shiftsNames 13 = .ok (.laload, 1) := by decide +kernel
theorem dX12_shiftsNames_14 : decode cX12_shiftsNames 14 = .ok (.lastore, 1) := by decide +kernel
theorem dX12_shiftsNames_15 : decode cX12_shiftsNames 15 = .ok (.iinc 2 1, 3) := by decide +kernel
theorem dX12_shiftsNames_18 : decode cX12_shiftsNames 18 = .ok (.goto (-16), 3) := by decide +kernel
theorem dX12_shiftsNames_21 : decode cX12_shiftsNames 21 = .ok (.return_, 1) := by decide +kernel
theorem dX12_lays_0 : decode cX12_lays 0 = .ok (.aload_n 0, 1) := by decide +kernel
theorem dX12_lays_1 : decode cX12_lays 1 = .ok (.getfield 13, 3) := by decide +kernel
theorem dX12_lays_4 : decode cX12_lays 4 = .ok (.iconst 3, 1) := by decide +kernel
theorem dX12_lays_5 : decode cX12_lays 5 = .ok (.invokestatic 326, 3) := by decide +kernel
theorem dX12_lays_8 : decode cX12_lays 8 = .ok (.aload_n 0, 1) := by decide +kernel
theorem dX12_lays_9 : decode cX12_lays 9 = .ok (.getfield 16, 3) := by decide +kernel
theorem dX12_lays_12 : decode cX12_lays 12 = .ok (.bipush 7, 2) := by decide +kernel
theorem dX12_lays_14 : decode cX12_lays 14 = .ok (.invokestatic 330, 3) := by decide +kernel
theorem dX12_lays_17 : decode cX12_lays 17 = .ok (.aload_n 0, 1) := by decide +kernel
theorem dX12_lays_18 : decode cX12_lays 18 = .ok (.getfield 20, 3) := by decide +kernel
theorem dX12_lays_21 : decode cX12_lays 21 = .ok (.bipush 6, 2) := by decide +kernel
theorem dX12_lays_23 : decode cX12_lays 23 = .ok (.invokestatic 330, 3) := by decide +kernel
theorem dX12_lays_26 : decode cX12_lays 26 = .ok (.aload_n 0, 1) := by decide +kernel
theorem dX12_lays_27 : decode cX12_lays 27 = .ok (.getfield 23, 3) := by decide +kernel
theorem dX12_lays_30 : decode cX12_lays 30 = .ok (.bipush 7, 2) := by decide +kernel
theorem dX12_lays_32 : decode cX12_lays 32 = .ok (.invokestatic 326, 3) := by decide +kernel
theorem dX12_lays_35 : decode cX12_lays 35 = .ok (.aload_n 0, 1) := by decide +kernel
theorem dX12_lays_36 : decode cX12_lays 36 = .ok (.getfield 26, 3) := by decide +kernel
theorem dX12_lays_39 : decode cX12_lays 39 = .ok (.bipush 7, 2) := by decide +kernel
theorem dX12_lays_41 : decode cX12_lays 41 = .ok (.invokestatic 326, 3) := by decide +kernel
theorem dX12_lays_44 : decode cX12_lays 44 = .ok (.aload_n 0, 1) := by decide +kernel
theorem dX12_lays_45 : decode cX12_lays 45 = .ok (.getfield 29, 3) := by decide +kernel
theorem dX12_lays_48 : decode cX12_lays 48 = .ok (.bipush 7, 2) := by decide +kernel
theorem dX12_lays_50 : decode cX12_lays 50 = .ok (.invokestatic 326, 3) := by decide +kernel
theorem dX12_lays_53 : decode cX12_lays 53 = .ok (.aload_n 0, 1) := by decide +kernel
theorem dX12_lays_54 : decode cX12_lays 54 = .ok (.getfield 32, 3) := by decide +kernel
theorem dX12_lays_57 : decode cX12_lays 57 = .ok (.bipush 7, 2) := by decide +kernel
theorem dX12_lays_59 : decode cX12_lays 59 = .ok (.invokestatic 326, 3) := by decide +kernel
theorem dX12_lays_62 : decode cX12_lays 62 = .ok (.aload_n 0, 1) := by decide +kernel
theorem dX12_lays_63 : decode cX12_lays 63 = .ok (.getfield 35, 3) := by decide +kernel
theorem dX12_lays_66 : decode cX12_lays 66 = .ok (.bipush 7, 2) := by decide +kernel
theorem dX12_lays_68 : decode cX12_lays 68 = .ok (.invokestatic 326, 3) := by decide +kernel
theorem dX12_lays_71 : decode cX12_lays 71 = .ok (.aload_n 0, 1) := by decide +kernel
theorem dX12_lays_72 : decode cX12_lays 72 = .ok (.getfield 38, 3) := by decide +kernel
theorem dX12_lays_75 : decode cX12_lays 75 = .ok (.bipush 6, 2) := by decide +kernel
theorem dX12_lays_77 : decode cX12_lays 77 = .ok (.invokestatic 326, 3) := by decide +kernel
theorem dX12_lays_80 : decode cX12_lays 80 = .ok (.aload_n 0, 1) := by decide +kernel
theorem dX12_lays_81 : decode cX12_lays 81 = .ok (.getfield 41, 3) := by decide +kernel
theorem dX12_lays_84 : decode cX12_lays 84 = .ok (.bipush 12, 2) := by decide +kernel
theorem dX12_lays_86 : decode cX12_lays 86 = .ok (.invokestatic 326, 3) := by decide +kernel
theorem dX12_lays_89 : decode cX12_lays 89 = .ok (.aload_n 0, 1) := by decide +kernel
theorem dX12_lays_90 : decode cX12_lays 90 = .ok (.getfield 50, 3) := by decide +kernel
theorem dX12_lays_93 : decode cX12_lays 93 = .ok (.sipush 1000, 3) := by decide +kernel
theorem dX12_lays_96 : decode cX12_lays 96 = .ok (.invokestatic 326, 3) := by decide +kernel
theorem dX12_lays_99 : decode cX12_lays 99 = .ok (.aload_n 0, 1) := by decide +kernel
theorem dX12_lays_100 : decode cX12_lays 100 = .ok (.getfield 44, 3) := by decide +kernel
theorem dX12_lays_103 : decode cX12_lays 103 = .ok (.iconst 0, 1) := by decide +kernel
theorem dX12_lays_104 : decode cX12_lays 104 = .ok (.aload_n 0, 1) := by decide +kernel
theorem dX12_lays_105 : decode cX12_lays 105 = .ok (.getfield 44, 3) := by decide +kernel
theorem dX12_lays_108 : decode cX12_lays 108 = .ok (.iconst 1, 1) := by decide +kernel
theorem dX12_lays_109 : decode cX12_lays 109 = .ok (.iaload, 1) := by decide +kernel
theorem dX12_lays_110 : decode cX12_lays 110 = .ok (.sipush 1000, 3) := by decide +kernel
theorem dX12_lays_113 : decode cX12_lays 113 = .ok (.isub, 1) := by decide +kernel
theorem dX12_lays_114 : decode cX12_lays 114 = .ok (.iastore, 1) := by decide +kernel
theorem dX12_lays_115 : decode cX12_lays 115 = .ok (.aload_n 0, 1) := by decide +kernel
theorem dX12_lays_116 : decode cX12_lays 116 = .ok (.getfield 47, 3) := by decide +kernel
theorem dX12_lays_119 : decode cX12_lays 119 = .ok (.iconst 0, 1) := by decide +kernel
theorem dX12_lays_120 : decode cX12_lays 120 = .ok (.aload_n 0, 1) := by decide +kernel
theorem dX12_lays_121 : decode cX12_lays 121 = .ok (.getfield 47, 3) := by decide +kernel
theorem dX12_lays_124 : decode cX12_lays 124 = .ok (.iconst 1, 1) := by decide +kernel
theorem dX12_lays_125 : decode cX12_lays 125 = .ok (.iaload, 1) := by decide +kernel
theorem dX12_lays_126 : decode cX12_lays 126 = .ok (.sipush 1000, 3) := by decide +kernel
theorem dX12_lays_129 : decode cX12_lays 129 = .ok (.isub, 1) := by decide +kernel
theorem dX12_lays_130 : decode cX12_lays 130 = .ok (.iastore, 1) := by decide +kernel
theorem dX12_lays_131 : decode cX12_lays 131 = .ok (.return_, 1) := by decide +kernel
theorem dX12_copies_0 : decode cX12_copies 0 = .ok (.iconst 0, 1) := by decide +kernel
theorem dX12_copies_1 : decode cX12_copies 1 = .ok (.istore 4, 2) := by decide +kernel
theorem dX12_copies_3 : decode cX12_copies 3 = .ok (.iload 4, 2) := by decide +kernel
theorem dX12_copies_5 : decode cX12_copies 5 = .ok (.bipush 59, 2) := by decide +kernel
theorem dX12_copies_7 : decode cX12_copies 7 = .ok (.if_icmp .ge 21, 3) := by decide +kernel
theorem dX12_copies_10 : decode cX12_copies 10 = .ok (.aload_n 2, 1) := by decide +kernel
theorem dX12_copies_11 : decode cX12_copies 11 = .ok (.iload_n 3, 1) := by decide +kernel
theorem dX12_copies_12 : decode cX12_copies 12 = .ok (.iload 4, 2) := by decide +kernel
theorem dX12_copies_14 : decode cX12_copies 14 = .ok (.iadd, 1) := by decide +kernel
theorem dX12_copies_15 : decode cX12_copies 15 = .ok (.aload_n 0, 1) := by decide +kernel
theorem dX12_copies_16 : decode cX12_copies 16 = .ok (.iload_n 1, 1) := by decide +kernel
theorem dX12_copies_17 : decode cX12_copies 17 = .ok (.iload 4, 2) := by decide +kernel
theorem dX12_copies_19 : decode cX12_copies 19 = .ok (.iadd, 1) := by decide +kernel
theorem dX12_copies_20 : decode cX12_copies 20 = .ok (.iaload, 1) := by decide +kernel
theorem dX12_copies_21 : decode cX12_copies 21 = .ok (.iastore, 1) := by decide +kernel
theorem dX12_copies_22 : decode cX12_copies 22 = .ok (.iinc 4 1, 3) := by decide +kernel
theorem dX12_copies_25 : decode cX12_copies 25 = .ok (.goto (-22), 3) := by decide +kernel
theorem dX12_copies_28 : decode cX12_copies 28 = .ok (.return_, 1) := by decide +kernel
theorem dX12_readsLine_0 : decode cX12_readsLine 0 = .ok (.aload_n 0, 1) := by decide +kernel
theorem dX12_readsLine_1 : decode cX12_readsLine 1 = .ok (.ldc2_w 252, 3) := by decide +kernel
theorem dX12_readsLine_4 : decode cX12_readsLine 4 = .ok (.invokevirtual 203, 3) := by decide +kernel
theorem dX12_readsLine_7 : decode cX12_readsLine 7 = .ok (.ifCond .eq 7, 3) := by decide +kernel
theorem dX12_readsLine_10 : decode cX12_readsLine 10 = .ok (.iconst 0, 1) := by decide +kernel
theorem dX12_readsLine_11 : decode cX12_readsLine 11 = .ok (.goto 46, 3) := by decide +kernel
theorem dX12_readsLine_14 : decode cX12_readsLine 14 = .ok (.aload_n 0, 1) := by decide +kernel
theorem dX12_readsLine_15 : decode cX12_readsLine 15 = .ok (.ldc2_w 254, 3) := by decide +kernel
theorem dX12_readsLine_18 : decode cX12_readsLine 18 = .ok (.invokevirtual 203, 3) := by decide +kernel
theorem dX12_readsLine_21 : decode cX12_readsLine 21 = .ok (.ifCond .eq 7, 3) := by decide +kernel
theorem dX12_readsLine_24 : decode cX12_readsLine 24 = .ok (.iconst 1, 1) := by decide +kernel
theorem dX12_readsLine_25 : decode cX12_readsLine 25 = .ok (.goto 32, 3) := by decide +kernel
theorem dX12_readsLine_28 : decode cX12_readsLine 28 = .ok (.aload_n 0, 1) := by decide +kernel
theorem dX12_readsLine_29 : decode cX12_readsLine 29 = .ok (.ldc2_w 256, 3) := by decide +kernel
theorem dX12_readsLine_32 : decode cX12_readsLine 32 = .ok (.invokevirtual 203, 3) := by decide +kernel
theorem dX12_readsLine_35 : decode cX12_readsLine 35 = .ok (.ifCond .eq 7, 3) := by decide +kernel
theorem dX12_readsLine_38 : decode cX12_readsLine 38 = .ok (.iconst 2, 1) := by decide +kernel
theorem dX12_readsLine_39 : decode cX12_readsLine 39 = .ok (.goto 18, 3) := by decide +kernel
theorem dX12_readsLine_42 : decode cX12_readsLine 42 = .ok (.aload_n 0, 1) := by decide +kernel
theorem dX12_readsLine_43 : decode cX12_readsLine 43 = .ok (.ldc2_w 258, 3) := by decide +kernel
theorem dX12_readsLine_46 : decode cX12_readsLine 46 = .ok (.invokevirtual 203, 3) := by decide +kernel
theorem dX12_readsLine_49 : decode cX12_readsLine 49 = .ok (.ifCond .eq 7, 3) := by decide +kernel
theorem dX12_readsLine_52 : decode cX12_readsLine 52 = .ok (.iconst 3, 1) := by decide +kernel
theorem dX12_readsLine_53 : decode cX12_readsLine 53 = .ok (.goto 4, 3) := by decide +kernel
theorem dX12_readsLine_56 : decode cX12_readsLine 56 = .ok (.iconst (-1), 1) := by decide +kernel
theorem dX12_readsLine_57 : decode cX12_readsLine 57 = .ok (.istore_n 1, 1) := by decide +kernel
theorem dX12_readsLine_58 : decode cX12_readsLine 58 = .ok (.iload_n 1, 1) := by decide +kernel
theorem dX12_readsLine_59 : decode cX12_readsLine 59 = .ok (.ifCond .ge 9, 3) := by decide +kernel
theorem dX12_readsLine_62 : decode cX12_readsLine 62 = .ok (.aload_n 0, 1) := by decide +kernel
theorem dX12_readsLine_63 : decode cX12_readsLine 63 = .ok (.iconst 1, 1) := by decide +kernel
theorem dX12_readsLine_64 : decode cX12_readsLine 64 = .ok (.invokevirtual 211, 3) := by decide +kernel
theorem dX12_readsLine_67 : decode cX12_readsLine 67 = .ok (.ireturn, 1) := by decide +kernel
theorem dX12_readsLine_68 : decode cX12_readsLine 68 = .ok (.aload_n 0, 1) := by decide +kernel
theorem dX12_readsLine_69 : decode cX12_readsLine 69 = .ok (.getfield 90, 3) := by decide +kernel
theorem dX12_readsLine_72 : decode cX12_readsLine 72 = .ok (.iconst 5, 1) := by decide +kernel
theorem dX12_readsLine_73 : decode cX12_readsLine 73 = .ok (.iaload, 1) := by decide +kernel
theorem dX12_readsLine_74 : decode cX12_readsLine 74 = .ok (.bipush 40, 2) := by decide +kernel
theorem dX12_readsLine_76 : decode cX12_readsLine 76 = .ok (.if_icmp .ne 9, 3) := by decide +kernel
theorem dX12_readsLine_79 : decode cX12_readsLine 79 = .ok (.aload_n 0, 1) := by decide +kernel
theorem dX12_readsLine_80 : decode cX12_readsLine 80 = .ok (.iconst 5, 1) := by decide +kernel
theorem dX12_readsLine_81 : decode cX12_readsLine 81 = .ok (.invokevirtual 211, 3) := by decide +kernel
theorem dX12_readsLine_84 : decode cX12_readsLine 84 = .ok (.ireturn, 1) := by decide +kernel
theorem dX12_readsLine_85 : decode cX12_readsLine 85 = .ok (.aload_n 0, 1) := by decide +kernel
theorem dX12_readsLine_86 : decode cX12_readsLine 86 = .ok (.invokevirtual 218, 3) := by decide +kernel
theorem dX12_readsLine_89 : decode cX12_readsLine 89 = .ok (.sipush 200, 3) := by decide +kernel
theorem dX12_readsLine_92 : decode cX12_readsLine 92 = .ok (.aload_n 0, 1) := by decide +kernel
theorem dX12_readsLine_93 : decode cX12_readsLine 93 = .ok (.getfield 90, 3) := by decide +kernel
theorem dX12_readsLine_96 : decode cX12_readsLine 96 = .ok (.iconst 5, 1) := by decide +kernel
theorem dX12_readsLine_97 : decode cX12_readsLine 97 = .ok (.iaload, 1) := by decide +kernel
theorem dX12_readsLine_98 : decode cX12_readsLine 98 = .ok (.iadd, 1) := by decide +kernel
theorem dX12_readsLine_99 : decode cX12_readsLine 99 = .ok (.istore_n 2, 1) := by decide +kernel
theorem dX12_readsLine_100 : decode cX12_readsLine 100 = .ok (.aload_n 0, 1) := by decide +kernel
theorem dX12_readsLine_101 : decode cX12_readsLine 101 = .ok (.getfield 93, 3) := by decide +kernel
theorem dX12_readsLine_104 : decode cX12_readsLine 104 = .ok (.iload_n 2, 1) := by decide +kernel
theorem dX12_readsLine_105 : decode cX12_readsLine 105 = .ok (.iload_n 1, 1) := by decide +kernel
theorem dX12_readsLine_106 : decode cX12_readsLine 106 = .ok (.iastore, 1) := by decide +kernel
theorem dX12_readsLine_107 : decode cX12_readsLine 107 = .ok (.iload_n 1, 1) := by decide +kernel
theorem dX12_readsLine_108 : decode cX12_readsLine 108 = .ok (.ifCond .eq 27, 3) := by decide +kernel
theorem dX12_readsLine_111 : decode cX12_readsLine 111 = .ok (.aload_n 0, 1) := by decide +kernel
theorem dX12_readsLine_112 : decode cX12_readsLine 112 = .ok (.iconst 0, 1) := by decide +kernel
theorem dX12_readsLine_113 : decode cX12_readsLine 113 = .ok (.invokevirtual 302, 3) := by decide +kernel
theorem dX12_readsLine_116 : decode cX12_readsLine 116 = .ok (.ifCond .ne 5, 3) := by decide +kernel
theorem dX12_readsLine_119 : decode cX12_readsLine 119 = .ok (.iconst 0, 1) := by decide +kernel
theorem dX12_readsLine_120 : decode cX12_readsLine 120 = .ok (.ireturn, 1) := by decide +kernel
theorem dX12_readsLine_121 : decode cX12_readsLine 121 = .ok (.aload_n 0, 1) := by decide +kernel
theorem dX12_readsLine_122 : decode cX12_readsLine 122 = .ok (.getfield 96, 3) := by decide +kernel
theorem dX12_readsLine_125 : decode cX12_readsLine 125 = .ok (.iload_n 2, 1) := by decide +kernel
theorem dX12_readsLine_126 : decode cX12_readsLine 126 = .ok (.aload_n 0, 1) := by decide +kernel
theorem dX12_readsLine_127 : decode cX12_readsLine 127 = .ok (.getfield 272, 3) := by decide +kernel
theorem dX12_readsLine_130 : decode cX12_readsLine 130 = .ok (.iastore, 1) := by decide +kernel
theorem dX12_readsLine_131 : decode cX12_readsLine 131 = .ok (.aload_n 0, 1) := by decide +kernel
theorem dX12_readsLine_132 : decode cX12_readsLine 132 = .ok (.invokevirtual 218, 3) := by decide +kernel
theorem dX12_readsLine_135 : decode cX12_readsLine 135 = .ok (.iload_n 1, 1) := by decide +kernel
theorem dX12_readsLine_136 : decode cX12_readsLine 136 = .ok (.iconst 1, 1) := by decide +kernel
theorem dX12_readsLine_137 : decode cX12_readsLine 137 = .ok (.if_icmp .ne 25, 3) := by decide +kernel
theorem dX12_readsLine_140 : decode cX12_readsLine 140 = .ok (.aload_n 0, 1) := by decide +kernel
theorem dX12_readsLine_141 : decode cX12_readsLine 141 = .ok (.iconst 1, 1) := by decide +kernel
theorem dX12_readsLine_142 : decode cX12_readsLine 142 = .ok (.bipush 20, 2) := by decide +kernel
theorem dX12_readsLine_144 : decode cX12_readsLine 144 = .ok (.invokevirtual 275, 3) := by decide +kernel
theorem dX12_readsLine_147 : decode cX12_readsLine 147 = .ok (.ifCond .ne 5, 3) := by decide +kernel
theorem dX12_readsLine_150 : decode cX12_readsLine 150 = .ok (.iconst 0, 1) := by decide +kernel
theorem dX12_readsLine_151 : decode cX12_readsLine 151 = .ok (.ireturn, 1) := by decide +kernel
theorem dX12_readsLine_152 : decode cX12_readsLine 152 = .ok (.aload_n 0, 1) := by decide +kernel
theorem dX12_readsLine_153 : decode cX12_readsLine 153 = .ok (.getfield 99, 3) := by decide +kernel
theorem dX12_readsLine_156 : decode cX12_readsLine 156 = .ok (.iload_n 2, 1) := by decide +kernel
theorem dX12_readsLine_157 : decode cX12_readsLine 157 = .ok (.aload_n 0, 1) := by decide +kernel
theorem dX12_readsLine_158 : decode cX12_readsLine 158 = .ok (.getfield 272, 3) := by decide +kernel
theorem dX12_readsLine_161 : decode cX12_readsLine 161 = .ok (.iastore, 1) := by decide +kernel
theorem dX12_readsLine_162 : decode cX12_readsLine 162 = .ok (.aload_n 0, 1) := by decide +kernel
theorem dX12_readsLine_163 : decode cX12_readsLine 163 = .ok (.getfield 90, 3) := by decide +kernel
theorem dX12_readsLine_166 : decode cX12_readsLine 166 = .ok (.iconst 5, 1) := by decide +kernel
theorem dX12_readsLine_167 : decode cX12_readsLine 167 = .ok (.dup2, 1) := by decide +kernel
theorem dX12_readsLine_168 : decode cX12_readsLine 168 = .ok (.iaload, 1) := by decide +kernel
theorem dX12_readsLine_169 : decode cX12_readsLine 169 = .ok (.iconst 1, 1) := by decide +kernel
theorem dX12_readsLine_170 : decode cX12_readsLine 170 = .ok (.iadd, 1) := by decide +kernel
theorem dX12_readsLine_171 : decode cX12_readsLine 171 = .ok (.iastore, 1) := by decide +kernel
theorem dX12_readsLine_172 : decode cX12_readsLine 172 = .ok (.aload_n 0, 1) := by decide +kernel
theorem dX12_readsLine_173 : decode cX12_readsLine 173 = .ok (.invokevirtual 299, 3) := by decide +kernel
theorem dX12_readsLine_176 : decode cX12_readsLine 176 = .ok (.ireturn, 1) := by decide +kernel
theorem dX12_laysLines_0 : decode cX12_laysLines 0 = .ok (.aload_n 0, 1) := by decide +kernel
theorem dX12_laysLines_1 : decode cX12_laysLines 1 = .ok (.getfield 90, 3) := by decide +kernel
theorem dX12_laysLines_4 : decode cX12_laysLines 4 = .ok (.iload_n 2, 1) := by decide +kernel
theorem dX12_laysLines_5 : decode cX12_laysLines 5 = .ok (.aload_n 0, 1) := by decide +kernel
theorem dX12_laysLines_6 : decode cX12_laysLines 6 = .ok (.getfield 90, 3) := by decide +kernel
theorem dX12_laysLines_9 : decode cX12_laysLines 9 = .ok (.iload_n 1, 1) := by decide +kernel
theorem dX12_laysLines_10 : decode cX12_laysLines 10 = .ok (.iaload, 1) := by decide +kernel
theorem dX12_laysLines_11 : decode cX12_laysLines 11 = .ok (.iastore, 1) := by decide +kernel
theorem dX12_laysLines_12 : decode cX12_laysLines 12 = .ok (.iconst 0, 1) := by decide +kernel
theorem dX12_laysLines_13 : decode cX12_laysLines 13 = .ok (.istore_n 3, 1) := by decide +kernel
theorem dX12_laysLines_14 : decode cX12_laysLines 14 = .ok (.iload_n 3, 1) := by decide +kernel
theorem dX12_laysLines_15 : decode cX12_laysLines 15 = .ok (.bipush 40, 2) := by decide +kernel
theorem dX12_laysLines_17 : decode cX12_laysLines 17 = .ok (.if_icmp .ge 75, 3) := by decide +kernel
theorem dX12_laysLines_20 : decode cX12_laysLines 20 = .ok (.aload_n 0, 1) := by decide +kernel
theorem dX12_laysLines_21 : decode cX12_laysLines 21 = .ok (.getfield 93, 3) := by decide +kernel
theorem dX12_laysLines_24 : decode cX12_laysLines 24 = .ok (.bipush 40, 2) := by decide +kernel
theorem dX12_laysLines_26 : decode cX12_laysLines 26 = .ok (.iload_n 2, 1) := by decide +kernel
theorem dX12_laysLines_27 : decode cX12_laysLines 27 = .ok (.imul, 1) := by decide +kernel
theorem dX12_laysLines_28 : decode cX12_laysLines 28 = .ok (.iload_n 3, 1) := by decide +kernel
theorem dX12_laysLines_29 : decode cX12_laysLines 29 = .ok (.iadd, 1) := by decide +kernel
theorem dX12_laysLines_30 : decode cX12_laysLines 30 = .ok (.aload_n 0, 1) := by decide +kernel
theorem dX12_laysLines_31 : decode cX12_laysLines 31 = .ok (.getfield 93, 3) := by decide +kernel
theorem dX12_laysLines_34 : decode cX12_laysLines 34 = .ok (.bipush 40, 2) := by decide +kernel
theorem dX12_laysLines_36 : decode cX12_laysLines 36 = .ok (.iload_n 1, 1) := by decide +kernel
theorem dX12_laysLines_37 : decode cX12_laysLines 37 = .ok (.imul, 1) := by decide +kernel
theorem dX12_laysLines_38 : decode cX12_laysLines 38 = .ok (.iload_n 3, 1) := by decide +kernel
theorem dX12_laysLines_39 : decode cX12_laysLines 39 = .ok (.iadd, 1) := by decide +kernel
theorem dX12_laysLines_40 : decode cX12_laysLines 40 = .ok (.iaload, 1) := by decide +kernel
theorem dX12_laysLines_41 : decode cX12_laysLines 41 = .ok (.iastore, 1) := by decide +kernel
theorem dX12_laysLines_42 : decode cX12_laysLines 42 = .ok (.aload_n 0, 1) := by decide +kernel
theorem dX12_laysLines_43 : decode cX12_laysLines 43 = .ok (.getfield 96, 3) := by decide +kernel
theorem dX12_laysLines_46 : decode cX12_laysLines 46 = .ok (.bipush 40, 2) := by decide +kernel
theorem dX12_laysLines_48 : decode cX12_laysLines 48 = .ok (.iload_n 2, 1) := by decide +kernel
theorem dX12_laysLines_49 : decode cX12_laysLines 49 = .ok (.imul, 1) := by decide +kernel
theorem dX12_laysLines_50 : decode cX12_laysLines 50 = .ok (.iload_n 3, 1) := by decide +kernel
theorem dX12_laysLines_51 : decode cX12_laysLines 51 = .ok (.iadd, 1) := by decide +kernel
theorem dX12_laysLines_52 : decode cX12_laysLines 52 = .ok (.aload_n 0, 1) := by decide +kernel
theorem dX12_laysLines_53 : decode cX12_laysLines 53 = .ok (.getfield 96, 3) := by decide +kernel
theorem dX12_laysLines_56 : decode cX12_laysLines 56 = .ok (.bipush 40, 2) := by decide +kernel
theorem dX12_laysLines_58 : decode cX12_laysLines 58 = .ok (.iload_n 1, 1) := by decide +kernel
theorem dX12_laysLines_59 : decode cX12_laysLines 59 = .ok (.imul, 1) := by decide +kernel
theorem dX12_laysLines_60 : decode cX12_laysLines 60 = .ok (.iload_n 3, 1) := by decide +kernel
theorem dX12_laysLines_61 : decode cX12_laysLines 61 = .ok (.iadd, 1) := by decide +kernel
theorem dX12_laysLines_62 : decode cX12_laysLines 62 = .ok (.iaload, 1) := by decide +kernel
theorem dX12_laysLines_63 : decode cX12_laysLines 63 = .ok (.iastore, 1) := by decide +kernel
theorem dX12_laysLines_64 : decode cX12_laysLines 64 = .ok (.aload_n 0, 1) := by decide +kernel
theorem dX12_laysLines_65 : decode cX12_laysLines 65 = .ok (.getfield 99, 3) := by decide +kernel
theorem dX12_laysLines_68 : decode cX12_laysLines 68 = .ok (.bipush 40, 2) := by decide +kernel
theorem dX12_laysLines_70 : decode cX12_laysLines 70 = .ok (.iload_n 2, 1) := by decide +kernel
theorem dX12_laysLines_71 : decode cX12_laysLines 71 = .ok (.imul, 1) := by decide +kernel
theorem dX12_laysLines_72 : decode cX12_laysLines 72 = .ok (.iload_n 3, 1) := by decide +kernel
theorem dX12_laysLines_73 : decode cX12_laysLines 73 = .ok (.iadd, 1) := by decide +kernel
theorem dX12_laysLines_74 : decode cX12_laysLines 74 = .ok (.aload_n 0, 1) := by decide +kernel
theorem dX12_laysLines_75 : decode cX12_laysLines 75 = .ok (.getfield 99, 3) := by decide +kernel
theorem dX12_laysLines_78 : decode cX12_laysLines 78 = .ok (.bipush 40, 2) := by decide +kernel
theorem dX12_laysLines_80 : decode cX12_laysLines 80 = .ok (.iload_n 1, 1) := by decide +kernel
theorem dX12_laysLines_81 : decode cX12_laysLines 81 = .ok (.imul, 1) := by decide +kernel
theorem dX12_laysLines_82 : decode cX12_laysLines 82 = .ok (.iload_n 3, 1) := by decide +kernel
theorem dX12_laysLines_83 : decode cX12_laysLines 83 = .ok (.iadd, 1) := by decide +kernel
theorem dX12_laysLines_84 : decode cX12_laysLines 84 = .ok (.iaload, 1) := by decide +kernel
theorem dX12_laysLines_85 : decode cX12_laysLines 85 = .ok (.iastore, 1) := by decide +kernel
theorem dX12_laysLines_86 : decode cX12_laysLines 86 = .ok (.iinc 3 1, 3) := by decide +kernel
theorem dX12_laysLines_89 : decode cX12_laysLines 89 = .ok (.goto (-75), 3) := by decide +kernel
theorem dX12_laysLines_92 : decode cX12_laysLines 92 = .ok (.return_, 1) := by decide +kernel
theorem dX12_laysWord_0 : decode cX12_laysWord 0 = .ok (.aload_n 0, 1) := by decide +kernel
theorem dX12_laysWord_1 : decode cX12_laysWord 1 = .ok (.getfield 102, 3) := by decide +kernel
theorem dX12_laysWord_4 : decode cX12_laysWord 4 = .ok (.iload_n 2, 1) := by decide +kernel
theorem dX12_laysWord_5 : decode cX12_laysWord 5 = .ok (.aload_n 0, 1) := by decide +kernel
theorem dX12_laysWord_6 : decode cX12_laysWord 6 = .ok (.getfield 102, 3) := by decide +kernel
theorem dX12_laysWord_9 : decode cX12_laysWord 9 = .ok (.iload_n 1, 1) := by decide +kernel
theorem dX12_laysWord_10 : decode cX12_laysWord 10 = .ok (.iaload, 1) := by decide +kernel
theorem dX12_laysWord_11 : decode cX12_laysWord 11 = .ok (.iastore, 1) := by decide +kernel
theorem dX12_laysWord_12 : decode cX12_laysWord 12 = .ok (.iconst 0, 1) := by decide +kernel
theorem dX12_laysWord_13 : decode cX12_laysWord 13 = .ok (.istore_n 3, 1) := by decide +kernel
theorem dX12_laysWord_14 : decode cX12_laysWord 14 = .ok (.iload_n 3, 1) := by decide +kernel
theorem dX12_laysWord_15 : decode cX12_laysWord 15 = .ok (.bipush 7, 2) := by decide +kernel
theorem dX12_laysWord_17 : decode cX12_laysWord 17 = .ok (.if_icmp .ge 31, 3) := by decide +kernel
theorem dX12_laysWord_20 : decode cX12_laysWord 20 = .ok (.aload_n 0, 1) := by decide +kernel
theorem dX12_laysWord_21 : decode cX12_laysWord 21 = .ok (.getfield 105, 3) := by decide +kernel
theorem dX12_laysWord_24 : decode cX12_laysWord 24 = .ok (.bipush 7, 2) := by decide +kernel
theorem dX12_laysWord_26 : decode cX12_laysWord 26 = .ok (.iload_n 2, 1) := by decide +kernel
theorem dX12_laysWord_27 : decode cX12_laysWord 27 = .ok (.imul, 1) := by decide +kernel
theorem dX12_laysWord_28 : decode cX12_laysWord 28 = .ok (.iload_n 3, 1) := by decide +kernel
theorem dX12_laysWord_29 : decode cX12_laysWord 29 = .ok (.iadd, 1) := by decide +kernel
theorem dX12_laysWord_30 : decode cX12_laysWord 30 = .ok (.aload_n 0, 1) := by decide +kernel
theorem dX12_laysWord_31 : decode cX12_laysWord 31 = .ok (.getfield 105, 3) := by decide +kernel
theorem dX12_laysWord_34 : decode cX12_laysWord 34 = .ok (.bipush 7, 2) := by decide +kernel
theorem dX12_laysWord_36 : decode cX12_laysWord 36 = .ok (.iload_n 1, 1) := by decide +kernel
theorem dX12_laysWord_37 : decode cX12_laysWord 37 = .ok (.imul, 1) := by decide +kernel
theorem dX12_laysWord_38 : decode cX12_laysWord 38 = .ok (.iload_n 3, 1) := by decide +kernel
theorem dX12_laysWord_39 : decode cX12_laysWord 39 = .ok (.iadd, 1) := by decide +kernel
theorem dX12_laysWord_40 : decode cX12_laysWord 40 = .ok (.iaload, 1) := by decide +kernel
theorem dX12_laysWord_41 : decode cX12_laysWord 41 = .ok (.iastore, 1) := by decide +kernel
theorem dX12_laysWord_42 : decode cX12_laysWord 42 = .ok (.iinc 3 1, 3) := by decide +kernel
theorem dX12_laysWord_45 : decode cX12_laysWord 45 = .ok (.goto (-31), 3) := by decide +kernel
theorem dX12_laysWord_48 : decode cX12_laysWord 48 = .ok (.return_, 1) := by decide +kernel
theorem dX12_laysSeen_0 : decode cX12_laysSeen 0 = .ok (.aload_n 0, 1) := by decide +kernel
theorem dX12_laysSeen_1 : decode cX12_laysSeen 1 = .ok (.getfield 108, 3) := by decide +kernel
theorem dX12_laysSeen_4 : decode cX12_laysSeen 4 = .ok (.iload_n 2, 1) := by decide +kernel
theorem dX12_laysSeen_5 : decode cX12_laysSeen 5 = .ok (.aload_n 0, 1) := by decide +kernel
theorem dX12_laysSeen_6 : decode cX12_laysSeen 6 = .ok (.getfield 108, 3) := by decide +kernel
theorem dX12_laysSeen_9 : decode cX12_laysSeen 9 = .ok (.iload_n 1, 1) := by decide +kernel
theorem dX12_laysSeen_10 : decode cX12_laysSeen 10 = .ok (.iaload, 1) := by decide +kernel
theorem dX12_laysSeen_11 : decode cX12_laysSeen 11 = .ok (.iastore, 1) := by decide +kernel
theorem dX12_laysSeen_12 : decode cX12_laysSeen 12 = .ok (.iconst 0, 1) := by decide +kernel
theorem dX12_laysSeen_13 : decode cX12_laysSeen 13 = .ok (.istore_n 3, 1) := by decide +kernel
theorem dX12_laysSeen_14 : decode cX12_laysSeen 14 = .ok (.iload_n 3, 1) := by decide +kernel
theorem dX12_laysSeen_15 : decode cX12_laysSeen 15 = .ok (.bipush 8, 2) := by decide +kernel
theorem dX12_laysSeen_17 : decode cX12_laysSeen 17 = .ok (.if_icmp .ge 53, 3) := by decide +kernel
theorem dX12_laysSeen_20 : decode cX12_laysSeen 20 = .ok (.aload_n 0, 1) := by decide +kernel
theorem dX12_laysSeen_21 : decode cX12_laysSeen 21 = .ok (.getfield 111, 3) := by decide +kernel
theorem dX12_laysSeen_24 : decode cX12_laysSeen 24 = .ok (.bipush 8, 2) := by decide +kernel
theorem dX12_laysSeen_26 : decode cX12_laysSeen 26 = .ok (.iload_n 2, 1) := by decide +kernel
theorem dX12_laysSeen_27 : decode cX12_laysSeen 27 = .ok (.imul, 1) := by decide +kernel
theorem dX12_laysSeen_28 : decode cX12_laysSeen 28 = .ok (.iload_n 3, 1) := by decide +kernel
theorem dX12_laysSeen_29 : decode cX12_laysSeen 29 = .ok (.iadd, 1) := by decide +kernel
theorem dX12_laysSeen_30 : decode cX12_laysSeen 30 = .ok (.aload_n 0, 1) := by decide +kernel
theorem dX12_laysSeen_31 : decode cX12_laysSeen 31 = .ok (.getfield 111, 3) := by decide +kernel
theorem dX12_laysSeen_34 : decode cX12_laysSeen 34 = .ok (.bipush 8, 2) := by decide +kernel
theorem dX12_laysSeen_36 : decode cX12_laysSeen 36 = .ok (.iload_n 1, 1) := by decide +kernel
theorem dX12_laysSeen_37 : decode cX12_laysSeen 37 = .ok (.imul, 1) := by decide +kernel
theorem dX12_laysSeen_38 : decode cX12_laysSeen 38 = .ok (.iload_n 3, 1) := by decide +kernel
theorem dX12_laysSeen_39 : decode cX12_laysSeen 39 = .ok (.iadd, 1) := by decide +kernel
theorem dX12_laysSeen_40 : decode cX12_laysSeen 40 = .ok (.iaload, 1) := by decide +kernel
theorem dX12_laysSeen_41 : decode cX12_laysSeen 41 = .ok (.iastore, 1) := by decide +kernel
theorem dX12_laysSeen_42 : decode cX12_laysSeen 42 = .ok (.aload_n 0, 1) := by decide +kernel
theorem dX12_laysSeen_43 : decode cX12_laysSeen 43 = .ok (.getfield 114, 3) := by decide +kernel
theorem dX12_laysSeen_46 : decode cX12_laysSeen 46 = .ok (.bipush 8, 2) := by decide +kernel
theorem dX12_laysSeen_48 : decode cX12_laysSeen 48 = .ok (.iload_n 2, 1) := by decide +kernel
theorem dX12_laysSeen_49 : decode cX12_laysSeen 49 = .ok (.imul, 1) := by decide +kernel
theorem dX12_laysSeen_50 : decode cX12_laysSeen 50 = .ok (.iload_n 3, 1) := by decide +kernel
theorem dX12_laysSeen_51 : decode cX12_laysSeen 51 = .ok (.iadd, 1) := by decide +kernel
theorem dX12_laysSeen_52 : decode cX12_laysSeen 52 = .ok (.aload_n 0, 1) := by decide +kernel
theorem dX12_laysSeen_53 : decode cX12_laysSeen 53 = .ok (.getfield 114, 3) := by decide +kernel
theorem dX12_laysSeen_56 : decode cX12_laysSeen 56 = .ok (.bipush 8, 2) := by decide +kernel
theorem dX12_laysSeen_58 : decode cX12_laysSeen 58 = .ok (.iload_n 1, 1) := by decide +kernel
theorem dX12_laysSeen_59 : decode cX12_laysSeen 59 = .ok (.imul, 1) := by decide +kernel
theorem dX12_laysSeen_60 : decode cX12_laysSeen 60 = .ok (.iload_n 3, 1) := by decide +kernel
theorem dX12_laysSeen_61 : decode cX12_laysSeen 61 = .ok (.iadd, 1) := by decide +kernel
theorem dX12_laysSeen_62 : decode cX12_laysSeen 62 = .ok (.baload, 1) := by decide +kernel
theorem dX12_laysSeen_63 : decode cX12_laysSeen 63 = .ok (.bastore, 1) := by decide +kernel
theorem dX12_laysSeen_64 : decode cX12_laysSeen 64 = .ok (.iinc 3 1, 3) := by decide +kernel
theorem dX12_laysSeen_67 : decode cX12_laysSeen 67 = .ok (.goto (-53), 3) := by decide +kernel
theorem dX12_laysSeen_70 : decode cX12_laysSeen 70 = .ok (.return_, 1) := by decide +kernel
theorem dX12_laysOrder_0 : decode cX12_laysOrder 0 = .ok (.iconst 0, 1) := by decide +kernel
theorem dX12_laysOrder_1 : decode cX12_laysOrder 1 = .ok (.istore_n 1, 1) := by decide +kernel
theorem dX12_laysOrder_2 : decode cX12_laysOrder 2 = .ok (.iload_n 1, 1) := by decide +kernel
theorem dX12_laysOrder_3 : decode cX12_laysOrder 3 = .ok (.aload_n 0, 1) := by decide +kernel
theorem dX12_laysOrder_4 : decode cX12_laysOrder 4 = .ok (.getfield 13, 3) := by decide +kernel
theorem dX12_laysOrder_7 : decode cX12_laysOrder 7 = .ok (.iconst 0, 1) := by decide +kernel
theorem dX12_laysOrder_8 : decode cX12_laysOrder 8 = .ok (.iaload, 1) := by decide +kernel
theorem dX12_laysOrder_9 : decode cX12_laysOrder 9 = .ok (.if_icmp .ge 79, 3) := by decide +kernel
theorem dX12_laysOrder_12 : decode cX12_laysOrder 12 = .ok (.iconst 0, 1) := by decide +kernel
theorem dX12_laysOrder_13 : decode cX12_laysOrder 13 = .ok (.istore_n 2, 1) := by decide +kernel
theorem dX12_laysOrder_14 : decode cX12_laysOrder 14 = .ok (.iconst 0, 1) := by decide +kernel
theorem dX12_laysOrder_15 : decode cX12_laysOrder 15 = .ok (.istore_n 3, 1) := by decide +kernel
theorem dX12_laysOrder_16 : decode cX12_laysOrder 16 = .ok (.iload_n 3, 1) := by decide +kernel
theorem dX12_laysOrder_17 : decode cX12_laysOrder 17 = .ok (.aload_n 0, 1) := by decide +kernel
theorem dX12_laysOrder_18 : decode cX12_laysOrder 18 = .ok (.getfield 13, 3) := by decide +kernel
theorem dX12_laysOrder_21 : decode cX12_laysOrder 21 = .ok (.iconst 0, 1) := by decide +kernel
theorem dX12_laysOrder_22 : decode cX12_laysOrder 22 = .ok (.iaload, 1) := by decide +kernel
theorem dX12_laysOrder_23 : decode cX12_laysOrder 23 = .ok (.if_icmp .ge 52, 3) := by decide +kernel
theorem dX12_laysOrder_26 : decode cX12_laysOrder 26 = .ok (.iload_n 2, 1) := by decide +kernel
theorem dX12_laysOrder_27 : decode cX12_laysOrder 27 = .ok (.aload_n 0, 1) := by decide +kernel
theorem dX12_laysOrder_28 : decode cX12_laysOrder 28 = .ok (.getfield 26, 3) := by decide +kernel
theorem dX12_laysOrder_31 : decode cX12_laysOrder 31 = .ok (.iload_n 3, 1) := by decide +kernel
theorem dX12_laysOrder_32 : decode cX12_laysOrder 32 = .ok (.iaload, 1) := by decide +kernel
theorem dX12_laysOrder_33 : decode cX12_laysOrder 33 = .ok (.aload_n 0, 1) := by decide +kernel
theorem dX12_laysOrder_34 : decode cX12_laysOrder 34 = .ok (.getfield 26, 3) := by decide +kernel
theorem dX12_laysOrder_37 : decode cX12_laysOrder 37 = .ok (.iload_n 1, 1) := by decide +kernel
theorem dX12_laysOrder_38 : decode cX12_laysOrder 38 = .ok (.iaload, 1) := by decide +kernel
theorem dX12_laysOrder_39 : decode cX12_laysOrder 39 = .ok (.if_icmp .gt 23, 3) := by decide +kernel
theorem dX12_laysOrder_42 : decode cX12_laysOrder 42 = .ok (.aload_n 0, 1) := by decide +kernel
theorem dX12_laysOrder_43 : decode cX12_laysOrder 43 = .ok (.getfield 26, 3) := by decide +kernel
theorem dX12_laysOrder_46 : decode cX12_laysOrder 46 = .ok (.iload_n 3, 1) := by decide +kernel
theorem dX12_laysOrder_47 : decode cX12_laysOrder 47 = .ok (.iaload, 1) := by decide +kernel
theorem dX12_laysOrder_48 : decode cX12_laysOrder 48 = .ok (.aload_n 0, 1) := by decide +kernel
theorem dX12_laysOrder_49 : decode cX12_laysOrder 49 = .ok (.getfield 26, 3) := by decide +kernel
theorem dX12_laysOrder_52 : decode cX12_laysOrder 52 = .ok (.iload_n 1, 1) := by decide +kernel
theorem dX12_laysOrder_53 : decode cX12_laysOrder 53 = .ok (.iaload, 1) := by decide +kernel
theorem dX12_laysOrder_54 : decode cX12_laysOrder 54 = .ok (.if_icmp .ne 12, 3) := by decide +kernel
theorem dX12_laysOrder_57 : decode cX12_laysOrder 57 = .ok (.iload_n 3, 1) := by decide +kernel
theorem dX12_laysOrder_58 : decode cX12_laysOrder 58 = .ok (.iload_n 1, 1) := by decide +kernel
theorem dX12_laysOrder_59 : decode cX12_laysOrder 59 = .ok (.if_icmp .ge 7, 3) := by decide +kernel
theorem dX12_laysOrder_62 : decode cX12_laysOrder 62 = .ok (.iconst 1, 1) := by decide +kernel
theorem dX12_laysOrder_63 : decode cX12_laysOrder 63 = .ok (.goto 4, 3) := by decide +kernel
theorem dX12_laysOrder_66 : decode cX12_laysOrder 66 = .ok (.iconst 0, 1) := by decide +kernel
theorem dX12_laysOrder_67 : decode cX12_laysOrder 67 = .ok (.iadd, 1) := by decide +kernel
theorem dX12_laysOrder_68 : decode cX12_laysOrder 68 = .ok (.istore_n 2, 1) := by decide +kernel
theorem dX12_laysOrder_69 : decode cX12_laysOrder 69 = .ok (.iinc 3 1, 3) := by decide +kernel
theorem dX12_laysOrder_72 : decode cX12_laysOrder 72 = .ok (.goto (-56), 3) := by decide +kernel
theorem dX12_laysOrder_75 : decode cX12_laysOrder 75 = .ok (.aload_n 0, 1) := by decide +kernel
theorem dX12_laysOrder_76 : decode cX12_laysOrder 76 = .ok (.getfield 135, 3) := by decide +kernel
theorem dX12_laysOrder_79 : decode cX12_laysOrder 79 = .ok (.iload_n 2, 1) := by decide +kernel
theorem dX12_laysOrder_80 : decode cX12_laysOrder 80 = .ok (.iload_n 1, 1) := by decide +kernel
theorem dX12_laysOrder_81 : decode cX12_laysOrder 81 = .ok (.iastore, 1) := by decide +kernel
theorem dX12_laysOrder_82 : decode cX12_laysOrder 82 = .ok (.iinc 1 1, 3) := by decide +kernel
theorem dX12_laysOrder_85 : decode cX12_laysOrder 85 = .ok (.goto (-83), 3) := by decide +kernel
theorem dX12_laysOrder_88 : decode cX12_laysOrder 88 = .ok (.return_, 1) := by decide +kernel
theorem dX12_fresh0_0 : decode cX12_fresh0 0 = .ok (.iconst 0, 1) := by decide +kernel
theorem dX12_fresh0_1 : decode cX12_fresh0 1 = .ok (.istore_n 1, 1) := by decide +kernel
theorem dX12_fresh0_2 : decode cX12_fresh0 2 = .ok (.iload_n 1, 1) := by decide +kernel
theorem dX12_fresh0_3 : decode cX12_fresh0 3 = .ok (.bipush 59, 2) := by decide +kernel
theorem dX12_fresh0_5 : decode cX12_fresh0 5 = .ok (.if_icmp .ge 16, 3) := by decide +kernel
theorem dX12_fresh0_8 : decode cX12_fresh0 8 = .ok (.aload_n 0, 1) := by decide +kernel
theorem dX12_fresh0_9 : decode cX12_fresh0 9 = .ok (.getfield 117, 3) := by decide +kernel
theorem dX12_fresh0_12 : decode cX12_fresh0 12 = .ok (.iload_n 1, 1) := by decide +kernel
theorem dX12_fresh0_13 : decode cX12_fresh0 13 = .ok (.iconst 0, 1) := by decide +kernel
theorem dX12_fresh0_14 : decode cX12_fresh0 14 = .ok (.iastore, 1) := by decide +kernel
theorem dX12_fresh0_15 : decode cX12_fresh0 15 = .ok (.iinc 1 1, 3) := by decide +kernel
theorem dX12_fresh0_18 : decode cX12_fresh0 18 = .ok (.goto (-16), 3) := by decide +kernel
theorem dX12_fresh0_21 : decode cX12_fresh0 21 = .ok (.aload_n 0, 1) := by decide +kernel
theorem dX12_fresh0_22 : decode cX12_fresh0 22 = .ok (.getfield 117, 3) := by decide +kernel
theorem dX12_fresh0_25 : decode cX12_fresh0 25 = .ok (.iconst 3, 1) := by decide +kernel
theorem dX12_fresh0_26 : decode cX12_fresh0 26 = .ok (.iconst (-1), 1) := by decide +kernel
theorem dX12_fresh0_27 : decode cX12_fresh0 27 = .ok (.iastore, 1) := by decide +kernel
theorem dX12_fresh0_28 : decode cX12_fresh0 28 = .ok (.iconst 0, 1) := by decide +kernel
theorem dX12_fresh0_29 : decode cX12_fresh0 29 = .ok (.istore_n 1, 1) := by decide +kernel
theorem dX12_fresh0_30 : decode cX12_fresh0 30 = .ok (.iload_n 1, 1) := by decide +kernel
theorem dX12_fresh0_31 : decode cX12_fresh0 31 = .ok (.aload_n 0, 1) := by decide +kernel
theorem dX12_fresh0_32 : decode cX12_fresh0 32 = .ok (.getfield 13, 3) := by decide +kernel
theorem dX12_fresh0_35 : decode cX12_fresh0 35 = .ok (.iconst 0, 1) := by decide +kernel
theorem dX12_fresh0_36 : decode cX12_fresh0 36 = .ok (.iaload, 1) := by decide +kernel
theorem dX12_fresh0_37 : decode cX12_fresh0 37 = .ok (.if_icmp .ge 35, 3) := by decide +kernel
theorem dX12_fresh0_40 : decode cX12_fresh0 40 = .ok (.aload_n 0, 1) := by decide +kernel
theorem dX12_fresh0_41 : decode cX12_fresh0 41 = .ok (.getfield 117, 3) := by decide +kernel
theorem dX12_fresh0_44 : decode cX12_fresh0 44 = .ok (.iconst 1, 1) := by decide +kernel
theorem dX12_fresh0_45 : decode cX12_fresh0 45 = .ok (.dup2, 1) := by decide +kernel
theorem dX12_fresh0_46 : decode cX12_fresh0 46 = .ok (.iaload, 1) := by decide +kernel
theorem dX12_fresh0_47 : decode cX12_fresh0 47 = .ok (.aload_n 0, 1) := by decide +kernel
theorem dX12_fresh0_48 : decode cX12_fresh0 48 = .ok (.getfield 23, 3) := by decide +kernel
theorem dX12_fresh0_51 : decode cX12_fresh0 51 = .ok (.iload_n 1, 1) := by decide +kernel
theorem dX12_fresh0_52 : decode cX12_fresh0 52 = .ok (.iaload, 1) := by decide +kernel
theorem dX12_fresh0_53 : decode cX12_fresh0 53 = .ok (.iconst 3, 1) := by decide +kernel
theorem dX12_fresh0_54 : decode cX12_fresh0 54 = .ok (.if_icmp .ne 9, 3) := by decide +kernel
theorem dX12_fresh0_57 : decode cX12_fresh0 57 = .ok (.iconst 1, 1) := by decide +kernel
theorem dX12_fresh0_58 : decode cX12_fresh0 58 = .ok (.iload_n 1, 1) := by decide +kernel
theorem dX12_fresh0_59 : decode cX12_fresh0 59 = .ok (.ishl, 1) := by decide +kernel
theorem dX12_fresh0_60 : decode cX12_fresh0 60 = .ok (.goto 4, 3) := by decide +kernel
theorem dX12_fresh0_63 : decode cX12_fresh0 63 = .ok (.iconst 0, 1) := by decide +kernel
theorem dX12_fresh0_64 : decode cX12_fresh0 64 = .ok (.ior, 1) := by decide +kernel
theorem dX12_fresh0_65 : decode cX12_fresh0 65 = .ok (.iastore, 1) := by decide +kernel
theorem dX12_fresh0_66 : decode cX12_fresh0 66 = .ok (.iinc 1 1, 3) := by decide +kernel
theorem dX12_fresh0_69 : decode cX12_fresh0 69 = .ok (.goto (-39), 3) := by decide +kernel
theorem dX12_fresh0_72 : decode cX12_fresh0 72 = .ok (.return_, 1) := by decide +kernel
theorem dX12_front_0 : decode cX12_front 0 = .ok (.aload_n 0, 1) := by decide +kernel
theorem dX12_front_1 : decode cX12_front 1 = .ok (.iconst 0, 1) := by decide +kernel
theorem dX12_front_2 : decode cX12_front 2 = .ok (.putfield 147, 3) := by decide +kernel
theorem dX12_front_5 : decode cX12_front 5 = .ok (.aload_n 0, 1) := by decide +kernel
theorem dX12_front_6 : decode cX12_front 6 = .ok (.invokevirtual 334, 3) := by decide +kernel
theorem dX12_front_9 : decode cX12_front 9 = .ok (.ifCond .ne 8, 3) := by decide +kernel
theorem dX12_front_12 : decode cX12_front 12 = .ok (.aload_n 0, 1) := by decide +kernel
theorem dX12_front_13 : decode cX12_front 13 = .ok (.getfield 183, 3) := by decide +kernel
theorem dX12_front_16 : decode cX12_front 16 = .ok (.ireturn, 1) := by decide +kernel
theorem dX12_front_17 : decode cX12_front 17 = .ok (.aload_n 0, 1) := by decide +kernel
theorem dX12_front_18 : decode cX12_front 18 = .ok (.invokevirtual 337, 3) := by decide +kernel
theorem dX12_front_21 : decode cX12_front 21 = .ok (.aload_n 0, 1) := by decide +kernel
theorem dX12_front_22 : decode cX12_front 22 = .ok (.invokevirtual 340, 3) := by decide +kernel
theorem dX12_front_25 : decode cX12_front 25 = .ok (.aload_n 0, 1) := by decide +kernel
theorem dX12_front_26 : decode cX12_front 26 = .ok (.invokevirtual 144, 3) := by decide +kernel
theorem dX12_front_29 : decode cX12_front 29 = .ok (.aload_n 0, 1) := by decide +kernel
theorem dX12_front_30 : decode cX12_front 30 = .ok (.getfield 90, 3) := by decide +kernel
theorem dX12_front_33 : decode cX12_front 33 = .ok (.iconst 0, 1) := by decide +kernel
theorem dX12_front_34 : decode cX12_front 34 = .ok (.iconst 0, 1) := by decide +kernel
theorem dX12_front_35 : decode cX12_front 35 = .ok (.iastore, 1) := by decide +kernel
theorem dX12_front_36 : decode cX12_front 36 = .ok (.aload_n 0, 1) := by decide +kernel
theorem dX12_front_37 : decode cX12_front 37 = .ok (.getfield 102, 3) := by decide +kernel
theorem dX12_front_40 : decode cX12_front 40 = .ok (.iconst 0, 1) := by decide +kernel
theorem dX12_front_41 : decode cX12_front 41 = .ok (.iconst 0, 1) := by decide +kernel
theorem dX12_front_42 : decode cX12_front 42 = .ok (.iastore, 1) := by decide +kernel
theorem dX12_front_43 : decode cX12_front 43 = .ok (.aload_n 0, 1) := by decide +kernel
theorem dX12_front_44 : decode cX12_front 44 = .ok (.getfield 108, 3) := by decide +kernel
theorem dX12_front_47 : decode cX12_front 47 = .ok (.iconst 0, 1) := by decide +kernel
theorem dX12_front_48 : decode cX12_front 48 = .ok (.iconst 0, 1) := by decide +kernel
theorem dX12_front_49 : decode cX12_front 49 = .ok (.iastore, 1) := by decide +kernel
theorem dX12_front_50 : decode cX12_front 50 = .ok (.aload_n 0, 1) := by decide +kernel
theorem dX12_front_51 : decode cX12_front 51 = .ok (.iconst 0, 1) := by decide +kernel
theorem dX12_front_52 : decode cX12_front 52 = .ok (.putfield 343, 3) := by decide +kernel
theorem dX12_front_55 : decode cX12_front 55 = .ok (.iconst 0, 1) := by decide +kernel
theorem dX12_front_56 : decode cX12_front 56 = .ok (.istore_n 1, 1) := by decide +kernel
theorem dX12_front_57 : decode cX12_front 57 = .ok (.iload_n 1, 1) := by decide +kernel
theorem dX12_front_58 : decode cX12_front 58 = .ok (.iconst 4, 1) := by decide +kernel
theorem dX12_front_59 : decode cX12_front 59 = .ok (.if_icmp .ge 16, 3) := by decide +kernel
theorem dX12_front_62 : decode cX12_front 62 = .ok (.aload_n 0, 1) := by decide +kernel
theorem dX12_front_63 : decode cX12_front 63 = .ok (.getfield 132, 3) := by decide +kernel
theorem dX12_front_66 : decode cX12_front 66 = .ok (.iload_n 1, 1) := by decide +kernel
theorem dX12_front_67 : decode cX12_front 67 = .ok (.iconst 0, 1) := by decide +kernel
theorem dX12_front_68 : decode cX12_front 68 = .ok (.bastore, 1) := by decide +kernel
theorem dX12_front_69 : decode cX12_front 69 = .ok (.iinc 1 1, 3) := by decide +kernel
theorem dX12_front_72 : decode cX12_front 72 = .ok (.goto (-15), 3) := by decide +kernel
theorem dX12_front_75 : decode cX12_front 75 = .ok (.iconst 0, 1) := by decide +kernel
theorem dX12_front_76 : decode cX12_front 76 = .ok (.ireturn, 1) := by decide +kernel
theorem dX12_day_0 : decode cX12_day 0 = .ok (.aload_n 0, 1) := by decide +kernel
theorem dX12_day_1 : decode cX12_day 1 = .ok (.iconst 0, 1) := by decide +kernel
theorem dX12_day_2 : decode cX12_day 2 = .ok (.putfield 147, 3) := by decide +kernel
theorem dX12_day_5 : decode cX12_day 5 = .ok (.aload_n 0, 1) := by decide +kernel
theorem dX12_day_6 : decode cX12_day 6 = .ok (.getfield 90, 3) := by decide +kernel
theorem dX12_day_9 : decode cX12_day 9 = .ok (.iconst 5, 1) := by decide +kernel
theorem dX12_day_10 : decode cX12_day 10 = .ok (.iconst 0, 1) := by decide +kernel
theorem dX12_day_11 : decode cX12_day 11 = .ok (.iastore, 1) := by decide +kernel
theorem dX12_day_12 : decode cX12_day 12 = .ok (.aload_n 0, 1) := by decide +kernel
theorem dX12_day_13 : decode cX12_day 13 = .ok (.invokevirtual 308, 3) := by decide +kernel
theorem dX12_day_16 : decode cX12_day 16 = .ok (.aload_n 0, 1) := by decide +kernel
theorem dX12_day_17 : decode cX12_day 17 = .ok (.getfield 172, 3) := by decide +kernel
theorem dX12_day_20 : decode cX12_day 20 = .ok (.ifCond .eq 15, 3) := by decide +kernel
theorem dX12_day_23 : decode cX12_day 23 = .ok (.aload_n 0, 1) := by decide +kernel
theorem dX12_day_24 : decode cX12_day 24 = .ok (.invokevirtual 346, 3) := by decide +kernel
theorem dX12_day_27 : decode cX12_day 27 = .ok (.ifCond .ne (-11), 3) := by decide +kernel
theorem dX12_day_30 : decode cX12_day 30 = .ok (.aload_n 0, 1) := by decide +kernel
theorem dX12_day_31 : decode cX12_day 31 = .ok (.getfield 183, 3) := by decide +kernel
theorem dX12_day_34 : decode cX12_day 34 = .ok (.ireturn, 1) := by decide +kernel
theorem dX12_day_35 : decode cX12_day 35 = .ok (.aload_n 0, 1) := by decide +kernel
theorem dX12_day_36 : decode cX12_day 36 = .ok (.iconst 5, 1) := by decide +kernel
theorem dX12_day_37 : decode cX12_day 37 = .ok (.iconst 0, 1) := by decide +kernel
theorem dX12_day_38 : decode cX12_day 38 = .ok (.invokevirtual 349, 3) := by decide +kernel
theorem dX12_day_41 : decode cX12_day 41 = .ok (.iconst 0, 1) := by decide +kernel
theorem dX12_day_42 : decode cX12_day 42 = .ok (.ireturn, 1) := by decide +kernel
theorem dX12_readsWord_0 : decode cX12_readsWord 0 = .ok (.aload_n 0, 1) := by decide +kernel
theorem dX12_readsWord_1 : decode cX12_readsWord 1 = .ok (.getfield 102, 3) := by decide +kernel
theorem dX12_readsWord_4 : decode cX12_readsWord 4 = .ok (.iconst 5, 1) := by decide +kernel
theorem dX12_readsWord_5 : decode cX12_readsWord 5 = .ok (.iaload, 1) := by decide +kernel
theorem dX12_readsWord_6 : decode cX12_readsWord 6 = .ok (.ifCond .eq 10, 3) := by decide +kernel
theorem dX12_readsWord_9 : decode cX12_readsWord 9 = .ok (.aload_n 0, 1) := by decide +kernel
theorem dX12_readsWord_10 : decode cX12_readsWord 10 = .ok (.getfield 172, 3) := by decide +kernel
theorem dX12_readsWord_13 : decode cX12_readsWord 13 = .ok (.ifCond .eq 81, 3) := by decide +kernel
theorem dX12_readsWord_16 : decode cX12_readsWord 16 = .ok (.aload_n 0, 1) := by decide +kernel
theorem dX12_readsWord_17 : decode cX12_readsWord 17 = .ok (.invokevirtual 279, 3) := by decide +kernel
theorem dX12_readsWord_20 : decode cX12_readsWord 20 = .ok (.ifCond .eq 9, 3) := by decide +kernel
theorem dX12_readsWord_23 : decode cX12_readsWord 23 = .ok (.aload_n 0, 1) := by decide +kernel
theorem dX12_readsWord_24 : decode cX12_readsWord 24 = .ok (.iconst 1, 1) := by decide +kernel
theorem dX12_readsWord_25 : decode cX12_readsWord 25 = .ok (.invokevirtual 211, 3) := by decide +kernel
theorem dX12_readsWord_28 : decode cX12_readsWord 28 = .ok (.ireturn, 1) := by decide +kernel
theorem dX12_readsWord_29 : decode cX12_readsWord 29 = .ok (.aload_n 0, 1) := by decide +kernel
theorem dX12_readsWord_30 : decode cX12_readsWord 30 = .ok (.iconst 0, 1) := by decide +kernel
theorem dX12_readsWord_31 : decode cX12_readsWord 31 = .ok (.invokevirtual 286, 3) := by decide +kernel
theorem dX12_readsWord_34 : decode cX12_readsWord 34 = .ok (.istore_n 1, 1) := by decide +kernel
theorem dX12_readsWord_35 : decode cX12_readsWord 35 = .ok (.iload_n 1, 1) := by decide +kernel
theorem dX12_readsWord_36 : decode cX12_readsWord 36 = .ok (.ifCond .ge 9, 3) := by decide +kernel
theorem dX12_readsWord_39 : decode cX12_readsWord 39 = .ok (.aload_n 0, 1) := by decide +kernel
theorem dX12_readsWord_40 : decode cX12_readsWord 40 = .ok (.iconst 2, 1) := by decide +kernel
theorem dX12_readsWord_41 : decode cX12_readsWord 41 = .ok (.invokevirtual 211, 3) := by decide +kernel
theorem dX12_readsWord_44 : decode cX12_readsWord 44 = .ok (.ireturn, 1) := by decide +kernel
theorem dX12_readsWord_45 : decode cX12_readsWord 45 = .ok (.aload_n 0, 1) := by decide +kernel
theorem dX12_readsWord_46 : decode cX12_readsWord 46 = .ok (.getfield 102, 3) := by decide +kernel
theorem dX12_readsWord_49 : decode cX12_readsWord 49 = .ok (.iconst 5, 1) := by decide +kernel
theorem dX12_readsWord_50 : decode cX12_readsWord 50 = .ok (.iaload, 1) := by decide +kernel
theorem dX12_readsWord_51 : decode cX12_readsWord 51 = .ok (.bipush 7, 2) := by decide +kernel
theorem dX12_readsWord_53 : decode cX12_readsWord 53 = .ok (.if_icmp .ne 9, 3) := by decide +kernel
theorem dX12_readsWord_56 : decode cX12_readsWord 56 = .ok (.aload_n 0, 1) := by decide +kernel
theorem dX12_readsWord_57 : decode cX12_readsWord 57 = .ok (.iconst 5, 1) := by decide +kernel
theorem dX12_readsWord_58 : decode cX12_readsWord 58 = .ok (.invokevirtual 211, 3) := by decide +kernel
theorem dX12_readsWord_61 : decode cX12_readsWord 61 = .ok (.ireturn, 1) := by decide +kernel
theorem dX12_readsWord_62 : decode cX12_readsWord 62 = .ok (.aload_n 0, 1) := by decide +kernel
theorem dX12_readsWord_63 : decode cX12_readsWord 63 = .ok (.getfield 105, 3) := by decide +kernel
theorem dX12_readsWord_66 : decode cX12_readsWord 66 = .ok (.bipush 35, 2) := by decide +kernel
theorem dX12_readsWord_68 : decode cX12_readsWord 68 = .ok (.aload_n 0, 1) := by decide +kernel
theorem dX12_readsWord_69 : decode cX12_readsWord 69 = .ok (.getfield 102, 3) := by decide +kernel
theorem dX12_readsWord_72 : decode cX12_readsWord 72 = .ok (.iconst 5, 1) := by decide +kernel
theorem dX12_readsWord_73 : decode cX12_readsWord 73 = .ok (.iaload, 1) := by decide +kernel
theorem dX12_readsWord_74 : decode cX12_readsWord 74 = .ok (.iadd, 1) := by decide +kernel
theorem dX12_readsWord_75 : decode cX12_readsWord 75 = .ok (.iload_n 1, 1) := by decide +kernel
theorem dX12_readsWord_76 : decode cX12_readsWord 76 = .ok (.iastore, 1) := by decide +kernel
theorem dX12_readsWord_77 : decode cX12_readsWord 77 = .ok (.aload_n 0, 1) := by decide +kernel
theorem dX12_readsWord_78 : decode cX12_readsWord 78 = .ok (.getfield 102, 3) := by decide +kernel
theorem dX12_readsWord_81 : decode cX12_readsWord 81 = .ok (.iconst 5, 1) := by decide +kernel
theorem dX12_readsWord_82 : decode cX12_readsWord 82 = .ok (.dup2, 1) := by decide +kernel
theorem dX12_readsWord_83 : decode cX12_readsWord 83 = .ok (.iaload, 1) := by decide +kernel
theorem dX12_readsWord_84 : decode cX12_readsWord 84 = .ok (.iconst 1, 1) := by decide +kernel
theorem dX12_readsWord_85 : decode cX12_readsWord 85 = .ok (.iadd, 1) := by decide +kernel
theorem dX12_readsWord_86 : decode cX12_readsWord 86 = .ok (.iastore, 1) := by decide +kernel
theorem dX12_readsWord_87 : decode cX12_readsWord 87 = .ok (.aload_n 0, 1) := by decide +kernel
theorem dX12_readsWord_88 : decode cX12_readsWord 88 = .ok (.invokevirtual 218, 3) := by decide +kernel
theorem dX12_readsWord_91 : decode cX12_readsWord 91 = .ok (.goto (-91), 3) := by decide +kernel
theorem dX12_readsWord_94 : decode cX12_readsWord 94 = .ok (.iconst 1, 1) := by decide +kernel
theorem dX12_readsWord_95 : decode cX12_readsWord 95 = .ok (.ireturn, 1) := by decide +kernel
theorem dX12_word_0 : decode cX12_word 0 = .ok (.aload_n 0, 1) := by decide +kernel
theorem dX12_word_1 : decode cX12_word 1 = .ok (.iconst 0, 1) := by decide +kernel
theorem dX12_word_2 : decode cX12_word 2 = .ok (.putfield 147, 3) := by decide +kernel
theorem dX12_word_5 : decode cX12_word 5 = .ok (.aload_n 0, 1) := by decide +kernel
theorem dX12_word_6 : decode cX12_word 6 = .ok (.getfield 102, 3) := by decide +kernel
theorem dX12_word_9 : decode cX12_word 9 = .ok (.iconst 5, 1) := by decide +kernel
theorem dX12_word_10 : decode cX12_word 10 = .ok (.iconst 0, 1) := by decide +kernel
theorem dX12_word_11 : decode cX12_word 11 = .ok (.iastore, 1) := by decide +kernel
theorem dX12_word_12 : decode cX12_word 12 = .ok (.aload_n 0, 1) := by decide +kernel
theorem dX12_word_13 : decode cX12_word 13 = .ok (.invokevirtual 308, 3) := by decide +kernel
theorem dX12_word_16 : decode cX12_word 16 = .ok (.aload_n 0, 1) := by decide +kernel
theorem dX12_word_17 : decode cX12_word 17 = .ok (.invokevirtual 353, 3) := by decide +kernel
theorem dX12_word_20 : decode cX12_word 20 = .ok (.ifCond .ne 8, 3) := by decide +kernel
theorem dX12_word_23 : decode cX12_word 23 = .ok (.aload_n 0, 1) := by decide +kernel
theorem dX12_word_24 : decode cX12_word 24 = .ok (.getfield 183, 3) := by decide +kernel
theorem dX12_word_27 : decode cX12_word 27 = .ok (.ireturn, 1) := by decide +kernel
theorem dX12_word_28 : decode cX12_word 28 = .ok (.aload_n 0, 1) := by decide +kernel
theorem dX12_word_29 : decode cX12_word 29 = .ok (.iconst 5, 1) := by decide +kernel
theorem dX12_word_30 : decode cX12_word 30 = .ok (.iconst 0, 1) := by decide +kernel
theorem dX12_word_31 : decode cX12_word 31 = .ok (.invokevirtual 356, 3) := by decide +kernel
theorem dX12_word_34 : decode cX12_word 34 = .ok (.iconst 0, 1) := by decide +kernel
theorem dX12_word_35 : decode cX12_word 35 = .ok (.ireturn, 1) := by decide +kernel
theorem dX12_isMouth_0 : decode cX12_isMouth 0 = .ok (.iload_n 1, 1) := by decide +kernel
theorem dX12_isMouth_1 : decode cX12_isMouth 1 = .ok (.ifCond .lt 17, 3) := by decide +kernel
theorem dX12_isMouth_4 : decode cX12_isMouth 4 = .ok (.iload_n 1, 1) := by decide +kernel
theorem dX12_isMouth_5 : decode cX12_isMouth 5 = .ok (.aload_n 0, 1) := by decide +kernel
theorem dX12_isMouth_6 : decode cX12_isMouth 6 = .ok (.getfield 13, 3) := by decide +kernel
theorem dX12_isMouth_9 : decode cX12_isMouth 9 = .ok (.iconst 0, 1) := by decide +kernel
theorem dX12_isMouth_10 : decode cX12_isMouth 10 = .ok (.iaload, 1) := by decide +kernel
theorem dX12_isMouth_11 : decode cX12_isMouth 11 = .ok (.if_icmp .ge 7, 3) := by decide +kernel
theorem dX12_isMouth_14 : decode cX12_isMouth 14 = .ok (.iconst 1, 1) := by decide +kernel
theorem dX12_isMouth_15 : decode cX12_isMouth 15 = .ok (.goto 4, 3) := by decide +kernel
theorem dX12_isMouth_18 : decode cX12_isMouth 18 = .ok (.iconst 0, 1) := by decide +kernel
theorem dX12_isMouth_19 : decode cX12_isMouth 19 = .ok (.ireturn, 1) := by decide +kernel
theorem dX12_isLetter0_0 : decode cX12_isLetter0 0 = .ok (.iload_n 1, 1) := by decide +kernel
theorem dX12_isLetter0_1 : decode cX12_isLetter0 1 = .ok (.ifCond .lt 17, 3) := by decide +kernel
theorem dX12_isLetter0_4 : decode cX12_isLetter0 4 = .ok (.iload_n 1, 1) := by decide +kernel
theorem dX12_isLetter0_5 : decode cX12_isLetter0 5 = .ok (.aload_n 0, 1) := by decide +kernel
theorem dX12_isLetter0_6 : decode cX12_isLetter0 6 = .ok (.getfield 13, 3) := by decide +kernel
theorem dX12_isLetter0_9 : decode cX12_isLetter0 9 = .ok (.iconst 1, 1) := by decide +kernel
theorem dX12_isLetter0_10 : decode cX12_isLetter0 10 = .ok (.iaload, 1) := by decide +kernel
theorem dX12_isLetter0_11 : decode cX12_isLetter0 11 = .ok (.if_icmp .ge 7, 3) := by decide +kernel
theorem dX12_isLetter0_14 : decode cX12_isLetter0 14 = .ok (.iconst 1, 1) := by decide +kernel
theorem dX12_isLetter0_15 : decode cX12_isLetter0 15 = .ok (.goto 4, 3) := by decide +kernel
theorem dX12_isLetter0_18 : decode cX12_isLetter0 18 = .ok (.iconst 0, 1) := by decide +kernel
theorem dX12_isLetter0_19 : decode cX12_isLetter0 19 = .ok (.ireturn, 1) := by decide +kernel
theorem dX12_isStopped_0 : decode cX12_isStopped 0 = .ok (.aload_n 0, 1) := by decide +kernel
theorem dX12_isStopped_1 : decode cX12_isStopped 1 = .ok (.getfield 117, 3) := by decide +kernel
theorem dX12_isStopped_4 : decode cX12_isStopped 4 = .ok (.iconst 1, 1) := by decide +kernel
theorem dX12_isStopped_5 : decode cX12_isStopped 5 = .ok (.iaload, 1) := by decide +kernel
theorem dX12_isStopped_6 : decode cX12_isStopped 6 = .ok (.iload_n 1, 1) := by decide +kernel
theorem dX12_isStopped_7 : decode cX12_isStopped 7 = .ok (.ishr, 1) := by decide +kernel
theorem dX12_isStopped_8 : decode cX12_isStopped 8 = .ok (.iconst 1, 1) := by decide +kernel
theorem dX12_isStopped_9 : decode cX12_isStopped 9 = .ok (.iand, 1) := by decide +kernel
theorem dX12_isStopped_10 : decode cX12_isStopped 10 = .ok (.iconst 1, 1) := by decide +kernel
theorem dX12_isStopped_11 : decode cX12_isStopped 11 = .ok (.if_icmp .ne 7, 3) := by decide +kernel
theorem dX12_isStopped_14 : decode cX12_isStopped 14 = .ok (.iconst 1, 1) := by decide +kernel
theorem dX12_isStopped_15 : decode cX12_isStopped 15 = .ok (.goto 4, 3) := by decide +kernel
theorem dX12_isStopped_18 : decode cX12_isStopped 18 = .ok (.iconst 0, 1) := by decide +kernel
theorem dX12_isStopped_19 : decode cX12_isStopped 19 = .ok (.ireturn, 1) := by decide +kernel
theorem dX12_every_0 : decode cX12_every 0 = .ok (.iconst 1, 1) := by decide +kernel
theorem dX12_every_1 : decode cX12_every 1 = .ok (.aload_n 0, 1) := by decide +kernel
theorem dX12_every_2 : decode cX12_every 2 = .ok (.getfield 13, 3) := by decide +kernel
theorem dX12_every_5 : decode cX12_every 5 = .ok (.iconst 0, 1) := by decide +kernel
theorem dX12_every_6 : decode cX12_every 6 = .ok (.iaload, 1) := by decide +kernel
theorem dX12_every_7 : decode cX12_every 7 = .ok (.ishl, 1) := by decide +kernel
theorem dX12_every_8 : decode cX12_every 8 = .ok (.iconst 1, 1) := by decide +kernel
theorem dX12_every_9 : decode cX12_every 9 = .ok (.isub, 1) := by decide +kernel
theorem dX12_every_10 : decode cX12_every 10 = .ok (.ireturn, 1) := by decide +kernel
theorem dX12_rainOf_0 : decode cX12_rainOf 0 = .ok (.aload_n 0, 1) := by decide +kernel
theorem dX12_rainOf_1 : decode cX12_rainOf 1 = .ok (.getfield 13, 3) := by decide +kernel
theorem dX12_rainOf_4 : decode cX12_rainOf 4 = .ok (.iconst 2, 1) := by decide +kernel
theorem dX12_rainOf_5 : decode cX12_rainOf 5 = .ok (.iaload, 1) := by decide +kernel
theorem dX12_rainOf_6 : decode cX12_rainOf 6 = .ok (.ifCond .ne 7, 3) := by decide +kernel
theorem dX12_rainOf_9 : decode cX12_rainOf 9 = .ok (.iconst 0, 1) := by decide +kernel
theorem dX12_rainOf_10 : decode cX12_rainOf 10 = .ok (.goto 16, 3) := by decide +kernel
theorem dX12_rainOf_13 : decode cX12_rainOf 13 = .ok (.aload_n 0, 1) := by decide +kernel
theorem dX12_rainOf_14 : decode cX12_rainOf 14 = .ok (.getfield 41, 3) := by decide +kernel
theorem dX12_rainOf_17 : decode cX12_rainOf 17 = .ok (.iload_n 1, 1) := by decide +kernel
theorem dX12_rainOf_18 : decode cX12_rainOf 18 = .ok (.aload_n 0, 1) := by decide +kernel
theorem dX12_rainOf_19 : decode cX12_rainOf 19 = .ok (.getfield 13, 3) := by decide +kernel
theorem dX12_rainOf_22 : decode cX12_rainOf 22 = .ok (.iconst 2, 1) := by decide +kernel
theorem dX12_rainOf_23 : decode cX12_rainOf 23 = .ok (.iaload, 1) := by decide +kernel
theorem dX12_rainOf_24 : decode cX12_rainOf 24 = .ok (.irem, 1) := by decide +kernel
theorem dX12_rainOf_25 : decode cX12_rainOf 25 = .ok (.iaload, 1) := by decide +kernel
theorem dX12_rainOf_26 : decode cX12_rainOf 26 = .ok (.ireturn, 1) := by decide +kernel
theorem dX12_spoutOf_0 : decode cX12_spoutOf 0 = .ok (.aload_n 0, 1) := by decide +kernel
theorem dX12_spoutOf_1 : decode cX12_spoutOf 1 = .ok (.iload_n 1, 1) := by decide +kernel
theorem dX12_spoutOf_2 : decode cX12_spoutOf 2 = .ok (.invokevirtual 359, 3) := by decide +kernel
theorem dX12_spoutOf_5 : decode cX12_spoutOf 5 = .ok (.ifCond .eq 7, 3) := by decide +kernel
theorem dX12_spoutOf_8 : decode cX12_spoutOf 8 = .ok (.iconst 0, 1) := by decide +kernel
theorem dX12_spoutOf_9 : decode cX12_spoutOf 9 = .ok (.goto 44, 3) := by decide +kernel
theorem dX12_spoutOf_12 : decode cX12_spoutOf 12 = .ok (.aload_n 0, 1) := by decide +kernel
theorem dX12_spoutOf_13 : decode cX12_spoutOf 13 = .ok (.getfield 117, 3) := by decide +kernel
theorem dX12_spoutOf_16 : decode cX12_spoutOf 16 = .ok (.iconst 5, 1) := by decide +kernel
theorem dX12_spoutOf_17 : decode cX12_spoutOf 17 = .ok (.iload_n 1, 1) := by decide +kernel
theorem dX12_spoutOf_18 : decode cX12_spoutOf 18 = .ok (.iadd, 1) := by decide +kernel
theorem dX12_spoutOf_19 : decode cX12_spoutOf 19 = .ok (.iaload, 1) := by decide +kernel
theorem dX12_spoutOf_20 : decode cX12_spoutOf 20 = .ok (.aload_n 0, 1) := by decide +kernel
theorem dX12_spoutOf_21 : decode cX12_spoutOf 21 = .ok (.getfield 23, 3) := by decide +kernel
theorem dX12_spoutOf_24 : decode cX12_spoutOf 24 = .ok (.iload_n 1, 1) := by decide +kernel
theorem dX12_spoutOf_25 : decode cX12_spoutOf 25 = .ok (.iaload, 1) := by decide +kernel
theorem dX12_spoutOf_26 : decode cX12_spoutOf 26 = .ok (.iconst 1, 1) := by decide +kernel
theorem dX12_spoutOf_27 : decode cX12_spoutOf 27 = .ok (.if_icmp .ne 8, 3) := by decide +kernel
theorem dX12_spoutOf_30 : decode cX12_spoutOf 30 = .ok (.bipush 6, 2) := by decide +kernel
theorem dX12_spoutOf_32 : decode cX12_spoutOf 32 = .ok (.goto 18, 3) := by decide +kernel
theorem dX12_spoutOf_35 : decode cX12_spoutOf 35 = .ok (.aload_n 0, 1) := by decide +kernel
theorem dX12_spoutOf_36 : decode cX12_spoutOf 36 = .ok (.getfield 23, 3) := by decide +kernel
theorem dX12_spoutOf_39 : decode cX12_spoutOf 39 = .ok (.iload_n 1, 1) := by decide +kernel
theorem dX12_spoutOf_40 : decode cX12_spoutOf 40 = .ok (.iaload, 1) := by decide +kernel
theorem dX12_spoutOf_41 : decode cX12_spoutOf 41 = .ok (.iconst 2, 1) := by decide +kernel
theorem dX12_spoutOf_42 : decode cX12_spoutOf 42 = .ok (.if_icmp .ne 7, 3) := by decide +kernel
theorem dX12_spoutOf_45 : decode cX12_spoutOf 45 = .ok (.iconst 1, 1) := by decide +kernel
theorem dX12_spoutOf_46 : decode cX12_spoutOf 46 = .ok (.goto 4, 3) := by decide +kernel
theorem dX12_spoutOf_49 : decode cX12_spoutOf 49 = .ok (.iconst 3, 1) := by decide +kernel
theorem dX12_spoutOf_50 : decode cX12_spoutOf 50 = .ok (.invokestatic 362, 3) := by decide +kernel
theorem dX12_spoutOf_53 : decode cX12_spoutOf 53 = .ok (.ireturn, 1) := by decide +kernel
theorem dX12_isSounding_0 : decode cX12_isSounding 0 = .ok (.aload_n 0, 1) := by decide +kernel
theorem dX12_isSounding_1 : decode cX12_isSounding 1 = .ok (.getfield 47, 3) := by decide +kernel
theorem dX12_isSounding_4 : decode cX12_isSounding 4 = .ok (.iconst 0, 1) := by decide +kernel
theorem dX12_isSounding_5 : decode cX12_isSounding 5 = .ok (.iaload, 1) := by decide +kernel
theorem dX12_isSounding_6 : decode cX12_isSounding 6 = .ok (.aload_n 0, 1) := by decide +kernel
theorem dX12_isSounding_7 : decode cX12_isSounding 7 = .ok (.getfield 44, 3) := by decide +kernel
theorem dX12_isSounding_10 : decode cX12_isSounding 10 = .ok (.iconst 0, 1) := by decide +kernel
theorem dX12_isSounding_11 : decode cX12_isSounding 11 = .ok (.iaload, 1) := by decide +kernel
theorem dX12_isSounding_12 : decode cX12_isSounding 12 = .ok (.if_icmp .ne 21, 3) := by decide +kernel
theorem dX12_isSounding_15 : decode cX12_isSounding 15 = .ok (.aload_n 0, 1) := by decide +kernel
theorem dX12_isSounding_16 : decode cX12_isSounding 16 = .ok (.getfield 117, 3) := by decide +kernel
theorem dX12_isSounding_19 : decode cX12_isSounding 19 = .ok (.bipush 12, 2) := by decide +kernel
theorem dX12_isSounding_21 : decode cX12_isSounding 21 = .ok (.iload_n 1, 1) := by decide +kernel
theorem dX12_isSounding_22 : decode cX12_isSounding 22 = .ok (.iadd, 1) := by decide +kernel
theorem dX12_isSounding_23 : decode cX12_isSounding 23 = .ok (.iaload, 1) := by decide +kernel
theorem dX12_isSounding_24 : decode cX12_isSounding 24 = .ok (.ifCond .eq 7, 3) := by decide +kernel
theorem dX12_isSounding_27 : decode cX12_isSounding 27 = .ok (.iconst 1, 1) := by decide +kernel
theorem dX12_isSounding_28 : decode cX12_isSounding 28 = .ok (.goto 4, 3) := by decide +kernel
theorem dX12_isSounding_31 : decode cX12_isSounding 31 = .ok (.iconst 0, 1) := by decide +kernel
theorem dX12_isSounding_32 : decode cX12_isSounding 32 = .ok (.ireturn, 1) := by decide +kernel
theorem dX12_isSounding_33 : decode cX12_isSounding 33 = .ok (.aload_n 0, 1) := by decide +kernel
theorem dX12_isSounding_34 : decode cX12_isSounding 34 = .ok (.getfield 87, 3) := by decide +kernel
theorem dX12_isSounding_37 : decode cX12_isSounding 37 = .ok (.iconst 1, 1) := by decide +kernel
theorem dX12_isSounding_38 : decode cX12_isSounding 38 = .ok (.aload_n 0, 1) := by decide +kernel
theorem dX12_isSounding_39 : decode cX12_isSounding 39 = .ok (.getfield 117, 3) := by decide +kernel
theorem dX12_isSounding_42 : decode cX12_isSounding 42 = .ok (.bipush 12, 2) := by decide +kernel
theorem dX12_isSounding_44 : decode cX12_isSounding 44 = .ok (.iload_n 1, 1) := by decide +kernel
theorem dX12_isSounding_45 : decode cX12_isSounding 45 = .ok (.iadd, 1) := by decide +kernel
theorem dX12_isSounding_46 : decode cX12_isSounding 46 = .ok (.iaload, 1) := by decide +kernel
theorem dX12_isSounding_47 : decode cX12_isSounding 47 = .ok (.iastore, 1) := by decide +kernel
theorem dX12_isSounding_48 : decode cX12_isSounding 48 = .ok (.aload_n 0, 1) := by decide +kernel
theorem dX12_isSounding_49 : decode cX12_isSounding 49 = .ok (.getfield 87, 3) := by decide +kernel
theorem dX12_isSounding_52 : decode cX12_isSounding 52 = .ok (.iconst 2, 1) := by decide +kernel
theorem dX12_isSounding_53 : decode cX12_isSounding 53 = .ok (.aload_n 0, 1) := by decide +kernel
theorem dX12_isSounding_54 : decode cX12_isSounding 54 = .ok (.getfield 117, 3) := by decide +kernel
theorem dX12_isSounding_57 : decode cX12_isSounding 57 = .ok (.iconst 5, 1) := by decide +kernel
theorem dX12_isSounding_58 : decode cX12_isSounding 58 = .ok (.iload_n 1, 1) := by decide +kernel
theorem dX12_isSounding_59 : decode cX12_isSounding 59 = .ok (.iadd, 1) := by decide +kernel
theorem dX12_isSounding_60 : decode cX12_isSounding 60 = .ok (.iaload, 1) := by decide +kernel
theorem dX12_isSounding_61 : decode cX12_isSounding 61 = .ok (.iastore, 1) := by decide +kernel
theorem dX12_isSounding_62 : decode cX12_isSounding 62 = .ok (.aload_n 0, 1) := by decide +kernel
theorem dX12_isSounding_63 : decode cX12_isSounding 63 = .ok (.getfield 87, 3) := by decide +kernel
theorem dX12_isSounding_66 : decode cX12_isSounding 66 = .ok (.iconst 3, 1) := by decide +kernel
theorem dX12_isSounding_67 : decode cX12_isSounding 67 = .ok (.aload_n 0, 1) := by decide +kernel
theorem dX12_isSounding_68 : decode cX12_isSounding 68 = .ok (.getfield 26, 3) := by decide +kernel
theorem dX12_isSounding_71 : decode cX12_isSounding 71 = .ok (.iload_n 1, 1) := by decide +kernel
theorem dX12_isSounding_72 : decode cX12_isSounding 72 = .ok (.iaload, 1) := by decide +kernel
theorem dX12_isSounding_73 : decode cX12_isSounding 73 = .ok (.iastore, 1) := by decide +kernel
theorem dX12_isSounding_74 : decode cX12_isSounding 74 = .ok (.aload_n 0, 1) := by decide +kernel
theorem dX12_isSounding_75 : decode cX12_isSounding 75 = .ok (.getfield 87, 3) := by decide +kernel
theorem dX12_isSounding_78 : decode cX12_isSounding 78 = .ok (.iconst 4, 1) := by decide +kernel
theorem dX12_isSounding_79 : decode cX12_isSounding 79 = .ok (.iload_n 2, 1) := by decide +kernel
theorem dX12_isSounding_80 : decode cX12_isSounding 80 = .ok (.iastore, 1) := by decide +kernel
theorem dX12_isSounding_81 : decode cX12_isSounding 81 = .ok (.aload_n 0, 1) := by decide +kernel
theorem dX12_isSounding_82 : decode cX12_isSounding 82 = .ok (.iconst 0, 1) := by decide +kernel
theorem dX12_isSounding_83 : decode cX12_isSounding 83 = .ok (.invokevirtual 368, 3) := by decide +kernel
theorem dX12_isSounding_86 : decode cX12_isSounding 86 = .ok (.ifCond .eq 7, 3) := by decide +kernel
theorem dX12_isSounding_89 : decode cX12_isSounding 89 = .ok (.iconst 1, 1) := by decide +kernel
theorem dX12_isSounding_90 : decode cX12_isSounding 90 = .ok (.goto 4, 3) := by decide +kernel
theorem dX12_isSounding_93 : decode cX12_isSounding 93 = .ok (.iconst 0, 1) := by decide +kernel
theorem dX12_isSounding_94 : decode cX12_isSounding 94 = .ok (.ireturn, 1) := by decide +kernel
theorem dX12_runsOver_0 : decode cX12_runsOver 0 = .ok (.aload_n 0, 1) := by decide +kernel
theorem dX12_runsOver_1 : decode cX12_runsOver 1 = .ok (.getfield 117, 3) := by decide +kernel
theorem dX12_runsOver_4 : decode cX12_runsOver 4 = .ok (.iconst 5, 1) := by decide +kernel
theorem dX12_runsOver_5 : decode cX12_runsOver 5 = .ok (.iload_n 1, 1) := by decide +kernel
theorem dX12_runsOver_6 : decode cX12_runsOver 6 = .ok (.iadd, 1) := by decide +kernel
theorem dX12_runsOver_7 : decode cX12_runsOver 7 = .ok (.iaload, 1) := by decide +kernel
theorem dX12_runsOver_8 : decode cX12_runsOver 8 = .ok (.aload_n 0, 1) := by decide +kernel
theorem dX12_runsOver_9 : decode cX12_runsOver 9 = .ok (.getfield 32, 3) := by decide +kernel
theorem dX12_runsOver_12 : decode cX12_runsOver 12 = .ok (.iload_n 1, 1) := by decide +kernel
theorem dX12_runsOver_13 : decode cX12_runsOver 13 = .ok (.iaload, 1) := by decide +kernel
theorem dX12_runsOver_14 : decode cX12_runsOver 14 = .ok (.isub, 1) := by decide +kernel
theorem dX12_runsOver_15 : decode cX12_runsOver 15 = .ok (.istore_n 2, 1) := by decide +kernel
theorem dX12_runsOver_16 : decode cX12_runsOver 16 = .ok (.iload_n 2, 1) := by decide +kernel
theorem dX12_runsOver_17 : decode cX12_runsOver 17 = .ok (.iconst 1, 1) := by decide +kernel
theorem dX12_runsOver_18 : decode cX12_runsOver 18 = .ok (.if_icmp .ge 4, 3) := by decide +kernel
theorem dX12_runsOver_21 : decode cX12_runsOver 21 = .ok (.return_, 1) := by decide +kernel
theorem dX12_runsOver_22 : decode cX12_runsOver 22 = .ok (.aload_n 0, 1) := by decide +kernel
theorem dX12_runsOver_23 : decode cX12_runsOver 23 = .ok (.dup, 1) := by decide +kernel
theorem dX12_runsOver_24 : decode cX12_runsOver 24 = .ok (.getfield 371, 3) := by decide +kernel
theorem dX12_runsOver_27 : decode cX12_runsOver 27 = .ok (.iconst 1, 1) := by decide +kernel
theorem dX12_runsOver_28 : decode cX12_runsOver 28 = .ok (.iload_n 1, 1) := by decide +kernel
theorem dX12_runsOver_29 : decode cX12_runsOver 29 = .ok (.ishl, 1) := by decide +kernel
theorem dX12_runsOver_30 : decode cX12_runsOver 30 = .ok (.ior, 1) := by decide +kernel
theorem dX12_runsOver_31 : decode cX12_runsOver 31 = .ok (.putfield 371, 3) := by decide +kernel
theorem dX12_runsOver_34 : decode cX12_runsOver 34 = .ok (.aload_n 0, 1) := by decide +kernel
theorem dX12_runsOver_35 : decode cX12_runsOver 35 = .ok (.getfield 117, 3) := by decide +kernel
theorem dX12_runsOver_38 : decode cX12_runsOver 38 = .ok (.iconst 5, 1) := by decide +kernel
theorem dX12_runsOver_39 : decode cX12_runsOver 39 = .ok (.iload_n 1, 1) := by decide +kernel
theorem dX12_runsOver_40 : decode cX12_runsOver 40 = .ok (.iadd, 1) := by decide +kernel
theorem dX12_runsOver_41 : decode cX12_runsOver 41 = .ok (.aload_n 0, 1) := by decide +kernel
theorem dX12_runsOver_42 : decode cX12_runsOver 42 = .ok (.getfield 32, 3) := by decide +kernel
theorem dX12_runsOver_45 : decode cX12_runsOver 45 = .ok (.iload_n 1, 1) := by decide +kernel
theorem dX12_runsOver_46 : decode cX12_runsOver 46 = .ok (.iaload, 1) := by decide +kernel
theorem dX12_runsOver_47 : decode cX12_runsOver 47 = .ok (.iastore, 1) := by decide +kernel
theorem dX12_runsOver_48 : decode cX12_runsOver 48 = .ok (.aload_n 0, 1) := by decide +kernel
theorem dX12_runsOver_49 : decode cX12_runsOver 49 = .ok (.getfield 35, 3) := by decide +kernel
theorem dX12_runsOver_52 : decode cX12_runsOver 52 = .ok (.iload_n 1, 1) := by decide +kernel
theorem dX12_runsOver_53 : decode cX12_runsOver 53 = .ok (.iaload, 1) := by decide +kernel
theorem dX12_runsOver_54 : decode cX12_runsOver 54 = .ok (.ifCond .ge 16, 3) := by decide +kernel
theorem dX12_runsOver_57 : decode cX12_runsOver 57 = .ok (.aload_n 0, 1) := by decide +kernel
theorem dX12_runsOver_58 : decode cX12_runsOver 58 = .ok (.dup, 1) := by decide +kernel
theorem dX12_runsOver_59 : decode cX12_runsOver 59 = .ok (.getfield 374, 3) := by decide +kernel
theorem dX12_runsOver_62 : decode cX12_runsOver 62 = .ok (.iload_n 2, 1) := by decide +kernel
theorem dX12_runsOver_63 : decode cX12_runsOver 63 = .ok (.iadd, 1) := by decide +kernel
theorem dX12_runsOver_64 : decode cX12_runsOver 64 = .ok (.putfield 374, 3) := by decide +kernel
theorem dX12_runsOver_67 : decode cX12_runsOver 67 = .ok (.goto 20, 3) := by decide +kernel
theorem dX12_runsOver_70 : decode cX12_runsOver 70 = .ok (.aload_n 0, 1) := by decide +kernel
theorem dX12_runsOver_71 : decode cX12_runsOver 71 = .ok (.getfield 117, 3) := by decide +kernel
theorem dX12_runsOver_74 : decode cX12_runsOver 74 = .ok (.iconst 5, 1) := by decide +kernel
theorem dX12_runsOver_75 : decode cX12_runsOver 75 = .ok (.aload_n 0, 1) := by decide +kernel
theorem dX12_runsOver_76 : decode cX12_runsOver 76 = .ok (.getfield 35, 3) := by decide +kernel
theorem dX12_runsOver_79 : decode cX12_runsOver 79 = .ok (.iload_n 1, 1) := by decide +kernel
theorem dX12_runsOver_80 : decode cX12_runsOver 80 = .ok (.iaload, 1) := by decide +kernel
theorem dX12_runsOver_81 : decode cX12_runsOver 81 = .ok (.iadd, 1) := by decide +kernel
theorem dX12_runsOver_82 : decode cX12_runsOver 82 = .ok (.dup2, 1) := by decide +kernel
theorem dX12_runsOver_83 : decode cX12_runsOver 83 = .ok (.iaload, 1) := by decide +kernel
theorem dX12_runsOver_84 : decode cX12_runsOver 84 = .ok (.iload_n 2, 1) := by decide +kernel
theorem dX12_runsOver_85 : decode cX12_runsOver 85 = .ok (.iadd, 1) := by decide +kernel
theorem dX12_runsOver_86 : decode cX12_runsOver 86 = .ok (.iastore, 1) := by decide +kernel
theorem dX12_runsOver_87 : decode cX12_runsOver 87 = .ok (.return_, 1) := by decide +kernel
