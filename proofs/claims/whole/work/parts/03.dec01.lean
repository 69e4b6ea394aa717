theorem dX5_readLetterName_0 : decode cX5_readLetterName 0 = .ok (.aload_n 0, 1) := by decide +kernel
theorem dX5_readLetterName_1 : decode cX5_readLetterName 1 = .ok (.getfield 9, 3) := by decide +kernel
theorem dX5_readLetterName_4 : decode cX5_readLetterName 4 = .ok (.invokevirtual 89, 3) := by decide +kernel
theorem dX5_readLetterName_7 : decode cX5_readLetterName 7 = .ok (.ifCond .ne 12, 3) := by decide +kernel
theorem dX5_readLetterName_10 : decode cX5_readLetterName 10 = .ok (.aload_n 0, 1) := by decide +kernel
theorem dX5_readLetterName_11 : decode cX5_readLetterName 11 = .ok (.getfield 9, 3) := by decide +kernel
theorem dX5_readLetterName_14 : decode cX5_readLetterName 14 = .ok (.iconst 1, 1) := by decide +kernel
theorem dX5_readLetterName_15 : decode cX5_readLetterName 15 = .ok (.invokevirtual 45, 3) := by decide +kernel
theorem dX5_readLetterName_18 : decode cX5_readLetterName 18 = .ok (.ireturn, 1) := by decide +kernel
theorem dX5_readLetterName_19 : decode cX5_readLetterName 19 = .ok (.aload_n 1, 1) := by decide +kernel
theorem dX5_readLetterName_20 : decode cX5_readLetterName 20 = .ok (.aload_n 0, 1) := by decide +kernel
theorem dX5_readLetterName_21 : decode cX5_readLetterName 21 = .ok (.getfield 9, 3) := by decide +kernel
theorem dX5_readLetterName_24 : decode cX5_readLetterName 24 = .ok (.getfield 92, 3) := by decide +kernel
theorem dX5_readLetterName_27 : decode cX5_readLetterName 27 = .ok (.invokevirtual 96, 3) := by decide +kernel
theorem dX5_readLetterName_30 : decode cX5_readLetterName 30 = .ok (.istore_n 3, 1) := by decide +kernel
theorem dX5_readLetterName_31 : decode cX5_readLetterName 31 = .ok (.iload_n 3, 1) := by decide +kernel
theorem dX5_readLetterName_32 : decode cX5_readLetterName 32 = .ok (.iconst (-1), 1) := by decide +kernel
theorem dX5_readLetterName_33 : decode cX5_readLetterName 33 = .ok (.if_icmp .ne 12, 3) := by decide +kernel
theorem dX5_readLetterName_36 : decode cX5_readLetterName 36 = .ok (.aload_n 0, 1) := by decide +kernel
theorem dX5_readLetterName_37 : decode cX5_readLetterName 37 = .ok (.getfield 9, 3) := by decide +kernel
theorem dX5_readLetterName_40 : decode cX5_readLetterName 40 = .ok (.iconst 2, 1) := by decide +kernel
theorem dX5_readLetterName_41 : decode cX5_readLetterName 41 = .ok (.invokevirtual 45, 3) := by decide +kernel
theorem dX5_readLetterName_44 : decode cX5_readLetterName 44 = .ok (.ireturn, 1) := by decide +kernel
theorem dX5_readLetterName_45 : decode cX5_readLetterName 45 = .ok (.aload_n 2, 1) := by decide +kernel
theorem dX5_readLetterName_46 : decode cX5_readLetterName 46 = .ok (.getfield 82, 3) := by decide +kernel
theorem dX5_readLetterName_49 : decode cX5_readLetterName 49 = .ok (.bipush 7, 2) := by decide +kernel
theorem dX5_readLetterName_51 : decode cX5_readLetterName 51 = .ok (.if_icmp .lt 12, 3) := by decide +kernel
theorem dX5_readLetterName_54 : decode cX5_readLetterName 54 = .ok (.aload_n 0, 1) := by decide +kernel
theorem dX5_readLetterName_55 : decode cX5_readLetterName 55 = .ok (.getfield 9, 3) := by decide +kernel
theorem dX5_readLetterName_58 : decode cX5_readLetterName 58 = .ok (.iconst 5, 1) := by decide +kernel
theorem dX5_readLetterName_59 : decode cX5_readLetterName 59 = .ok (.invokevirtual 45, 3) := by decide +kernel
theorem dX5_readLetterName_62 : decode cX5_readLetterName 62 = .ok (.ireturn, 1) := by decide +kernel
theorem dX5_readLetterName_63 : decode cX5_readLetterName 63 = .ok (.aload_n 2, 1) := by decide +kernel
theorem dX5_readLetterName_64 : decode cX5_readLetterName 64 = .ok (.getfield 102, 3) := by decide +kernel
theorem dX5_readLetterName_67 : decode cX5_readLetterName 67 = .ok (.aload_n 2, 1) := by decide +kernel
theorem dX5_readLetterName_68 : decode cX5_readLetterName 68 = .ok (.getfield 82, 3) := by decide +kernel
theorem dX5_readLetterName_71 : decode cX5_readLetterName 71 = .ok (.iload_n 3, 1) := by decide +kernel
theorem dX5_readLetterName_72 : decode cX5_readLetterName 72 = .ok (.iastore, 1) := by decide +kernel
theorem dX5_readLetterName_73 : decode cX5_readLetterName 73 = .ok (.aload_n 2, 1) := by decide +kernel
theorem dX5_readLetterName_74 : decode cX5_readLetterName 74 = .ok (.dup, 1) := by decide +kernel
theorem dX5_readLetterName_75 : decode cX5_readLetterName 75 = .ok (.getfield 82, 3) := by decide +kernel
theorem dX5_readLetterName_78 : decode cX5_readLetterName 78 = .ok (.iconst 1, 1) := by decide +kernel
theorem dX5_readLetterName_79 : decode cX5_readLetterName 79 = .ok (.iadd, 1) := by decide +kernel
theorem dX5_readLetterName_80 : decode cX5_readLetterName 80 = .ok (.putfield 82, 3) := by decide +kernel
theorem dX5_readLetterName_83 : decode cX5_readLetterName 83 = .ok (.aload_n 0, 1) := by decide +kernel
theorem dX5_readLetterName_84 : decode cX5_readLetterName 84 = .ok (.getfield 9, 3) := by decide +kernel
theorem dX5_readLetterName_87 : decode cX5_readLetterName 87 = .ok (.invokevirtual 49, 3) := by decide +kernel
theorem dX5_readLetterName_90 : decode cX5_readLetterName 90 = .ok (.iconst 1, 1) := by decide +kernel
theorem dX5_readLetterName_91 : decode cX5_readLetterName 91 = .ok (.ireturn, 1) := by decide +kernel
theorem dX6_init_0 : decode cX6_init 0 = .ok (.aload_n 0, 1) := by decide +kernel
theorem dX6_init_1 : decode cX6_init 1 = .ok (.invokespecial 1, 3) := by decide +kernel
theorem dX6_init_4 : decode cX6_init 4 = .ok (.aload_n 0, 1) := by decide +kernel
theorem dX6_init_5 : decode cX6_init 5 = .ok (.new 7, 3) := by decide +kernel
theorem dX6_init_8 : decode cX6_init 8 = .ok (.dup, 1) := by decide +kernel
theorem dX6_init_9 : decode cX6_init 9 = .ok (.invokespecial 9, 3) := by decide +kernel
theorem dX6_init_12 : decode cX6_init 12 = .ok (.putfield 10, 3) := by decide +kernel
theorem dX6_init_15 : decode cX6_init 15 = .ok (.aload_n 0, 1) := by decide +kernel
theorem dX6_init_16 : decode cX6_init 16 = .ok (.new 16, 3) := by decide +kernel
theorem dX6_init_19 : decode cX6_init 19 = .ok (.dup, 1) := by decide +kernel
theorem dX6_init_20 : decode cX6_init 20 = .ok (.invokespecial 18, 3) := by decide +kernel
theorem dX6_init_23 : decode cX6_init 23 = .ok (.putfield 19, 3) := by decide +kernel
theorem dX6_init_26 : decode cX6_init 26 = .ok (.aload_n 0, 1) := by decide +kernel
theorem dX6_init_27 : decode cX6_init 27 = .ok (.new 23, 3) := by decide +kernel
theorem dX6_init_30 : decode cX6_init 30 = .ok (.dup, 1) := by decide +kernel
theorem dX6_init_31 : decode cX6_init 31 = .ok (.invokespecial 25, 3) := by decide +kernel
theorem dX6_init_34 : decode cX6_init 34 = .ok (.putfield 26, 3) := by decide +kernel
theorem dX6_init_37 : decode cX6_init 37 = .ok (.aload_n 0, 1) := by decide +kernel
theorem dX6_init_38 : decode cX6_init 38 = .ok (.new 30, 3) := by decide +kernel
theorem dX6_init_41 : decode cX6_init 41 = .ok (.dup, 1) := by decide +kernel
theorem dX6_init_42 : decode cX6_init 42 = .ok (.invokespecial 32, 3) := by decide +kernel
theorem dX6_init_45 : decode cX6_init 45 = .ok (.putfield 33, 3) := by decide +kernel
theorem dX6_init_48 : decode cX6_init 48 = .ok (.return_, 1) := by decide +kernel
theorem dX7_init_0 : decode cX7_init 0 = .ok (.aload_n 0, 1) := by decide +kernel
theorem dX7_init_1 : decode cX7_init 1 = .ok (.invokespecial 3, 3) := by decide +kernel
theorem dX7_init_4 : decode cX7_init 4 = .ok (.aload_n 0, 1) := by decide +kernel
theorem dX7_init_5 : decode cX7_init 5 = .ok (.bipush 8, 2) := by decide +kernel
theorem dX7_init_7 : decode cX7_init 7 = .ok (.newarray .int, 2) := by decide +kernel
theorem dX7_init_9 : decode cX7_init 9 = .ok (.putfield 9, 3) := by decide +kernel
theorem dX7_init_12 : decode cX7_init 12 = .ok (.aload_n 0, 1) := by decide +kernel
theorem dX7_init_13 : decode cX7_init 13 = .ok (.bipush 8, 2) := by decide +kernel
theorem dX7_init_15 : decode cX7_init 15 = .ok (.newarray .boolean, 2) := by decide +kernel
theorem dX7_init_17 : decode cX7_init 17 = .ok (.putfield 15, 3) := by decide +kernel
theorem dX7_init_20 : decode cX7_init 20 = .ok (.return_, 1) := by decide +kernel
theorem dX7_add_0 : decode cX7_add 0 = .ok (.aload_n 0, 1) := by decide +kernel
theorem dX7_add_1 : decode cX7_add 1 = .ok (.getfield 19, 3) := by decide +kernel
theorem dX7_add_4 : decode cX7_add 4 = .ok (.bipush 8, 2) := by decide +kernel
theorem dX7_add_6 : decode cX7_add 6 = .ok (.if_icmp .lt 5, 3) := by decide +kernel
theorem dX7_add_9 : decode cX7_add 9 = .ok (.iconst 0, 1) := by decide +kernel
theorem dX7_add_10 : decode cX7_add 10 = .ok (.ireturn, 1) := by decide +kernel
theorem dX7_add_11 : decode cX7_add 11 = .ok (.aload_n 0, 1) := by decide +kernel
theorem dX7_add_12 : decode cX7_add 12 = .ok (.getfield 9, 3) := by decide +kernel
theorem dX7_add_15 : decode cX7_add 15 = .ok (.aload_n 0, 1) := by decide +kernel
theorem dX7_add_16 : decode cX7_add 16 = .ok (.getfield 19, 3) := by decide +kernel
theorem dX7_add_19 : decode cX7_add 19 = .ok (.iload_n 1, 1) := by decide +kernel
theorem dX7_add_20 : decode cX7_add 20 = .ok (.iastore, 1) := by decide +kernel
theorem dX7_add_21 : decode cX7_add 21 = .ok (.aload_n 0, 1) := by decide +kernel
theorem dX7_add_22 : decode cX7_add 22 = .ok (.getfield 15, 3) := by decide +kernel
theorem dX7_add_25 : decode cX7_add 25 = .ok (.aload_n 0, 1) := by decide +kernel
theorem dX7_add_26 : decode cX7_add 26 = .ok (.getfield 19, 3) := by decide +kernel
theorem dX7_add_29 : decode cX7_add 29 = .ok (.iload_n 2, 1) := by decide +kernel
theorem dX7_add_30 : decode cX7_add 30 = .ok (.bastore, 1) := by decide +kernel
theorem dX7_add_31 : decode cX7_add 31 = .ok (.aload_n 0, 1) := by decide +kernel
theorem dX7_add_32 : decode cX7_add 32 = .ok (.dup, 1) := by decide +kernel
theorem dX7_add_33 : decode cX7_add 33 = .ok (.getfield 19, 3) := by decide +kernel
theorem dX7_add_36 : decode cX7_add 36 = .ok (.iconst 1, 1) := by decide +kernel
theorem dX7_add_37 : decode cX7_add 37 = .ok (.iadd, 1) := by decide +kernel
theorem dX7_add_38 : decode cX7_add 38 = .ok (.putfield 19, 3) := by decide +kernel
theorem dX7_add_41 : decode cX7_add 41 = .ok (.iconst 1, 1) := by decide +kernel
theorem dX7_add_42 : decode cX7_add 42 = .ok (.ireturn, 1) := by decide +kernel
theorem dX7_agreesWith_0 : decode cX7_agreesWith 0 = .ok (.iconst 0, 1) := by decide +kernel
theorem dX7_agreesWith_1 : decode cX7_agreesWith 1 = .ok (.istore_n 2, 1) := by decide +kernel
theorem dX7_agreesWith_2 : decode cX7_agreesWith 2 = .ok (.iload_n 2, 1) := by decide +kernel
theorem dX7_agreesWith_3 : decode cX7_agreesWith 3 = .ok (.aload_n 0, 1) := by decide +kernel
theorem dX7_agreesWith_4 : decode cX7_agreesWith 4 = .ok (.getfield 19, 3) := by decide +kernel
theorem dX7_agreesWith_7 : decode cX7_agreesWith 7 = .ok (.if_icmp .ge 40, 3) := by decide +kernel
theorem dX7_agreesWith_10 : decode cX7_agreesWith 10 = .ok (.iload_n 1, 1) := by decide +kernel
theorem dX7_agreesWith_11 : decode cX7_agreesWith 11 = .ok (.aload_n 0, 1) := by decide +kernel
theorem dX7_agreesWith_12 : decode cX7_agreesWith 12 = .ok (.getfield 9, 3) := by decide +kernel
theorem dX7_agreesWith_15 : decode cX7_agreesWith 15 = .ok (.iload_n 2, 1) := by decide +kernel
theorem dX7_agreesWith_16 : decode cX7_agreesWith 16 = .ok (.iaload, 1) := by decide +kernel
theorem dX7_agreesWith_17 : decode cX7_agreesWith 17 = .ok (.ishr, 1) := by decide +kernel
theorem dX7_agreesWith_18 : decode cX7_agreesWith 18 = .ok (.iconst 1, 1) := by decide +kernel
theorem dX7_agreesWith_19 : decode cX7_agreesWith 19 = .ok (.iand, 1) := by decide +kernel
theorem dX7_agreesWith_20 : decode cX7_agreesWith 20 = .ok (.ifCond .eq 7, 3) := by decide +kernel
theorem dX7_agreesWith_23 : decode cX7_agreesWith 23 = .ok (.iconst 1, 1) := by decide +kernel
theorem dX7_agreesWith_24 : decode cX7_agreesWith 24 = .ok (.goto 4, 3) := by decide +kernel
theorem dX7_agreesWith_27 : decode cX7_agreesWith 27 = .ok (.iconst 0, 1) := by decide +kernel
theorem dX7_agreesWith_28 : decode cX7_agreesWith 28 = .ok (.istore_n 3, 1) := by decide +kernel
theorem dX7_agreesWith_29 : decode cX7_agreesWith 29 = .ok (.iload_n 3, 1) := by decide +kernel
theorem dX7_agreesWith_30 : decode cX7_agreesWith 30 = .ok (.aload_n 0, 1) := by decide +kernel
theorem dX7_agreesWith_31 : decode cX7_agreesWith 31 = .ok (.getfield 15, 3) := by decide +kernel
theorem dX7_agreesWith_34 : decode cX7_agreesWith 34 = .ok (.iload_n 2, 1) := by decide +kernel
theorem dX7_agreesWith_35 : decode cX7_agreesWith 35 = .ok (.baload, 1) := by decide +kernel
theorem dX7_agreesWith_36 : decode cX7_agreesWith 36 = .ok (.if_icmp .eq 5, 3) := by decide +kernel
theorem dX7_agreesWith_39 : decode cX7_agreesWith 39 = .ok (.iconst 0, 1) := by decide +kernel
theorem dX7_agreesWith_40 : decode cX7_agreesWith 40 = .ok (.ireturn, 1) := by decide +kernel
theorem dX7_agreesWith_41 : decode cX7_agreesWith 41 = .ok (.iinc 2 1, 3) := by decide +kernel
theorem dX7_agreesWith_44 : decode cX7_agreesWith 44 = .ok (.goto (-42), 3) := by decide +kernel
theorem dX7_agreesWith_47 : decode cX7_agreesWith 47 = .ok (.iconst 1, 1) := by decide +kernel
theorem dX7_agreesWith_48 : decode cX7_agreesWith 48 = .ok (.ireturn, 1) := by decide +kernel
theorem dX7_copyFrom_0 : decode cX7_copyFrom 0 = .ok (.aload_n 0, 1) := by decide +kernel
theorem dX7_copyFrom_1 : decode cX7_copyFrom 1 = .ok (.aload_n 1, 1) := by decide +kernel
theorem dX7_copyFrom_2 : decode cX7_copyFrom 2 = .ok (.getfield 19, 3) := by decide +kernel
theorem dX7_copyFrom_5 : decode cX7_copyFrom 5 = .ok (.putfield 19, 3) := by decide +kernel
theorem dX7_copyFrom_8 : decode cX7_copyFrom 8 = .ok (.iconst 0, 1) := by decide +kernel
theorem dX7_copyFrom_9 : decode cX7_copyFrom 9 = .ok (.istore_n 2, 1) := by decide +kernel
theorem dX7_copyFrom_10 : decode cX7_copyFrom 10 = .ok (.iload_n 2, 1) := by decide +kernel
theorem dX7_copyFrom_11 : decode cX7_copyFrom 11 = .ok (.bipush 8, 2) := by decide +kernel
theorem dX7_copyFrom_13 : decode cX7_copyFrom 13 = .ok (.if_icmp .ge 33, 3) := by decide +kernel
theorem dX7_copyFrom_16 : decode cX7_copyFrom 16 = .ok (.aload_n 0, 1) := by decide +kernel
theorem dX7_copyFrom_17 : decode cX7_copyFrom 17 = .ok (.getfield 9, 3) := by decide +kernel
theorem dX7_copyFrom_20 : decode cX7_copyFrom 20 = .ok (.iload_n 2, 1) := by decide +kernel
theorem dX7_copyFrom_21 : decode cX7_copyFrom 21 = .ok (.aload_n 1, 1) := by decide +kernel
theorem dX7_copyFrom_22 : decode cX7_copyFrom 22 = .ok (.getfield 9, 3) := by decide +kernel
theorem dX7_copyFrom_25 : decode cX7_copyFrom 25 = .ok (.iload_n 2, 1) := by decide +kernel
theorem dX7_copyFrom_26 : decode cX7_copyFrom 26 = .ok (.iaload, 1) := by decide +kernel
theorem dX7_copyFrom_27 : decode cX7_copyFrom 27 = .ok (.iastore, 1) := by decide +kernel
theorem dX7_copyFrom_28 : decode cX7_copyFrom 28 = .ok (.aload_n 0, 1) := by decide +kernel
theorem dX7_copyFrom_29 : decode cX7_copyFrom 29 = .ok (.getfield 15, 3) := by decide +kernel
theorem dX7_copyFrom_32 : decode cX7_copyFrom 32 = .ok (.iload_n 2, 1) := by decide +kernel
theorem dX7_copyFrom_33 : decode cX7_copyFrom 33 = .ok (.aload_n 1, 1) := by decide +kernel
theorem dX7_copyFrom_34 : decode cX7_copyFrom 34 = .ok (.getfield 15, 3) := by decide +kernel
theorem dX7_copyFrom_37 : decode cX7_copyFrom 37 = .ok (.iload_n 2, 1) := by decide +kernel
theorem dX7_copyFrom_38 : decode cX7_copyFrom 38 = .ok (.baload, 1) := by decide +kernel
theorem dX7_copyFrom_39 : decode cX7_copyFrom 39 = .ok (.bastore, 1) := by decide +kernel
theorem dX7_copyFrom_40 : decode cX7_copyFrom 40 = .ok (.iinc 2 1, 3) := by decide +kernel
theorem dX7_copyFrom_43 : decode cX7_copyFrom 43 = .ok (.goto (-33), 3) := by decide +kernel
theorem dX7_copyFrom_46 : decode cX7_copyFrom 46 = .ok (.return_, 1) := by decide +kernel
theorem dX8_init_0 : decode cX8_init 0 = .ok (.aload_n 0, 1) := by decide +kernel
theorem dX8_init_1 : decode cX8_init 1 = .ok (.invokespecial 3, 3) := by decide +kernel
theorem dX8_init_4 : decode cX8_init 4 = .ok (.aload_n 0, 1) := by decide +kernel
theorem dX8_init_5 : decode cX8_init 5 = .ok (.sipush 1000, 3) := by decide +kernel
theorem dX8_init_8 : decode cX8_init 8 = .ok (.newarray .char, 2) := by decide +kernel
theorem dX8_init_10 : decode cX8_init 10 = .ok (.putfield 9, 3) := by decide +kernel
theorem dX8_init_13 : decode cX8_init 13 = .ok (.return_, 1) := by decide +kernel
theorem dX8_addBytes_0 : decode cX8_addBytes 0 = .ok (.bipush 56, 2) := by decide +kernel
theorem dX8_addBytes_2 : decode cX8_addBytes 2 = .ok (.istore_n 3, 1) := by decide +kernel
theorem dX8_addBytes_3 : decode cX8_addBytes 3 = .ok (.iload_n 3, 1) := by decide +kernel
theorem dX8_addBytes_4 : decode cX8_addBytes 4 = .ok (.ifCond .lt 84, 3) := by decide +kernel
theorem dX8_addBytes_7 : decode cX8_addBytes 7 = .ok (.lload_n 1, 1) := by decide +kernel
theorem dX8_addBytes_8 : decode cX8_addBytes 8 = .ok (.iload_n 3, 1) := by decide +kernel
theorem dX8_addBytes_9 : decode cX8_addBytes 9 = .ok (.lushr, 1) := by decide +kernel
theorem dX8_addBytes_10 : decode cX8_addBytes 10 = .ok (.ldc2_w 15, 3) := by decide +kernel
theorem dX8_addBytes_13 : decode cX8_addBytes 13 = .ok (.land, 1) := by decide +kernel
theorem dX8_addBytes_14 : decode cX8_addBytes 14 = .ok (.l2i, 1) := by decide +kernel
theorem dX8_addBytes_15 : decode cX8_addBytes 15 = .ok (.istore 4, 2) := by decide +kernel
theorem dX8_addBytes_17 : decode cX8_addBytes 17 = .ok (.iload 4, 2) := by decide +kernel
theorem dX8_addBytes_19 : decode cX8_addBytes 19 = .ok (.bipush 10, 2) := by decide +kernel
theorem dX8_addBytes_21 : decode cX8_addBytes 21 = .ok (.if_icmp .eq 17, 3) := by decide +kernel
theorem dX8_addBytes_24 : decode cX8_addBytes 24 = .ok (.iload 4, 2) := by decide +kernel
theorem dX8_addBytes_26 : decode cX8_addBytes 26 = .ok (.bipush 32, 2) := by decide +kernel
theorem dX8_addBytes_28 : decode cX8_addBytes 28 = .ok (.if_icmp .lt 14, 3) := by decide +kernel
theorem dX8_addBytes_31 : decode cX8_addBytes 31 = .ok (.iload 4, 2) := by decide +kernel
theorem dX8_addBytes_33 : decode cX8_addBytes 33 = .ok (.bipush 126, 2) := by decide +kernel
theorem dX8_addBytes_35 : decode cX8_addBytes 35 = .ok (.if_icmp .gt 7, 3) := by decide +kernel
theorem dX8_addBytes_38 : decode cX8_addBytes 38 = .ok (.iconst 1, 1) := by decide +kernel
theorem dX8_addBytes_39 : decode cX8_addBytes 39 = .ok (.goto 4, 3) := by decide +kernel
theorem dX8_addBytes_42 : decode cX8_addBytes 42 = .ok (.iconst 0, 1) := by decide +kernel
theorem dX8_addBytes_43 : decode cX8_addBytes 43 = .ok (.istore 5, 2) := by decide +kernel
theorem dX8_addBytes_45 : decode cX8_addBytes 45 = .ok (.iload 5, 2) := by decide +kernel
theorem dX8_addBytes_47 : decode cX8_addBytes 47 = .ok (.ifCond .eq 35, 3) := by decide +kernel
theorem dX8_addBytes_50 : decode cX8_addBytes 50 = .ok (.aload_n 0, 1) := by decide +kernel
theorem dX8_addBytes_51 : decode cX8_addBytes 51 = .ok (.getfield 17, 3) := by decide +kernel
theorem dX8_addBytes_54 : decode cX8_addBytes 54 = .ok (.sipush 1000, 3) := by decide +kernel
theorem dX8_addBytes_57 : decode cX8_addBytes 57 = .ok (.if_icmp .ge 25, 3) := by decide +kernel
theorem dX8_addBytes_60 : decode cX8_addBytes 60 = .ok (.aload_n 0, 1) := by decide +kernel
theorem dX8_addBytes_61 : decode cX8_addBytes 61 = .ok (.getfield 9, 3) := by decide +kernel
theorem dX8_addBytes_64 : decode cX8_addBytes 64 = .ok (.aload_n 0, 1) := by decide +kernel
theorem dX8_addBytes_65 : decode cX8_addBytes 65 = .ok (.getfield 17, 3) := by decide +kernel
theorem dX8_addBytes_68 : decode cX8_addBytes 68 = .ok (.iload 4, 2) := by decide +kernel
theorem dX8_addBytes_70 : decode cX8_addBytes 70 = .ok (.i2c, 1) := by decide +kernel
theorem dX8_addBytes_71 : decode cX8_addBytes 71 = .ok (.castore, 1) := by decide +kernel
theorem dX8_addBytes_72 : decode cX8_addBytes 72 = .ok (.aload_n 0, 1) := by decide +kernel
theorem dX8_addBytes_73 : decode cX8_addBytes 73 = .ok (.dup, 1) := by decide +kernel
theorem dX8_addBytes_74 : decode cX8_addBytes 74 = .ok (.getfield 17, 3) := by decide +kernel
theorem dX8_addBytes_77 : decode cX8_addBytes 77 = .ok (.iconst 1, 1) := by decide +kernel
theorem dX8_addBytes_78 : decode cX8_addBytes 78 = .ok (.iadd, 1) := by decide +kernel
theorem dX8_addBytes_79 : decode cX8_addBytes 79 = .ok (.putfield 17, 3) := by decide +kernel
theorem dX8_addBytes_82 : decode cX8_addBytes 82 = .ok (.iinc 3 (-8), 3) := by decide +kernel
theorem dX8_addBytes_85 : decode cX8_addBytes 85 = .ok (.goto (-82), 3) := by decide +kernel
theorem dX8_addBytes_88 : decode cX8_addBytes 88 = .ok (.return_, 1) := by decide +kernel
theorem dX8_open_0 : decode cX8_open 0 = .ok (.aload_n 0, 1) := by decide +kernel
theorem dX8_open_1 : decode cX8_open 1 = .ok (.iconst 0, 1) := by decide +kernel
theorem dX8_open_2 : decode cX8_open 2 = .ok (.putfield 21, 3) := by decide +kernel
theorem dX8_open_5 : decode cX8_open 5 = .ok (.aload_n 0, 1) := by decide +kernel
theorem dX8_open_6 : decode cX8_open 6 = .ok (.iconst 0, 1) := by decide +kernel
theorem dX8_open_7 : decode cX8_open 7 = .ok (.putfield 24, 3) := by decide +kernel
theorem dX8_open_10 : decode cX8_open 10 = .ok (.aload_n 0, 1) := by decide +kernel
theorem dX8_open_11 : decode cX8_open 11 = .ok (.invokevirtual 27, 3) := by decide +kernel
theorem dX8_open_14 : decode cX8_open 14 = .ok (.return_, 1) := by decide +kernel
theorem dX8_close_0 : decode cX8_close 0 = .ok (.aload_n 0, 1) := by decide +kernel
theorem dX8_close_1 : decode cX8_close 1 = .ok (.iconst 0, 1) := by decide +kernel
theorem dX8_close_2 : decode cX8_close 2 = .ok (.putfield 17, 3) := by decide +kernel
theorem dX8_close_5 : decode cX8_close 5 = .ok (.aload_n 0, 1) := by decide +kernel
theorem dX8_close_6 : decode cX8_close 6 = .ok (.getfield 24, 3) := by decide +kernel
theorem dX8_close_9 : decode cX8_close 9 = .ok (.ireturn, 1) := by decide +kernel
theorem dX8_fail_0 : decode cX8_fail 0 = .ok (.aload_n 0, 1) := by decide +kernel
theorem dX8_fail_1 : decode cX8_fail 1 = .ok (.getfield 24, 3) := by decide +kernel
theorem dX8_fail_4 : decode cX8_fail 4 = .ok (.ifCond .ne 16, 3) := by decide +kernel
theorem dX8_fail_7 : decode cX8_fail 7 = .ok (.aload_n 0, 1) := by decide +kernel
theorem dX8_fail_8 : decode cX8_fail 8 = .ok (.iload_n 1, 1) := by decide +kernel
theorem dX8_fail_9 : decode cX8_fail 9 = .ok (.bipush 16, 2) := by decide +kernel
theorem dX8_fail_11 : decode cX8_fail 11 = .ok (.aload_n 0, 1) := by decide +kernel
theorem dX8_fail_12 : decode cX8_fail 12 = .ok (.getfield 30, 3) := by decide +kernel
theorem dX8_fail_15 : decode cX8_fail 15 = .ok (.imul, 1) := by decide +kernel
theorem dX8_fail_16 : decode cX8_fail 16 = .ok (.iadd, 1) := by decide +kernel
theorem dX8_fail_17 : decode cX8_fail 17 = .ok (.putfield 24, 3) := by decide +kernel
theorem dX8_fail_20 : decode cX8_fail 20 = .ok (.iconst 0, 1) := by decide +kernel
theorem dX8_fail_21 : decode cX8_fail 21 = .ok (.ireturn, 1) := by decide +kernel
theorem dX8_advance_0 : decode cX8_advance 0 = .ok (.aload_n 0, 1) := by decide +kernel
theorem dX8_advance_1 : decode cX8_advance 1 = .ok (.getfield 21, 3) := by decide +kernel
theorem dX8_advance_4 : decode cX8_advance 4 = .ok (.istore_n 1, 1) := by decide +kernel
theorem dX8_advance_5 : decode cX8_advance 5 = .ok (.iload_n 1, 1) := by decide +kernel
theorem dX8_advance_6 : decode cX8_advance 6 = .ok (.aload_n 0, 1) := by decide +kernel
theorem dX8_advance_7 : decode cX8_advance 7 = .ok (.getfield 17, 3) := by decide +kernel
theorem dX8_advance_10 : decode cX8_advance 10 = .ok (.if_icmp .ge 31, 3) := by decide +kernel
theorem dX8_advance_13 : decode cX8_advance 13 = .ok (.aload_n 0, 1) := by decide +kernel
theorem dX8_advance_14 : decode cX8_advance 14 = .ok (.getfield 9, 3) := by decide +kernel
theorem dX8_advance_17 : decode cX8_advance 17 = .ok (.iload_n 1, 1) := by decide +kernel
theorem dX8_advance_18 : decode cX8_advance 18 = .ok (.caload, 1) := by decide +kernel
theorem dX8_advance_19 : decode cX8_advance 19 = .ok (.bipush 10, 2) := by decide +kernel
theorem dX8_advance_21 : decode cX8_advance 21 = .ok (.if_icmp .eq 14, 3) := by decide +kernel
theorem dX8_advance_24 : decode cX8_advance 24 = .ok (.aload_n 0, 1) := by decide +kernel
theorem dX8_advance_25 : decode cX8_advance 25 = .ok (.getfield 9, 3) := by decide +kernel
theorem dX8_advance_28 : decode cX8_advance 28 = .ok (.iload_n 1, 1) := by decide +kernel
theorem dX8_advance_29 : decode cX8_advance 29 = .ok (.caload, 1) := by decide +kernel
theorem dX8_advance_30 : decode cX8_advance 30 = .ok (.bipush 32, 2) := by decide +kernel
theorem dX8_advance_32 : decode cX8_advance 32 = .ok (.if_icmp .ne 9, 3) := by decide +kernel
theorem dX8_advance_35 : decode cX8_advance 35 = .ok (.iinc 1 1, 3) := by decide +kernel
theorem dX8_advance_38 : decode cX8_advance 38 = .ok (.goto (-33), 3) := by decide +kernel
theorem dX8_advance_41 : decode cX8_advance 41 = .ok (.aload_n 0, 1) := by decide +kernel
theorem dX8_advance_42 : decode cX8_advance 42 = .ok (.iload_n 1, 1) := by decide +kernel
theorem dX8_advance_43 : decode cX8_advance 43 = .ok (.putfield 30, 3) := by decide +kernel
theorem dX8_advance_46 : decode cX8_advance 46 = .ok (.aload_n 0, 1) := by decide +kernel
theorem dX8_advance_47 : decode cX8_advance 47 = .ok (.iload_n 1, 1) := by decide +kernel
theorem dX8_advance_48 : decode cX8_advance 48 = .ok (.putfield 21, 3) := by decide +kernel
theorem dX8_advance_51 : decode cX8_advance 51 = .ok (.iload_n 1, 1) := by decide +kernel
theorem dX8_advance_52 : decode cX8_advance 52 = .ok (.aload_n 0, 1) := by decide +kernel
theorem dX8_advance_53 : decode cX8_advance 53 = .ok (.getfield 17, 3) := by decide +kernel
theorem dX8_advance_56 : decode cX8_advance 56 = .ok (.if_icmp .lt 9, 3) := by decide +kernel
theorem dX8_advance_59 : decode cX8_advance 59 = .ok (.aload_n 0, 1) := by decide +kernel
theorem dX8_advance_60 : decode cX8_advance 60 = .ok (.iconst 0, 1) := by decide +kernel
theorem dX8_advance_61 : decode cX8_advance 61 = .ok (.putfield 33, 3) := by decide +kernel
theorem dX8_advance_64 : decode cX8_advance 64 = .ok (.return_, 1) := by decide +kernel
theorem dX8_advance_65 : decode cX8_advance 65 = .ok (.aload_n 0, 1) := by decide +kernel
theorem dX8_advance_66 : decode cX8_advance 66 = .ok (.getfield 9, 3) := by decide +kernel
theorem dX8_advance_69 : decode cX8_advance 69 = .ok (.iload_n 1, 1) := by decide +kernel
theorem dX8_advance_70 : decode cX8_advance 70 = .ok (.caload, 1) := by decide +kernel
theorem dX8_advance_71 : decode cX8_advance 71 = .ok (.istore_n 2, 1) := by decide +kernel
theorem dX8_advance_72 : decode cX8_advance 72 = .ok (.iload_n 2, 1) := by decide +kernel
theorem dX8_advance_73 : decode cX8_advance 73 = .ok (.bipush 97, 2) := by decide +kernel
theorem dX8_advance_75 : decode cX8_advance 75 = .ok (.if_icmp .lt 16, 3) := by decide +kernel
theorem dX8_advance_78 : decode cX8_advance 78 = .ok (.iload_n 2, 1) := by decide +kernel
theorem dX8_advance_79 : decode cX8_advance 79 = .ok (.bipush 122, 2) := by decide +kernel
theorem dX8_advance_81 : decode cX8_advance 81 = .ok (.if_icmp .gt 10, 3) := by decide +kernel
theorem dX8_advance_84 : decode cX8_advance 84 = .ok (.aload_n 0, 1) := by decide +kernel
theorem dX8_advance_85 : decode cX8_advance 85 = .ok (.invokevirtual 36, 3) := by decide +kernel
theorem dX8_advance_88 : decode cX8_advance 88 = .ok (.goto 47, 3) := by decide +kernel
theorem dX8_advance_91 : decode cX8_advance 91 = .ok (.iload_n 2, 1) := by decide +kernel
theorem dX8_advance_92 : decode cX8_advance 92 = .ok (.bipush 48, 2) := by decide +kernel
theorem dX8_advance_94 : decode cX8_advance 94 = .ok (.if_icmp .lt 16, 3) := by decide +kernel
theorem dX8_advance_97 : decode cX8_advance 97 = .ok (.iload_n 2, 1) := by decide +kernel
theorem dX8_advance_98 : decode cX8_advance 98 = .ok (.bipush 57, 2) := by decide +kernel
theorem dX8_advance_100 : decode cX8_advance 100 = .ok (.if_icmp .gt 10, 3) := by decide +kernel
theorem dX8_advance_103 : decode cX8_advance 103 = .ok (.aload_n 0, 1) := by decide +kernel
theorem dX8_advance_104 : decode cX8_advance 104 = .ok (.invokevirtual 39, 3) := by decide +kernel
theorem dX8_advance_107 : decode cX8_advance 107 = .ok (.goto 28, 3) := by decide +kernel
theorem dX8_advance_110 : decode cX8_advance 110 = .ok (.aload_n 0, 1) := by decide +kernel
theorem dX8_advance_111 : decode cX8_advance 111 = .ok (.ldc 42, 2) := by decide +kernel
theorem dX8_advance_113 : decode cX8_advance 113 = .ok (.iload_n 2, 1) := by decide +kernel
theorem dX8_advance_114 : decode cX8_advance 114 = .ok (.invokevirtual 44, 3) := by decide +kernel
theorem dX8_advance_117 : decode cX8_advance 117 = .ok (.ifCond .lt 7, 3) := by decide +kernel
theorem dX8_advance_120 : decode cX8_advance 120 = .ok (.iconst 4, 1) := by decide +kernel
theorem dX8_advance_121 : decode cX8_advance 121 = .ok (.goto 4, 3) := by decide +kernel
theorem dX8_advance_124 : decode cX8_advance 124 = .ok (.iconst 1, 1) := by decide +kernel
theorem dX8_advance_125 : decode cX8_advance 125 = .ok (.putfield 33, 3) := by decide +kernel
theorem dX8_advance_128 : decode cX8_advance 128 = .ok (.aload_n 0, 1) := by decide +kernel
theorem dX8_advance_129 : decode cX8_advance 129 = .ok (.iload_n 1, 1) := by decide +kernel
theorem dX8_advance_130 : decode cX8_advance 130 = .ok (.iconst 1, 1) := by decide +kernel
theorem dX8_advance_131 : decode cX8_advance 131 = .ok (.iadd, 1) := by decide +kernel
theorem dX8_advance_132 : decode cX8_advance 132 = .ok (.putfield 21, 3) := by decide +kernel
theorem dX8_advance_135 : decode cX8_advance 135 = .ok (.return_, 1) := by decide +kernel
theorem dX8_scanWord_0 : decode cX8_scanWord 0 = .ok (.aload_n 0, 1) := by decide +kernel
theorem dX8_scanWord_1 : decode cX8_scanWord 1 = .ok (.lconst 0, 1) := by decide +kernel
theorem dX8_scanWord_2 : decode cX8_scanWord 2 = .ok (.putfield 50, 3) := by decide +kernel
theorem dX8_scanWord_5 : decode cX8_scanWord 5 = .ok (.aload_n 0, 1) := by decide +kernel
theorem dX8_scanWord_6 : decode cX8_scanWord 6 = .ok (.getfield 21, 3) := by decide +kernel
theorem dX8_scanWord_9 : decode cX8_scanWord 9 = .ok (.aload_n 0, 1) := by decide +kernel
theorem dX8_scanWord_10 : decode cX8_scanWord 10 = .ok (.getfield 17, 3) := by decide +kernel
theorem dX8_scanWord_13 : decode cX8_scanWord 13 = .ok (.if_icmp .ge 72, 3) := by decide +kernel
theorem dX8_scanWord_16 : decode cX8_scanWord 16 = .ok (.aload_n 0, 1) := by decide +kernel
theorem dX8_scanWord_17 : decode cX8_scanWord 17 = .ok (.getfield 9, 3) := by decide +kernel
theorem dX8_scanWord_20 : decode cX8_scanWord 20 = .ok (.aload_n 0, 1) := by decide +kernel
theorem dX8_scanWord_21 : decode cX8_scanWord 21 = .ok (.getfield 21, 3) := by decide +kernel
theorem dX8_scanWord_24 : decode cX8_scanWord 24 = .ok (.caload, 1) := by decide +kernel
theorem dX8_scanWord_25 : decode cX8_scanWord 25 = .ok (.bipush 97, 2) := by decide +kernel
theorem dX8_scanWord_27 : decode cX8_scanWord 27 = .ok (.if_icmp .lt 58, 3) := by decide +kernel
theorem dX8_scanWord_30 : decode cX8_scanWord 30 = .ok (.aload_n 0, 1) := by decide +kernel
theorem dX8_scanWord_31 : decode cX8_scanWord 31 = .ok (.getfield 9, 3) := by decide +kernel
theorem dX8_scanWord_34 : decode cX8_scanWord 34 = .ok (.aload_n 0, 1) := by decide +kernel
theorem dX8_scanWord_35 : decode cX8_scanWord 35 = .ok (.getfield 21, 3) := by decide +kernel
theorem dX8_scanWord_38 : decode cX8_scanWord 38 = .ok (.caload, 1) := by decide +kernel
theorem dX8_scanWord_39 : decode cX8_scanWord 39 = .ok (.bipush 122, 2) := by decide +kernel
theorem dX8_scanWord_41 : decode cX8_scanWord 41 = .ok (.if_icmp .gt 44, 3) := by decide +kernel
theorem dX8_scanWord_44 : decode cX8_scanWord 44 = .ok (.aload_n 0, 1) := by decide +kernel
theorem dX8_scanWord_45 : decode cX8_scanWord 45 = .ok (.aload_n 0, 1) := by decide +kernel
theorem dX8_scanWord_46 : decode cX8_scanWord 46 = .ok (.getfield 50, 3) := by decide +kernel
theorem dX8_scanWord_49 : decode cX8_scanWord 49 = .ok (.ldc2_w 54, 3) := by decide +kernel
theorem dX8_scanWord_52 : decode cX8_scanWord 52 = .ok (.lmul, 1) := by decide +kernel
theorem dX8_scanWord_53 : decode cX8_scanWord 53 = .ok (.aload_n 0, 1) := by decide +kernel
theorem dX8_scanWord_54 : decode cX8_scanWord 54 = .ok (.getfield 9, 3) := by decide +kernel
theorem dX8_scanWord_57 : decode cX8_scanWord 57 = .ok (.aload_n 0, 1) := by decide +kernel
theorem dX8_scanWord_58 : decode cX8_scanWord 58 = .ok (.getfield 21, 3) := by decide +kernel
theorem dX8_scanWord_61 : decode cX8_scanWord 61 = .ok (.caload, 1) := by decide +kernel
theorem dX8_scanWord_62 : decode cX8_scanWord 62 = .ok (.bipush 97, 2) := by decide +kernel
theorem dX8_scanWord_64 : decode cX8_scanWord 64 = .ok (.isub, 1) := by decide +kernel
theorem dX8_scanWord_65 : decode cX8_scanWord 65 = .ok (.iconst 1, 1) := by decide +kernel
theorem dX8_scanWord_66 : decode cX8_scanWord 66 = .ok (.iadd, 1) := by decide +kernel
theorem dX8_scanWord_67 : decode cX8_scanWord 67 = .ok (.i2l, 1) := by decide +kernel
theorem dX8_scanWord_68 : decode cX8_scanWord 68 = .ok (.ladd, 1) := by decide +kernel
theorem dX8_scanWord_69 : decode cX8_scanWord 69 = .ok (.putfield 50, 3) := by decide +kernel
theorem dX8_scanWord_72 : decode cX8_scanWord 72 = .ok (.aload_n 0, 1) := by decide +kernel
theorem dX8_scanWord_73 : decode cX8_scanWord 73 = .ok (.dup, 1) := by decide +kernel
theorem dX8_scanWord_74 : decode cX8_scanWord 74 = .ok (.getfield 21, 3) := by decide +kernel
theorem dX8_scanWord_77 : decode cX8_scanWord 77 = .ok (.iconst 1, 1) := by decide +kernel
theorem dX8_scanWord_78 : decode cX8_scanWord 78 = .ok (.iadd, 1) := by decide +kernel
theorem dX8_scanWord_79 : decode cX8_scanWord 79 = .ok (.putfield 21, 3) := by decide +kernel
theorem dX8_scanWord_82 : decode cX8_scanWord 82 = .ok (.goto (-77), 3) := by decide +kernel
theorem dX8_scanWord_85 : decode cX8_scanWord 85 = .ok (.aload_n 0, 1) := by decide +kernel
theorem dX8_scanWord_86 : decode cX8_scanWord 86 = .ok (.aload_n 0, 1) := by decide +kernel
theorem dX8_scanWord_87 : decode cX8_scanWord 87 = .ok (.getfield 21, 3) := by decide +kernel
theorem dX8_scanWord_90 : decode cX8_scanWord 90 = .ok (.aload_n 0, 1) := by decide +kernel
theorem dX8_scanWord_91 : decode cX8_scanWord 91 = .ok (.getfield 30, 3) := by decide +kernel
theorem dX8_scanWord_94 : decode cX8_scanWord 94 = .ok (.isub, 1) := by decide +kernel
theorem dX8_scanWord_95 : decode cX8_scanWord 95 = .ok (.bipush 8, 2) := by decide +kernel
theorem dX8_scanWord_97 : decode cX8_scanWord 97 = .ok (.if_icmp .gt 7, 3) := by decide +kernel
theorem dX8_scanWord_100 : decode cX8_scanWord 100 = .ok (.iconst 2, 1) := by decide +kernel
theorem dX8_scanWord_101 : decode cX8_scanWord 101 = .ok (.goto 4, 3) := by decide +kernel
theorem dX8_scanWord_104 : decode cX8_scanWord 104 = .ok (.iconst 1, 1) := by decide +kernel
theorem dX8_scanWord_105 : decode cX8_scanWord 105 = .ok (.putfield 33, 3) := by decide +kernel
theorem dX8_scanWord_108 : decode cX8_scanWord 108 = .ok (.return_, 1) := by decide +kernel
theorem dX8_scanNumber_0 : decode cX8_scanNumber 0 = .ok (.aload_n 0, 1) := by decide +kernel
theorem dX8_scanNumber_1 : decode cX8_scanNumber 1 = .ok (.iconst 0, 1) := by decide +kernel
theorem dX8_scanNumber_2 : decode cX8_scanNumber 2 = .ok (.putfield 56, 3) := by decide +kernel
theorem dX8_scanNumber_5 : decode cX8_scanNumber 5 = .ok (.aload_n 0, 1) := by decide +kernel
theorem dX8_scanNumber_6 : decode cX8_scanNumber 6 = .ok (.getfield 21, 3) := by decide +kernel
theorem dX8_scanNumber_9 : decode cX8_scanNumber 9 = .ok (.aload_n 0, 1) := by decide +kernel
theorem dX8_scanNumber_10 : decode cX8_scanNumber 10 = .ok (.getfield 17, 3) := by decide +kernel
theorem dX8_scanNumber_13 : decode cX8_scanNumber 13 = .ok (.if_icmp .ge 68, 3) := by decide +kernel
theorem dX8_scanNumber_16 : decode cX8_scanNumber 16 = .ok (.aload_n 0, 1) := by decide +kernel
theorem dX8_scanNumber_17 : decode cX8_scanNumber 17 = .ok (.getfield 9, 3) := by decide +kernel
theorem dX8_scanNumber_20 : decode cX8_scanNumber 20 = .ok (.aload_n 0, 1) := by decide +kernel
theorem dX8_scanNumber_21 : decode cX8_scanNumber 21 = .ok (.getfield 21, 3) := by decide +kernel
theorem dX8_scanNumber_24 : decode cX8_scanNumber 24 = .ok (.caload, 1) := by decide +kernel
theorem dX8_scanNumber_25 : decode cX8_scanNumber 25 = .ok (.bipush 48, 2) := by decide +kernel
theorem dX8_scanNumber_27 : decode cX8_scanNumber 27 = .ok (.if_icmp .lt 54, 3) := by decide +kernel
theorem dX8_scanNumber_30 : decode cX8_scanNumber 30 = .ok (.aload_n 0, 1) := by decide +kernel
theorem dX8_scanNumber_31 : decode cX8_scanNumber 31 = .ok (.getfield 9, 3) := by decide +kernel
theorem dX8_scanNumber_34 : decode cX8_scanNumber 34 = .ok (.aload_n 0, 1) := by decide +kernel
theorem dX8_scanNumber_35 : decode cX8_scanNumber 35 = .ok (.getfield 21, 3) := by decide +kernel
theorem dX8_scanNumber_38 : decode cX8_scanNumber 38 = .ok (.caload, 1) := by decide +kernel
theorem dX8_scanNumber_39 : decode cX8_scanNumber 39 = .ok (.bipush 57, 2) := by decide +kernel
theorem dX8_scanNumber_41 : decode cX8_scanNumber 41 = .ok (.if_icmp .gt 40, 3) := by decide +kernel
theorem dX8_scanNumber_44 : decode cX8_scanNumber 44 = .ok (.aload_n 0, 1) := by decide +kernel
theorem dX8_scanNumber_45 : decode cX8_scanNumber 45 = .ok (.aload_n 0, 1) := by decide +kernel
theorem dX8_scanNumber_46 : decode cX8_scanNumber 46 = .ok (.getfield 56, 3) := by decide +kernel
theorem dX8_scanNumber_49 : decode cX8_scanNumber 49 = .ok (.bipush 10, 2) := by decide +kernel
theorem dX8_scanNumber_51 : decode cX8_scanNumber 51 = .ok (.imul, 1) := by decide +kernel
theorem dX8_scanNumber_52 : decode cX8_scanNumber 52 = .ok (.aload_n 0, 1) := by decide +kernel
theorem dX8_scanNumber_53 : decode cX8_scanNumber 53 = .ok (.getfield 9, 3) := by decide +kernel
theorem dX8_scanNumber_56 : decode cX8_scanNumber 56 = .ok (.aload_n 0, 1) := by decide +kernel
theorem dX8_scanNumber_57 : decode cX8_scanNumber 57 = .ok (.getfield 21, 3) := by decide +kernel
theorem dX8_scanNumber_60 : decode cX8_scanNumber 60 = .ok (.caload, 1) := by decide +kernel
theorem dX8_scanNumber_61 : decode cX8_scanNumber 61 = .ok (.bipush 48, 2) := by decide +kernel
theorem dX8_scanNumber_63 : decode cX8_scanNumber 63 = .ok (.isub, 1) := by decide +kernel
theorem dX8_scanNumber_64 : decode cX8_scanNumber 64 = .ok (.iadd, 1) := by decide +kernel
theorem dX8_scanNumber_65 : decode cX8_scanNumber 65 = .ok (.putfield 56, 3) := by decide +kernel
theorem dX8_scanNumber_68 : decode cX8_scanNumber 68 = .ok (.aload_n 0, 1) := by decide +kernel
theorem dX8_scanNumber_69 : decode cX8_scanNumber 69 = .ok (.dup, 1) := by decide +kernel
theorem dX8_scanNumber_70 : decode cX8_scanNumber 70 = .ok (.getfield 21, 3) := by decide +kernel
theorem dX8_scanNumber_73 : decode cX8_scanNumber 73 = .ok (.iconst 1, 1) := by decide +kernel
theorem dX8_scanNumber_74 : decode cX8_scanNumber 74 = .ok (.iadd, 1) := by decide +kernel
theorem dX8_scanNumber_75 : decode cX8_scanNumber 75 = .ok (.putfield 21, 3) := by decide +kernel
theorem dX8_scanNumber_78 : decode cX8_scanNumber 78 = .ok (.goto (-73), 3) := by decide +kernel
theorem dX8_scanNumber_81 : decode cX8_scanNumber 81 = .ok (.aload_n 0, 1) := by decide +kernel
theorem dX8_scanNumber_82 : decode cX8_scanNumber 82 = .ok (.aload_n 0, 1) := by decide +kernel
theorem dX8_scanNumber_83 : decode cX8_scanNumber 83 = .ok (.getfield 21, 3) := by decide +kernel
theorem dX8_scanNumber_86 : decode cX8_scanNumber 86 = .ok (.aload_n 0, 1) := by decide +kernel
theorem dX8_scanNumber_87 : decode cX8_scanNumber 87 = .ok (.getfield 30, 3) := by decide +kernel
theorem dX8_scanNumber_90 : decode cX8_scanNumber 90 = .ok (.isub, 1) := by decide +kernel
theorem dX8_scanNumber_91 : decode cX8_scanNumber 91 = .ok (.iconst 4, 1) := by decide +kernel
theorem dX8_scanNumber_92 : decode cX8_scanNumber 92 = .ok (.if_icmp .gt 7, 3) := by decide +kernel
theorem dX8_scanNumber_95 : decode cX8_scanNumber 95 = .ok (.iconst 3, 1) := by decide +kernel
theorem dX8_scanNumber_96 : decode cX8_scanNumber 96 = .ok (.goto 4, 3) := by decide +kernel
theorem dX8_scanNumber_99 : decode cX8_scanNumber 99 = .ok (.iconst 1, 1) := by decide +kernel
theorem dX8_scanNumber_100 : decode cX8_scanNumber 100 = .ok (.putfield 33, 3) := by decide +kernel
theorem dX8_scanNumber_103 : decode cX8_scanNumber 103 = .ok (.return_, 1) := by decide +kernel
theorem dX8_isEnd_0 : decode cX8_isEnd 0 = .ok (.aload_n 0, 1) := by decide +kernel
theorem dX8_isEnd_1 : decode cX8_isEnd 1 = .ok (.getfield 33, 3) := by decide +kernel
theorem dX8_isEnd_4 : decode cX8_isEnd 4 = .ok (.ifCond .ne 7, 3) := by decide +kernel
theorem dX8_isEnd_7 : decode cX8_isEnd 7 = .ok (.iconst 1, 1) := by decide +kernel
theorem dX8_isEnd_8 : decode cX8_isEnd 8 = .ok (.goto 4, 3) := by decide +kernel
theorem dX8_isEnd_11 : decode cX8_isEnd 11 = .ok (.iconst 0, 1) := by decide +kernel
theorem dX8_isEnd_12 : decode cX8_isEnd 12 = .ok (.ireturn, 1) := by decide +kernel
theorem dX8_isNumber_0 : decode cX8_isNumber 0 = .ok (.aload_n 0, 1) := by decide +kernel
theorem dX8_isNumber_1 : decode cX8_isNumber 1 = .ok (.getfield 33, 3) := by decide +kernel
theorem dX8_isNumber_4 : decode cX8_isNumber 4 = .ok (.iconst 3, 1) := by decide +kernel
theorem dX8_isNumber_5 : decode cX8_isNumber 5 = .ok (.if_icmp .ne 7, 3) := by decide +kernel
theorem dX8_isNumber_8 : decode cX8_isNumber 8 = .ok (.iconst 1, 1) := by decide +kernel
theorem dX8_isNumber_9 : decode cX8_isNumber 9 = .ok (.goto 4, 3) := by decide +kernel
theorem dX8_isNumber_12 : decode cX8_isNumber 12 = .ok (.iconst 0, 1) := by decide +kernel
theorem dX8_isNumber_13 : decode cX8_isNumber 13 = .ok (.ireturn, 1) := by decide +kernel
theorem dX8_isSign_0 : decode cX8_isSign 0 = .ok (.aload_n 0, 1) := by decide +kernel
theorem dX8_isSign_1 : decode cX8_isSign 1 = .ok (.getfield 33, 3) := by decide +kernel
theorem dX8_isSign_4 : decode cX8_isSign 4 = .ok (.iconst 4, 1) := by decide +kernel
theorem dX8_isSign_5 : decode cX8_isSign 5 = .ok (.if_icmp .ne 31, 3) := by decide +kernel
theorem dX8_isSign_8 : decode cX8_isSign 8 = .ok (.aload_n 0, 1) := by decide +kernel
theorem dX8_isSign_9 : decode cX8_isSign 9 = .ok (.getfield 30, 3) := by decide +kernel
theorem dX8_isSign_12 : decode cX8_isSign 12 = .ok (.aload_n 0, 1) := by decide +kernel
theorem dX8_isSign_13 : decode cX8_isSign 13 = .ok (.getfield 17, 3) := by decide +kernel
theorem dX8_isSign_16 : decode cX8_isSign 16 = .ok (.if_icmp .ge 20, 3) := by decide +kernel
theorem dX8_isSign_19 : decode cX8_isSign 19 = .ok (.aload_n 0, 1) := by decide +kernel
theorem dX8_isSign_20 : decode cX8_isSign 20 = .ok (.getfield 9, 3) := by decide +kernel
theorem dX8_isSign_23 : decode cX8_isSign 23 = .ok (.aload_n 0, 1) := by decide +kernel
theorem dX8_isSign_24 : decode cX8_isSign 24 = .ok (.getfield 30, 3) := by decide +kernel
theorem dX8_isSign_27 : decode cX8_isSign 27 = .ok (.caload, 1) := by decide +kernel
theorem dX8_isSign_28 : decode cX8_isSign 28 = .ok (.iload_n 1, 1) := by decide +kernel
theorem dX8_isSign_29 : decode cX8_isSign 29 = .ok (.if_icmp .ne 7, 3) := by decide +kernel
theorem dX8_isSign_32 : decode cX8_isSign 32 = .ok (.iconst 1, 1) := by decide +kernel
theorem dX8_isSign_33 : decode cX8_isSign 33 = .ok (.goto 4, 3) := by decide +kernel
theorem dX8_isSign_36 : decode cX8_isSign 36 = .ok (.iconst 0, 1) := by decide +kernel
theorem dX8_isSign_37 : decode cX8_isSign 37 = .ok (.ireturn, 1) := by decide +kernel
theorem dX8_isWord_0 : decode cX8_isWord 0 = .ok (.aload_n 0, 1) := by decide +kernel
theorem dX8_isWord_1 : decode cX8_isWord 1 = .ok (.getfield 33, 3) := by decide +kernel
theorem dX8_isWord_4 : decode cX8_isWord 4 = .ok (.iconst 2, 1) := by decide +kernel
theorem dX8_isWord_5 : decode cX8_isWord 5 = .ok (.if_icmp .ne 30, 3) := by decide +kernel
theorem dX8_isWord_8 : decode cX8_isWord 8 = .ok (.aload_n 0, 1) := by decide +kernel
theorem dX8_isWord_9 : decode cX8_isWord 9 = .ok (.getfield 21, 3) := by decide +kernel
theorem dX8_isWord_12 : decode cX8_isWord 12 = .ok (.aload_n 0, 1) := by decide +kernel
theorem dX8_isWord_13 : decode cX8_isWord 13 = .ok (.getfield 30, 3) := by decide +kernel
theorem dX8_isWord_16 : decode cX8_isWord 16 = .ok (.isub, 1) := by decide +kernel
theorem dX8_isWord_17 : decode cX8_isWord 17 = .ok (.aload_n 1, 1) := by decide +kernel
theorem dX8_isWord_18 : decode cX8_isWord 18 = .ok (.invokevirtual 59, 3) := by decide +kernel
theorem dX8_isWord_21 : decode cX8_isWord 21 = .ok (.if_icmp .ne 14, 3) := by decide +kernel
theorem dX8_isWord_24 : decode cX8_isWord 24 = .ok (.aload_n 0, 1) := by decide +kernel
theorem dX8_isWord_25 : decode cX8_isWord 25 = .ok (.getfield 21, 3) := by decide +kernel
theorem dX8_isWord_28 : decode cX8_isWord 28 = .ok (.aload_n 0, 1) := by decide +kernel
theorem dX8_isWord_29 : decode cX8_isWord 29 = .ok (.getfield 17, 3) := by decide +kernel
theorem dX8_isWord_32 : decode cX8_isWord 32 = .ok (.if_icmp .le 5, 3) := by decide +kernel
theorem dX8_isWord_35 : decode cX8_isWord 35 = .ok (.iconst 0, 1) := by decide +kernel
theorem dX8_isWord_36 : decode cX8_isWord 36 = .ok (.ireturn, 1) := by decide +kernel
theorem dX8_isWord_37 : decode cX8_isWord 37 = .ok (.iconst 0, 1) := by decide +kernel
theorem dX8_isWord_38 : decode cX8_isWord 38 = .ok (.istore_n 2, 1) := by decide +kernel
theorem dX8_isWord_39 : decode cX8_isWord 39 = .ok (.iload_n 2, 1) := by decide +kernel
theorem dX8_isWord_40 : decode cX8_isWord 40 = .ok (.aload_n 1, 1) := by decide +kernel
theorem dX8_isWord_41 : decode cX8_isWord 41 = .ok (.invokevirtual 59, 3) := by decide +kernel
theorem dX8_isWord_44 : decode cX8_isWord 44 = .ok (.if_icmp .ge 30, 3) := by decide +kernel
theorem dX8_isWord_47 : decode cX8_isWord 47 = .ok (.aload_n 0, 1) := by decide +kernel
theorem dX8_isWord_48 : decode cX8_isWord 48 = .ok (.getfield 9, 3) := by decide +kernel
theorem dX8_isWord_51 : decode cX8_isWord 51 = .ok (.aload_n 0, 1) := by decide +kernel
theorem dX8_isWord_52 : decode cX8_isWord 52 = .ok (.getfield 30, 3) := by decide +kernel
theorem dX8_isWord_55 : decode cX8_isWord 55 = .ok (.iload_n 2, 1) := by decide +kernel
theorem dX8_isWord_56 : decode cX8_isWord 56 = .ok (.iadd, 1) := by decide +kernel
theorem dX8_isWord_57 : decode cX8_isWord 57 = .ok (.caload, 1) := by decide +kernel
theorem dX8_isWord_58 : decode cX8_isWord 58 = .ok (.aload_n 1, 1) := by decide +kernel
theorem dX8_isWord_59 : decode cX8_isWord 59 = .ok (.iload_n 2, 1) := by decide +kernel
theorem dX8_isWord_60 : decode cX8_isWord 60 = .ok (.invokevirtual 63, 3) := by decide +kernel
theorem dX8_isWord_63 : decode cX8_isWord 63 = .ok (.if_icmp .eq 5, 3) := by decide +kernel
theorem dX8_isWord_66 : decode cX8_isWord 66 = .ok (.iconst 0, 1) := by decide +kernel
theorem dX8_isWord_67 : decode cX8_isWord 67 = .ok (.ireturn, 1) := by decide +kernel
theorem dX8_isWord_68 : decode cX8_isWord 68 = .ok (.iinc 2 1, 3) := by decide +kernel
theorem dX8_isWord_71 : decode cX8_isWord 71 = .ok (.goto (-32), 3) := by decide +kernel
theorem dX8_isWord_74 : decode cX8_isWord 74 = .ok (.iconst 1, 1) := by decide +kernel
theorem dX8_isWord_75 : decode cX8_isWord 75 = .ok (.ireturn, 1) := by decide +kernel
theorem dX8_isName_0 : decode cX8_isName 0 = .ok (.aload_n 0, 1) := by decide +kernel
theorem dX8_isName_1 : decode cX8_isName 1 = .ok (.getfield 33, 3) := by decide +kernel
theorem dX8_isName_4 : decode cX8_isName 4 = .ok (.iconst 2, 1) := by decide +kernel
theorem dX8_isName_5 : decode cX8_isName 5 = .ok (.if_icmp .ne 187, 3) := by decide +kernel
theorem dX8_isName_8 : decode cX8_isName 8 = .ok (.aload_n 0, 1) := by decide +kernel
theorem dX8_isName_9 : decode cX8_isName 9 = .ok (.ldc 67, 2) := by decide +kernel
theorem dX8_isName_11 : decode cX8_isName 11 = .ok (.invokevirtual 69, 3) := by decide +kernel
theorem dX8_isName_14 : decode cX8_isName 14 = .ok (.ifCond .ne 178, 3) := by decide +kernel
theorem dX8_isName_17 : decode cX8_isName 17 = .ok (.aload_n 0, 1) := by decide +kernel
theorem dX8_isName_18 : decode cX8_isName 18 = .ok (.ldc 73, 2) := by decide +kernel
theorem dX8_isName_20 : decode cX8_isName 20 = .ok (.invokevirtual 69, 3) := by decide +kernel
theorem dX8_isName_23 : decode cX8_isName 23 = .ok (.ifCond .ne 169, 3) := by decide +kernel
theorem dX8_isName_26 : decode cX8_isName 26 = .ok (.aload_n 0, 1) := by decide +kernel
theorem dX8_isName_27 : decode cX8_isName 27 = .ok (.ldc 75, 2) := by decide +kernel
theorem dX8_isName_29 : decode cX8_isName 29 = .ok (.invokevirtual 69, 3) := by decide +kernel
theorem dX8_isName_32 : decode cX8_isName 32 = .ok (.ifCond .ne 160, 3) := by decide +kernel
theorem dX8_isName_35 : decode cX8_isName 35 = .ok (.aload_n 0, 1) := by decide +kernel
theorem dX8_isName_36 : decode cX8_isName 36 = .ok (.ldc 77, 2) := by decide +kernel
theorem dX8_isName_38 : decode cX8_isName 38 = .ok (.invokevirtual 69, 3) := by decide +kernel
theorem dX8_isName_41 : decode cX8_isName 41 = .ok (.ifCond .ne 151, 3) := by decide +kernel
theorem dX8_isName_44 : decode cX8_isName 44 = .ok (.aload_n 0, 1) := by decide +kernel
theorem dX8_isName_45 : decode cX8_isName 45 = .ok (.ldc 79, 2) := by decide +kernel
theorem dX8_isName_47 : decode cX8_isName 47 = .ok (.invokevirtual 69, 3) := by decide +kernel
theorem dX8_isName_50 : decode cX8_isName 50 = .ok (.ifCond .ne 142, 3) := by decide +kernel
theorem dX8_isName_53 : decode cX8_isName 53 = .ok (.aload_n 0, 1) := by decide +kernel
theorem dX8_isName_54 : decode cX8_isName 54 = .ok (.ldc 81, 2) := by decide +kernel
theorem dX8_isName_56 : decode cX8_isName 56 = .ok (.invokevirtual 69, 3) := by decide +kernel
theorem dX8_isName_59 : decode cX8_isName 59 = .ok (.ifCond .ne 133, 3) := by decide +kernel
theorem dX8_isName_62 : decode cX8_isName 62 = .ok (.aload_n 0, 1) := by decide +kernel
theorem dX8_isName_63 : decode cX8_isName 63 = .ok (.ldc 83, 2) := by decide +kernel
theorem dX8_isName_65 : decode cX8_isName 65 = .ok (.invokevirtual 69, 3) := by decide +kernel
theorem dX8_isName_68 : decode cX8_isName 68 = .ok (.ifCond .ne 124, 3) := by decide +kernel
theorem dX8_isName_71 : decode cX8_isName 71 = .ok (.aload_n 0, 1) := by decide +kernel
theorem dX8_isName_72 : decode cX8_isName 72 = .ok (.ldc 85, 2) := by decide +kernel
theorem dX8_isName_74 : decode cX8_isName 74 = .ok (.invokevirtual 69, 3) := by decide +kernel
theorem dX8_isName_77 : decode cX8_isName 77 = .ok (.ifCond .ne 115, 3) := by decide +kernel
theorem dX8_isName_80 : decode cX8_isName 80 = .ok (.aload_n 0, 1) := by decide +kernel
theorem dX8_isName_81 : decode cX8_isName 81 = .ok (.ldc 87, 2) := by decide +kernel
theorem dX8_isName_83 : decode cX8_isName 83 = .ok (.invokevirtual 69, 3) := by decide +kernel
theorem dX8_isName_86 : decode cX8_isName 86 = .ok (.ifCond .ne 106, 3) := by decide +kernel
theorem dX8_isName_89 : decode cX8_isName 89 = .ok (.aload_n 0, 1) := by decide +kernel
theorem dX8_isName_90 : decode cX8_isName 90 = .ok (.ldc 89, 2) := by decide +kernel
theorem dX8_isName_92 : decode cX8_isName 92 = .ok (.invokevirtual 69, 3) := by decide +kernel
theorem dX8_isName_95 : decode cX8_isName 95 = .ok (.ifCond .ne 97, 3) := by decide +kernel
theorem dX8_isName_98 : decode cX8_isName 98 = .ok (.aload_n 0, 1) := by decide +kernel
theorem dX8_isName_99 : decode cX8_isName 99 = .ok (.ldc 91, 2) := by decide +kernel
theorem dX8_isName_101 : decode cX8_isName 101 = .ok (.invokevirtual 69, 3) := by decide +kernel
theorem dX8_isName_104 : decode cX8_isName 104 = .ok (.ifCond .ne 88, 3) := by decide +kernel
theorem dX8_isName_107 : decode cX8_isName 107 = .ok (.aload_n 0, 1) := by decide +kernel
theorem dX8_isName_108 : decode cX8_isName 108 = .ok (.ldc 93, 2) := by decide +kernel
theorem dX8_isName_110 : decode cX8_isName 110 = .ok (.invokevirtual 69, 3) := by decide +kernel
theorem dX8_isName_113 : decode cX8_isName 113 = .ok (.ifCond .ne 79, 3) := by decide +kernel
theorem dX8_isName_116 : decode cX8_isName 116 = .ok (.aload_n 0, 1) := by decide +kernel
theorem dX8_isName_117 : decode cX8_isName 117 = .ok (.ldc 95, 2) := by decide +kernel
theorem dX8_isName_119 : decode cX8_isName 119 = .ok (.invokevirtual 69, 3) := by decide +kernel
theorem dX8_isName_122 : decode cX8_isName 122 = .ok (.ifCond .ne 70, 3) := by decide +kernel
theorem dX8_isName_125 : decode cX8_isName 125 = .ok (.aload_n 0, 1) := by decide +kernel
theorem dX8_isName_126 : decode cX8_isName 126 = .ok (.ldc 97, 2) := by decide +kernel
theorem dX8_isName_128 : decode cX8_isName 128 = .ok (.invokevirtual 69, 3) := by decide +kernel
theorem dX8_isName_131 : decode cX8_isName 131 = .ok (.ifCond .ne 61, 3) := by decide +kernel
theorem dX8_isName_134 : decode cX8_isName 134 = .ok (.aload_n 0, 1) := by decide +kernel
theorem dX8_isName_135 : decode cX8_isName 135 = .ok (.ldc 99, 2) := by decide +kernel
theorem dX8_isName_137 : decode cX8_isName 137 = .ok (.invokevirtual 69, 3) := by decide +kernel
theorem dX8_isName_140 : decode cX8_isName 140 = .ok (.ifCond .ne 52, 3) := by decide +kernel
theorem dX8_isName_143 : decode cX8_isName 143 = .ok (.aload_n 0, 1) := by decide +kernel
theorem dX8_isName_144 : decode cX8_isName 144 = .ok (.ldc 101, 2) := by decide +kernel
theorem dX8_isName_146 : decode cX8_isName 146 = .ok (.invokevirtual 69, 3) := by decide +kernel
theorem dX8_isName_149 : decode cX8_isName 149 = .ok (.ifCond .ne 43, 3) := by decide +kernel
theorem dX8_isName_152 : decode cX8_isName 152 = .ok (.aload_n 0, 1) := by decide +kernel
theorem dX8_isName_153 : decode cX8_isName 153 = .ok (.ldc 103, 2) := by decide +kernel
theorem dX8_isName_155 : decode cX8_isName 155 = .ok (.invokevirtual 69, 3) := by decide +kernel
theorem dX8_isName_158 : decode cX8_isName 158 = .ok (.ifCond .ne 34, 3) := by decide +kernel
theorem dX8_isName_161 : decode cX8_isName 161 = .ok (.aload_n 0, 1) := by decide +kernel
theorem dX8_isName_162 : decode cX8_isName 162 = .ok (.ldc 105, 2) := by decide +kernel
theorem dX8_isName_164 : decode cX8_isName 164 = .ok (.invokevirtual 69, 3) := by decide +kernel
theorem dX8_isName_167 : decode cX8_isName 167 = .ok (.ifCond .ne 25, 3) := by decide +kernel
theorem dX8_isName_170 : decode cX8_isName 170 = .ok (.aload_n 0, 1) := by decide +kernel
theorem dX8_isName_171 : decode cX8_isName 171 = .ok (.ldc 107, 2) := by decide +kernel
theorem dX8_isName_173 : decode cX8_isName 173 = .ok (.invokevirtual 69, 3) := by decide +kernel
theorem dX8_isName_176 : decode cX8_isName 176 = .ok (.ifCond .ne 16, 3) := by decide +kernel
theorem dX8_isName_179 : decode cX8_isName 179 = .ok (.aload_n 0, 1) := by decide +kernel
theorem dX8_isName_180 : decode cX8_isName 180 = .ok (.ldc 109, 2) := by decide +kernel
theorem dX8_isName_182 : decode cX8_isName 182 = .ok (.invokevirtual 69, 3) := by decide +kernel
theorem dX8_isName_185 : decode cX8_isName 185 = .ok (.ifCond .ne 7, 3) := by decide +kernel
theorem dX8_isName_188 : decode cX8_isName 188 = .ok (.iconst 1, 1) := by decide +kernel
theorem dX8_isName_189 : decode cX8_isName 189 = .ok (.goto 4, 3) := by decide +kernel
theorem dX8_isName_192 : decode cX8_isName 192 = .ok (.iconst 0, 1) := by decide +kernel
theorem dX8_isName_193 : decode cX8_isName 193 = .ok (.ireturn, 1) := by decide +kernel
theorem dX8_takeWord_0 : decode cX8_takeWord 0 = .ok (.aload_n 0, 1) := by decide +kernel
theorem dX8_takeWord_1 : decode cX8_takeWord 1 = .ok (.aload_n 1, 1) := by decide +kernel
theorem dX8_takeWord_2 : decode cX8_takeWord 2 = .ok (.invokevirtual 69, 3) := by decide +kernel
theorem dX8_takeWord_5 : decode cX8_takeWord 5 = .ok (.ifCond .ne 9, 3) := by decide +kernel
theorem dX8_takeWord_8 : decode cX8_takeWord 8 = .ok (.aload_n 0, 1) := by decide +kernel
theorem dX8_takeWord_9 : decode cX8_takeWord 9 = .ok (.iconst 1, 1) := by decide +kernel
theorem dX8_takeWord_10 : decode cX8_takeWord 10 = .ok (.invokevirtual 111, 3) := by decide +kernel
theorem dX8_takeWord_13 : decode cX8_takeWord 13 = .ok (.ireturn, 1) := by decide +kernel
theorem dX8_takeWord_14 : decode cX8_takeWord 14 = .ok (.aload_n 0, 1) := by decide +kernel
theorem dX8_takeWord_15 : decode cX8_takeWord 15 = .ok (.invokevirtual 27, 3) := by decide +kernel
theorem dX8_takeWord_18 : decode cX8_takeWord 18 = .ok (.iconst 1, 1) := by decide +kernel
theorem dX8_takeWord_19 : decode cX8_takeWord 19 = .ok (.ireturn, 1) := by decide +kernel
theorem dX8_takeSign_0 : decode cX8_takeSign 0 = .ok (.aload_n 0, 1) := by decide +kernel
theorem dX8_takeSign_1 : decode cX8_takeSign 1 = .ok (.iload_n 1, 1) := by decide +kernel
theorem dX8_takeSign_2 : decode cX8_takeSign 2 = .ok (.invokevirtual 115, 3) := by decide +kernel
theorem dX8_takeSign_5 : decode cX8_takeSign 5 = .ok (.ifCond .ne 9, 3) := by decide +kernel
theorem dX8_takeSign_8 : decode cX8_takeSign 8 = .ok (.aload_n 0, 1) := by decide +kernel
theorem dX8_takeSign_9 : decode cX8_takeSign 9 = .ok (.iconst 1, 1) := by decide +kernel
theorem dX8_takeSign_10 : decode cX8_takeSign 10 = .ok (.invokevirtual 111, 3) := by decide +kernel
theorem dX8_takeSign_13 : decode cX8_takeSign 13 = .ok (.ireturn, 1) := by decide +kernel
theorem dX8_takeSign_14 : decode cX8_takeSign 14 = .ok (.aload_n 0, 1) := by decide +kernel
theorem dX8_takeSign_15 : decode cX8_takeSign 15 = .ok (.invokevirtual 27, 3) := by decide +kernel
theorem dX8_takeSign_18 : decode cX8_takeSign 18 = .ok (.iconst 1, 1) := by decide +kernel
theorem dX8_takeSign_19 : decode cX8_takeSign 19 = .ok (.ireturn, 1) := by decide +kernel
theorem dX8_takeNumber_0 : decode cX8_takeNumber 0 = .ok (.aload_n 0, 1) := by decide +kernel
theorem dX8_takeNumber_1 : decode cX8_takeNumber 1 = .ok (.getfield 33, 3) := by decide +kernel
theorem dX8_takeNumber_4 : decode cX8_takeNumber 4 = .ok (.iconst 3, 1) := by decide +kernel
theorem dX8_takeNumber_5 : decode cX8_takeNumber 5 = .ok (.if_icmp .eq 11, 3) := by decide +kernel
theorem dX8_takeNumber_8 : decode cX8_takeNumber 8 = .ok (.aload_n 0, 1) := by decide +kernel
theorem dX8_takeNumber_9 : decode cX8_takeNumber 9 = .ok (.iconst 1, 1) := by decide +kernel
theorem dX8_takeNumber_10 : decode cX8_takeNumber 10 = .ok (.invokevirtual 111, 3) := by decide +kernel
theorem dX8_takeNumber_13 : decode cX8_takeNumber 13 = .ok (.pop, 1) := by decide +kernel
theorem dX8_takeNumber_14 : decode cX8_takeNumber 14 = .ok (.iconst (-1), 1) := by decide +kernel
theorem dX8_takeNumber_15 : decode cX8_takeNumber 15 = .ok (.ireturn, 1) := by decide +kernel
theorem dX8_takeNumber_16 : decode cX8_takeNumber 16 = .ok (.aload_n 0, 1) := by decide +kernel
theorem dX8_takeNumber_17 : decode cX8_takeNumber 17 = .ok (.getfield 56, 3) := by decide +kernel
theorem dX8_takeNumber_20 : decode cX8_takeNumber 20 = .ok (.iload_n 1, 1) := by decide +kernel
theorem dX8_takeNumber_21 : decode cX8_takeNumber 21 = .ok (.if_icmp .lt 11, 3) := by decide +kernel
theorem dX8_takeNumber_24 : decode cX8_takeNumber 24 = .ok (.aload_n 0, 1) := by decide +kernel
theorem dX8_takeNumber_25 : decode cX8_takeNumber 25 = .ok (.getfield 56, 3) := by decide +kernel
theorem dX8_takeNumber_28 : decode cX8_takeNumber 28 = .ok (.iload_n 2, 1) := by decide +kernel
theorem dX8_takeNumber_29 : decode cX8_takeNumber 29 = .ok (.if_icmp .le 11, 3) := by decide +kernel
theorem dX8_takeNumber_32 : decode cX8_takeNumber 32 = .ok (.aload_n 0, 1) := by decide +kernel
theorem dX8_takeNumber_33 : decode cX8_takeNumber 33 = .ok (.iconst 4, 1) := by decide +kernel
theorem dX8_takeNumber_34 : decode cX8_takeNumber 34 = .ok (.invokevirtual 111, 3) := by decide +kernel
theorem dX8_takeNumber_37 : decode cX8_takeNumber 37 = .ok (.pop, 1) := by decide +kernel
theorem dX8_takeNumber_38 : decode cX8_takeNumber 38 = .ok (.iconst (-1), 1) := by decide +kernel
theorem dX8_takeNumber_39 : decode cX8_takeNumber 39 = .ok (.ireturn, 1) := by decide +kernel
theorem dX8_takeNumber_40 : decode cX8_takeNumber 40 = .ok (.aload_n 0, 1) := by decide +kernel
theorem dX8_takeNumber_41 : decode cX8_takeNumber 41 = .ok (.getfield 56, 3) := by decide +kernel
theorem dX8_takeNumber_44 : decode cX8_takeNumber 44 = .ok (.istore_n 3, 1) := by decide +kernel
theorem dX8_takeNumber_45 : decode cX8_takeNumber 45 = .ok (.aload_n 0, 1) := by decide +kernel
theorem dX8_takeNumber_46 : decode cX8_takeNumber 46 = .ok (.invokevirtual 27, 3) := by decide +kernel
theorem dX8_takeNumber_49 : decode cX8_takeNumber 49 = .ok (.iload_n 3, 1) := by decide +kernel
theorem dX8_takeNumber_50 : decode cX8_takeNumber 50 = .ok (.ireturn, 1) := by decide +kernel
theorem dX8_mouthHere_0 : decode cX8_mouthHere 0 = .ok (.aload_n 0, 1) := by decide +kernel
theorem dX8_mouthHere_1 : decode cX8_mouthHere 1 = .ok (.invokevirtual 119, 3) := by decide +kernel
theorem dX8_mouthHere_4 : decode cX8_mouthHere 4 = .ok (.ifCond .ne 11, 3) := by decide +kernel
theorem dX8_mouthHere_7 : decode cX8_mouthHere 7 = .ok (.aload_n 0, 1) := by decide +kernel
theorem dX8_mouthHere_8 : decode cX8_mouthHere 8 = .ok (.iconst 1, 1) := by decide +kernel
theorem dX8_mouthHere_9 : decode cX8_mouthHere 9 = .ok (.invokevirtual 111, 3) := by decide +kernel
theorem dX8_mouthHere_12 : decode cX8_mouthHere 12 = .ok (.pop, 1) := by decide +kernel
theorem dX8_mouthHere_13 : decode cX8_mouthHere 13 = .ok (.iconst (-1), 1) := by decide +kernel
theorem dX8_mouthHere_14 : decode cX8_mouthHere 14 = .ok (.ireturn, 1) := by decide +kernel
theorem dX8_mouthHere_15 : decode cX8_mouthHere 15 = .ok (.aload_n 1, 1) := by decide +kernel
theorem dX8_mouthHere_16 : decode cX8_mouthHere 16 = .ok (.aload_n 0, 1) := by decide +kernel
theorem dX8_mouthHere_17 : decode cX8_mouthHere 17 = .ok (.getfield 50, 3) := by decide +kernel
theorem dX8_mouthHere_20 : decode cX8_mouthHere 20 = .ok (.invokevirtual 123, 3) := by decide +kernel
theorem dX8_mouthHere_23 : decode cX8_mouthHere 23 = .ok (.istore_n 2, 1) := by decide +kernel
theorem dX8_mouthHere_24 : decode cX8_mouthHere 24 = .ok (.iload_n 2, 1) := by decide +kernel
theorem dX8_mouthHere_25 : decode cX8_mouthHere 25 = .ok (.iconst (-1), 1) := by decide +kernel
theorem dX8_mouthHere_26 : decode cX8_mouthHere 26 = .ok (.if_icmp .ne 9, 3) := by decide +kernel
theorem dX8_mouthHere_29 : decode cX8_mouthHere 29 = .ok (.aload_n 0, 1) := by decide +kernel
theorem dX8_mouthHere_30 : decode cX8_mouthHere 30 = .ok (.iconst 2, 1) := by decide +kernel
theorem dX8_mouthHere_31 : decode cX8_mouthHere 31 = .ok (.invokevirtual 111, 3) := by decide +kernel
theorem dX8_mouthHere_34 : decode cX8_mouthHere 34 = .ok (.pop, 1) := by decide +kernel
theorem dX8_mouthHere_35 : decode cX8_mouthHere 35 = .ok (.iload_n 2, 1) := by decide +kernel
theorem dX8_mouthHere_36 : decode cX8_mouthHere 36 = .ok (.ireturn, 1) := by decide +kernel
theorem dX9_init_0 : decode cX9_init 0 = .ok (.aload_n 0, 1) := by decide +kernel
theorem dX9_init_1 : decode cX9_init 1 = .ok (.invokespecial 3, 3) := by decide +kernel
theorem dX9_init_4 : decode cX9_init 4 = .ok (.aload_n 0, 1) := by decide +kernel
theorem dX9_init_5 : decode cX9_init 5 = .ok (.bipush 7, 2) := by decide +kernel
theorem dX9_init_7 : decode cX9_init 7 = .ok (.newarray .int, 2) := by decide +kernel
theorem dX9_init_9 : decode cX9_init 9 = .ok (.putfield 9, 3) := by decide +kernel
theorem dX9_init_12 : decode cX9_init 12 = .ok (.aload_n 0, 1) := by decide +kernel
theorem dX9_init_13 : decode cX9_init 13 = .ok (.bipush 7, 2) := by decide +kernel
theorem dX9_init_15 : decode cX9_init 15 = .ok (.newarray .int, 2) := by decide +kernel
theorem dX9_init_17 : decode cX9_init 17 = .ok (.putfield 15, 3) := by decide +kernel
theorem dX9_init_20 : decode cX9_init 20 = .ok (.aload_n 0, 1) := by decide +kernel
theorem dX9_init_21 : decode cX9_init 21 = .ok (.bipush 40, 2) := by decide +kernel
theorem dX9_init_23 : decode cX9_init 23 = .ok (.newarray .int, 2) := by decide +kernel
theorem dX9_init_25 : decode cX9_init 25 = .ok (.putfield 18, 3) := by decide +kernel
theorem dX9_init_28 : decode cX9_init 28 = .ok (.aload_n 0, 1) := by decide +kernel
theorem dX9_init_29 : decode cX9_init 29 = .ok (.iconst (-1), 1) := by decide +kernel
theorem dX9_init_30 : decode cX9_init 30 = .ok (.putfield 21, 3) := by decide +kernel
theorem dX9_init_33 : decode cX9_init 33 = .ok (.return_, 1) := by decide +kernel
theorem dX9_begin_0 : decode cX9_begin 0 = .ok (.aload_n 0, 1) := by decide +kernel
theorem dX9_begin_1 : decode cX9_begin 1 = .ok (.iconst 0, 1) := by decide +kernel
theorem dX9_begin_2 : decode cX9_begin 2 = .ok (.putfield 25, 3) := by decide +kernel
theorem dX9_begin_5 : decode cX9_begin 5 = .ok (.aload_n 0, 1) := by decide +kernel
theorem dX9_begin_6 : decode cX9_begin 6 = .ok (.aload_n 1, 1) := by decide +kernel
theorem dX9_begin_7 : decode cX9_begin 7 = .ok (.invokevirtual 28, 3) := by decide +kernel
theorem dX9_begin_10 : decode cX9_begin 10 = .ok (.putfield 34, 3) := by decide +kernel
theorem dX9_begin_13 : decode cX9_begin 13 = .ok (.iconst 0, 1) := by decide +kernel
theorem dX9_begin_14 : decode cX9_begin 14 = .ok (.istore_n 2, 1) := by decide +kernel
theorem dX9_begin_15 : decode cX9_begin 15 = .ok (.iload_n 2, 1) := by decide +kernel
theorem dX9_begin_16 : decode cX9_begin 16 = .ok (.bipush 7, 2) := by decide +kernel
theorem dX9_begin_18 : decode cX9_begin 18 = .ok (.if_icmp .ge 23, 3) := by decide +kernel
theorem dX9_begin_21 : decode cX9_begin 21 = .ok (.aload_n 0, 1) := by decide +kernel
theorem dX9_begin_22 : decode cX9_begin 22 = .ok (.getfield 9, 3) := by decide +kernel
theorem dX9_begin_25 : decode cX9_begin 25 = .ok (.iload_n 2, 1) := by decide +kernel
theorem dX9_begin_26 : decode cX9_begin 26 = .ok (.iconst 0, 1) := by decide +kernel
theorem dX9_begin_27 : decode cX9_begin 27 = .ok (.iastore, 1) := by decide +kernel
theorem dX9_begin_28 : decode cX9_begin 28 = .ok (.aload_n 0, 1) := by decide +kernel
theorem dX9_begin_29 : decode cX9_begin 29 = .ok (.getfield 15, 3) := by decide +kernel
theorem dX9_begin_32 : decode cX9_begin 32 = .ok (.iload_n 2, 1) := by decide +kernel
theorem dX9_begin_33 : decode cX9_begin 33 = .ok (.iconst 0, 1) := by decide +kernel
theorem dX9_begin_34 : decode cX9_begin 34 = .ok (.iastore, 1) := by decide +kernel
theorem dX9_begin_35 : decode cX9_begin 35 = .ok (.iinc 2 1, 3) := by decide +kernel
theorem dX9_begin_38 : decode cX9_begin 38 = .ok (.goto (-23), 3) := by decide +kernel
theorem dX9_begin_41 : decode cX9_begin 41 = .ok (.aload_n 0, 1) := by decide +kernel
theorem dX9_begin_42 : decode cX9_begin 42 = .ok (.iconst 0, 1) := by decide +kernel
theorem dX9_begin_43 : decode cX9_begin 43 = .ok (.putfield 37, 3) := by decide +kernel
theorem dX9_begin_46 : decode cX9_begin 46 = .ok (.aload_n 0, 1) := by decide +kernel
theorem dX9_begin_47 : decode cX9_begin 47 = .ok (.iconst (-1), 1) := by decide +kernel
theorem dX9_begin_48 : decode cX9_begin 48 = .ok (.putfield 21, 3) := by decide +kernel
theorem dX9_begin_51 : decode cX9_begin 51 = .ok (.aload_n 0, 1) := by decide +kernel
theorem dX9_begin_52 : decode cX9_begin 52 = .ok (.iconst 0, 1) := by decide +kernel
theorem dX9_begin_53 : decode cX9_begin 53 = .ok (.putfield 40, 3) := by decide +kernel
theorem dX9_begin_56 : decode cX9_begin 56 = .ok (.return_, 1) := by decide +kernel
theorem dX9_copyFrom_0 : decode cX9_copyFrom 0 = .ok (.aload_n 0, 1) := by decide +kernel
theorem dX9_copyFrom_1 : decode cX9_copyFrom 1 = .ok (.aload_n 1, 1) := by decide +kernel
theorem dX9_copyFrom_2 : decode cX9_copyFrom 2 = .ok (.getfield 25, 3) := by decide +kernel
theorem dX9_copyFrom_5 : decode cX9_copyFrom 5 = .ok (.putfield 25, 3) := by decide +kernel
theorem dX9_copyFrom_8 : decode cX9_copyFrom 8 = .ok (.aload_n 0, 1) := by decide +kernel
theorem dX9_copyFrom_9 : decode cX9_copyFrom 9 = .ok (.aload_n 1, 1) := by decide +kernel
theorem dX9_copyFrom_10 : decode cX9_copyFrom 10 = .ok (.getfield 34, 3) := by decide +kernel
theorem dX9_copyFrom_13 : decode cX9_copyFrom 13 = .ok (.putfield 34, 3) := by decide +kernel
theorem dX9_copyFrom_16 : decode cX9_copyFrom 16 = .ok (.aload_n 1, 1) := by decide +kernel
theorem dX9_copyFrom_17 : decode cX9_copyFrom 17 = .ok (.getfield 9, 3) := by decide +kernel
theorem dX9_copyFrom_20 : decode cX9_copyFrom 20 = .ok (.iconst 0, 1) := by decide +kernel
theorem dX9_copyFrom_21 : decode cX9_copyFrom 21 = .ok (.aload_n 0, 1) := by decide +kernel
theorem dX9_copyFrom_22 : decode cX9_copyFrom 22 = .ok (.getfield 9, 3) := by decide +kernel
theorem dX9_copyFrom_25 : decode cX9_copyFrom 25 = .ok (.iconst 0, 1) := by decide +kernel
theorem dX9_copyFrom_26 : decode cX9_copyFrom 26 = .ok (.bipush 7, 2) := by decide +kernel
theorem dX9_copyFrom_28 : decode cX9_copyFrom 28 = .ok (.invokestatic 43, 3) := by decide +kernel
theorem dX9_copyFrom_31 : decode cX9_copyFrom 31 = .ok (.aload_n 1, 1) := by decide +kernel
theorem dX9_copyFrom_32 : decode cX9_copyFrom 32 = .ok (.getfield 15, 3) := by decide +kernel
theorem dX9_copyFrom_35 : decode cX9_copyFrom 35 = .ok (.iconst 0, 1) := by decide +kernel
theorem dX9_copyFrom_36 : decode cX9_copyFrom 36 = .ok (.aload_n 0, 1) := by decide +kernel
theorem dX9_copyFrom_37 : decode cX9_copyFrom 37 = .ok (.getfield 15, 3) := by decide +kernel
theorem dX9_copyFrom_40 : decode cX9_copyFrom 40 = .ok (.iconst 0, 1) := by decide +kernel
theorem dX9_copyFrom_41 : decode cX9_copyFrom 41 = .ok (.bipush 7, 2) := by decide +kernel
theorem dX9_copyFrom_43 : decode cX9_copyFrom 43 = .ok (.invokestatic 43, 3) := by decide +kernel
theorem dX9_copyFrom_46 : decode cX9_copyFrom 46 = .ok (.aload_n 0, 1) := by decide +kernel
theorem dX9_copyFrom_47 : decode cX9_copyFrom 47 = .ok (.aload_n 1, 1) := by decide +kernel
theorem dX9_copyFrom_48 : decode cX9_copyFrom 48 = .ok (.getfield 37, 3) := by decide +kernel
theorem dX9_copyFrom_51 : decode cX9_copyFrom 51 = .ok (.putfield 37, 3) := by decide +kernel
theorem dX9_copyFrom_54 : decode cX9_copyFrom 54 = .ok (.aload_n 0, 1) := by decide +kernel
theorem dX9_copyFrom_55 : decode cX9_copyFrom 55 = .ok (.aload_n 1, 1) := by decide +kernel
theorem dX9_copyFrom_56 : decode cX9_copyFrom 56 = .ok (.getfield 21, 3) := by decide +kernel
theorem dX9_copyFrom_59 : decode cX9_copyFrom 59 = .ok (.putfield 21, 3) := by decide +kernel
theorem dX9_copyFrom_62 : decode cX9_copyFrom 62 = .ok (.aload_n 1, 1) := by decide +kernel
theorem dX9_copyFrom_63 : decode cX9_copyFrom 63 = .ok (.getfield 18, 3) := by decide +kernel
theorem dX9_copyFrom_66 : decode cX9_copyFrom 66 = .ok (.iconst 0, 1) := by decide +kernel
theorem dX9_copyFrom_67 : decode cX9_copyFrom 67 = .ok (.aload_n 0, 1) := by decide +kernel
theorem dX9_copyFrom_68 : decode cX9_copyFrom 68 = .ok (.getfield 18, 3) := by decide +kernel
theorem dX9_copyFrom_71 : decode cX9_copyFrom 71 = .ok (.iconst 0, 1) := by decide +kernel
theorem dX9_copyFrom_72 : decode cX9_copyFrom 72 = .ok (.bipush 40, 2) := by decide +kernel
theorem dX9_copyFrom_74 : decode cX9_copyFrom 74 = .ok (.invokestatic 43, 3) := by decide +kernel
theorem dX9_copyFrom_77 : decode cX9_copyFrom 77 = .ok (.aload_n 0, 1) := by decide +kernel
theorem dX9_copyFrom_78 : decode cX9_copyFrom 78 = .ok (.aload_n 1, 1) := by decide +kernel
theorem dX9_copyFrom_79 : decode cX9_copyFrom 79 = .ok (.getfield 40, 3) := by decide +kernel
theorem dX9_copyFrom_82 : decode cX9_copyFrom 82 = .ok (.putfield 40, 3) := by decide +kernel
theorem dX9_copyFrom_85 : decode cX9_copyFrom 85 = .ok (.return_, 1) := by decide +kernel
theorem dX9_isStopped_0 : decode cX9_isStopped 0 = .ok (.aload_n 0, 1) := by decide +kernel
theorem dX9_isStopped_1 : decode cX9_isStopped 1 = .ok (.getfield 34, 3) := by decide +kernel
theorem dX9_isStopped_4 : decode cX9_isStopped 4 = .ok (.iload_n 1, 1) := by decide +kernel
theorem dX9_isStopped_5 : decode cX9_isStopped 5 = .ok (.ishr, 1) := by decide +kernel
theorem dX9_isStopped_6 : decode cX9_isStopped 6 = .ok (.iconst 1, 1) := by decide +kernel
theorem dX9_isStopped_7 : decode cX9_isStopped 7 = .ok (.iand, 1) := by decide +kernel
theorem dX9_isStopped_8 : decode cX9_isStopped 8 = .ok (.ifCond .eq 7, 3) := by decide +kernel
theorem dX9_isStopped_11 : decode cX9_isStopped 11 = .ok (.iconst 1, 1) := by decide +kernel
theorem dX9_isStopped_12 : decode cX9_isStopped 12 = .ok (.goto 4, 3) := by decide +kernel
theorem dX9_isStopped_15 : decode cX9_isStopped 15 = .ok (.iconst 0, 1) := by decide +kernel
theorem dX9_isStopped_16 : decode cX9_isStopped 16 = .ok (.ireturn, 1) := by decide +kernel
theorem dX9_ranOver_0 : decode cX9_ranOver 0 = .ok (.aload_n 0, 1) := by decide +kernel
theorem dX9_ranOver_1 : decode cX9_ranOver 1 = .ok (.getfield 49, 3) := by decide +kernel
theorem dX9_ranOver_4 : decode cX9_ranOver 4 = .ok (.iload_n 1, 1) := by decide +kernel
theorem dX9_ranOver_5 : decode cX9_ranOver 5 = .ok (.ishr, 1) := by decide +kernel
theorem dX9_ranOver_6 : decode cX9_ranOver 6 = .ok (.iconst 1, 1) := by decide +kernel
theorem dX9_ranOver_7 : decode cX9_ranOver 7 = .ok (.iand, 1) := by decide +kernel
theorem dX9_ranOver_8 : decode cX9_ranOver 8 = .ok (.ifCond .eq 7, 3) := by decide +kernel
theorem dX9_ranOver_11 : decode cX9_ranOver 11 = .ok (.iconst 1, 1) := by decide +kernel
theorem dX9_ranOver_12 : decode cX9_ranOver 12 = .ok (.goto 4, 3) := by decide +kernel
theorem dX9_ranOver_15 : decode cX9_ranOver 15 = .ok (.iconst 0, 1) := by decide +kernel
theorem dX9_ranOver_16 : decode cX9_ranOver 16 = .ok (.ireturn, 1) := by decide +kernel
theorem dX9_addWater_0 : decode cX9_addWater 0 = .ok (.aload_n 0, 1) := by decide +kernel
theorem dX9_addWater_1 : decode cX9_addWater 1 = .ok (.getfield 9, 3) := by decide +kernel
theorem dX9_addWater_4 : decode cX9_addWater 4 = .ok (.iload_n 1, 1) := by decide +kernel
theorem dX9_addWater_5 : decode cX9_addWater 5 = .ok (.aload_n 0, 1) := by decide +kernel
theorem dX9_addWater_6 : decode cX9_addWater 6 = .ok (.getfield 9, 3) := by decide +kernel
theorem dX9_addWater_9 : decode cX9_addWater 9 = .ok (.iload_n 1, 1) := by decide +kernel
theorem dX9_addWater_10 : decode cX9_addWater 10 = .ok (.iaload, 1) := by decide +kernel
theorem dX9_addWater_11 : decode cX9_addWater 11 = .ok (.iload_n 2, 1) := by decide +kernel
theorem dX9_addWater_12 : decode cX9_addWater 12 = .ok (.iadd, 1) := by decide +kernel
theorem dX9_addWater_13 : decode cX9_addWater 13 = .ok (.bipush 99, 2) := by decide +kernel
theorem dX9_addWater_15 : decode cX9_addWater 15 = .ok (.invokestatic 52, 3) := by decide +kernel
theorem dX9_addWater_18 : decode cX9_addWater 18 = .ok (.iastore, 1) := by decide +kernel
theorem dX9_addWater_19 : decode cX9_addWater 19 = .ok (.return_, 1) := by decide +kernel
theorem dX9_stopMouth_0 : decode cX9_stopMouth 0 = .ok (.aload_n 0, 1) := by decide +kernel
theorem dX9_stopMouth_1 : decode cX9_stopMouth 1 = .ok (.iload_n 1, 1) := by decide +kernel
theorem dX9_stopMouth_2 : decode cX9_stopMouth 2 = .ok (.invokevirtual 58, 3) := by decide +kernel
theorem dX9_stopMouth_5 : decode cX9_stopMouth 5 = .ok (.ifCond .ne 7, 3) := by decide +kernel
theorem dX9_stopMouth_8 : decode cX9_stopMouth 8 = .ok (.iconst 1, 1) := by decide +kernel
theorem dX9_stopMouth_9 : decode cX9_stopMouth 9 = .ok (.goto 4, 3) := by decide +kernel
theorem dX9_stopMouth_12 : decode cX9_stopMouth 12 = .ok (.iconst 0, 1) := by decide +kernel
theorem dX9_stopMouth_13 : decode cX9_stopMouth 13 = .ok (.istore_n 2, 1) := by decide +kernel
theorem dX9_stopMouth_14 : decode cX9_stopMouth 14 = .ok (.aload_n 0, 1) := by decide +kernel
theorem dX9_stopMouth_15 : decode cX9_stopMouth 15 = .ok (.dup, 1) := by decide +kernel
theorem dX9_stopMouth_16 : decode cX9_stopMouth 16 = .ok (.getfield 34, 3) := by decide +kernel
theorem dX9_stopMouth_19 : decode cX9_stopMouth 19 = .ok (.iconst 1, 1) := by decide +kernel
theorem dX9_stopMouth_20 : decode cX9_stopMouth 20 = .ok (.iload_n 1, 1) := by decide +kernel
theorem dX9_stopMouth_21 : decode cX9_stopMouth 21 = .ok (.ishl, 1) := by decide +kernel
theorem dX9_stopMouth_22 : decode cX9_stopMouth 22 = .ok (.ior, 1) := by decide +kernel
theorem dX9_stopMouth_23 : decode cX9_stopMouth 23 = .ok (.putfield 34, 3) := by decide +kernel
theorem dX9_stopMouth_26 : decode cX9_stopMouth 26 = .ok (.iload_n 2, 1) := by decide +kernel
theorem dX9_stopMouth_27 : decode cX9_stopMouth 27 = .ok (.ireturn, 1) := by decide +kernel
theorem dX9_clearMouth_0 : decode cX9_clearMouth 0 = .ok (.aload_n 0, 1) := by decide +kernel
theorem dX9_clearMouth_1 : decode cX9_clearMouth 1 = .ok (.iload_n 1, 1) := by decide +kernel
theorem dX9_clearMouth_2 : decode cX9_clearMouth 2 = .ok (.invokevirtual 58, 3) := by decide +kernel
theorem dX9_clearMouth_5 : decode cX9_clearMouth 5 = .ok (.istore_n 2, 1) := by decide +kernel
theorem dX9_clearMouth_6 : decode cX9_clearMouth 6 = .ok (.aload_n 0, 1) := by decide +kernel
theorem dX9_clearMouth_7 : decode cX9_clearMouth 7 = .ok (.dup, 1) := by decide +kernel
theorem dX9_clearMouth_8 : decode cX9_clearMouth 8 = .ok (.getfield 34, 3) := by decide +kernel
theorem dX9_clearMouth_11 : decode cX9_clearMouth 11 = .ok (.iconst 1, 1) := by decide +kernel
theorem dX9_clearMouth_12 : decode cX9_clearMouth 12 = .ok (.iload_n 1, 1) := by decide +kernel
theorem dX9_clearMouth_13 : decode cX9_clearMouth 13 = .ok (.ishl, 1) := by decide +kernel
theorem dX9_clearMouth_14 : decode cX9_clearMouth 14 = .ok (.iconst (-1), 1) := by decide +kernel
theorem dX9_clearMouth_15 : decode cX9_clearMouth 15 = .ok (.ixor, 1) := by decide +kernel
theorem dX9_clearMouth_16 : decode cX9_clearMouth 16 = .ok (.iand, 1) := by decide +kernel
theorem dX9_clearMouth_17 : decode cX9_clearMouth 17 = .ok (.putfield 34, 3) := by decide +kernel
theorem dX9_clearMouth_20 : decode cX9_clearMouth 20 = .ok (.iload_n 2, 1) := by decide +kernel
theorem dX9_clearMouth_21 : decode cX9_clearMouth 21 = .ok (.ireturn, 1) := by decide +kernel
theorem dX9_passMinute_0 : decode cX9_passMinute 0 = .ok (.aload_n 0, 1) := by decide +kernel
theorem dX9_passMinute_1 : decode cX9_passMinute 1 = .ok (.iconst 0, 1) := by decide +kernel
theorem dX9_passMinute_2 : decode cX9_passMinute 2 = .ok (.putfield 49, 3) := by decide +kernel
theorem dX9_passMinute_5 : decode cX9_passMinute 5 = .ok (.aload_n 0, 1) := by decide +kernel
theorem dX9_passMinute_6 : decode cX9_passMinute 6 = .ok (.iconst 0, 1) := by decide +kernel
theorem dX9_passMinute_7 : decode cX9_passMinute 7 = .ok (.putfield 62, 3) := by decide +kernel
theorem dX9_passMinute_10 : decode cX9_passMinute 10 = .ok (.iconst 0, 1) := by decide +kernel
theorem dX9_passMinute_11 : decode cX9_passMinute 11 = .ok (.istore_n 3, 1) := by decide +kernel
theorem dX9_passMinute_12 : decode cX9_passMinute 12 = .ok (.iload_n 3, 1) := by decide +kernel
theorem dX9_passMinute_13 : decode cX9_passMinute 13 = .ok (.aload_n 1, 1) := by decide +kernel
theorem dX9_passMinute_14 : decode cX9_passMinute 14 = .ok (.getfield 65, 3) := by decide +kernel
theorem dX9_passMinute_17 : decode cX9_passMinute 17 = .ok (.if_icmp .ge 26, 3) := by decide +kernel
theorem dX9_passMinute_20 : decode cX9_passMinute 20 = .ok (.aload_n 0, 1) := by decide +kernel
theorem dX9_passMinute_21 : decode cX9_passMinute 21 = .ok (.getfield 9, 3) := by decide +kernel
theorem dX9_passMinute_24 : decode cX9_passMinute 24 = .ok (.iload_n 3, 1) := by decide +kernel
theorem dX9_passMinute_25 : decode cX9_passMinute 25 = .ok (.dup2, 1) := by decide +kernel
theorem dX9_passMinute_26 : decode cX9_passMinute 26 = .ok (.iaload, 1) := by decide +kernel
theorem dX9_passMinute_27 : decode cX9_passMinute 27 = .ok (.iload_n 2, 1) := by decide +kernel
theorem dX9_passMinute_28 : decode cX9_passMinute 28 = .ok (.aload_n 1, 1) := by decide +kernel
theorem dX9_passMinute_29 : decode cX9_passMinute 29 = .ok (.getfield 68, 3) := by decide +kernel
theorem dX9_passMinute_32 : decode cX9_passMinute 32 = .ok (.iload_n 3, 1) := by decide +kernel
theorem dX9_passMinute_33 : decode cX9_passMinute 33 = .ok (.iaload, 1) := by decide +kernel
theorem dX9_passMinute_34 : decode cX9_passMinute 34 = .ok (.imul, 1) := by decide +kernel
theorem dX9_passMinute_35 : decode cX9_passMinute 35 = .ok (.iadd, 1) := by decide +kernel
theorem dX9_passMinute_36 : decode cX9_passMinute 36 = .ok (.iastore, 1) := by decide +kernel
theorem dX9_passMinute_37 : decode cX9_passMinute 37 = .ok (.iinc 3 1, 3) := by decide +kernel
theorem dX9_passMinute_40 : decode cX9_passMinute 40 = .ok (.goto (-28), 3) := by decide +kernel
theorem dX9_passMinute_43 : decode cX9_passMinute 43 = .ok (.iconst 0, 1) := by decide +kernel
theorem dX9_passMinute_44 : decode cX9_passMinute 44 = .ok (.istore_n 3, 1) := by decide +kernel
theorem dX9_passMinute_45 : decode cX9_passMinute 45 = .ok (.iload_n 3, 1) := by decide +kernel
theorem dX9_passMinute_46 : decode cX9_passMinute 46 = .ok (.aload_n 1, 1) := by decide +kernel
theorem dX9_passMinute_47 : decode cX9_passMinute 47 = .ok (.getfield 65, 3) := by decide +kernel
theorem dX9_passMinute_50 : decode cX9_passMinute 50 = .ok (.if_icmp .ge 31, 3) := by decide +kernel
theorem dX9_passMinute_53 : decode cX9_passMinute 53 = .ok (.aload_n 0, 1) := by decide +kernel
theorem dX9_passMinute_54 : decode cX9_passMinute 54 = .ok (.aload_n 1, 1) := by decide +kernel
theorem dX9_passMinute_55 : decode cX9_passMinute 55 = .ok (.aload_n 1, 1) := by decide +kernel
theorem dX9_passMinute_56 : decode cX9_passMinute 56 = .ok (.getfield 71, 3) := by decide +kernel
theorem dX9_passMinute_59 : decode cX9_passMinute 59 = .ok (.iload_n 3, 1) := by decide +kernel
theorem dX9_passMinute_60 : decode cX9_passMinute 60 = .ok (.iaload, 1) := by decide +kernel
theorem dX9_passMinute_61 : decode cX9_passMinute 61 = .ok (.invokevirtual 74, 3) := by decide +kernel
theorem dX9_passMinute_64 : decode cX9_passMinute 64 = .ok (.aload_n 0, 1) := by decide +kernel
theorem dX9_passMinute_65 : decode cX9_passMinute 65 = .ok (.aload_n 1, 1) := by decide +kernel
theorem dX9_passMinute_66 : decode cX9_passMinute 66 = .ok (.aload_n 1, 1) := by decide +kernel
theorem dX9_passMinute_67 : decode cX9_passMinute 67 = .ok (.getfield 71, 3) := by decide +kernel
theorem dX9_passMinute_70 : decode cX9_passMinute 70 = .ok (.iload_n 3, 1) := by decide +kernel
theorem dX9_passMinute_71 : decode cX9_passMinute 71 = .ok (.iaload, 1) := by decide +kernel
theorem dX9_passMinute_72 : decode cX9_passMinute 72 = .ok (.invokevirtual 78, 3) := by decide +kernel
theorem dX9_passMinute_75 : decode cX9_passMinute 75 = .ok (.iinc 3 1, 3) := by decide +kernel
theorem dX9_passMinute_78 : decode cX9_passMinute 78 = .ok (.goto (-33), 3) := by decide +kernel
theorem dX9_passMinute_81 : decode cX9_passMinute 81 = .ok (.aload_n 0, 1) := by decide +kernel
theorem dX9_passMinute_82 : decode cX9_passMinute 82 = .ok (.aload_n 0, 1) := by decide +kernel
theorem dX9_passMinute_83 : decode cX9_passMinute 83 = .ok (.aload_n 1, 1) := by decide +kernel
theorem dX9_passMinute_84 : decode cX9_passMinute 84 = .ok (.iload_n 2, 1) := by decide +kernel
theorem dX9_passMinute_85 : decode cX9_passMinute 85 = .ok (.invokevirtual 81, 3) := by decide +kernel
theorem dX9_passMinute_88 : decode cX9_passMinute 88 = .ok (.putfield 37, 3) := by decide +kernel
theorem dX9_passMinute_91 : decode cX9_passMinute 91 = .ok (.aload_n 0, 1) := by decide +kernel
theorem dX9_passMinute_92 : decode cX9_passMinute 92 = .ok (.aload_n 1, 1) := by decide +kernel
theorem dX9_passMinute_93 : decode cX9_passMinute 93 = .ok (.aload_n 0, 1) := by decide +kernel
theorem dX9_passMinute_94 : decode cX9_passMinute 94 = .ok (.getfield 37, 3) := by decide +kernel
theorem dX9_passMinute_97 : decode cX9_passMinute 97 = .ok (.invokevirtual 85, 3) := by decide +kernel
theorem dX9_passMinute_100 : decode cX9_passMinute 100 = .ok (.putfield 21, 3) := by decide +kernel
theorem dX9_passMinute_103 : decode cX9_passMinute 103 = .ok (.aload_n 0, 1) := by decide +kernel
theorem dX9_passMinute_104 : decode cX9_passMinute 104 = .ok (.getfield 21, 3) := by decide +kernel
theorem dX9_passMinute_107 : decode cX9_passMinute 107 = .ok (.iconst (-1), 1) := by decide +kernel
theorem dX9_passMinute_108 : decode cX9_passMinute 108 = .ok (.if_icmp .eq 35, 3) := by decide +kernel
theorem dX9_passMinute_111 : decode cX9_passMinute 111 = .ok (.aload_n 0, 1) := by decide +kernel
theorem dX9_passMinute_112 : decode cX9_passMinute 112 = .ok (.getfield 40, 3) := by decide +kernel
theorem dX9_passMinute_115 : decode cX9_passMinute 115 = .ok (.bipush 40, 2) := by decide +kernel
theorem dX9_passMinute_117 : decode cX9_passMinute 117 = .ok (.if_icmp .ge 26, 3) := by decide +kernel
theorem dX9_passMinute_120 : decode cX9_passMinute 120 = .ok (.aload_n 0, 1) := by decide +kernel
theorem dX9_passMinute_121 : decode cX9_passMinute 121 = .ok (.getfield 18, 3) := by decide +kernel
theorem dX9_passMinute_124 : decode cX9_passMinute 124 = .ok (.aload_n 0, 1) := by decide +kernel
theorem dX9_passMinute_125 : decode cX9_passMinute 125 = .ok (.getfield 40, 3) := by decide +kernel
theorem dX9_passMinute_128 : decode cX9_passMinute 128 = .ok (.aload_n 0, 1) := by decide +kernel
theorem dX9_passMinute_129 : decode cX9_passMinute 129 = .ok (.getfield 21, 3) := by decide +kernel
theorem dX9_passMinute_132 : decode cX9_passMinute 132 = .ok (.iastore, 1) := by decide +kernel
theorem dX9_passMinute_133 : decode cX9_passMinute 133 = .ok (.aload_n 0, 1) := by decide +kernel
theorem dX9_passMinute_134 : decode cX9_passMinute 134 = .ok (.dup, 1) := by decide +kernel
theorem dX9_passMinute_135 : decode cX9_passMinute 135 = .ok (.getfield 40, 3) := by decide +kernel
theorem dX9_passMinute_138 : decode cX9_passMinute 138 = .ok (.iconst 1, 1) := by decide +kernel
theorem dX9_passMinute_139 : decode cX9_passMinute 139 = .ok (.iadd, 1) := by decide +kernel
theorem dX9_passMinute_140 : decode cX9_passMinute 140 = .ok (.putfield 40, 3) := by decide +kernel
theorem dX9_passMinute_143 : decode cX9_passMinute 143 = .ok (.aload_n 0, 1) := by decide +kernel
theorem dX9_passMinute_144 : decode cX9_passMinute 144 = .ok (.dup, 1) := by decide +kernel
theorem dX9_passMinute_145 : decode cX9_passMinute 145 = .ok (.getfield 25, 3) := by decide +kernel
theorem dX9_passMinute_148 : decode cX9_passMinute 148 = .ok (.iconst 1, 1) := by decide +kernel
theorem dX9_passMinute_149 : decode cX9_passMinute 149 = .ok (.iadd, 1) := by decide +kernel
theorem dX9_passMinute_150 : decode cX9_passMinute 150 = .ok (.putfield 25, 3) := by decide +kernel
theorem dX9_passMinute_153 : decode cX9_passMinute 153 = .ok (.aload_n 0, 1) := by decide +kernel
theorem dX9_passMinute_154 : decode cX9_passMinute 154 = .ok (.getfield 21, 3) := by decide +kernel
theorem dX9_passMinute_157 : decode cX9_passMinute 157 = .ok (.ireturn, 1) := by decide +kernel
theorem dX9_runOver_0 : decode cX9_runOver 0 = .ok (.aload_n 0, 1) := by decide +kernel
theorem dX9_runOver_1 : decode cX9_runOver 1 = .ok (.getfield 9, 3) := by decide +kernel
theorem dX9_runOver_4 : decode cX9_runOver 4 = .ok (.iload_n 2, 1) := by decide +kernel
theorem dX9_runOver_5 : decode cX9_runOver 5 = .ok (.iaload, 1) := by decide +kernel
theorem dX9_runOver_6 : decode cX9_runOver 6 = .ok (.aload_n 1, 1) := by decide +kernel
theorem dX9_runOver_7 : decode cX9_runOver 7 = .ok (.getfield 89, 3) := by decide +kernel
theorem dX9_runOver_10 : decode cX9_runOver 10 = .ok (.iload_n 2, 1) := by decide +kernel
theorem dX9_runOver_11 : decode cX9_runOver 11 = .ok (.iaload, 1) := by decide +kernel
theorem dX9_runOver_12 : decode cX9_runOver 12 = .ok (.isub, 1) := by decide +kernel
theorem dX9_runOver_13 : decode cX9_runOver 13 = .ok (.istore_n 3, 1) := by decide +kernel
theorem dX9_runOver_14 : decode cX9_runOver 14 = .ok (.iload_n 3, 1) := by decide +kernel
theorem dX9_runOver_15 : decode cX9_runOver 15 = .ok (.ifCond .gt 4, 3) := by decide +kernel
theorem dX9_runOver_18 : decode cX9_runOver 18 = .ok (.return_, 1) := by decide +kernel
theorem dX9_runOver_19 : decode cX9_runOver 19 = .ok (.aload_n 0, 1) := by decide +kernel
theorem dX9_runOver_20 : decode cX9_runOver 20 = .ok (.getfield 9, 3) := by decide +kernel
theorem dX9_runOver_23 : decode cX9_runOver 23 = .ok (.iload_n 2, 1) := by decide +kernel
theorem dX9_runOver_24 : decode cX9_runOver 24 = .ok (.dup2, 1) := by decide +kernel
theorem dX9_runOver_25 : decode cX9_runOver 25 = .ok (.iaload, 1) := by decide +kernel
theorem dX9_runOver_26 : decode cX9_runOver 26 = .ok (.iload_n 3, 1) := by decide +kernel
theorem dX9_runOver_27 : decode cX9_runOver 27 = .ok (.isub, 1) := by decide +kernel
theorem dX9_runOver_28 : decode cX9_runOver 28 = .ok (.iastore, 1) := by decide +kernel
theorem dX9_runOver_29 : decode cX9_runOver 29 = .ok (.aload_n 0, 1) := by decide +kernel
theorem dX9_runOver_30 : decode cX9_runOver 30 = .ok (.dup, 1) := by decide +kernel
theorem dX9_runOver_31 : decode cX9_runOver 31 = .ok (.getfield 49, 3) := by decide +kernel
theorem dX9_runOver_34 : decode cX9_runOver 34 = .ok (.iconst 1, 1) := by decide +kernel
theorem dX9_runOver_35 : decode cX9_runOver 35 = .ok (.iload_n 2, 1) := by decide +kernel
theorem dX9_runOver_36 : decode cX9_runOver 36 = .ok (.ishl, 1) := by decide +kernel
theorem dX9_runOver_37 : decode cX9_runOver 37 = .ok (.ior, 1) := by decide +kernel
theorem dX9_runOver_38 : decode cX9_runOver 38 = .ok (.putfield 49, 3) := by decide +kernel
theorem dX9_runOver_41 : decode cX9_runOver 41 = .ok (.aload_n 1, 1) := by decide +kernel
theorem dX9_runOver_42 : decode cX9_runOver 42 = .ok (.getfield 92, 3) := by decide +kernel
theorem dX9_runOver_45 : decode cX9_runOver 45 = .ok (.iload_n 2, 1) := by decide +kernel
theorem dX9_runOver_46 : decode cX9_runOver 46 = .ok (.iaload, 1) := by decide +kernel
theorem dX9_runOver_47 : decode cX9_runOver 47 = .ok (.istore 4, 2) := by decide +kernel
theorem dX9_runOver_49 : decode cX9_runOver 49 = .ok (.iload 4, 2) := by decide +kernel
theorem dX9_runOver_51 : decode cX9_runOver 51 = .ok (.iconst (-1), 1) := by decide +kernel
theorem dX9_runOver_52 : decode cX9_runOver 52 = .ok (.if_icmp .ne 16, 3) := by decide +kernel
theorem dX9_runOver_55 : decode cX9_runOver 55 = .ok (.aload_n 0, 1) := by decide +kernel
theorem dX9_runOver_56 : decode cX9_runOver 56 = .ok (.dup, 1) := by decide +kernel
theorem dX9_runOver_57 : decode cX9_runOver 57 = .ok (.getfield 62, 3) := by decide +kernel
theorem dX9_runOver_60 : decode cX9_runOver 60 = .ok (.iload_n 3, 1) := by decide +kernel
theorem dX9_runOver_61 : decode cX9_runOver 61 = .ok (.iadd, 1) := by decide +kernel
theorem dX9_runOver_62 : decode cX9_runOver 62 = .ok (.putfield 62, 3) := by decide +kernel
theorem dX9_runOver_65 : decode cX9_runOver 65 = .ok (.goto 14, 3) := by decide +kernel
theorem dX9_runOver_68 : decode cX9_runOver 68 = .ok (.aload_n 0, 1) := by decide +kernel
theorem dX9_runOver_69 : decode cX9_runOver 69 = .ok (.getfield 9, 3) := by decide +kernel
theorem dX9_runOver_72 : decode cX9_runOver 72 = .ok (.iload 4, 2) := by decide +kernel
theorem dX9_runOver_74 : decode cX9_runOver 74 = .ok (.dup2, 1) := by decide +kernel
theorem dX9_runOver_75 : decode cX9_runOver 75 = .ok (.iaload, 1) := by decide +kernel
theorem dX9_runOver_76 : decode cX9_runOver 76 = .ok (.iload_n 3, 1) := by decide +kernel
theorem dX9_runOver_77 : decode cX9_runOver 77 = .ok (.iadd, 1) := by decide +kernel
theorem dX9_runOver_78 : decode cX9_runOver 78 = .ok (.iastore, 1) := by decide +kernel
theorem dX9_runOver_79 : decode cX9_runOver 79 = .ok (.return_, 1) := by decide +kernel
theorem dX9_spout_0 : decode cX9_spout 0 = .ok (.aload_n 0, 1) := by decide +kernel
theorem dX9_spout_1 : decode cX9_spout 1 = .ok (.getfield 15, 3) := by decide +kernel
theorem dX9_spout_4 : decode cX9_spout 4 = .ok (.iload_n 2, 1) := by decide +kernel
theorem dX9_spout_5 : decode cX9_spout 5 = .ok (.aload_n 0, 1) := by decide +kernel
theorem dX9_spout_6 : decode cX9_spout 6 = .ok (.iload_n 2, 1) := by decide +kernel
theorem dX9_spout_7 : decode cX9_spout 7 = .ok (.invokevirtual 58, 3) := by decide +kernel
theorem dX9_spout_10 : decode cX9_spout 10 = .ok (.ifCond .eq 7, 3) := by decide +kernel
theorem dX9_spout_13 : decode cX9_spout 13 = .ok (.iconst 0, 1) := by decide +kernel
theorem dX9_spout_14 : decode cX9_spout 14 = .ok (.goto 17, 3) := by decide +kernel
theorem dX9_spout_17 : decode cX9_spout 17 = .ok (.aload_n 0, 1) := by decide +kernel
theorem dX9_spout_18 : decode cX9_spout 18 = .ok (.getfield 9, 3) := by decide +kernel
theorem dX9_spout_21 : decode cX9_spout 21 = .ok (.iload_n 2, 1) := by decide +kernel
theorem dX9_spout_22 : decode cX9_spout 22 = .ok (.iaload, 1) := by decide +kernel
theorem dX9_spout_23 : decode cX9_spout 23 = .ok (.aload_n 1, 1) := by decide +kernel
theorem dX9_spout_24 : decode cX9_spout 24 = .ok (.iload_n 2, 1) := by decide +kernel
theorem dX9_spout_25 : decode cX9_spout 25 = .ok (.invokevirtual 95, 3) := by decide +kernel
theorem dX9_spout_28 : decode cX9_spout 28 = .ok (.invokestatic 52, 3) := by decide +kernel
theorem dX9_spout_31 : decode cX9_spout 31 = .ok (.iastore, 1) := by decide +kernel
theorem dX9_spout_32 : decode cX9_spout 32 = .ok (.aload_n 0, 1) := by decide +kernel
theorem dX9_spout_33 : decode cX9_spout 33 = .ok (.getfield 9, 3) := by decide +kernel
theorem dX9_spout_36 : decode cX9_spout 36 = .ok (.iload_n 2, 1) := by decide +kernel
theorem dX9_spout_37 : decode cX9_spout 37 = .ok (.dup2, 1) := by decide +kernel
theorem dX9_spout_38 : decode cX9_spout 38 = .ok (.iaload, 1) := by decide +kernel
theorem dX9_spout_39 : decode cX9_spout 39 = .ok (.aload_n 0, 1) := by decide +kernel
theorem dX9_spout_40 : decode cX9_spout 40 = .ok (.getfield 15, 3) := by decide +kernel
theorem dX9_spout_43 : decode cX9_spout 43 = .ok (.iload_n 2, 1) := by decide +kernel
theorem dX9_spout_44 : decode cX9_spout 44 = .ok (.iaload, 1) := by decide +kernel
theorem dX9_spout_45 : decode cX9_spout 45 = .ok (.isub, 1) := by decide +kernel
theorem dX9_spout_46 : decode cX9_spout 46 = .ok (.iastore, 1) := by decide +kernel
theorem dX9_spout_47 : decode cX9_spout 47 = .ok (.return_, 1) := by decide +kernel
theorem dX9_soundingNow_0 : decode cX9_soundingNow 0 = .ok (.iconst 0, 1) := by decide +kernel
theorem dX9_soundingNow_1 : decode cX9_soundingNow 1 = .ok (.istore_n 3, 1) := by decide +kernel
theorem dX9_soundingNow_2 : decode cX9_soundingNow 2 = .ok (.iconst 0, 1) := by decide +kernel
theorem dX9_soundingNow_3 : decode cX9_soundingNow 3 = .ok (.istore 4, 2) := by decide +kernel
theorem dX9_soundingNow_5 : decode cX9_soundingNow 5 = .ok (.iload 4, 2) := by decide +kernel
theorem dX9_soundingNow_7 : decode cX9_soundingNow 7 = .ok (.aload_n 1, 1) := by decide +kernel
theorem dX9_soundingNow_8 : decode cX9_soundingNow 8 = .ok (.getfield 65, 3) := by decide +kernel
theorem dX9_soundingNow_11 : decode cX9_soundingNow 11 = .ok (.if_icmp .ge 48, 3) := by decide +kernel
theorem dX9_soundingNow_14 : decode cX9_soundingNow 14 = .ok (.aload_n 1, 1) := by decide +kernel
theorem dX9_soundingNow_15 : decode cX9_soundingNow 15 = .ok (.getfield 98, 3) := by decide +kernel
theorem dX9_soundingNow_18 : decode cX9_soundingNow 18 = .ok (.aload_n 0, 1) := by decide +kernel
theorem dX9_soundingNow_19 : decode cX9_soundingNow 19 = .ok (.getfield 15, 3) := by decide +kernel
theorem dX9_soundingNow_22 : decode cX9_soundingNow 22 = .ok (.iload 4, 2) := by decide +kernel
theorem dX9_soundingNow_24 : decode cX9_soundingNow 24 = .ok (.iaload, 1) := by decide +kernel
theorem dX9_soundingNow_25 : decode cX9_soundingNow 25 = .ok (.aload_n 0, 1) := by decide +kernel
theorem dX9_soundingNow_26 : decode cX9_soundingNow 26 = .ok (.getfield 9, 3) := by decide +kernel
theorem dX9_soundingNow_29 : decode cX9_soundingNow 29 = .ok (.iload 4, 2) := by decide +kernel
theorem dX9_soundingNow_31 : decode cX9_soundingNow 31 = .ok (.iaload, 1) := by decide +kernel
theorem dX9_soundingNow_32 : decode cX9_soundingNow 32 = .ok (.aload_n 1, 1) := by decide +kernel
theorem dX9_soundingNow_33 : decode cX9_soundingNow 33 = .ok (.getfield 102, 3) := by decide +kernel
theorem dX9_soundingNow_36 : decode cX9_soundingNow 36 = .ok (.iload 4, 2) := by decide +kernel
theorem dX9_soundingNow_38 : decode cX9_soundingNow 38 = .ok (.iaload, 1) := by decide +kernel
theorem dX9_soundingNow_39 : decode cX9_soundingNow 39 = .ok (.iload_n 2, 1) := by decide +kernel
theorem dX9_soundingNow_40 : decode cX9_soundingNow 40 = .ok (.invokevirtual 105, 3) := by decide +kernel
theorem dX9_soundingNow_43 : decode cX9_soundingNow 43 = .ok (.ifCond .eq 10, 3) := by decide +kernel
theorem dX9_soundingNow_46 : decode cX9_soundingNow 46 = .ok (.iload_n 3, 1) := by decide +kernel
theorem dX9_soundingNow_47 : decode cX9_soundingNow 47 = .ok (.iconst 1, 1) := by decide +kernel
theorem dX9_soundingNow_48 : decode cX9_soundingNow 48 = .ok (.iload 4, 2) := by decide +kernel
theorem dX9_soundingNow_50 : decode cX9_soundingNow 50 = .ok (.ishl, 1) := by decide +kernel
theorem dX9_soundingNow_51 : decode cX9_soundingNow 51 = .ok (.ior, 1) := by decide +kernel
theorem dX9_soundingNow_52 : decode cX9_soundingNow 52 = .ok (.istore_n 3, 1) := by decide +kernel
theorem dX9_soundingNow_53 : decode cX9_soundingNow 53 = .ok (.iinc 4 1, 3) := by decide +kernel
theorem dX9_soundingNow_56 : decode cX9_soundingNow 56 = .ok (.goto (-51), 3) := by decide +kernel
theorem dX9_soundingNow_59 : decode cX9_soundingNow 59 = .ok (.iload_n 3, 1) := by decide +kernel
theorem dX9_soundingNow_60 : decode cX9_soundingNow 60 = .ok (.ireturn, 1) := by decide +kernel
theorem dX9_allWater_0 : decode cX9_allWater 0 = .ok (.iconst 0, 1) := by decide +kernel
theorem dX9_allWater_1 : decode cX9_allWater 1 = .ok (.istore_n 2, 1) := by decide +kernel
theorem dX9_allWater_2 : decode cX9_allWater 2 = .ok (.iconst 0, 1) := by decide +kernel
theorem dX9_allWater_3 : decode cX9_allWater 3 = .ok (.istore_n 3, 1) := by decide +kernel
theorem dX9_allWater_4 : decode cX9_allWater 4 = .ok (.iload_n 3, 1) := by decide +kernel
theorem dX9_allWater_5 : decode cX9_allWater 5 = .ok (.iload_n 1, 1) := by decide +kernel
theorem dX9_allWater_6 : decode cX9_allWater 6 = .ok (.if_icmp .ge 24, 3) := by decide +kernel
theorem dX9_allWater_9 : decode cX9_allWater 9 = .ok (.iload_n 3, 1) := by decide +kernel
theorem dX9_allWater_10 : decode cX9_allWater 10 = .ok (.bipush 7, 2) := by decide +kernel
theorem dX9_allWater_12 : decode cX9_allWater 12 = .ok (.if_icmp .ge 18, 3) := by decide +kernel
theorem dX9_allWater_15 : decode cX9_allWater 15 = .ok (.iload_n 2, 1) := by decide +kernel
theorem dX9_allWater_16 : decode cX9_allWater 16 = .ok (.aload_n 0, 1) := by decide +kernel
theorem dX9_allWater_17 : decode cX9_allWater 17 = .ok (.getfield 9, 3) := by decide +kernel
theorem dX9_allWater_20 : decode cX9_allWater 20 = .ok (.iload_n 3, 1) := by decide +kernel
theorem dX9_allWater_21 : decode cX9_allWater 21 = .ok (.iaload, 1) := by decide +kernel
theorem dX9_allWater_22 : decode cX9_allWater 22 = .ok (.iadd, 1) := by decide +kernel
theorem dX9_allWater_23 : decode cX9_allWater 23 = .ok (.istore_n 2, 1) := by decide +kernel
theorem dX9_allWater_24 : decode cX9_allWater 24 = .ok (.iinc 3 1, 3) := by decide +kernel
theorem dX9_allWater_27 : decode cX9_allWater 27 = .ok (.goto (-23), 3) := by decide +kernel
theorem dX9_allWater_30 : decode cX9_allWater 30 = .ok (.iload_n 2, 1) := by decide +kernel
theorem dX9_allWater_31 : decode cX9_allWater 31 = .ok (.ireturn, 1) := by decide +kernel
theorem dX9_flowsUnlike_0 : decode cX9_flowsUnlike 0 = .ok (.iconst 0, 1) := by decide +kernel
theorem dX9_flowsUnlike_1 : decode cX9_flowsUnlike 1 = .ok (.istore_n 3, 1) := by decide +kernel
theorem dX9_flowsUnlike_2 : decode cX9_flowsUnlike 2 = .ok (.iconst 0, 1) := by decide +kernel
theorem dX9_flowsUnlike_3 : decode cX9_flowsUnlike 3 = .ok (.istore 4, 2) := by decide +kernel
theorem dX9_flowsUnlike_5 : decode cX9_flowsUnlike 5 = .ok (.iload 4, 2) := by decide +kernel
theorem dX9_flowsUnlike_7 : decode cX9_flowsUnlike 7 = .ok (.iload_n 2, 1) := by decide +kernel
theorem dX9_flowsUnlike_8 : decode cX9_flowsUnlike 8 = .ok (.if_icmp .ge 39, 3) := by decide +kernel
theorem dX9_flowsUnlike_11 : decode cX9_flowsUnlike 11 = .ok (.iload 4, 2) := by decide +kernel
theorem dX9_flowsUnlike_13 : decode cX9_flowsUnlike 13 = .ok (.bipush 7, 2) := by decide +kernel
theorem dX9_flowsUnlike_15 : decode cX9_flowsUnlike 15 = .ok (.if_icmp .ge 32, 3) := by decide +kernel
theorem dX9_flowsUnlike_18 : decode cX9_flowsUnlike 18 = .ok (.aload_n 0, 1) := by decide +kernel
theorem dX9_flowsUnlike_19 : decode cX9_flowsUnlike 19 = .ok (.getfield 15, 3) := by decide +kernel
theorem dX9_flowsUnlike_22 : decode cX9_flowsUnlike 22 = .ok (.iload 4, 2) := by decide +kernel
theorem dX9_flowsUnlike_24 : decode cX9_flowsUnlike 24 = .ok (.iaload, 1) := by decide +kernel
theorem dX9_flowsUnlike_25 : decode cX9_flowsUnlike 25 = .ok (.aload_n 0, 1) := by decide +kernel
theorem dX9_flowsUnlike_26 : decode cX9_flowsUnlike 26 = .ok (.getfield 15, 3) := by decide +kernel
theorem dX9_flowsUnlike_29 : decode cX9_flowsUnlike 29 = .ok (.iload_n 1, 1) := by decide +kernel
theorem dX9_flowsUnlike_30 : decode cX9_flowsUnlike 30 = .ok (.iaload, 1) := by decide +kernel
theorem dX9_flowsUnlike_31 : decode cX9_flowsUnlike 31 = .ok (.if_icmp .eq 10, 3) := by decide +kernel
theorem dX9_flowsUnlike_34 : decode cX9_flowsUnlike 34 = .ok (.iload_n 3, 1) := by decide +kernel
theorem dX9_flowsUnlike_35 : decode cX9_flowsUnlike 35 = .ok (.iconst 1, 1) := by decide +kernel
theorem dX9_flowsUnlike_36 : decode cX9_flowsUnlike 36 = .ok (.iload 4, 2) := by decide +kernel
theorem dX9_flowsUnlike_38 : decode cX9_flowsUnlike 38 = .ok (.ishl, 1) := by decide +kernel
theorem dX9_flowsUnlike_39 : decode cX9_flowsUnlike 39 = .ok (.ior, 1) := by decide +kernel
theorem dX9_flowsUnlike_40 : decode cX9_flowsUnlike 40 = .ok (.istore_n 3, 1) := by decide +kernel
theorem dX9_flowsUnlike_41 : decode cX9_flowsUnlike 41 = .ok (.iinc 4 1, 3) := by decide +kernel
theorem dX9_flowsUnlike_44 : decode cX9_flowsUnlike 44 = .ok (.goto (-39), 3) := by decide +kernel
theorem dX9_flowsUnlike_47 : decode cX9_flowsUnlike 47 = .ok (.iload_n 3, 1) := by decide +kernel
theorem dX9_flowsUnlike_48 : decode cX9_flowsUnlike 48 = .ok (.ireturn, 1) := by decide +kernel
theorem dX9_signsLike_0 : decode cX9_signsLike 0 = .ok (.iconst 0, 1) := by decide +kernel
theorem dX9_signsLike_1 : decode cX9_signsLike 1 = .ok (.istore_n 2, 1) := by decide +kernel
theorem dX9_signsLike_2 : decode cX9_signsLike 2 = .ok (.iconst 0, 1) := by decide +kernel
theorem dX9_signsLike_3 : decode cX9_signsLike 3 = .ok (.istore_n 3, 1) := by decide +kernel
theorem dX9_signsLike_4 : decode cX9_signsLike 4 = .ok (.iload_n 3, 1) := by decide +kernel
theorem dX9_signsLike_5 : decode cX9_signsLike 5 = .ok (.aload_n 0, 1) := by decide +kernel
theorem dX9_signsLike_6 : decode cX9_signsLike 6 = .ok (.getfield 40, 3) := by decide +kernel
theorem dX9_signsLike_9 : decode cX9_signsLike 9 = .ok (.if_icmp .ge 22, 3) := by decide +kernel
theorem dX9_signsLike_12 : decode cX9_signsLike 12 = .ok (.aload_n 0, 1) := by decide +kernel
theorem dX9_signsLike_13 : decode cX9_signsLike 13 = .ok (.getfield 18, 3) := by decide +kernel
theorem dX9_signsLike_16 : decode cX9_signsLike 16 = .ok (.iload_n 3, 1) := by decide +kernel
theorem dX9_signsLike_17 : decode cX9_signsLike 17 = .ok (.iaload, 1) := by decide +kernel
theorem dX9_signsLike_18 : decode cX9_signsLike 18 = .ok (.iload_n 1, 1) := by decide +kernel
theorem dX9_signsLike_19 : decode cX9_signsLike 19 = .ok (.if_icmp .ne 6, 3) := by decide +kernel
theorem dX9_signsLike_22 : decode cX9_signsLike 22 = .ok (.iinc 2 1, 3) := by decide +kernel
theorem dX9_signsLike_25 : decode cX9_signsLike 25 = .ok (.iinc 3 1, 3) := by decide +kernel
theorem dX9_signsLike_28 : decode cX9_signsLike 28 = .ok (.goto (-24), 3) := by decide +kernel
theorem dX9_signsLike_31 : decode cX9_signsLike 31 = .ok (.iload_n 2, 1) := by decide +kernel
theorem dX9_signsLike_32 : decode cX9_signsLike 32 = .ok (.ireturn, 1) := by decide +kernel
theorem dX9_placeOf_0 : decode cX9_placeOf 0 = .ok (.aload_n 1, 1) := by decide +kernel
theorem dX9_placeOf_1 : decode cX9_placeOf 1 = .ok (.getfield 111, 3) := by decide +kernel
theorem dX9_placeOf_4 : decode cX9_placeOf 4 = .ok (.ifCond .ne 5, 3) := by decide +kernel
theorem dX9_placeOf_7 : decode cX9_placeOf 7 = .ok (.iconst (-1), 1) := by decide +kernel
theorem dX9_placeOf_8 : decode cX9_placeOf 8 = .ok (.ireturn, 1) := by decide +kernel
theorem dX9_placeOf_9 : decode cX9_placeOf 9 = .ok (.iconst 0, 1) := by decide +kernel
theorem dX9_placeOf_10 : decode cX9_placeOf 10 = .ok (.istore_n 2, 1) := by decide +kernel
theorem dX9_placeOf_11 : decode cX9_placeOf 11 = .ok (.iload_n 2, 1) := by decide +kernel
theorem dX9_placeOf_12 : decode cX9_placeOf 12 = .ok (.aload_n 1, 1) := by decide +kernel
theorem dX9_placeOf_13 : decode cX9_placeOf 13 = .ok (.getfield 111, 3) := by decide +kernel
theorem dX9_placeOf_16 : decode cX9_placeOf 16 = .ok (.iadd, 1) := by decide +kernel
theorem dX9_placeOf_17 : decode cX9_placeOf 17 = .ok (.aload_n 0, 1) := by decide +kernel
theorem dX9_placeOf_18 : decode cX9_placeOf 18 = .ok (.getfield 40, 3) := by decide +kernel
theorem dX9_placeOf_21 : decode cX9_placeOf 21 = .ok (.if_icmp .gt 21, 3) := by decide +kernel
theorem dX9_placeOf_24 : decode cX9_placeOf 24 = .ok (.aload_n 0, 1) := by decide +kernel
theorem dX9_placeOf_25 : decode cX9_placeOf 25 = .ok (.iload_n 2, 1) := by decide +kernel
theorem dX9_placeOf_26 : decode cX9_placeOf 26 = .ok (.aload_n 1, 1) := by decide +kernel
theorem dX9_placeOf_27 : decode cX9_placeOf 27 = .ok (.iconst 0, 1) := by decide +kernel
theorem dX9_placeOf_28 : decode cX9_placeOf 28 = .ok (.invokevirtual 116, 3) := by decide +kernel
theorem dX9_placeOf_31 : decode cX9_placeOf 31 = .ok (.ifCond .eq 5, 3) := by decide +kernel
theorem dX9_placeOf_34 : decode cX9_placeOf 34 = .ok (.iload_n 2, 1) := by decide +kernel
theorem dX9_placeOf_35 : decode cX9_placeOf 35 = .ok (.ireturn, 1) := by decide +kernel
theorem dX9_placeOf_36 : decode cX9_placeOf 36 = .ok (.iinc 2 1, 3) := by decide +kernel
theorem dX9_placeOf_39 : decode cX9_placeOf 39 = .ok (.goto (-28), 3) := by decide +kernel
theorem dX9_placeOf_42 : decode cX9_placeOf 42 = .ok (.iconst (-1), 1) := by decide +kernel
theorem dX9_placeOf_43 : decode cX9_placeOf 43 = .ok (.ireturn, 1) := by decide +kernel
theorem dX9_placesFor_0 : decode cX9_placesFor 0 = .ok (.iconst 0, 1) := by decide +kernel
theorem dX9_placesFor_1 : decode cX9_placesFor 1 = .ok (.istore_n 2, 1) := by decide +kernel
theorem dX9_placesFor_2 : decode cX9_placesFor 2 = .ok (.iconst 0, 1) := by decide +kernel
theorem dX9_placesFor_3 : decode cX9_placesFor 3 = .ok (.istore_n 3, 1) := by decide +kernel
theorem dX9_placesFor_4 : decode cX9_placesFor 4 = .ok (.iload_n 3, 1) := by decide +kernel
theorem dX9_placesFor_5 : decode cX9_placesFor 5 = .ok (.aload_n 1, 1) := by decide +kernel
theorem dX9_placesFor_6 : decode cX9_placesFor 6 = .ok (.getfield 111, 3) := by decide +kernel
theorem dX9_placesFor_9 : decode cX9_placesFor 9 = .ok (.iadd, 1) := by decide +kernel
theorem dX9_placesFor_10 : decode cX9_placesFor 10 = .ok (.aload_n 0, 1) := by decide +kernel
theorem dX9_placesFor_11 : decode cX9_placesFor 11 = .ok (.getfield 40, 3) := by decide +kernel
theorem dX9_placesFor_14 : decode cX9_placesFor 14 = .ok (.if_icmp .gt 22, 3) := by decide +kernel
theorem dX9_placesFor_17 : decode cX9_placesFor 17 = .ok (.aload_n 0, 1) := by decide +kernel
theorem dX9_placesFor_18 : decode cX9_placesFor 18 = .ok (.iload_n 3, 1) := by decide +kernel
theorem dX9_placesFor_19 : decode cX9_placesFor 19 = .ok (.aload_n 1, 1) := by decide +kernel
theorem dX9_placesFor_20 : decode cX9_placesFor 20 = .ok (.iconst 1, 1) := by decide +kernel
theorem dX9_placesFor_21 : decode cX9_placesFor 21 = .ok (.invokevirtual 116, 3) := by decide +kernel
theorem dX9_placesFor_24 : decode cX9_placesFor 24 = .ok (.ifCond .eq 6, 3) := by decide +kernel
theorem dX9_placesFor_27 : decode cX9_placesFor 27 = .ok (.iinc 2 1, 3) := by decide +kernel
theorem dX9_placesFor_30 : decode cX9_placesFor 30 = .ok (.iinc 3 1, 3) := by decide +kernel
theorem dX9_placesFor_33 : decode cX9_placesFor 33 = .ok (.goto (-29), 3) := by decide +kernel
theorem dX9_placesFor_36 : decode cX9_placesFor 36 = .ok (.iload_n 2, 1) := by decide +kernel
theorem dX9_placesFor_37 : decode cX9_placesFor 37 = .ok (.ireturn, 1) := by decide +kernel
theorem dX9_fitsAt_0 : decode cX9_fitsAt 0 = .ok (.iconst 0, 1) := by decide +kernel
theorem dX9_fitsAt_1 : decode cX9_fitsAt 1 = .ok (.istore 4, 2) := by decide +kernel
theorem dX9_fitsAt_3 : decode cX9_fitsAt 3 = .ok (.iload 4, 2) := by decide +kernel
theorem dX9_fitsAt_5 : decode cX9_fitsAt 5 = .ok (.aload_n 2, 1) := by decide +kernel
theorem dX9_fitsAt_6 : decode cX9_fitsAt 6 = .ok (.getfield 111, 3) := by decide +kernel
theorem dX9_fitsAt_9 : decode cX9_fitsAt 9 = .ok (.if_icmp .ge 57, 3) := by decide +kernel
theorem dX9_fitsAt_12 : decode cX9_fitsAt 12 = .ok (.aload_n 0, 1) := by decide +kernel
theorem dX9_fitsAt_13 : decode cX9_fitsAt 13 = .ok (.getfield 18, 3) := by decide +kernel
theorem dX9_fitsAt_16 : decode cX9_fitsAt 16 = .ok (.iload_n 1, 1) := by decide +kernel
theorem dX9_fitsAt_17 : decode cX9_fitsAt 17 = .ok (.iload 4, 2) := by decide +kernel
theorem dX9_fitsAt_19 : decode cX9_fitsAt 19 = .ok (.iadd, 1) := by decide +kernel
theorem dX9_fitsAt_20 : decode cX9_fitsAt 20 = .ok (.iaload, 1) := by decide +kernel
theorem dX9_fitsAt_21 : decode cX9_fitsAt 21 = .ok (.istore 5, 2) := by decide +kernel
theorem dX9_fitsAt_23 : decode cX9_fitsAt 23 = .ok (.iload 5, 2) := by decide +kernel
theorem dX9_fitsAt_25 : decode cX9_fitsAt 25 = .ok (.aload_n 2, 1) := by decide +kernel
theorem dX9_fitsAt_26 : decode cX9_fitsAt 26 = .ok (.getfield 120, 3) := by decide +kernel
theorem dX9_fitsAt_29 : decode cX9_fitsAt 29 = .ok (.iload 4, 2) := by decide +kernel
theorem dX9_fitsAt_31 : decode cX9_fitsAt 31 = .ok (.iaload, 1) := by decide +kernel
theorem dX9_fitsAt_32 : decode cX9_fitsAt 32 = .ok (.if_icmp .eq 14, 3) := by decide +kernel
theorem dX9_fitsAt_35 : decode cX9_fitsAt 35 = .ok (.iload_n 3, 1) := by decide +kernel
theorem dX9_fitsAt_36 : decode cX9_fitsAt 36 = .ok (.ifCond .eq 14, 3) := by decide +kernel
theorem dX9_fitsAt_39 : decode cX9_fitsAt 39 = .ok (.iload 5, 2) := by decide +kernel
theorem dX9_fitsAt_41 : decode cX9_fitsAt 41 = .ok (.bipush 6, 2) := by decide +kernel
theorem dX9_fitsAt_43 : decode cX9_fitsAt 43 = .ok (.if_icmp .ne 7, 3) := by decide +kernel
theorem dX9_fitsAt_46 : decode cX9_fitsAt 46 = .ok (.iconst 1, 1) := by decide +kernel
theorem dX9_fitsAt_47 : decode cX9_fitsAt 47 = .ok (.goto 4, 3) := by decide +kernel
theorem dX9_fitsAt_50 : decode cX9_fitsAt 50 = .ok (.iconst 0, 1) := by decide +kernel
theorem dX9_fitsAt_51 : decode cX9_fitsAt 51 = .ok (.istore 6, 2) := by decide +kernel
theorem dX9_fitsAt_53 : decode cX9_fitsAt 53 = .ok (.iload 6, 2) := by decide +kernel
theorem dX9_fitsAt_55 : decode cX9_fitsAt 55 = .ok (.ifCond .ne 5, 3) := by decide +kernel
theorem dX9_fitsAt_58 : decode cX9_fitsAt 58 = .ok (.iconst 0, 1) := by decide +kernel
theorem dX9_fitsAt_59 : decode cX9_fitsAt 59 = .ok (.ireturn, 1) := by decide +kernel
theorem dX9_fitsAt_60 : decode cX9_fitsAt 60 = .ok (.iinc 4 1, 3) := by decide +kernel
theorem dX9_fitsAt_63 : decode cX9_fitsAt 63 = .ok (.goto (-60), 3) := by decide +kernel
theorem dX9_fitsAt_66 : decode cX9_fitsAt 66 = .ok (.iconst 1, 1) := by decide +kernel
theorem dX9_fitsAt_67 : decode cX9_fitsAt 67 = .ok (.ireturn, 1) := by decide +kernel
theorem dX10_init_0 : decode cX10_init 0 = .ok (.aload_n 0, 1) := by decide +kernel
theorem dX10_init_1 : decode cX10_init 1 = .ok (.invokespecial 3, 3) := by decide +kernel
theorem dX10_init_4 : decode cX10_init 4 = .ok (.aload_n 0, 1) := by decide +kernel
theorem dX10_init_5 : decode cX10_init 5 = .ok (.bipush 7, 2) := by decide +kernel
theorem dX10_init_7 : decode cX10_init 7 = .ok (.newarray .int, 2) := by decide +kernel
theorem dX10_init_9 : decode cX10_init 9 = .ok (.putfield 9, 3) := by decide +kernel
theorem dX10_init_12 : decode cX10_init 12 = .ok (.return_, 1) := by decide +kernel
theorem dX10_copyFrom_0 : decode cX10_copyFrom 0 = .ok (.aload_n 0, 1) := by decide +kernel
theorem dX10_copyFrom_1 : decode cX10_copyFrom 1 = .ok (.aload_n 1, 1) := by decide +kernel
theorem dX10_copyFrom_2 : decode cX10_copyFrom 2 = .ok (.getfield 15, 3) := by decide +kernel
theorem dX10_copyFrom_5 : decode cX10_copyFrom 5 = .ok (.putfield 15, 3) := by decide +kernel
theorem dX10_copyFrom_8 : decode cX10_copyFrom 8 = .ok (.aload_n 1, 1) := by decide +kernel
theorem dX10_copyFrom_9 : decode cX10_copyFrom 9 = .ok (.getfield 9, 3) := by decide +kernel
theorem dX10_copyFrom_12 : decode cX10_copyFrom 12 = .ok (.iconst 0, 1) := by decide +kernel
theorem dX10_copyFrom_13 : decode cX10_copyFrom 13 = .ok (.aload_n 0, 1) := by decide +kernel
theorem dX10_copyFrom_14 : decode cX10_copyFrom 14 = .ok (.getfield 9, 3) := by decide +kernel
theorem dX10_copyFrom_17 : decode cX10_copyFrom 17 = .ok (.iconst 0, 1) := by decide +kernel
theorem dX10_copyFrom_18 : decode cX10_copyFrom 18 = .ok (.bipush 7, 2) := by decide +kernel
theorem dX10_copyFrom_20 : decode cX10_copyFrom 20 = .ok (.invokestatic 19, 3) := by decide +kernel
theorem dX10_copyFrom_23 : decode cX10_copyFrom 23 = .ok (.return_, 1) := by decide +kernel
theorem dX11_init_0 : decode cX11_init 0 = .ok (.aload_n 0, 1) := by decide +kernel
theorem dX11_init_1 : decode cX11_init 1 = .ok (.invokespecial 1, 3) := by decide +kernel
theorem dX11_init_4 : decode cX11_init 4 = .ok (.aload_n 0, 1) := by decide +kernel
theorem dX11_init_5 : decode cX11_init 5 = .ok (.new 7, 3) := by decide +kernel
theorem dX11_init_8 : decode cX11_init 8 = .ok (.dup, 1) := by decide +kernel
theorem dX11_init_9 : decode cX11_init 9 = .ok (.invokespecial 9, 3) := by decide +kernel
theorem dX11_init_12 : decode cX11_init 12 = .ok (.putfield 10, 3) := by decide +kernel
theorem dX11_init_15 : decode cX11_init 15 = .ok (.aload_n 0, 1) := by decide +kernel
theorem dX11_init_16 : decode cX11_init 16 = .ok (.new 16, 3) := by decide +kernel
theorem dX11_init_19 : decode cX11_init 19 = .ok (.dup, 1) := by decide +kernel
theorem dX11_init_20 : decode cX11_init 20 = .ok (.aload_n 0, 1) := by decide +kernel
theorem dX11_init_21 : decode cX11_init 21 = .ok (.getfield 10, 3) := by decide +kernel
theorem dX11_init_24 : decode cX11_init 24 = .ok (.invokespecial 18, 3) := by decide +kernel
theorem dX11_init_27 : decode cX11_init 27 = .ok (.putfield 21, 3) := by decide +kernel
theorem dX11_init_30 : decode cX11_init 30 = .ok (.aload_n 0, 1) := by decide +kernel
theorem dX11_init_31 : decode cX11_init 31 = .ok (.new 25, 3) := by decide +kernel
theorem dX11_init_34 : decode cX11_init 34 = .ok (.dup, 1) := by decide +kernel
theorem dX11_init_35 : decode cX11_init 35 = .ok (.aload_n 0, 1) := by decide +kernel
theorem dX11_init_36 : decode cX11_init 36 = .ok (.getfield 10, 3) := by decide +kernel
theorem dX11_init_39 : decode cX11_init 39 = .ok (.invokespecial 27, 3) := by decide +kernel
theorem dX11_init_42 : decode cX11_init 42 = .ok (.putfield 28, 3) := by decide +kernel
theorem dX11_init_45 : decode cX11_init 45 = .ok (.aload_n 0, 1) := by decide +kernel
theorem dX11_init_46 : decode cX11_init 46 = .ok (.new 32, 3) := by decide +kernel
theorem dX11_init_49 : decode cX11_init 49 = .ok (.dup, 1) := by decide +kernel
theorem dX11_init_50 : decode cX11_init 50 = .ok (.invokespecial 34, 3) := by decide +kernel
theorem dX11_init_53 : decode cX11_init 53 = .ok (.putfield 35, 3) := by decide +kernel
theorem dX11_init_56 : decode cX11_init 56 = .ok (.aload_n 0, 1) := by decide +kernel
theorem dX11_init_57 : decode cX11_init 57 = .ok (.new 32, 3) := by decide +kernel
theorem dX11_init_60 : decode cX11_init 60 = .ok (.dup, 1) := by decide +kernel
theorem dX11_init_61 : decode cX11_init 61 = .ok (.invokespecial 34, 3) := by decide +kernel
theorem dX11_init_64 : decode cX11_init 64 = .ok (.putfield 39, 3) := by decide +kernel
theorem dX11_init_67 : decode cX11_init 67 = .ok (.aload_n 0, 1) := by decide +kernel
theorem dX11_init_68 : decode cX11_init 68 = .ok (.new 42, 3) := by decide +kernel
theorem dX11_init_71 : decode cX11_init 71 = .ok (.dup, 1) := by decide +kernel
theorem dX11_init_72 : decode cX11_init 72 = .ok (.invokespecial 44, 3) := by decide +kernel
theorem dX11_init_75 : decode cX11_init 75 = .ok (.putfield 45, 3) := by decide +kernel
theorem dX11_init_78 : decode cX11_init 78 = .ok (.aload_n 0, 1) := by decide +kernel
theorem dX11_init_79 : decode cX11_init 79 = .ok (.new 42, 3) := by decide +kernel
theorem dX11_init_82 : decode cX11_init 82 = .ok (.dup, 1) := by decide +kernel
theorem dX11_init_83 : decode cX11_init 83 = .ok (.invokespecial 44, 3) := by decide +kernel
theorem dX11_init_86 : decode cX11_init 86 = .ok (.putfield 49, 3) := by decide +kernel
theorem dX11_init_89 : decode cX11_init 89 = .ok (.aload_n 0, 1) := by decide +kernel
theorem dX11_init_90 : decode cX11_init 90 = .ok (.new 52, 3) := by decide +kernel
theorem dX11_init_93 : decode cX11_init 93 = .ok (.dup, 1) := by decide +kernel
theorem dX11_init_94 : decode cX11_init 94 = .ok (.invokespecial 54, 3) := by decide +kernel
theorem dX11_init_97 : decode cX11_init 97 = .ok (.putfield 55, 3) := by decide +kernel
theorem dX11_init_100 : decode cX11_init 100 = .ok (.aload_n 0, 1) := by decide +kernel
theorem dX11_init_101 : decode cX11_init 101 = .ok (.new 52, 3) := by decide +kernel
theorem dX11_init_104 : decode cX11_init 104 = .ok (.dup, 1) := by decide +kernel
theorem dX11_init_105 : decode cX11_init 105 = .ok (.invokespecial 54, 3) := by decide +kernel
theorem dX11_init_108 : decode cX11_init 108 = .ok (.putfield 59, 3) := by decide +kernel
theorem dX11_init_111 : decode cX11_init 111 = .ok (.aload_n 0, 1) := by decide +kernel
theorem dX11_init_112 : decode cX11_init 112 = .ok (.new 62, 3) := by decide +kernel
theorem dX11_init_115 : decode cX11_init 115 = .ok (.dup, 1) := by decide +kernel
theorem dX11_init_116 : decode cX11_init 116 = .ok (.invokespecial 64, 3) := by decide +kernel
theorem dX11_init_119 : decode cX11_init 119 = .ok (.putfield 65, 3) := by decide +kernel
theorem dX11_init_122 : decode cX11_init 122 = .ok (.aload_n 0, 1) := by decide +kernel
theorem dX11_init_123 : decode cX11_init 123 = .ok (.new 69, 3) := by decide +kernel
theorem dX11_init_126 : decode cX11_init 126 = .ok (.dup, 1) := by decide +kernel
theorem dX11_init_127 : decode cX11_init 127 = .ok (.invokespecial 71, 3) := by decide +kernel
theorem dX11_init_130 : decode cX11_init 130 = .ok (.putfield 72, 3) := by decide +kernel
theorem dX11_init_133 : decode cX11_init 133 = .ok (.aload_n 0, 1) := by decide +kernel
theorem dX11_init_134 : decode cX11_init 134 = .ok (.new 69, 3) := by decide +kernel
theorem dX11_init_137 : decode cX11_init 137 = .ok (.dup, 1) := by decide +kernel
theorem dX11_init_138 : decode cX11_init 138 = .ok (.invokespecial 71, 3) := by decide +kernel
theorem dX11_init_141 : decode cX11_init 141 = .ok (.putfield 76, 3) := by decide +kernel
theorem dX11_init_144 : decode cX11_init 144 = .ok (.aload_n 0, 1) := by decide +kernel
theorem dX11_init_145 : decode cX11_init 145 = .ok (.bipush 16, 2) := by decide +kernel
theorem dX11_init_147 : decode cX11_init 147 = .ok (.anewarray 69, 3) := by decide +kernel
theorem dX11_init_150 : decode cX11_init 150 = .ok (.putfield 79, 3) := by decide +kernel
theorem dX11_init_153 : decode cX11_init 153 = .ok (.iconst 0, 1) := by decide +kernel
theorem dX11_init_154 : decode cX11_init 154 = .ok (.istore_n 1, 1) := by decide +kernel
theorem dX11_init_155 : decode cX11_init 155 = .ok (.iload_n 1, 1) := by decide +kernel
theorem dX11_init_156 : decode cX11_init 156 = .ok (.bipush 16, 2) := by decide +kernel
theorem dX11_init_158 : decode cX11_init 158 = .ok (.if_icmp .ge 22, 3) := by decide +kernel
theorem dX11_init_161 : decode cX11_init 161 = .ok (.aload_n 0, 1) := by decide +kernel
theorem dX11_init_162 : decode cX11_init 162 = .ok (.getfield 79, 3) := by decide +kernel
theorem dX11_init_165 : decode cX11_init 165 = .ok (.iload_n 1, 1) := by decide +kernel
theorem dX11_init_166 : decode cX11_init 166 = .ok (.new 69, 3) := by decide +kernel
theorem dX11_init_169 : decode cX11_init 169 = .ok (.dup, 1) := by decide +kernel
theorem dX11_init_170 : decode cX11_init 170 = .ok (.invokespecial 71, 3) := by decide +kernel
theorem dX11_init_173 : decode cX11_init 173 = .ok (.aastore, 1) := by decide +kernel
theorem dX11_init_174 : decode cX11_init 174 = .ok (.iinc 1 1, 3) := by decide +kernel
theorem dX11_init_177 : decode cX11_init 177 = .ok (.goto (-22), 3) := by decide +kernel
theorem dX11_init_180 : decode cX11_init 180 = .ok (.aload_n 0, 1) := by decide +kernel
theorem dX11_init_181 : decode cX11_init 181 = .ok (.iconst 4, 1) := by decide +kernel
theorem dX11_init_182 : decode cX11_init 182 = .ok (.anewarray 83, 3) := by decide +kernel
theorem dX11_init_185 : decode cX11_init 185 = .ok (.putfield 85, 3) := by decide +kernel
theorem dX11_init_188 : decode cX11_init 188 = .ok (.iconst 0, 1) := by decide +kernel
theorem dX11_init_189 : decode cX11_init 189 = .ok (.istore_n 1, 1) := by decide +kernel
theorem dX11_init_190 : decode cX11_init 190 = .ok (.iload_n 1, 1) := by decide +kernel
theorem dX11_init_191 : decode cX11_init 191 = .ok (.iconst 4, 1) := by decide +kernel
theorem dX11_init_192 : decode cX11_init 192 = .ok (.if_icmp .ge 22, 3) := by decide +kernel
theorem dX11_init_195 : decode cX11_init 195 = .ok (.aload_n 0, 1) := by decide +kernel
theorem dX11_init_196 : decode cX11_init 196 = .ok (.getfield 85, 3) := by decide +kernel
theorem dX11_init_199 : decode cX11_init 199 = .ok (.iload_n 1, 1) := by decide +kernel
theorem dX11_init_200 : decode cX11_init 200 = .ok (.new 83, 3) := by decide +kernel
theorem dX11_init_203 : decode cX11_init 203 = .ok (.dup, 1) := by decide +kernel
theorem dX11_init_204 : decode cX11_init 204 = .ok (.invokespecial 89, 3) := by decide +kernel
theorem dX11_init_207 : decode cX11_init 207 = .ok (.aastore, 1) := by decide +kernel
theorem dX11_init_208 : decode cX11_init 208 = .ok (.iinc 1 1, 3) := by decide +kernel
theorem dX11_init_211 : decode cX11_init 211 = .ok (.goto (-21), 3) := by decide +kernel
theorem dX11_init_214 : decode cX11_init 214 = .ok (.aload_n 0, 1) := by decide +kernel
theorem dX11_init_215 : decode cX11_init 215 = .ok (.bipush 7, 2) := by decide +kernel
theorem dX11_init_217 : decode cX11_init 217 = .ok (.newarray .int, 2) := by decide +kernel
theorem dX11_init_219 : decode cX11_init 219 = .ok (.putfield 90, 3) := by decide +kernel
theorem dX11_init_222 : decode cX11_init 222 = .ok (.return_, 1) := by decide +kernel
theorem dX11_feed_0 : decode cX11_feed 0 = .ok (.aload_n 0, 1) := by decide +kernel
theorem dX11_feed_1 : decode cX11_feed 1 = .ok (.getfield 10, 3) := by decide +kernel
theorem dX11_feed_4 : decode cX11_feed 4 = .ok (.lload_n 1, 1) := by decide +kernel
theorem dX11_feed_5 : decode cX11_feed 5 = .ok (.invokevirtual 94, 3) := by decide +kernel
theorem dX11_feed_8 : decode cX11_feed 8 = .ok (.aload_n 0, 1) := by decide +kernel
theorem dX11_feed_9 : decode cX11_feed 9 = .ok (.getfield 10, 3) := by decide +kernel
theorem dX11_feed_12 : decode cX11_feed 12 = .ok (.lload_n 3, 1) := by decide +kernel
theorem dX11_feed_13 : decode cX11_feed 13 = .ok (.invokevirtual 94, 3) := by decide +kernel
theorem dX11_feed_16 : decode cX11_feed 16 = .ok (.aload_n 0, 1) := by decide +kernel
theorem dX11_feed_17 : decode cX11_feed 17 = .ok (.getfield 10, 3) := by decide +kernel
theorem dX11_feed_20 : decode cX11_feed 20 = .ok (.lload 5, 2) := by decide +kernel
theorem dX11_feed_22 : decode cX11_feed 22 = .ok (.invokevirtual 94, 3) := by decide +kernel
theorem dX11_feed_25 : decode cX11_feed 25 = .ok (.aload_n 0, 1) := by decide +kernel
theorem dX11_feed_26 : decode cX11_feed 26 = .ok (.getfield 10, 3) := by decide +kernel
theorem dX11_feed_29 : decode cX11_feed 29 = .ok (.getfield 98, 3) := by decide +kernel
theorem dX11_feed_32 : decode cX11_feed 32 = .ok (.ireturn, 1) := by decide +kernel
theorem dX11_front_0 : decode cX11_front 0 = .ok (.aload_n 0, 1) := by decide +kernel
theorem dX11_front_1 : decode cX11_front 1 = .ok (.getfield 21, 3) := by decide +kernel
theorem dX11_front_4 : decode cX11_front 4 = .ok (.aload_n 0, 1) := by decide +kernel
theorem dX11_front_5 : decode cX11_front 5 = .ok (.getfield 39, 3) := by decide +kernel
theorem dX11_front_8 : decode cX11_front 8 = .ok (.invokevirtual 102, 3) := by decide +kernel
theorem dX11_front_11 : decode cX11_front 11 = .ok (.istore_n 1, 1) := by decide +kernel
theorem dX11_front_12 : decode cX11_front 12 = .ok (.iload_n 1, 1) := by decide +kernel
theorem dX11_front_13 : decode cX11_front 13 = .ok (.ifCond .ne 25, 3) := by decide +kernel
theorem dX11_front_16 : decode cX11_front 16 = .ok (.aload_n 0, 1) := by decide +kernel
theorem dX11_front_17 : decode cX11_front 17 = .ok (.getfield 35, 3) := by decide +kernel
theorem dX11_front_20 : decode cX11_front 20 = .ok (.astore_n 2, 1) := by decide +kernel
theorem dX11_front_21 : decode cX11_front 21 = .ok (.aload_n 0, 1) := by decide +kernel
theorem dX11_front_22 : decode cX11_front 22 = .ok (.aload_n 0, 1) := by decide +kernel
theorem dX11_front_23 : decode cX11_front 23 = .ok (.getfield 39, 3) := by decide +kernel
theorem dX11_front_26 : decode cX11_front 26 = .ok (.putfield 35, 3) := by decide +kernel
theorem dX11_front_29 : decode cX11_front 29 = .ok (.aload_n 0, 1) := by decide +kernel
theorem dX11_front_30 : decode cX11_front 30 = .ok (.aload_n 2, 1) := by decide +kernel
theorem dX11_front_31 : decode cX11_front 31 = .ok (.putfield 39, 3) := by decide +kernel
theorem dX11_front_34 : decode cX11_front 34 = .ok (.aload_n 0, 1) := by decide +kernel
theorem dX11_front_35 : decode cX11_front 35 = .ok (.invokevirtual 106, 3) := by decide +kernel
theorem dX11_front_38 : decode cX11_front 38 = .ok (.iload_n 1, 1) := by decide +kernel
theorem dX11_front_39 : decode cX11_front 39 = .ok (.ireturn, 1) := by decide +kernel
theorem dX11_day_0 : decode cX11_day 0 = .ok (.aload_n 0, 1) := by decide +kernel
theorem dX11_day_1 : decode cX11_day 1 = .ok (.getfield 28, 3) := by decide +kernel
theorem dX11_day_4 : decode cX11_day 4 = .ok (.aload_n 0, 1) := by decide +kernel
theorem dX11_day_5 : decode cX11_day 5 = .ok (.getfield 35, 3) := by decide +kernel
theorem dX11_day_8 : decode cX11_day 8 = .ok (.aload_n 0, 1) := by decide +kernel
theorem dX11_day_9 : decode cX11_day 9 = .ok (.getfield 49, 3) := by decide +kernel
theorem dX11_day_12 : decode cX11_day 12 = .ok (.invokevirtual 109, 3) := by decide +kernel
theorem dX11_day_15 : decode cX11_day 15 = .ok (.istore_n 1, 1) := by decide +kernel
theorem dX11_day_16 : decode cX11_day 16 = .ok (.iload_n 1, 1) := by decide +kernel
theorem dX11_day_17 : decode cX11_day 17 = .ok (.ifCond .ne 21, 3) := by decide +kernel
theorem dX11_day_20 : decode cX11_day 20 = .ok (.aload_n 0, 1) := by decide +kernel
theorem dX11_day_21 : decode cX11_day 21 = .ok (.getfield 45, 3) := by decide +kernel
theorem dX11_day_24 : decode cX11_day 24 = .ok (.astore_n 2, 1) := by decide +kernel
theorem dX11_day_25 : decode cX11_day 25 = .ok (.aload_n 0, 1) := by decide +kernel
theorem dX11_day_26 : decode cX11_day 26 = .ok (.aload_n 0, 1) := by decide +kernel
theorem dX11_day_27 : decode cX11_day 27 = .ok (.getfield 49, 3) := by decide +kernel
theorem dX11_day_30 : decode cX11_day 30 = .ok (.putfield 45, 3) := by decide +kernel
theorem dX11_day_33 : decode cX11_day 33 = .ok (.aload_n 0, 1) := by decide +kernel
theorem dX11_day_34 : decode cX11_day 34 = .ok (.aload_n 2, 1) := by decide +kernel
theorem dX11_day_35 : decode cX11_day 35 = .ok (.putfield 49, 3) := by decide +kernel
theorem dX11_day_38 : decode cX11_day 38 = .ok (.iload_n 1, 1) := by decide +kernel
theorem dX11_day_39 : decode cX11_day 39 = .ok (.ireturn, 1) := by decide +kernel
theorem dX11_word_0 : decode cX11_word 0 = .ok (.aload_n 0, 1) := by decide +kernel
theorem dX11_word_1 : decode cX11_word 1 = .ok (.getfield 28, 3) := by decide +kernel
theorem dX11_word_4 : decode cX11_word 4 = .ok (.aload_n 0, 1) := by decide +kernel
theorem dX11_word_5 : decode cX11_word 5 = .ok (.getfield 35, 3) := by decide +kernel
theorem dX11_word_8 : decode cX11_word 8 = .ok (.aload_n 0, 1) := by decide +kernel
theorem dX11_word_9 : decode cX11_word 9 = .ok (.getfield 59, 3) := by decide +kernel
theorem dX11_word_12 : decode cX11_word 12 = .ok (.invokevirtual 113, 3) := by decide +kernel
theorem dX11_word_15 : decode cX11_word 15 = .ok (.istore_n 1, 1) := by decide +kernel
theorem dX11_word_16 : decode cX11_word 16 = .ok (.iload_n 1, 1) := by decide +kernel
theorem dX11_word_17 : decode cX11_word 17 = .ok (.ifCond .ne 21, 3) := by decide +kernel
theorem dX11_word_20 : decode cX11_word 20 = .ok (.aload_n 0, 1) := by decide +kernel
theorem dX11_word_21 : decode cX11_word 21 = .ok (.getfield 55, 3) := by decide +kernel
theorem dX11_word_24 : decode cX11_word 24 = .ok (.astore_n 2, 1) := by decide +kernel
theorem dX11_word_25 : decode cX11_word 25 = .ok (.aload_n 0, 1) := by decide +kernel
theorem dX11_word_26 : decode cX11_word 26 = .ok (.aload_n 0, 1) := by decide +kernel
theorem dX11_word_27 : decode cX11_word 27 = .ok (.getfield 59, 3) := by decide +kernel
theorem dX11_word_30 : decode cX11_word 30 = .ok (.putfield 55, 3) := by decide +kernel
theorem dX11_word_33 : decode cX11_word 33 = .ok (.aload_n 0, 1) := by decide +kernel
theorem dX11_word_34 : decode cX11_word 34 = .ok (.aload_n 2, 1) := by decide +kernel
theorem dX11_word_35 : decode cX11_word 35 = .ok (.putfield 59, 3) := by decide +kernel
theorem dX11_word_38 : decode cX11_word 38 = .ok (.iload_n 1, 1) := by decide +kernel
theorem dX11_word_39 : decode cX11_word 39 = .ok (.ireturn, 1) := by decide +kernel
theorem dX11_mouth_0 : decode cX11_mouth 0 = .ok (.aload_n 0, 1) := by decide +kernel
theorem dX11_mouth_1 : decode cX11_mouth 1 = .ok (.iload_n 1, 1) := by decide +kernel
theorem dX11_mouth_2 : decode cX11_mouth 2 = .ok (.invokevirtual 117, 3) := by decide +kernel
theorem dX11_mouth_5 : decode cX11_mouth 5 = .ok (.ifCond .ne 6, 3) := by decide +kernel
theorem dX11_mouth_8 : decode cX11_mouth 8 = .ok (.bipush (-2), 2) := by decide +kernel
theorem dX11_mouth_10 : decode cX11_mouth 10 = .ok (.ireturn, 1) := by decide +kernel
theorem dX11_mouth_11 : decode cX11_mouth 11 = .ok (.iload_n 2, 1) := by decide +kernel
theorem dX11_mouth_12 : decode cX11_mouth 12 = .ok (.tableswitch 135 0 7 #[48, 58, 68, 78, 88, 98, 108, 125], 48) := by decide +kernel
theorem dX11_mouth_60 : decode cX11_mouth 60 = .ok (.aload_n 0, 1) := by decide +kernel
theorem dX11_mouth_61 : decode cX11_mouth 61 = .ok (.getfield 35, 3) := by decide +kernel
theorem dX11_mouth_64 : decode cX11_mouth 64 = .ok (.getfield 121, 3) := by decide +kernel
theorem dX11_mouth_67 : decode cX11_mouth 67 = .ok (.iload_n 1, 1) := by decide +kernel
theorem dX11_mouth_68 : decode cX11_mouth 68 = .ok (.iaload, 1) := by decide +kernel
theorem dX11_mouth_69 : decode cX11_mouth 69 = .ok (.ireturn, 1) := by decide +kernel
theorem dX11_mouth_70 : decode cX11_mouth 70 = .ok (.aload_n 0, 1) := by decide +kernel
theorem dX11_mouth_71 : decode cX11_mouth 71 = .ok (.getfield 35, 3) := by decide +kernel
theorem dX11_mouth_74 : decode cX11_mouth 74 = .ok (.getfield 124, 3) := by decide +kernel
theorem dX11_mouth_77 : decode cX11_mouth 77 = .ok (.iload_n 1, 1) := by decide +kernel
theorem dX11_mouth_78 : decode cX11_mouth 78 = .ok (.iaload, 1) := by decide +kernel
theorem dX11_mouth_79 : decode cX11_mouth 79 = .ok (.ireturn, 1) := by decide +kernel
theorem dX11_mouth_80 : decode cX11_mouth 80 = .ok (.aload_n 0, 1) := by decide +kernel
theorem dX11_mouth_81 : decode cX11_mouth 81 = .ok (.getfield 35, 3) := by decide +kernel
theorem dX11_mouth_84 : decode cX11_mouth 84 = .ok (.getfield 127, 3) := by decide +kernel
theorem dX11_mouth_87 : decode cX11_mouth 87 = .ok (.iload_n 1, 1) := by decide +kernel
theorem dX11_mouth_88 : decode cX11_mouth 88 = .ok (.iaload, 1) := by decide +kernel
theorem dX11_mouth_89 : decode cX11_mouth 89 = .ok (.ireturn, 1) := by decide +kernel
theorem dX11_mouth_90 : decode cX11_mouth 90 = .ok (.aload_n 0, 1) := by decide +kernel
theorem dX11_mouth_91 : decode cX11_mouth 91 = .ok (.getfield 35, 3) := by decide +kernel
theorem dX11_mouth_94 : decode cX11_mouth 94 = .ok (.getfield 130, 3) := by decide +kernel
theorem dX11_mouth_97 : decode cX11_mouth 97 = .ok (.iload_n 1, 1) := by decide +kernel
theorem dX11_mouth_98 : decode cX11_mouth 98 = .ok (.iaload, 1) := by decide +kernel
theorem dX11_mouth_99 : decode cX11_mouth 99 = .ok (.ireturn, 1) := by decide +kernel
theorem dX11_mouth_100 : decode cX11_mouth 100 = .ok (.aload_n 0, 1) := by decide +kernel
theorem dX11_mouth_101 : decode cX11_mouth 101 = .ok (.getfield 35, 3) := by decide +kernel
theorem dX11_mouth_104 : decode cX11_mouth 104 = .ok (.getfield 133, 3) := by decide +kernel
theorem dX11_mouth_107 : decode cX11_mouth 107 = .ok (.iload_n 1, 1) := by decide +kernel
theorem dX11_mouth_108 : decode cX11_mouth 108 = .ok (.iaload, 1) := by decide +kernel
theorem dX11_mouth_109 : decode cX11_mouth 109 = .ok (.ireturn, 1) := by decide +kernel
theorem dX11_mouth_110 : decode cX11_mouth 110 = .ok (.aload_n 0, 1) := by decide +kernel
theorem dX11_mouth_111 : decode cX11_mouth 111 = .ok (.getfield 72, 3) := by decide +kernel
theorem dX11_mouth_114 : decode cX11_mouth 114 = .ok (.getfield 136, 3) := by decide +kernel
theorem dX11_mouth_117 : decode cX11_mouth 117 = .ok (.iload_n 1, 1) := by decide +kernel
theorem dX11_mouth_118 : decode cX11_mouth 118 = .ok (.iaload, 1) := by decide +kernel
theorem dX11_mouth_119 : decode cX11_mouth 119 = .ok (.ireturn, 1) := by decide +kernel
theorem dX11_mouth_120 : decode cX11_mouth 120 = .ok (.aload_n 0, 1) := by decide +kernel
theorem dX11_mouth_121 : decode cX11_mouth 121 = .ok (.getfield 72, 3) := by decide +kernel
theorem dX11_mouth_124 : decode cX11_mouth 124 = .ok (.iload_n 1, 1) := by decide +kernel
theorem dX11_mouth_125 : decode cX11_mouth 125 = .ok (.invokevirtual 139, 3) := by decide +kernel
theorem dX11_mouth_128 : decode cX11_mouth 128 = .ok (.ifCond .eq 7, 3) := by decide +kernel
theorem dX11_mouth_131 : decode cX11_mouth 131 = .ok (.iconst 1, 1) := by decide +kernel
theorem dX11_mouth_132 : decode cX11_mouth 132 = .ok (.goto 4, 3) := by decide +kernel
theorem dX11_mouth_135 : decode cX11_mouth 135 = .ok (.iconst 0, 1) := by decide +kernel
theorem dX11_mouth_136 : decode cX11_mouth 136 = .ok (.ireturn, 1) := by decide +kernel
theorem dX11_mouth_137 : decode cX11_mouth 137 = .ok (.aload_n 0, 1) := by decide +kernel
theorem dX11_mouth_138 : decode cX11_mouth 138 = .ok (.getfield 72, 3) := by decide +kernel
theorem dX11_mouth_141 : decode cX11_mouth 141 = .ok (.getfield 142, 3) := by decide +kernel
theorem dX11_mouth_144 : decode cX11_mouth 144 = .ok (.iload_n 1, 1) := by decide +kernel
theorem dX11_mouth_145 : decode cX11_mouth 145 = .ok (.iaload, 1) := by decide +kernel
theorem dX11_mouth_146 : decode cX11_mouth 146 = .ok (.ireturn, 1) := by decide +kernel
theorem dX11_mouth_147 : decode cX11_mouth 147 = .ok (.bipush (-2), 2) := by decide +kernel
theorem dX11_mouth_149 : decode cX11_mouth 149 = .ok (.ireturn, 1) := by decide +kernel
theorem dX11_letter_0 : decode cX11_letter 0 = .ok (.aload_n 0, 1) := by decide +kernel
theorem dX11_letter_1 : decode cX11_letter 1 = .ok (.iload_n 1, 1) := by decide +kernel
theorem dX11_letter_2 : decode cX11_letter 2 = .ok (.invokevirtual 145, 3) := by decide +kernel
theorem dX11_letter_5 : decode cX11_letter 5 = .ok (.ifCond .eq 15, 3) := by decide +kernel
theorem dX11_letter_8 : decode cX11_letter 8 = .ok (.aload_n 0, 1) := by decide +kernel
theorem dX11_letter_9 : decode cX11_letter 9 = .ok (.getfield 35, 3) := by decide +kernel
theorem dX11_letter_12 : decode cX11_letter 12 = .ok (.getfield 148, 3) := by decide +kernel
theorem dX11_letter_15 : decode cX11_letter 15 = .ok (.iload_n 1, 1) := by decide +kernel
theorem dX11_letter_16 : decode cX11_letter 16 = .ok (.iaload, 1) := by decide +kernel
theorem dX11_letter_17 : decode cX11_letter 17 = .ok (.goto 4, 3) := by decide +kernel
theorem dX11_letter_20 : decode cX11_letter 20 = .ok (.iconst (-1), 1) := by decide +kernel
theorem dX11_letter_21 : decode cX11_letter 21 = .ok (.ireturn, 1) := by decide +kernel
