theorem mI_L_15 : g_MI "StoneReadersLaw" 15 mX11_init 0 := ⟨rfl, (g_inT1 (i := 28) (by decide +kernel) (by decide +kernel)), mi_X11_init, ini_X11, mc_X11_init, rfl, mp_X11_init, by decide⟩
theorem lk_X11_1 : Cond.methodLink RX11 1 objectInit ∈ g_T := g_inT1 (i := 31) (by decide +kernel) (by decide +kernel)
theorem mI_X11_9 : g_MI RX11 9 mX8_init 0 := ⟨rfl, (g_inT1 (i := 36) (by decide +kernel) (by decide +kernel)), mi_X8_init, ini_X8, mc_X8_init, rfl, mp_X8_init, by decide⟩
theorem lk_X8_3 : Cond.methodLink RX8 3 objectInit ∈ g_T := g_inT1 (i := 39) (by decide +kernel) (by decide +kernel)
theorem mI_X11_18 : g_MI RX11 18 mX2_init 1 := ⟨rfl, (g_inT1 (i := 73) (by decide +kernel) (by decide +kernel)), mi_X2_init, ini_X2, mc_X2_init, rfl, mp_X2_init, by decide⟩
theorem lk_X2_3 : Cond.methodLink RX2 3 objectInit ∈ g_T := g_inT1 (i := 76) (by decide +kernel) (by decide +kernel)
theorem mI_X2_17 : g_MI RX2 17 mX4_init 1 := ⟨rfl, (g_inT1 (i := 79) (by decide +kernel) (by decide +kernel)), mi_X4_init, ini_X4, mc_X4_init, rfl, mp_X4_init, by decide⟩
theorem lk_X4_3 : Cond.methodLink RX4 3 objectInit ∈ g_T := g_inT1 (i := 82) (by decide +kernel) (by decide +kernel)
theorem mI_X11_27 : g_MI RX11 27 mX5_init 1 := ⟨rfl, (g_inT1 (i := 96) (by decide +kernel) (by decide +kernel)), mi_X5_init, ini_X5, mc_X5_init, rfl, mp_X5_init, by decide⟩
theorem lk_X5_3 : Cond.methodLink RX5 3 objectInit ∈ g_T := g_inT1 (i := 99) (by decide +kernel) (by decide +kernel)
theorem mI_X11_34 : g_MI RX11 34 mX1_init 0 := ⟨rfl, (g_inT1 (i := 106) (by decide +kernel) (by decide +kernel)), mi_X1_init, ini_X1, mc_X1_init, rfl, mp_X1_init, by decide⟩
theorem lk_X1_3 : Cond.methodLink RX1 3 objectInit ∈ g_T := g_inT1 (i := 109) (by decide +kernel) (by decide +kernel)
theorem mI_X1_45 : g_MI RX1 45 mX3_init 0 := ⟨rfl, (g_inT1 (i := 112) (by decide +kernel) (by decide +kernel)), mi_X3_init, ini_X3, mc_X3_init, rfl, mp_X3_init, by decide⟩
theorem lk_X3_3 : Cond.methodLink RX3 3 objectInit ∈ g_T := g_inT1 (i := 115) (by decide +kernel) (by decide +kernel)
theorem mI_X11_44 : g_MI RX11 44 mX0_init 0 := ⟨rfl, (g_inT1 (i := 203) (by decide +kernel) (by decide +kernel)), mi_X0_init, ini_X0, mc_X0_init, rfl, mp_X0_init, by decide⟩
theorem lk_X0_3 : Cond.methodLink RX0 3 objectInit ∈ g_T := g_inT1 (i := 206) (by decide +kernel) (by decide +kernel)
theorem mI_X11_54 : g_MI RX11 54 mX10_init 0 := ⟨rfl, (g_inT1 (i := 230) (by decide +kernel) (by decide +kernel)), mi_X10_init, ini_X10, mc_X10_init, rfl, mp_X10_init, by decide⟩
theorem lk_X10_3 : Cond.methodLink RX10 3 objectInit ∈ g_T := g_inT1 (i := 233) (by decide +kernel) (by decide +kernel)
theorem mI_X11_64 : g_MI RX11 64 mX7_init 0 := ⟨rfl, (g_inT1 (i := 248) (by decide +kernel) (by decide +kernel)), mi_X7_init, ini_X7, mc_X7_init, rfl, mp_X7_init, by decide⟩
theorem lk_X7_3 : Cond.methodLink RX7 3 objectInit ∈ g_T := g_inT1 (i := 251) (by decide +kernel) (by decide +kernel)
theorem mI_X11_71 : g_MI RX11 71 mX9_init 0 := ⟨rfl, (g_inT1 (i := 266) (by decide +kernel) (by decide +kernel)), mi_X9_init, ini_X9, mc_X9_init, rfl, mp_X9_init, by decide⟩
theorem lk_X9_3 : Cond.methodLink RX9 3 objectInit ∈ g_T := g_inT1 (i := 269) (by decide +kernel) (by decide +kernel)
theorem mI_X11_89 : g_MI RX11 89 mX6_init 0 := ⟨rfl, (g_inT1 (i := 314) (by decide +kernel) (by decide +kernel)), mi_X6_init, ini_X6, mc_X6_init, rfl, mp_X6_init, by decide⟩
theorem lk_X6_1 : Cond.methodLink RX6 1 objectInit ∈ g_T := g_inT1 (i := 317) (by decide +kernel) (by decide +kernel)
theorem mI_X6_9 : g_MI RX6 9 mX9_init 0 := ⟨rfl, (g_inT1 (i := 319) (by decide +kernel) (by decide +kernel)), mi_X9_init, ini_X9, mc_X9_init, rfl, mp_X9_init, by decide⟩
theorem mI_X6_18 : g_MI RX6 18 mX0_init 0 := ⟨rfl, (g_inT1 (i := 321) (by decide +kernel) (by decide +kernel)), mi_X0_init, ini_X0, mc_X0_init, rfl, mp_X0_init, by decide⟩
theorem mI_X6_25 : g_MI RX6 25 mX10_init 0 := ⟨rfl, (g_inT1 (i := 323) (by decide +kernel) (by decide +kernel)), mi_X10_init, ini_X10, mc_X10_init, rfl, mp_X10_init, by decide⟩
theorem mI_X6_32 : g_MI RX6 32 mX7_init 0 := ⟨rfl, (g_inT1 (i := 325) (by decide +kernel) (by decide +kernel)), mi_X7_init, ini_X7, mc_X7_init, rfl, mp_X7_init, by decide⟩
theorem mV_L_21 : g_MV "StoneReadersLaw" 21 mX11_feed 11 3 := ⟨RX11, TX11, 18, rfl, rfl, (g_inT1 (i := 401) (by decide +kernel) (by decide +kernel)), mi_X11_feed, me_X11_feed, ini_X11, mc_X11_feed, mp_X11_feed, by decide⟩
theorem mV_X11_94 : g_MV RX11 94 mX8_addBytes 8 1 := ⟨RX8, TX8, 8, rfl, rfl, (g_inT1 (i := 405) (by decide +kernel) (by decide +kernel)), mi_X8_addBytes, me_X8_addBytes, ini_X8, mc_X8_addBytes, mp_X8_addBytes, by decide⟩
theorem mV_L_26 : g_MV "StoneReadersLaw" 26 mX11_front 11 0 := ⟨RX11, TX11, 18, rfl, rfl, (g_inT1 (i := 410) (by decide +kernel) (by decide +kernel)), mi_X11_front, me_X11_front, ini_X11, mc_X11_front, mp_X11_front, by decide⟩
theorem mV_X11_102 : g_MV RX11 102 mX2_readFront 2 1 := ⟨RX2, TX2, 2, rfl, rfl, (g_inT1 (i := 414) (by decide +kernel) (by decide +kernel)), mi_X2_readFront, me_X2_readFront, ini_X2, mc_X2_readFront, mp_X2_readFront, by decide⟩
theorem mV_X2_24 : g_MV RX2 24 mX1_forget 1 0 := ⟨RX1, TX1, 14, rfl, rfl, (g_inT1 (i := 418) (by decide +kernel) (by decide +kernel)), mi_X1_forget, me_X1_forget, ini_X1, mc_X1_forget, mp_X1_forget, by decide⟩
theorem mV_X2_29 : g_MV RX2 29 mX8_open 8 0 := ⟨RX8, TX8, 8, rfl, rfl, (g_inT1 (i := 422) (by decide +kernel) (by decide +kernel)), mi_X8_open, me_X8_open, ini_X8, mc_X8_open, mp_X8_open, by decide⟩
theorem mV_X8_27 : g_MV RX8 27 mX8_advance 8 0 := ⟨RX8, TX8, 8, rfl, rfl, (g_inT1 (i := 426) (by decide +kernel) (by decide +kernel)), mi_X8_advance, me_X8_advance, ini_X8, mc_X8_advance, mp_X8_advance, by decide⟩
theorem mV_X8_36 : g_MV RX8 36 mX8_scanWord 8 0 := ⟨RX8, TX8, 8, rfl, rfl, (g_inT1 (i := 430) (by decide +kernel) (by decide +kernel)), mi_X8_scanWord, me_X8_scanWord, ini_X8, mc_X8_scanWord, mp_X8_scanWord, by decide⟩
theorem mV_X8_39 : g_MV RX8 39 mX8_scanNumber 8 0 := ⟨RX8, TX8, 8, rfl, rfl, (g_inT1 (i := 435) (by decide +kernel) (by decide +kernel)), mi_X8_scanNumber, me_X8_scanNumber, ini_X8, mc_X8_scanNumber, mp_X8_scanNumber, by decide⟩
theorem mS_J0_637 : g_MS RJ0 637 mJ1_indexOf_4cfef 4 := ⟨(g_inT1 (i := 462) (by decide +kernel) (by decide +kernel)), ms_J1_indexOf_4cfef, ini_J1, mc_J1_indexOf_4cfef, mp_J1_indexOf_4cfef, by decide⟩
theorem mS_J1_88 : g_MS RJ1 88 mJ1_canEncode_9a6ad 1 := ⟨(g_inT1 (i := 465) (by decide +kernel) (by decide +kernel)), ms_J1_canEncode_9a6ad, ini_J1, mc_J1_canEncode_9a6ad, mp_J1_canEncode_9a6ad, by decide⟩
theorem lk_J1_92 : Cond.methodLink RJ1 92 Lib.Math.max.name ∈ g_T := g_inT1 (i := 468) (by decide +kernel) (by decide +kernel)
theorem lk_J1_38 : Cond.methodLink RJ1 38 Lib.Math.min.name ∈ g_T := g_inT1 (i := 471) (by decide +kernel) (by decide +kernel)
theorem mS_J1_95 : g_MS RJ1 95 mJ1_indexOfChar_4cfef 4 := ⟨(g_inT1 (i := 474) (by decide +kernel) (by decide +kernel)), ms_J1_indexOfChar_4cfef, ini_J1, mc_J1_indexOfChar_4cfef, mp_J1_indexOfChar_4cfef, by decide⟩
theorem mS_J0_640 : g_MS RJ0 640 mJ2_indexOf_4cfef 4 := ⟨(g_inT1 (i := 477) (by decide +kernel) (by decide +kernel)), ms_J2_indexOf_4cfef, ini_J2, mc_J2_indexOf_4cfef, mp_J2_indexOf_4cfef, by decide⟩
theorem lk_J2_224 : Cond.methodLink RJ2 224 Lib.Math.max.name ∈ g_T := g_inT1 (i := 480) (by decide +kernel) (by decide +kernel)
theorem lk_J2_183 : Cond.methodLink RJ2 183 Lib.Math.min.name ∈ g_T := g_inT1 (i := 481) (by decide +kernel) (by decide +kernel)
theorem mS_J2_228 : g_MS RJ2 228 mJ2_indexOfChar_4cfef 4 := ⟨(g_inT1 (i := 483) (by decide +kernel) (by decide +kernel)), ms_J2_indexOfChar_4cfef, ini_J2, mc_J2_indexOfChar_4cfef, mp_J2_indexOfChar_4cfef, by decide⟩
theorem mS_J2_96 : g_MS RJ2 96 mJ2_checkBoundsBeginEnd_d044e 3 := ⟨(g_inT1 (i := 486) (by decide +kernel) (by decide +kernel)), ms_J2_checkBoundsBeginEnd_d044e, ini_J2, mc_J2_checkBoundsBeginEnd_d044e, mp_J2_checkBoundsBeginEnd_d044e, by decide⟩
theorem mS_J2_48 : g_MS RJ2 48 mJ2_length_9d52b 1 := ⟨(g_inT1 (i := 489) (by decide +kernel) (by decide +kernel)), ms_J2_length_9d52b, ini_J2, mc_J2_length_9d52b, mp_J2_length_9d52b, by decide⟩
theorem mS_J2_241 : g_MS RJ2 241 mJ0_checkBoundsBeginEnd_23922 3 := ⟨(g_inT1 (i := 492) (by decide +kernel) (by decide +kernel)), ms_J0_checkBoundsBeginEnd_23922, ini_J0, mc_J0_checkBoundsBeginEnd_23922, mp_J0_checkBoundsBeginEnd_23922, by decide⟩
theorem mS_J0_1062 : g_MS RJ0 1062 mJ3_checkFromToIndex_8c36e 4 := ⟨(g_inT1 (i := 497) (by decide +kernel) (by decide +kernel)), ms_J3_checkFromToIndex_8c36e, ini_J3, mc_J3_checkFromToIndex_8c36e, mp_J3_checkFromToIndex_8c36e, by decide⟩
theorem mS_J2_244 : g_MS RJ2 244 mJ2_indexOfCharUnsafe_4cfef 4 := ⟨(g_inT1 (i := 500) (by decide +kernel) (by decide +kernel)), ms_J2_indexOfCharUnsafe_4cfef, ini_J2, mc_J2_indexOfCharUnsafe_4cfef, mp_J2_indexOfCharUnsafe_4cfef, by decide⟩
theorem mS_J2_71 : g_MS RJ2 71 mJ2_getChar_3b067 2 := ⟨(g_inT1 (i := 503) (by decide +kernel) (by decide +kernel)), ms_J2_getChar_3b067, ini_J2, mc_J2_getChar_3b067, mp_J2_getChar_3b067, by decide⟩
theorem mS_J2_232 : g_MS RJ2 232 mJ2_indexOfSupplementary_4cfef 4 := ⟨(g_inT1 (i := 512) (by decide +kernel) (by decide +kernel)), ms_J2_indexOfSupplementary_4cfef, ini_J2, mc_J2_indexOfSupplementary_4cfef, mp_J2_indexOfSupplementary_4cfef, by decide⟩
theorem mS_J2_164 : g_MS RJ2 164 mJ11_isValidCodePoint_9a6ad 1 := ⟨(g_inT1 (i := 515) (by decide +kernel) (by decide +kernel)), ms_J11_isValidCodePoint_9a6ad, ini_J11, mc_J11_isValidCodePoint_9a6ad, mp_J11_isValidCodePoint_9a6ad, by decide⟩
theorem mS_J2_157 : g_MS RJ2 157 mJ11_highSurrogate_5068e 1 := ⟨(g_inT1 (i := 518) (by decide +kernel) (by decide +kernel)), ms_J11_highSurrogate_5068e, ini_J11, mc_J11_highSurrogate_5068e, mp_J11_highSurrogate_5068e, by decide⟩
theorem mS_J2_161 : g_MS RJ2 161 mJ11_lowSurrogate_5068e 1 := ⟨(g_inT1 (i := 522) (by decide +kernel) (by decide +kernel)), ms_J11_lowSurrogate_5068e, ini_J11, mc_J11_lowSurrogate_5068e, mp_J11_lowSurrogate_5068e, by decide⟩
theorem mV_X2_34 : g_MV RX2 34 mX8_isEnd 8 0 := ⟨RX8, TX8, 8, rfl, rfl, (g_inT1 (i := 526) (by decide +kernel) (by decide +kernel)), mi_X8_isEnd, me_X8_isEnd, ini_X8, mc_X8_isEnd, mp_X8_isEnd, by decide⟩
theorem mV_X2_38 : g_MV RX2 38 mX2_readLine 2 1 := ⟨RX2, TX2, 2, rfl, rfl, (g_inT1 (i := 530) (by decide +kernel) (by decide +kernel)), mi_X2_readLine, me_X2_readLine, ini_X2, mc_X2_readLine, mp_X2_readLine, by decide⟩
theorem mV_X2_52 : g_MV RX2 52 mX8_isWord 8 1 := ⟨RX8, TX8, 8, rfl, rfl, (g_inT1 (i := 535) (by decide +kernel) (by decide +kernel)), mi_X8_isWord, me_X8_isWord, ini_X8, mc_X8_isWord, mp_X8_isWord, by decide⟩
theorem mS_J0_495 : g_MS RJ0 495 mJ1_charAt_3b067 2 := ⟨(g_inT1 (i := 544) (by decide +kernel) (by decide +kernel)), ms_J1_charAt_3b067, ini_J1, mc_J1_charAt_3b067, mp_J1_charAt_3b067, by decide⟩
theorem mS_J1_9 : g_MS RJ1 9 mJ0_checkIndex_df160 2 := ⟨(g_inT1 (i := 547) (by decide +kernel) (by decide +kernel)), ms_J0_checkIndex_df160, ini_J0, mc_J0_checkIndex_df160, mp_J0_checkIndex_df160, by decide⟩
theorem mS_J0_1059 : g_MS RJ0 1059 mJ3_checkIndex_8e157 3 := ⟨(g_inT1 (i := 550) (by decide +kernel) (by decide +kernel)), ms_J3_checkIndex_8e157, ini_J3, mc_J3_checkIndex_8e157, mp_J3_checkIndex_8e157, by decide⟩
theorem mS_J0_498 : g_MS RJ0 498 mJ2_charAt_3b067 2 := ⟨(g_inT1 (i := 553) (by decide +kernel) (by decide +kernel)), ms_J2_charAt_3b067, ini_J2, mc_J2_charAt_3b067, mp_J2_charAt_3b067, by decide⟩
theorem mS_J2_67 : g_MS RJ2 67 mJ2_checkIndex_2214a 2 := ⟨(g_inT1 (i := 556) (by decide +kernel) (by decide +kernel)), ms_J2_checkIndex_2214a, ini_J2, mc_J2_checkIndex_2214a, mp_J2_checkIndex_2214a, by decide⟩
theorem mS_J2_414 : g_MS RJ2 414 mJ0_checkIndex_df160 2 := ⟨(g_inT1 (i := 559) (by decide +kernel) (by decide +kernel)), ms_J0_checkIndex_df160, ini_J0, mc_J0_checkIndex_df160, mp_J0_checkIndex_df160, by decide⟩
theorem mV_X2_56 : g_MV RX2 56 mX2_readMouth 2 1 := ⟨RX2, TX2, 2, rfl, rfl, (g_inT1 (i := 560) (by decide +kernel) (by decide +kernel)), mi_X2_readMouth, me_X2_readMouth, ini_X2, mc_X2_readMouth, mp_X2_readMouth, by decide⟩
theorem mV_X2_79 : g_MV RX2 79 mX8_fail 8 1 := ⟨RX8, TX8, 8, rfl, rfl, (g_inT1 (i := 564) (by decide +kernel) (by decide +kernel)), mi_X8_fail, me_X8_fail, ini_X8, mc_X8_fail, mp_X8_fail, by decide⟩
theorem mV_X2_93 : g_MV RX2 93 mX8_advance 8 0 := ⟨RX8, TX8, 8, rfl, rfl, (g_inT1 (i := 568) (by decide +kernel) (by decide +kernel)), mi_X8_advance, me_X8_advance, ini_X8, mc_X8_advance, mp_X8_advance, by decide⟩
theorem mV_X2_103 : g_MV RX2 103 mX2_isNewName 2 1 := ⟨RX2, TX2, 2, rfl, rfl, (g_inT1 (i := 569) (by decide +kernel) (by decide +kernel)), mi_X2_isNewName, me_X2_isNewName, ini_X2, mc_X2_isNewName, mp_X2_isNewName, by decide⟩
theorem mV_X2_143 : g_MV RX2 143 mX8_isName 8 0 := ⟨RX8, TX8, 8, rfl, rfl, (g_inT1 (i := 573) (by decide +kernel) (by decide +kernel)), mi_X8_isName, me_X8_isName, ini_X8, mc_X8_isName, mp_X8_isName, by decide⟩
theorem mV_X8_69 : g_MV RX8 69 mX8_isWord 8 1 := ⟨RX8, TX8, 8, rfl, rfl, (g_inT1 (i := 578) (by decide +kernel) (by decide +kernel)), mi_X8_isWord, me_X8_isWord, ini_X8, mc_X8_isWord, mp_X8_isWord, by decide⟩
theorem mV_X2_146 : g_MV RX2 146 mX1_isTold 1 1 := ⟨RX1, TX1, 14, rfl, rfl, (g_inT1 (i := 598) (by decide +kernel) (by decide +kernel)), mi_X1_isTold, me_X1_isTold, ini_X1, mc_X1_isTold, mp_X1_isTold, by decide⟩
theorem mV_X1_63 : g_MV RX1 63 mX1_mouthNamed 1 1 := ⟨RX1, TX1, 14, rfl, rfl, (g_inT1 (i := 602) (by decide +kernel) (by decide +kernel)), mi_X1_mouthNamed, me_X1_mouthNamed, ini_X1, mc_X1_mouthNamed, mp_X1_mouthNamed, by decide⟩
theorem mV_X1_67 : g_MV RX1 67 mX1_letterNamed 1 1 := ⟨RX1, TX1, 14, rfl, rfl, (g_inT1 (i := 606) (by decide +kernel) (by decide +kernel)), mi_X1_letterNamed, me_X1_letterNamed, ini_X1, mc_X1_letterNamed, mp_X1_letterNamed, by decide⟩
theorem mV_X2_118 : g_MV RX2 118 mX2_kindHere 2 0 := ⟨RX2, TX2, 2, rfl, rfl, (g_inT1 (i := 610) (by decide +kernel) (by decide +kernel)), mi_X2_kindHere, me_X2_kindHere, ini_X2, mc_X2_kindHere, mp_X2_kindHere, by decide⟩
theorem mV_X2_125 : g_MV RX2 125 mX2_readMeasure 2 3 := ⟨RX2, TX2, 2, rfl, rfl, (g_inT1 (i := 619) (by decide +kernel) (by decide +kernel)), mi_X2_readMeasure, me_X2_readMeasure, ini_X2, mc_X2_readMeasure, mp_X2_readMeasure, by decide⟩
theorem mV_X2_158 : g_MV RX2 158 mX8_takeWord 8 1 := ⟨RX8, TX8, 8, rfl, rfl, (g_inT1 (i := 623) (by decide +kernel) (by decide +kernel)), mi_X8_takeWord, me_X8_takeWord, ini_X8, mc_X8_takeWord, mp_X8_takeWord, by decide⟩
theorem mV_X8_111 : g_MV RX8 111 mX8_fail 8 1 := ⟨RX8, TX8, 8, rfl, rfl, (g_inT1 (i := 627) (by decide +kernel) (by decide +kernel)), mi_X8_fail, me_X8_fail, ini_X8, mc_X8_fail, mp_X8_fail, by decide⟩
theorem mV_X2_161 : g_MV RX2 161 mX8_takeNumber 8 2 := ⟨RX8, TX8, 8, rfl, rfl, (g_inT1 (i := 628) (by decide +kernel) (by decide +kernel)), mi_X8_takeNumber, me_X8_takeNumber, ini_X8, mc_X8_takeNumber, mp_X8_takeNumber, by decide⟩
theorem mV_X2_139 : g_MV RX2 139 mX1_putInOrder 1 1 := ⟨RX1, TX1, 14, rfl, rfl, (g_inT1 (i := 634) (by decide +kernel) (by decide +kernel)), mi_X1_putInOrder, me_X1_putInOrder, ini_X1, mc_X1_putInOrder, mp_X1_putInOrder, by decide⟩
theorem mV_X2_61 : g_MV RX2 61 mX2_readGutter 2 1 := ⟨RX2, TX2, 2, rfl, rfl, (g_inT1 (i := 639) (by decide +kernel) (by decide +kernel)), mi_X2_readGutter, me_X2_readGutter, ini_X2, mc_X2_readGutter, mp_X2_readGutter, by decide⟩
theorem mV_X2_165 : g_MV RX2 165 mX8_mouthHere 8 1 := ⟨RX8, TX8, 8, rfl, rfl, (g_inT1 (i := 643) (by decide +kernel) (by decide +kernel)), mi_X8_mouthHere, me_X8_mouthHere, ini_X8, mc_X8_mouthHere, mp_X8_mouthHere, by decide⟩
theorem mV_X8_119 : g_MV RX8 119 mX8_isName 8 0 := ⟨RX8, TX8, 8, rfl, rfl, (g_inT1 (i := 647) (by decide +kernel) (by decide +kernel)), mi_X8_isName, me_X8_isName, ini_X8, mc_X8_isName, mp_X8_isName, by decide⟩
theorem mV_X8_123 : g_MV RX8 123 mX1_mouthNamed 1 1 := ⟨RX1, TX1, 14, rfl, rfl, (g_inT1 (i := 648) (by decide +kernel) (by decide +kernel)), mi_X1_mouthNamed, me_X1_mouthNamed, ini_X1, mc_X1_mouthNamed, mp_X1_mouthNamed, by decide⟩
theorem mV_X2_66 : g_MV RX2 66 mX2_readLetterNamed 2 1 := ⟨RX2, TX2, 2, rfl, rfl, (g_inT1 (i := 650) (by decide +kernel) (by decide +kernel)), mi_X2_readLetterNamed, me_X2_readLetterNamed, ini_X2, mc_X2_readLetterNamed, mp_X2_readLetterNamed, by decide⟩
theorem mV_X2_69 : g_MV RX2 69 mX2_readLetterMouths 2 1 := ⟨RX2, TX2, 2, rfl, rfl, (g_inT1 (i := 655) (by decide +kernel) (by decide +kernel)), mi_X2_readLetterMouths, me_X2_readLetterMouths, ini_X2, mc_X2_readLetterMouths, mp_X2_readLetterMouths, by decide⟩
theorem mV_X2_177 : g_MV RX2 177 mX8_isSign 8 1 := ⟨RX8, TX8, 8, rfl, rfl, (g_inT1 (i := 659) (by decide +kernel) (by decide +kernel)), mi_X8_isSign, me_X8_isSign, ini_X8, mc_X8_isSign, mp_X8_isSign, by decide⟩
theorem mV_X2_180 : g_MV RX2 180 mX1_letterOf 1 1 := ⟨RX1, TX1, 14, rfl, rfl, (g_inT1 (i := 663) (by decide +kernel) (by decide +kernel)), mi_X1_letterOf, me_X1_letterOf, ini_X1, mc_X1_letterOf, mp_X1_letterOf, by decide⟩
theorem mV_X2_74 : g_MV RX2 74 mX2_readRain 2 1 := ⟨RX2, TX2, 2, rfl, rfl, (g_inT1 (i := 668) (by decide +kernel) (by decide +kernel)), mi_X2_readRain, me_X2_readRain, ini_X2, mc_X2_readRain, mp_X2_readRain, by decide⟩
theorem mV_X2_192 : g_MV RX2 192 mX8_isNumber 8 0 := ⟨RX8, TX8, 8, rfl, rfl, (g_inT1 (i := 672) (by decide +kernel) (by decide +kernel)), mi_X8_isNumber, me_X8_isNumber, ini_X8, mc_X8_isNumber, mp_X8_isNumber, by decide⟩
theorem mV_X2_96 : g_MV RX2 96 mX4_readLevel 4 3 := ⟨RX4, TX4, 1, rfl, rfl, (g_inT1 (i := 677) (by decide +kernel) (by decide +kernel)), mi_X4_readLevel, me_X4_readLevel, ini_X4, mc_X4_readLevel, mp_X4_readLevel, by decide⟩
theorem mV_X4_15 : g_MV RX4 15 mX4_readPart 4 2 := ⟨RX4, TX4, 1, rfl, rfl, (g_inT1 (i := 681) (by decide +kernel) (by decide +kernel)), mi_X4_readPart, me_X4_readPart, ini_X4, mc_X4_readPart, mp_X4_readPart, by decide⟩
theorem mV_X4_38 : g_MV RX4 38 mX4_factHere 4 0 := ⟨RX4, TX4, 1, rfl, rfl, (g_inT1 (i := 685) (by decide +kernel) (by decide +kernel)), mi_X4_factHere, me_X4_factHere, ini_X4, mc_X4_factHere, mp_X4_factHere, by decide⟩
theorem mV_X4_44 : g_MV RX4 44 mX8_isWord 8 1 := ⟨RX8, TX8, 8, rfl, rfl, (g_inT1 (i := 690) (by decide +kernel) (by decide +kernel)), mi_X8_isWord, me_X8_isWord, ini_X8, mc_X8_isWord, mp_X8_isWord, by decide⟩
theorem mV_X4_48 : g_MV RX4 48 mX8_isSign 8 1 := ⟨RX8, TX8, 8, rfl, rfl, (g_inT1 (i := 695) (by decide +kernel) (by decide +kernel)), mi_X8_isSign, me_X8_isSign, ini_X8, mc_X8_isSign, mp_X8_isSign, by decide⟩
theorem mV_X4_52 : g_MV RX4 52 mX8_isNumber 8 0 := ⟨RX8, TX8, 8, rfl, rfl, (g_inT1 (i := 696) (by decide +kernel) (by decide +kernel)), mi_X8_isNumber, me_X8_isNumber, ini_X8, mc_X8_isNumber, mp_X8_isNumber, by decide⟩
theorem mV_X4_56 : g_MV RX4 56 mX8_fail 8 1 := ⟨RX8, TX8, 8, rfl, rfl, (g_inT1 (i := 697) (by decide +kernel) (by decide +kernel)), mi_X8_fail, me_X8_fail, ini_X8, mc_X8_fail, mp_X8_fail, by decide⟩
theorem mV_X4_32 : g_MV RX4 32 mX3_add 3 1 := ⟨RX3, TX3, 3, rfl, rfl, (g_inT1 (i := 698) (by decide +kernel) (by decide +kernel)), mi_X3_add, me_X3_add, ini_X3, mc_X3_add, mp_X3_add, by decide⟩
theorem mV_X4_27 : g_MV RX4 27 mX8_advance 8 0 := ⟨RX8, TX8, 8, rfl, rfl, (g_inT1 (i := 702) (by decide +kernel) (by decide +kernel)), mi_X8_advance, me_X8_advance, ini_X8, mc_X8_advance, mp_X8_advance, by decide⟩
theorem mV_X4_19 : g_MV RX4 19 mX4_readLevel 4 3 := ⟨RX4, TX4, 1, rfl, rfl, (g_inT1 (i := 703) (by decide +kernel) (by decide +kernel)), mi_X4_readLevel, me_X4_readLevel, ini_X4, mc_X4_readLevel, mp_X4_readLevel, by decide⟩
theorem mV_X4_64 : g_MV RX4 64 mX8_takeSign 8 1 := ⟨RX8, TX8, 8, rfl, rfl, (g_inT1 (i := 704) (by decide +kernel) (by decide +kernel)), mi_X8_takeSign, me_X8_takeSign, ini_X8, mc_X8_takeSign, mp_X8_takeSign, by decide⟩
theorem mV_X8_115 : g_MV RX8 115 mX8_isSign 8 1 := ⟨RX8, TX8, 8, rfl, rfl, (g_inT1 (i := 708) (by decide +kernel) (by decide +kernel)), mi_X8_isSign, me_X8_isSign, ini_X8, mc_X8_isSign, mp_X8_isSign, by decide⟩
theorem mV_X4_23 : g_MV RX4 23 mX4_joinHere 4 1 := ⟨RX4, TX4, 1, rfl, rfl, (g_inT1 (i := 709) (by decide +kernel) (by decide +kernel)), mi_X4_joinHere, me_X4_joinHere, ini_X4, mc_X4_joinHere, mp_X4_joinHere, by decide⟩
theorem mV_X2_42 : g_MV RX2 42 mX8_takeSign 8 1 := ⟨RX8, TX8, 8, rfl, rfl, (g_inT1 (i := 715) (by decide +kernel) (by decide +kernel)), mi_X8_takeSign, me_X8_takeSign, ini_X8, mc_X8_takeSign, mp_X8_takeSign, by decide⟩
theorem mV_X2_46 : g_MV RX2 46 mX8_close 8 0 := ⟨RX8, TX8, 8, rfl, rfl, (g_inT1 (i := 716) (by decide +kernel) (by decide +kernel)), mi_X8_close, me_X8_close, ini_X8, mc_X8_close, mp_X8_close, by decide⟩
theorem mV_X11_106 : g_MV RX11 106 mX11_beginAnew 11 0 := ⟨RX11, TX11, 18, rfl, rfl, (g_inT1 (i := 720) (by decide +kernel) (by decide +kernel)), mi_X11_beginAnew, me_X11_beginAnew, ini_X11, mc_X11_beginAnew, mp_X11_beginAnew, by decide⟩
theorem mV_X11_191 : g_MV RX11 191 mX9_begin 9 1 := ⟨RX9, TX9, 10, rfl, rfl, (g_inT1 (i := 724) (by decide +kernel) (by decide +kernel)), mi_X9_begin, me_X9_begin, ini_X9, mc_X9_begin, mp_X9_begin, by decide⟩
theorem mV_X9_28 : g_MV RX9 28 mX1_nests 1 0 := ⟨RX1, TX1, 14, rfl, rfl, (g_inT1 (i := 728) (by decide +kernel) (by decide +kernel)), mi_X1_nests, me_X1_nests, ini_X1, mc_X1_nests, mp_X1_nests, by decide⟩
theorem mV_L_31 : g_MV "StoneReadersLaw" 31 mX11_day 11 0 := ⟨RX11, TX11, 18, rfl, rfl, (g_inT1 (i := 733) (by decide +kernel) (by decide +kernel)), mi_X11_day, me_X11_day, ini_X11, mc_X11_day, mp_X11_day, by decide⟩
theorem mV_X11_109 : g_MV RX11 109 mX5_readDay 5 2 := ⟨RX5, TX5, 1, rfl, rfl, (g_inT1 (i := 737) (by decide +kernel) (by decide +kernel)), mi_X5_readDay, me_X5_readDay, ini_X5, mc_X5_readDay, mp_X5_readDay, by decide⟩
theorem mV_X5_21 : g_MV RX5 21 mX8_open 8 0 := ⟨RX8, TX8, 8, rfl, rfl, (g_inT1 (i := 741) (by decide +kernel) (by decide +kernel)), mi_X8_open, me_X8_open, ini_X8, mc_X8_open, mp_X8_open, by decide⟩
theorem mV_X5_26 : g_MV RX5 26 mX8_isEnd 8 0 := ⟨RX8, TX8, 8, rfl, rfl, (g_inT1 (i := 742) (by decide +kernel) (by decide +kernel)), mi_X8_isEnd, me_X8_isEnd, ini_X8, mc_X8_isEnd, mp_X8_isEnd, by decide⟩
theorem mV_X5_30 : g_MV RX5 30 mX5_readLine 5 2 := ⟨RX5, TX5, 1, rfl, rfl, (g_inT1 (i := 743) (by decide +kernel) (by decide +kernel)), mi_X5_readLine, me_X5_readLine, ini_X5, mc_X5_readLine, mp_X5_readLine, by decide⟩
theorem mV_X5_42 : g_MV RX5 42 mX5_actHere 5 0 := ⟨RX5, TX5, 1, rfl, rfl, (g_inT1 (i := 747) (by decide +kernel) (by decide +kernel)), mi_X5_actHere, me_X5_actHere, ini_X5, mc_X5_actHere, mp_X5_actHere, by decide⟩
theorem mV_X5_72 : g_MV RX5 72 mX8_isWord 8 1 := ⟨RX8, TX8, 8, rfl, rfl, (g_inT1 (i := 752) (by decide +kernel) (by decide +kernel)), mi_X8_isWord, me_X8_isWord, ini_X8, mc_X8_isWord, mp_X8_isWord, by decide⟩
theorem mV_X5_45 : g_MV RX5 45 mX8_fail 8 1 := ⟨RX8, TX8, 8, rfl, rfl, (g_inT1 (i := 756) (by decide +kernel) (by decide +kernel)), mi_X8_fail, me_X8_fail, ini_X8, mc_X8_fail, mp_X8_fail, by decide⟩
theorem mV_X5_49 : g_MV RX5 49 mX8_advance 8 0 := ⟨RX8, TX8, 8, rfl, rfl, (g_inT1 (i := 757) (by decide +kernel) (by decide +kernel)), mi_X8_advance, me_X8_advance, ini_X8, mc_X8_advance, mp_X8_advance, by decide⟩
theorem mV_X5_56 : g_MV RX5 56 mX8_mouthHere 8 1 := ⟨RX8, TX8, 8, rfl, rfl, (g_inT1 (i := 758) (by decide +kernel) (by decide +kernel)), mi_X8_mouthHere, me_X8_mouthHere, ini_X8, mc_X8_mouthHere, mp_X8_mouthHere, by decide⟩
theorem mV_X5_66 : g_MV RX5 66 mX8_takeNumber 8 2 := ⟨RX8, TX8, 8, rfl, rfl, (g_inT1 (i := 759) (by decide +kernel) (by decide +kernel)), mi_X8_takeNumber, me_X8_takeNumber, ini_X8, mc_X8_takeNumber, mp_X8_takeNumber, by decide⟩
theorem mV_X5_34 : g_MV RX5 34 mX8_takeSign 8 1 := ⟨RX8, TX8, 8, rfl, rfl, (g_inT1 (i := 760) (by decide +kernel) (by decide +kernel)), mi_X8_takeSign, me_X8_takeSign, ini_X8, mc_X8_takeSign, mp_X8_takeSign, by decide⟩
theorem mV_X5_38 : g_MV RX5 38 mX8_close 8 0 := ⟨RX8, TX8, 8, rfl, rfl, (g_inT1 (i := 761) (by decide +kernel) (by decide +kernel)), mi_X8_close, me_X8_close, ini_X8, mc_X8_close, mp_X8_close, by decide⟩
theorem mV_L_35 : g_MV "StoneReadersLaw" 35 mX11_word 11 0 := ⟨RX11, TX11, 18, rfl, rfl, (g_inT1 (i := 762) (by decide +kernel) (by decide +kernel)), mi_X11_word, me_X11_word, ini_X11, mc_X11_word, mp_X11_word, by decide⟩
theorem mV_X11_113 : g_MV RX11 113 mX5_readWord 5 2 := ⟨RX5, TX5, 1, rfl, rfl, (g_inT1 (i := 766) (by decide +kernel) (by decide +kernel)), mi_X5_readWord, me_X5_readWord, ini_X5, mc_X5_readWord, mp_X5_readWord, by decide⟩
theorem mV_X5_85 : g_MV RX5 85 mX5_readLetterName 5 2 := ⟨RX5, TX5, 1, rfl, rfl, (g_inT1 (i := 770) (by decide +kernel) (by decide +kernel)), mi_X5_readLetterName, me_X5_readLetterName, ini_X5, mc_X5_readLetterName, mp_X5_readLetterName, by decide⟩
theorem mV_X5_89 : g_MV RX5 89 mX8_isName 8 0 := ⟨RX8, TX8, 8, rfl, rfl, (g_inT1 (i := 774) (by decide +kernel) (by decide +kernel)), mi_X8_isName, me_X8_isName, ini_X8, mc_X8_isName, mp_X8_isName, by decide⟩
theorem mV_X5_96 : g_MV RX5 96 mX1_letterNamed 1 1 := ⟨RX1, TX1, 14, rfl, rfl, (g_inT1 (i := 775) (by decide +kernel) (by decide +kernel)), mi_X1_letterNamed, me_X1_letterNamed, ini_X1, mc_X1_letterNamed, mp_X1_letterNamed, by decide⟩
theorem mV_L_39 : g_MV "StoneReadersLaw" 39 mX11_mouth 11 2 := ⟨RX11, TX11, 18, rfl, rfl, (g_inT1 (i := 776) (by decide +kernel) (by decide +kernel)), mi_X11_mouth, me_X11_mouth, ini_X11, mc_X11_mouth, mp_X11_mouth, by decide⟩
theorem mV_X11_117 : g_MV RX11 117 mX11_isMouth 11 1 := ⟨RX11, TX11, 18, rfl, rfl, (g_inT1 (i := 780) (by decide +kernel) (by decide +kernel)), mi_X11_isMouth, me_X11_isMouth, ini_X11, mc_X11_isMouth, mp_X11_isMouth, by decide⟩
theorem mV_X11_139 : g_MV RX11 139 mX9_isStopped 9 1 := ⟨RX9, TX9, 10, rfl, rfl, (g_inT1 (i := 784) (by decide +kernel) (by decide +kernel)), mi_X9_isStopped, me_X9_isStopped, ini_X9, mc_X9_isStopped, mp_X9_isStopped, by decide⟩
theorem mV_L_44 : g_MV "StoneReadersLaw" 44 mX11_letter 11 1 := ⟨RX11, TX11, 18, rfl, rfl, (g_inT1 (i := 788) (by decide +kernel) (by decide +kernel)), mi_X11_letter, me_X11_letter, ini_X11, mc_X11_letter, mp_X11_letter, by decide⟩
theorem mV_X11_145 : g_MV RX11 145 mX11_isLetter 11 1 := ⟨RX11, TX11, 18, rfl, rfl, (g_inT1 (i := 792) (by decide +kernel) (by decide +kernel)), mi_X11_isLetter, me_X11_isLetter, ini_X11, mc_X11_isLetter, mp_X11_isLetter, by decide⟩
theorem mV_L_49 : g_MV "StoneReadersLaw" 49 mX11_slate 11 1 := ⟨RX11, TX11, 18, rfl, rfl, (g_inT1 (i := 796) (by decide +kernel) (by decide +kernel)), mi_X11_slate, me_X11_slate, ini_X11, mc_X11_slate, mp_X11_slate, by decide⟩
theorem mV_L_53 : g_MV "StoneReadersLaw" 53 mX11_minute 11 0 := ⟨RX11, TX11, 18, rfl, rfl, (g_inT1 (i := 800) (by decide +kernel) (by decide +kernel)), mi_X11_minute, me_X11_minute, ini_X11, mc_X11_minute, mp_X11_minute, by decide⟩
theorem mV_X11_157 : g_MV RX11 157 mX11_keepPast 11 0 := ⟨RX11, TX11, 18, rfl, rfl, (g_inT1 (i := 804) (by decide +kernel) (by decide +kernel)), mi_X11_keepPast, me_X11_keepPast, ini_X11, mc_X11_keepPast, mp_X11_keepPast, by decide⟩
theorem mV_X11_187 : g_MV RX11 187 mX9_copyFrom 9 1 := ⟨RX9, TX9, 10, rfl, rfl, (g_inT1 (i := 808) (by decide +kernel) (by decide +kernel)), mi_X9_copyFrom, me_X9_copyFrom, ini_X9, mc_X9_copyFrom, mp_X9_copyFrom, by decide⟩
theorem lk_X9_43 : Cond.methodLink RX9 43 arraycopyName ∈ g_T := g_inT1 (i := 812) (by decide +kernel) (by decide +kernel)
theorem lk_X11_334 : Cond.methodLink RX11 334 Lib.Math.min.name ∈ g_T := g_inT1 (i := 815) (by decide +kernel) (by decide +kernel)
theorem mV_X11_163 : g_MV RX11 163 mX1_rainOf 1 1 := ⟨RX1, TX1, 14, rfl, rfl, (g_inT1 (i := 816) (by decide +kernel) (by decide +kernel)), mi_X1_rainOf, me_X1_rainOf, ini_X1, mc_X1_rainOf, mp_X1_rainOf, by decide⟩
theorem mV_X11_167 : g_MV RX11 167 mX9_passMinute 9 2 := ⟨RX9, TX9, 10, rfl, rfl, (g_inT1 (i := 820) (by decide +kernel) (by decide +kernel)), mi_X9_passMinute, me_X9_passMinute, ini_X9, mc_X9_passMinute, mp_X9_passMinute, by decide⟩
theorem mV_X9_74 : g_MV RX9 74 mX9_runOver 9 2 := ⟨RX9, TX9, 10, rfl, rfl, (g_inT1 (i := 824) (by decide +kernel) (by decide +kernel)), mi_X9_runOver, me_X9_runOver, ini_X9, mc_X9_runOver, mp_X9_runOver, by decide⟩
theorem mV_X9_78 : g_MV RX9 78 mX9_spout 9 2 := ⟨RX9, TX9, 10, rfl, rfl, (g_inT1 (i := 828) (by decide +kernel) (by decide +kernel)), mi_X9_spout, me_X9_spout, ini_X9, mc_X9_spout, mp_X9_spout, by decide⟩
theorem mV_X9_58 : g_MV RX9 58 mX9_isStopped 9 1 := ⟨RX9, TX9, 10, rfl, rfl, (g_inT1 (i := 832) (by decide +kernel) (by decide +kernel)), mi_X9_isStopped, me_X9_isStopped, ini_X9, mc_X9_isStopped, mp_X9_isStopped, by decide⟩
theorem mV_X9_95 : g_MV RX9 95 mX1_mostSpouted 1 1 := ⟨RX1, TX1, 14, rfl, rfl, (g_inT1 (i := 833) (by decide +kernel) (by decide +kernel)), mi_X1_mostSpouted, me_X1_mostSpouted, ini_X1, mc_X1_mostSpouted, mp_X1_mostSpouted, by decide⟩
theorem lk_X9_52 : Cond.methodLink RX9 52 Lib.Math.min.name ∈ g_T := g_inT1 (i := 837) (by decide +kernel) (by decide +kernel)
theorem mV_X9_81 : g_MV RX9 81 mX9_soundingNow 9 2 := ⟨RX9, TX9, 10, rfl, rfl, (g_inT1 (i := 838) (by decide +kernel) (by decide +kernel)), mi_X9_soundingNow, me_X9_soundingNow, ini_X9, mc_X9_soundingNow, mp_X9_soundingNow, by decide⟩
theorem mV_X9_105 : g_MV RX9 105 mX3_valueFor 3 4 := ⟨RX3, TX3, 3, rfl, rfl, (g_inT1 (i := 842) (by decide +kernel) (by decide +kernel)), mi_X3_valueFor, me_X3_valueFor, ini_X3, mc_X3_valueFor, mp_X3_valueFor, by decide⟩
theorem mS_X3_22 : g_MS RX3 22 mX3_join 3 := ⟨(g_inT1 (i := 846) (by decide +kernel) (by decide +kernel)), ms_X3_join, ini_X3, mc_X3_join, mp_X3_join, by decide⟩
theorem mS_X3_26 : g_MS RX3 26 mX3_fact 5 := ⟨(g_inT1 (i := 849) (by decide +kernel) (by decide +kernel)), ms_X3_fact, ini_X3, mc_X3_fact, mp_X3_fact, by decide⟩
theorem mV_X9_85 : g_MV RX9 85 mX1_readOf 1 1 := ⟨RX1, TX1, 14, rfl, rfl, (g_inT1 (i := 852) (by decide +kernel) (by decide +kernel)), mi_X1_readOf, me_X1_readOf, ini_X1, mc_X1_readOf, mp_X1_readOf, by decide⟩
theorem mV_X1_70 : g_MV RX1 70 mX1_letterOf 1 1 := ⟨RX1, TX1, 14, rfl, rfl, (g_inT1 (i := 856) (by decide +kernel) (by decide +kernel)), mi_X1_letterOf, me_X1_letterOf, ini_X1, mc_X1_letterOf, mp_X1_letterOf, by decide⟩
theorem mV_L_57 : g_MV "StoneReadersLaw" 57 mX11_pour 11 2 := ⟨RX11, TX11, 18, rfl, rfl, (g_inT1 (i := 857) (by decide +kernel) (by decide +kernel)), mi_X11_pour, me_X11_pour, ini_X11, mc_X11_pour, mp_X11_pour, by decide⟩
theorem mV_X11_171 : g_MV RX11 171 mX9_addWater 9 2 := ⟨RX9, TX9, 10, rfl, rfl, (g_inT1 (i := 861) (by decide +kernel) (by decide +kernel)), mi_X9_addWater, me_X9_addWater, ini_X9, mc_X9_addWater, mp_X9_addWater, by decide⟩
theorem mV_L_61 : g_MV "StoneReadersLaw" 61 mX11_stop 11 1 := ⟨RX11, TX11, 18, rfl, rfl, (g_inT1 (i := 865) (by decide +kernel) (by decide +kernel)), mi_X11_stop, me_X11_stop, ini_X11, mc_X11_stop, mp_X11_stop, by decide⟩
theorem mV_X11_175 : g_MV RX11 175 mX9_stopMouth 9 1 := ⟨RX9, TX9, 10, rfl, rfl, (g_inT1 (i := 869) (by decide +kernel) (by decide +kernel)), mi_X9_stopMouth, me_X9_stopMouth, ini_X9, mc_X9_stopMouth, mp_X9_stopMouth, by decide⟩
theorem mV_L_66 : g_MV "StoneReadersLaw" 66 mX11_clear 11 1 := ⟨RX11, TX11, 18, rfl, rfl, (g_inT1 (i := 873) (by decide +kernel) (by decide +kernel)), mi_X11_clear, me_X11_clear, ini_X11, mc_X11_clear, mp_X11_clear, by decide⟩
theorem mV_X11_178 : g_MV RX11 178 mX9_clearMouth 9 1 := ⟨RX9, TX9, 10, rfl, rfl, (g_inT1 (i := 877) (by decide +kernel) (by decide +kernel)), mi_X9_clearMouth, me_X9_clearMouth, ini_X9, mc_X9_clearMouth, mp_X9_clearMouth, by decide⟩
theorem mV_L_70 : g_MV "StoneReadersLaw" 70 mX11_undo 11 0 := ⟨RX11, TX11, 18, rfl, rfl, (g_inT1 (i := 881) (by decide +kernel) (by decide +kernel)), mi_X11_undo, me_X11_undo, ini_X11, mc_X11_undo, mp_X11_undo, by decide⟩
theorem mV_L_75 : g_MV "StoneReadersLaw" 75 mX11_judged 11 1 := ⟨RX11, TX11, 18, rfl, rfl, (g_inT1 (i := 885) (by decide +kernel) (by decide +kernel)), mi_X11_judged, me_X11_judged, ini_X11, mc_X11_judged, mp_X11_judged, by decide⟩
theorem mV_X11_196 : g_MV RX11 196 mX11_doLine 11 1 := ⟨RX11, TX11, 18, rfl, rfl, (g_inT1 (i := 889) (by decide +kernel) (by decide +kernel)), mi_X11_doLine, me_X11_doLine, ini_X11, mc_X11_doLine, mp_X11_doLine, by decide⟩
theorem mV_X11_202 : g_MV RX11 202 mX11_passTrialMinute 11 0 := ⟨RX11, TX11, 18, rfl, rfl, (g_inT1 (i := 893) (by decide +kernel) (by decide +kernel)), mi_X11_passTrialMinute, me_X11_passTrialMinute, ini_X11, mc_X11_passTrialMinute, mp_X11_passTrialMinute, by decide⟩
theorem mV_X11_199 : g_MV RX11 199 mX9_signsLike 9 1 := ⟨RX9, TX9, 10, rfl, rfl, (g_inT1 (i := 897) (by decide +kernel) (by decide +kernel)), mi_X9_signsLike, me_X9_signsLike, ini_X9, mc_X9_signsLike, mp_X9_signsLike, by decide⟩
theorem mV_L_79 : g_MV "StoneReadersLaw" 79 mX11_later 11 2 := ⟨RX11, TX11, 18, rfl, rfl, (g_inT1 (i := 901) (by decide +kernel) (by decide +kernel)), mi_X11_later, me_X11_later, ini_X11, mc_X11_later, mp_X11_later, by decide⟩
theorem mV_L_83 : g_MV "StoneReadersLaw" 83 mX11_reads 11 1 := ⟨RX11, TX11, 18, rfl, rfl, (g_inT1 (i := 905) (by decide +kernel) (by decide +kernel)), mi_X11_reads, me_X11_reads, ini_X11, mc_X11_reads, mp_X11_reads, by decide⟩
theorem mS_X11_206 : g_MS RX11 206 mX11_isAhead 1 := ⟨(g_inT1 (i := 909) (by decide +kernel) (by decide +kernel)), ms_X11_isAhead, ini_X11, mc_X11_isAhead, mp_X11_isAhead, by decide⟩
theorem mV_L_87 : g_MV "StoneReadersLaw" 87 mX11_when 11 1 := ⟨RX11, TX11, 18, rfl, rfl, (g_inT1 (i := 912) (by decide +kernel) (by decide +kernel)), mi_X11_when, me_X11_when, ini_X11, mc_X11_when, mp_X11_when, by decide⟩
theorem mV_L_91 : g_MV "StoneReadersLaw" 91 mX11_dry 11 0 := ⟨RX11, TX11, 18, rfl, rfl, (g_inT1 (i := 916) (by decide +kernel) (by decide +kernel)), mi_X11_dry, me_X11_dry, ini_X11, mc_X11_dry, mp_X11_dry, by decide⟩
theorem mV_X11_215 : g_MV RX11 215 mX9_allWater 9 1 := ⟨RX9, TX9, 10, rfl, rfl, (g_inT1 (i := 920) (by decide +kernel) (by decide +kernel)), mi_X9_allWater, me_X9_allWater, ini_X9, mc_X9_allWater, mp_X9_allWater, by decide⟩
theorem mV_L_95 : g_MV "StoneReadersLaw" 95 mX11_spill 11 1 := ⟨RX11, TX11, 18, rfl, rfl, (g_inT1 (i := 924) (by decide +kernel) (by decide +kernel)), mi_X11_spill, me_X11_spill, ini_X11, mc_X11_spill, mp_X11_spill, by decide⟩
theorem mV_L_99 : g_MV "StoneReadersLaw" 99 mX11_over 11 1 := ⟨RX11, TX11, 18, rfl, rfl, (g_inT1 (i := 928) (by decide +kernel) (by decide +kernel)), mi_X11_over, me_X11_over, ini_X11, mc_X11_over, mp_X11_over, by decide⟩
theorem mV_X11_221 : g_MV RX11 221 mX9_ranOver 9 1 := ⟨RX9, TX9, 10, rfl, rfl, (g_inT1 (i := 932) (by decide +kernel) (by decide +kernel)), mi_X9_ranOver, me_X9_ranOver, ini_X9, mc_X9_ranOver, mp_X9_ranOver, by decide⟩
theorem mV_L_103 : g_MV "StoneReadersLaw" 103 mX11_first 11 0 := ⟨RX11, TX11, 18, rfl, rfl, (g_inT1 (i := 936) (by decide +kernel) (by decide +kernel)), mi_X11_first, me_X11_first, ini_X11, mc_X11_first, mp_X11_first, by decide⟩
theorem mV_L_107 : g_MV "StoneReadersLaw" 107 mX11_great 11 1 := ⟨RX11, TX11, 18, rfl, rfl, (g_inT1 (i := 940) (by decide +kernel) (by decide +kernel)), mi_X11_great, me_X11_great, ini_X11, mc_X11_great, mp_X11_great, by decide⟩
theorem mV_X11_224 : g_MV RX11 224 mX11_emptyRow 11 0 := ⟨RX11, TX11, 18, rfl, rfl, (g_inT1 (i := 944) (by decide +kernel) (by decide +kernel)), mi_X11_emptyRow, me_X11_emptyRow, ini_X11, mc_X11_emptyRow, mp_X11_emptyRow, by decide⟩
theorem mV_X11_227 : g_MV RX11 227 mX11_greatestOfRow 11 1 := ⟨RX11, TX11, 18, rfl, rfl, (g_inT1 (i := 948) (by decide +kernel) (by decide +kernel)), mi_X11_greatestOfRow, me_X11_greatestOfRow, ini_X11, mc_X11_greatestOfRow, mp_X11_greatestOfRow, by decide⟩
theorem mV_L_111 : g_MV "StoneReadersLaw" 111 mX11_twins 11 1 := ⟨RX11, TX11, 18, rfl, rfl, (g_inT1 (i := 952) (by decide +kernel) (by decide +kernel)), mi_X11_twins, me_X11_twins, ini_X11, mc_X11_twins, mp_X11_twins, by decide⟩
theorem mV_X11_230 : g_MV RX11 230 mX9_flowsUnlike 9 2 := ⟨RX9, TX9, 10, rfl, rfl, (g_inT1 (i := 956) (by decide +kernel) (by decide +kernel)), mi_X9_flowsUnlike, me_X9_flowsUnlike, ini_X9, mc_X9_flowsUnlike, mp_X9_flowsUnlike, by decide⟩
theorem mS_X11_234 : g_MS RX11 234 mJ6_bitCount_0f7a4 1 := ⟨(g_inT1 (i := 960) (by decide +kernel) (by decide +kernel)), ms_J6_bitCount_0f7a4, ini_J6, mc_J6_bitCount_0f7a4, mp_J6_bitCount_0f7a4, by decide⟩
theorem mV_L_115 : g_MV "StoneReadersLaw" 115 mX11_down 11 1 := ⟨RX11, TX11, 18, rfl, rfl, (g_inT1 (i := 966) (by decide +kernel) (by decide +kernel)), mi_X11_down, me_X11_down, ini_X11, mc_X11_down, mp_X11_down, by decide⟩
theorem mV_X11_239 : g_MV RX11 239 mX1_below 1 1 := ⟨RX1, TX1, 14, rfl, rfl, (g_inT1 (i := 970) (by decide +kernel) (by decide +kernel)), mi_X1_below, me_X1_below, ini_X1, mc_X1_below, mp_X1_below, by decide⟩
theorem mV_L_119 : g_MV "StoneReadersLaw" 119 mX11_up 11 1 := ⟨RX11, TX11, 18, rfl, rfl, (g_inT1 (i := 974) (by decide +kernel) (by decide +kernel)), mi_X11_up, me_X11_up, ini_X11, mc_X11_up, mp_X11_up, by decide⟩
theorem mV_L_123 : g_MV "StoneReadersLaw" 123 mX11_chain 11 0 := ⟨RX11, TX11, 18, rfl, rfl, (g_inT1 (i := 978) (by decide +kernel) (by decide +kernel)), mi_X11_chain, me_X11_chain, ini_X11, mc_X11_chain, mp_X11_chain, by decide⟩
theorem lk_X11_242 : Cond.methodLink RX11 242 Lib.Math.max.name ∈ g_T := g_inT1 (i := 982) (by decide +kernel) (by decide +kernel)
theorem mV_L_127 : g_MV "StoneReadersLaw" 127 mX11_sounds 11 0 := ⟨RX11, TX11, 18, rfl, rfl, (g_inT1 (i := 983) (by decide +kernel) (by decide +kernel)), mi_X11_sounds, me_X11_sounds, ini_X11, mc_X11_sounds, mp_X11_sounds, by decide⟩
theorem mV_L_131 : g_MV "StoneReadersLaw" 131 mX11_last 11 0 := ⟨RX11, TX11, 18, rfl, rfl, (g_inT1 (i := 987) (by decide +kernel) (by decide +kernel)), mi_X11_last, me_X11_last, ini_X11, mc_X11_last, mp_X11_last, by decide⟩
theorem mV_L_135 : g_MV "StoneReadersLaw" 135 mX11_often 11 0 := ⟨RX11, TX11, 18, rfl, rfl, (g_inT1 (i := 991) (by decide +kernel) (by decide +kernel)), mi_X11_often, me_X11_often, ini_X11, mc_X11_often, mp_X11_often, by decide⟩
theorem mV_L_139 : g_MV "StoneReadersLaw" 139 mX11_run 11 0 := ⟨RX11, TX11, 18, rfl, rfl, (g_inT1 (i := 995) (by decide +kernel) (by decide +kernel)), mi_X11_run, me_X11_run, ini_X11, mc_X11_run, mp_X11_run, by decide⟩
theorem mV_L_143 : g_MV "StoneReadersLaw" 143 mX11_stands 11 0 := ⟨RX11, TX11, 18, rfl, rfl, (g_inT1 (i := 999) (by decide +kernel) (by decide +kernel)), mi_X11_stands, me_X11_stands, ini_X11, mc_X11_stands, mp_X11_stands, by decide⟩
theorem mV_X11_253 : g_MV RX11 253 mX9_placeOf 9 1 := ⟨RX9, TX9, 10, rfl, rfl, (g_inT1 (i := 1003) (by decide +kernel) (by decide +kernel)), mi_X9_placeOf, me_X9_placeOf, ini_X9, mc_X9_placeOf, mp_X9_placeOf, by decide⟩
theorem mV_X9_116 : g_MV RX9 116 mX9_fitsAt 9 3 := ⟨RX9, TX9, 10, rfl, rfl, (g_inT1 (i := 1007) (by decide +kernel) (by decide +kernel)), mi_X9_fitsAt, me_X9_fitsAt, ini_X9, mc_X9_fitsAt, mp_X9_fitsAt, by decide⟩
theorem mV_L_147 : g_MV "StoneReadersLaw" 147 mX11_maybe 11 0 := ⟨RX11, TX11, 18, rfl, rfl, (g_inT1 (i := 1011) (by decide +kernel) (by decide +kernel)), mi_X11_maybe, me_X11_maybe, ini_X11, mc_X11_maybe, mp_X11_maybe, by decide⟩
theorem mV_X11_258 : g_MV RX11 258 mX9_placesFor 9 1 := ⟨RX9, TX9, 10, rfl, rfl, (g_inT1 (i := 1015) (by decide +kernel) (by decide +kernel)), mi_X9_placesFor, me_X9_placesFor, ini_X9, mc_X9_placesFor, mp_X9_placesFor, by decide⟩
theorem mV_L_151 : g_MV "StoneReadersLaw" 151 mX11_entire 11 0 := ⟨RX11, TX11, 18, rfl, rfl, (g_inT1 (i := 1019) (by decide +kernel) (by decide +kernel)), mi_X11_entire, me_X11_entire, ini_X11, mc_X11_entire, mp_X11_entire, by decide⟩
theorem mV_L_155 : g_MV "StoneReadersLaw" 155 mX11_aim 11 2 := ⟨RX11, TX11, 18, rfl, rfl, (g_inT1 (i := 1023) (by decide +kernel) (by decide +kernel)), mi_X11_aim, me_X11_aim, ini_X11, mc_X11_aim, mp_X11_aim, by decide⟩
theorem mV_X11_261 : g_MV RX11 261 mX11_isReadWith 11 3 := ⟨RX11, TX11, 18, rfl, rfl, (g_inT1 (i := 1027) (by decide +kernel) (by decide +kernel)), mi_X11_isReadWith, me_X11_isReadWith, ini_X11, mc_X11_isReadWith, mp_X11_isReadWith, by decide⟩
theorem mV_L_159 : g_MV "StoneReadersLaw" 159 mX11_hush 11 1 := ⟨RX11, TX11, 18, rfl, rfl, (g_inT1 (i := 1031) (by decide +kernel) (by decide +kernel)), mi_X11_hush, me_X11_hush, ini_X11, mc_X11_hush, mp_X11_hush, by decide⟩
theorem mV_X11_265 : g_MV RX11 265 mX11_isReadTurned 11 2 := ⟨RX11, TX11, 18, rfl, rfl, (g_inT1 (i := 1035) (by decide +kernel) (by decide +kernel)), mi_X11_isReadTurned, me_X11_isReadTurned, ini_X11, mc_X11_isReadTurned, mp_X11_isReadTurned, by decide⟩
theorem mV_L_163 : g_MV "StoneReadersLaw" 163 mX11_see 11 2 := ⟨RX11, TX11, 18, rfl, rfl, (g_inT1 (i := 1039) (by decide +kernel) (by decide +kernel)), mi_X11_see, me_X11_see, ini_X11, mc_X11_see, mp_X11_see, by decide⟩
theorem mV_X11_269 : g_MV RX11 269 mX7_add 7 2 := ⟨RX7, TX7, 3, rfl, rfl, (g_inT1 (i := 1043) (by decide +kernel) (by decide +kernel)), mi_X7_add, me_X7_add, ini_X7, mc_X7_add, mp_X7_add, by decide⟩
theorem mV_L_168 : g_MV "StoneReadersLaw" 168 mX11_rains 11 0 := ⟨RX11, TX11, 18, rfl, rfl, (g_inT1 (i := 1047) (by decide +kernel) (by decide +kernel)), mi_X11_rains, me_X11_rains, ini_X11, mc_X11_rains, mp_X11_rains, by decide⟩
theorem mV_X11_273 : g_MV RX11 273 mX11_soundingIn 11 1 := ⟨RX11, TX11, 18, rfl, rfl, (g_inT1 (i := 1051) (by decide +kernel) (by decide +kernel)), mi_X11_soundingIn, me_X11_soundingIn, ini_X11, mc_X11_soundingIn, mp_X11_soundingIn, by decide⟩
theorem mV_X11_276 : g_MV RX11 276 mX7_agreesWith 7 1 := ⟨RX7, TX7, 3, rfl, rfl, (g_inT1 (i := 1055) (by decide +kernel) (by decide +kernel)), mi_X7_agreesWith, me_X7_agreesWith, ini_X7, mc_X7_agreesWith, mp_X7_agreesWith, by decide⟩
theorem mV_L_172 : g_MV "StoneReadersLaw" 172 mX11_look 11 0 := ⟨RX11, TX11, 18, rfl, rfl, (g_inT1 (i := 1059) (by decide +kernel) (by decide +kernel)), mi_X11_look, me_X11_look, ini_X11, mc_X11_look, mp_X11_look, by decide⟩
theorem mV_X11_279 : g_MV RX11 279 mX11_addBitsToRow 11 1 := ⟨RX11, TX11, 18, rfl, rfl, (g_inT1 (i := 1063) (by decide +kernel) (by decide +kernel)), mi_X11_addBitsToRow, me_X11_addBitsToRow, ini_X11, mc_X11_addBitsToRow, mp_X11_addBitsToRow, by decide⟩
theorem mV_L_176 : g_MV "StoneReadersLaw" 176 mX11_chance 11 3 := ⟨RX11, TX11, 18, rfl, rfl, (g_inT1 (i := 1067) (by decide +kernel) (by decide +kernel)), mi_X11_chance, me_X11_chance, ini_X11, mc_X11_chance, mp_X11_chance, by decide⟩
theorem mS_X11_283 : g_MS RX11 283 mX11_weightOf 3 := ⟨(g_inT1 (i := 1071) (by decide +kernel) (by decide +kernel)), ms_X11_weightOf, ini_X11, mc_X11_weightOf, mp_X11_weightOf, by decide⟩
theorem mV_X11_287 : g_MV RX11 287 mX11_isReadInOddRain 11 3 := ⟨RX11, TX11, 18, rfl, rfl, (g_inT1 (i := 1074) (by decide +kernel) (by decide +kernel)), mi_X11_isReadInOddRain, me_X11_isReadInOddRain, ini_X11, mc_X11_isReadInOddRain, mp_X11_isReadInOddRain, by decide⟩
theorem mV_L_190 : g_MV "StoneReadersLaw" 190 mX11_days 11 3 := ⟨RX11, TX11, 18, rfl, rfl, (g_inT1 (i := 1078) (by decide +kernel) (by decide +kernel)), mi_X11_days, me_X11_days, ini_X11, mc_X11_days, mp_X11_days, by decide⟩
theorem mV_X11_304 : g_MV RX11 304 mX11_doDrawn 11 0 := ⟨RX11, TX11, 18, rfl, rfl, (g_inT1 (i := 1082) (by decide +kernel) (by decide +kernel)), mi_X11_doDrawn, me_X11_doDrawn, ini_X11, mc_X11_doDrawn, mp_X11_doDrawn, by decide⟩
theorem mV_X11_348 : g_MV RX11 348 mX11_draw 11 1 := ⟨RX11, TX11, 18, rfl, rfl, (g_inT1 (i := 1086) (by decide +kernel) (by decide +kernel)), mi_X11_draw, me_X11_draw, ini_X11, mc_X11_draw, mp_X11_draw, by decide⟩
theorem mV_L_194 : g_MV "StoneReadersLaw" 194 mX11_mark 11 2 := ⟨RX11, TX11, 18, rfl, rfl, (g_inT1 (i := 1094) (by decide +kernel) (by decide +kernel)), mi_X11_mark, me_X11_mark, ini_X11, mc_X11_mark, mp_X11_mark, by decide⟩
theorem mV_X11_317 : g_MV RX11 317 mX0_copyFrom 0 1 := ⟨RX0, TX0, 4, rfl, rfl, (g_inT1 (i := 1098) (by decide +kernel) (by decide +kernel)), mi_X0_copyFrom, me_X0_copyFrom, ini_X0, mc_X0_copyFrom, mp_X0_copyFrom, by decide⟩
theorem lk_X0_25 : Cond.methodLink RX0 25 arraycopyName ∈ g_T := g_inT1 (i := 1102) (by decide +kernel) (by decide +kernel)
theorem mV_X11_323 : g_MV RX11 323 mX10_copyFrom 10 1 := ⟨RX10, TX10, 2, rfl, rfl, (g_inT1 (i := 1103) (by decide +kernel) (by decide +kernel)), mi_X10_copyFrom, me_X10_copyFrom, ini_X10, mc_X10_copyFrom, mp_X10_copyFrom, by decide⟩
theorem lk_X10_19 : Cond.methodLink RX10 19 arraycopyName ∈ g_T := g_inT1 (i := 1107) (by decide +kernel) (by decide +kernel)
theorem mV_X11_327 : g_MV RX11 327 mX7_copyFrom 7 1 := ⟨RX7, TX7, 3, rfl, rfl, (g_inT1 (i := 1108) (by decide +kernel) (by decide +kernel)), mi_X7_copyFrom, me_X7_copyFrom, ini_X7, mc_X7_copyFrom, mp_X7_copyFrom, by decide⟩
theorem mV_L_198 : g_MV "StoneReadersLaw" 198 mX11_count 11 1 := ⟨RX11, TX11, 18, rfl, rfl, (g_inT1 (i := 1112) (by decide +kernel) (by decide +kernel)), mi_X11_count, me_X11_count, ini_X11, mc_X11_count, mp_X11_count, by decide⟩
theorem mV_L_7 : g_MV "StoneReadersLaw" 7 mX11_rests 11 4 := ⟨RX11, TX11, 18, rfl, rfl, (g_inT1 (i := 1120) (by decide +kernel) (by decide +kernel)), mi_X11_rests, me_X11_rests, ini_X11, mc_X11_rests, mp_X11_rests, by decide⟩
theorem mS_X11_290 : g_MS RX11 290 mX11_isDigit 1 := ⟨(g_inT1 (i := 1124) (by decide +kernel) (by decide +kernel)), ms_X11_isDigit, ini_X11, mc_X11_isDigit, mp_X11_isDigit, by decide⟩
theorem mS_X11_296 : g_MS RX11 296 mX11_isRest 4 := ⟨(g_inT1 (i := 1188) (by decide +kernel) (by decide +kernel)), ms_X11_isRest, ini_X11, mc_X11_isRest, mp_X11_isRest, by decide⟩
theorem mS_X11_344 : g_MS RX11 344 mX11_gain 5 := ⟨(g_inT1 (i := 1191) (by decide +kernel) (by decide +kernel)), ms_X11_gain, ini_X11, mc_X11_gain, mp_X11_gain, by decide⟩
theorem mI_L_18 : g_MI "StoneReadersLaw" 18 mX12_init 0 := ⟨rfl, (g_inT1 (i := 1196) (by decide +kernel) (by decide +kernel)), mi_X12_init, ini_X12, mc_X12_init, rfl, mp_X12_init, by decide⟩
theorem lk_X12_1 : Cond.methodLink RX12 1 objectInit ∈ g_T := g_inT1 (i := 1199) (by decide +kernel) (by decide +kernel)
theorem mV_X12_144 : g_MV RX12 144 mX12_fresh0 12 0 := ⟨RX12, TX12, 60, rfl, rfl, (g_inT1 (i := 1200) (by decide +kernel) (by decide +kernel)), mi_X12_fresh0, me_X12_fresh0, ini_X12, mc_X12_fresh0, mp_X12_fresh0, by decide⟩
theorem mV_L_187 : g_MV "StoneReadersLaw" 187 mX12_thrown 12 0 := ⟨RX12, TX12, 60, rfl, rfl, (g_inT1 (i := 1385) (by decide +kernel) (by decide +kernel)), mi_X12_thrown, me_X12_thrown, ini_X12, mc_X12_thrown, mp_X12_thrown, by decide⟩
theorem mV_L_25 : g_MV "StoneReadersLaw" 25 mX12_feed 12 3 := ⟨RX12, TX12, 60, rfl, rfl, (g_inT1 (i := 1389) (by decide +kernel) (by decide +kernel)), mi_X12_feed, me_X12_feed, ini_X12, mc_X12_feed, mp_X12_feed, by decide⟩
theorem mV_L_30 : g_MV "StoneReadersLaw" 30 mX12_front 12 0 := ⟨RX12, TX12, 60, rfl, rfl, (g_inT1 (i := 1394) (by decide +kernel) (by decide +kernel)), mi_X12_front, me_X12_front, ini_X12, mc_X12_front, mp_X12_front, by decide⟩
theorem mV_X12_334 : g_MV RX12 334 mX12_readsAll 12 0 := ⟨RX12, TX12, 60, rfl, rfl, (g_inT1 (i := 1398) (by decide +kernel) (by decide +kernel)), mi_X12_readsAll, me_X12_readsAll, ini_X12, mc_X12_readsAll, mp_X12_readsAll, by decide⟩
theorem mV_X12_308 : g_MV RX12 308 mX12_begins 12 0 := ⟨RX12, TX12, 60, rfl, rfl, (g_inT1 (i := 1402) (by decide +kernel) (by decide +kernel)), mi_X12_begins, me_X12_begins, ini_X12, mc_X12_begins, mp_X12_begins, by decide⟩
theorem mV_X12_218 : g_MV RX12 218 mX12_nextToken 12 0 := ⟨RX12, TX12, 60, rfl, rfl, (g_inT1 (i := 1406) (by decide +kernel) (by decide +kernel)), mi_X12_nextToken, me_X12_nextToken, ini_X12, mc_X12_nextToken, mp_X12_nextToken, by decide⟩
theorem mV_X12_175 : g_MV RX12 175 mX12_signAt 12 1 := ⟨RX12, TX12, 60, rfl, rfl, (g_inT1 (i := 1410) (by decide +kernel) (by decide +kernel)), mi_X12_signAt, me_X12_signAt, ini_X12, mc_X12_signAt, mp_X12_signAt, by decide⟩
theorem mV_X12_203 : g_MV RX12 203 mX12_isWord 12 1 := ⟨RX12, TX12, 60, rfl, rfl, (g_inT1 (i := 1417) (by decide +kernel) (by decide +kernel)), mi_X12_isWord, me_X12_isWord, ini_X12, mc_X12_isWord, mp_X12_isWord, by decide⟩
theorem mV_X12_311 : g_MV RX12 311 mX12_readsMouth 12 0 := ⟨RX12, TX12, 60, rfl, rfl, (g_inT1 (i := 1421) (by decide +kernel) (by decide +kernel)), mi_X12_readsMouth, me_X12_readsMouth, ini_X12, mc_X12_readsMouth, mp_X12_readsMouth, by decide⟩
theorem mV_X12_211 : g_MV RX12 211 mX12_fails 12 1 := ⟨RX12, TX12, 60, rfl, rfl, (g_inT1 (i := 1425) (by decide +kernel) (by decide +kernel)), mi_X12_fails, me_X12_fails, ini_X12, mc_X12_fails, mp_X12_fails, by decide⟩
theorem mV_X12_292 : g_MV RX12 292 mX12_needsNew 12 0 := ⟨RX12, TX12, 60, rfl, rfl, (g_inT1 (i := 1429) (by decide +kernel) (by decide +kernel)), mi_X12_needsNew, me_X12_needsNew, ini_X12, mc_X12_needsNew, mp_X12_needsNew, by decide⟩
theorem mV_X12_279 : g_MV RX12 279 mX12_isKept 12 0 := ⟨RX12, TX12, 60, rfl, rfl, (g_inT1 (i := 1433) (by decide +kernel) (by decide +kernel)), mi_X12_isKept, me_X12_isKept, ini_X12, mc_X12_isKept, mp_X12_isKept, by decide⟩
theorem mV_X12_283 : g_MV RX12 283 mX12_mouthNamed 12 1 := ⟨RX12, TX12, 60, rfl, rfl, (g_inT1 (i := 1456) (by decide +kernel) (by decide +kernel)), mi_X12_mouthNamed, me_X12_mouthNamed, ini_X12, mc_X12_mouthNamed, mp_X12_mouthNamed, by decide⟩
theorem mV_X12_286 : g_MV RX12 286 mX12_letterNamed 12 1 := ⟨RX12, TX12, 60, rfl, rfl, (g_inT1 (i := 1460) (by decide +kernel) (by decide +kernel)), mi_X12_letterNamed, me_X12_letterNamed, ini_X12, mc_X12_letterNamed, mp_X12_letterNamed, by decide⟩
theorem mV_X12_295 : g_MV RX12 295 mX12_needsBoth 12 3 := ⟨RX12, TX12, 60, rfl, rfl, (g_inT1 (i := 1464) (by decide +kernel) (by decide +kernel)), mi_X12_needsBoth, me_X12_needsBoth, ini_X12, mc_X12_needsBoth, mp_X12_needsBoth, by decide⟩
theorem mV_X12_275 : g_MV RX12 275 mX12_needsNumber 12 2 := ⟨RX12, TX12, 60, rfl, rfl, (g_inT1 (i := 1468) (by decide +kernel) (by decide +kernel)), mi_X12_needsNumber, me_X12_needsNumber, ini_X12, mc_X12_needsNumber, mp_X12_needsNumber, by decide⟩
theorem mS_X12_268 : g_MS RX12 268 mX12_within 3 := ⟨(g_inT1 (i := 1472) (by decide +kernel) (by decide +kernel)), ms_X12_within, ini_X12, mc_X12_within, mp_X12_within, by decide⟩
theorem mV_X12_299 : g_MV RX12 299 mX12_closes 12 0 := ⟨RX12, TX12, 60, rfl, rfl, (g_inT1 (i := 1475) (by decide +kernel) (by decide +kernel)), mi_X12_closes, me_X12_closes, ini_X12, mc_X12_closes, mp_X12_closes, by decide⟩
theorem mV_X12_207 : g_MV RX12 207 mX12_isSign 12 1 := ⟨RX12, TX12, 60, rfl, rfl, (g_inT1 (i := 1479) (by decide +kernel) (by decide +kernel)), mi_X12_isSign, me_X12_isSign, ini_X12, mc_X12_isSign, mp_X12_isSign, by decide⟩
theorem mV_X12_314 : g_MV RX12 314 mX12_readsGutter 12 0 := ⟨RX12, TX12, 60, rfl, rfl, (g_inT1 (i := 1483) (by decide +kernel) (by decide +kernel)), mi_X12_readsGutter, me_X12_readsGutter, ini_X12, mc_X12_readsGutter, mp_X12_readsGutter, by decide⟩
theorem mV_X12_302 : g_MV RX12 302 mX12_needsMouth 12 1 := ⟨RX12, TX12, 60, rfl, rfl, (g_inT1 (i := 1487) (by decide +kernel) (by decide +kernel)), mi_X12_needsMouth, me_X12_needsMouth, ini_X12, mc_X12_needsMouth, mp_X12_needsMouth, by decide⟩
theorem mV_X12_317 : g_MV RX12 317 mX12_readsLetter 12 0 := ⟨RX12, TX12, 60, rfl, rfl, (g_inT1 (i := 1491) (by decide +kernel) (by decide +kernel)), mi_X12_readsLetter, me_X12_readsLetter, ini_X12, mc_X12_readsLetter, mp_X12_readsLetter, by decide⟩
theorem mV_X12_320 : g_MV RX12 320 mX12_readsRain 12 0 := ⟨RX12, TX12, 60, rfl, rfl, (g_inT1 (i := 1495) (by decide +kernel) (by decide +kernel)), mi_X12_readsRain, me_X12_readsRain, ini_X12, mc_X12_readsRain, mp_X12_readsRain, by decide⟩
theorem mV_X12_323 : g_MV RX12 323 mX12_readsSounds 12 0 := ⟨RX12, TX12, 60, rfl, rfl, (g_inT1 (i := 1499) (by decide +kernel) (by decide +kernel)), mi_X12_readsSounds, me_X12_readsSounds, ini_X12, mc_X12_readsSounds, mp_X12_readsSounds, by decide⟩
theorem mV_X12_305 : g_MV RX12 305 mX12_readsLaw 12 0 := ⟨RX12, TX12, 60, rfl, rfl, (g_inT1 (i := 1503) (by decide +kernel) (by decide +kernel)), mi_X12_readsLaw, me_X12_readsLaw, ini_X12, mc_X12_readsLaw, mp_X12_readsLaw, by decide⟩
theorem mV_X12_197 : g_MV RX12 197 mX12_fact 12 0 := ⟨RX12, TX12, 60, rfl, rfl, (g_inT1 (i := 1507) (by decide +kernel) (by decide +kernel)), mi_X12_fact, me_X12_fact, ini_X12, mc_X12_fact, mp_X12_fact, by decide⟩
theorem mV_X12_214 : g_MV RX12 214 mX12_puts 12 1 := ⟨RX12, TX12, 60, rfl, rfl, (g_inT1 (i := 1515) (by decide +kernel) (by decide +kernel)), mi_X12_puts, me_X12_puts, ini_X12, mc_X12_puts, mp_X12_puts, by decide⟩
theorem mV_X12_337 : g_MV RX12 337 mX12_lays 12 0 := ⟨RX12, TX12, 60, rfl, rfl, (g_inT1 (i := 1519) (by decide +kernel) (by decide +kernel)), mi_X12_lays, me_X12_lays, ini_X12, mc_X12_lays, mp_X12_lays, by decide⟩
theorem mS_X12_326 : g_MS RX12 326 mX12_shifts 2 := ⟨(g_inT1 (i := 1523) (by decide +kernel) (by decide +kernel)), ms_X12_shifts, ini_X12, mc_X12_shifts, mp_X12_shifts, by decide⟩
theorem mS_X12_330 : g_MS RX12 330 mX12_shiftsNames 2 := ⟨(g_inT1 (i := 1526) (by decide +kernel) (by decide +kernel)), ms_X12_shiftsNames, ini_X12, mc_X12_shiftsNames, mp_X12_shiftsNames, by decide⟩
theorem mV_X12_340 : g_MV RX12 340 mX12_laysOrder 12 0 := ⟨RX12, TX12, 60, rfl, rfl, (g_inT1 (i := 1529) (by decide +kernel) (by decide +kernel)), mi_X12_laysOrder, me_X12_laysOrder, ini_X12, mc_X12_laysOrder, mp_X12_laysOrder, by decide⟩
theorem mV_L_34 : g_MV "StoneReadersLaw" 34 mX12_day 12 0 := ⟨RX12, TX12, 60, rfl, rfl, (g_inT1 (i := 1533) (by decide +kernel) (by decide +kernel)), mi_X12_day, me_X12_day, ini_X12, mc_X12_day, mp_X12_day, by decide⟩
theorem mV_X12_346 : g_MV RX12 346 mX12_readsLine 12 0 := ⟨RX12, TX12, 60, rfl, rfl, (g_inT1 (i := 1537) (by decide +kernel) (by decide +kernel)), mi_X12_readsLine, me_X12_readsLine, ini_X12, mc_X12_readsLine, mp_X12_readsLine, by decide⟩
theorem mV_X12_349 : g_MV RX12 349 mX12_laysLines 12 2 := ⟨RX12, TX12, 60, rfl, rfl, (g_inT1 (i := 1541) (by decide +kernel) (by decide +kernel)), mi_X12_laysLines, me_X12_laysLines, ini_X12, mc_X12_laysLines, mp_X12_laysLines, by decide⟩
theorem mV_L_38 : g_MV "StoneReadersLaw" 38 mX12_word 12 0 := ⟨RX12, TX12, 60, rfl, rfl, (g_inT1 (i := 1545) (by decide +kernel) (by decide +kernel)), mi_X12_word, me_X12_word, ini_X12, mc_X12_word, mp_X12_word, by decide⟩
theorem mV_X12_353 : g_MV RX12 353 mX12_readsWord 12 0 := ⟨RX12, TX12, 60, rfl, rfl, (g_inT1 (i := 1549) (by decide +kernel) (by decide +kernel)), mi_X12_readsWord, me_X12_readsWord, ini_X12, mc_X12_readsWord, mp_X12_readsWord, by decide⟩
theorem mV_X12_356 : g_MV RX12 356 mX12_laysWord 12 2 := ⟨RX12, TX12, 60, rfl, rfl, (g_inT1 (i := 1553) (by decide +kernel) (by decide +kernel)), mi_X12_laysWord, me_X12_laysWord, ini_X12, mc_X12_laysWord, mp_X12_laysWord, by decide⟩
theorem mV_L_43 : g_MV "StoneReadersLaw" 43 mX12_mouth 12 2 := ⟨RX12, TX12, 60, rfl, rfl, (g_inT1 (i := 1557) (by decide +kernel) (by decide +kernel)), mi_X12_mouth, me_X12_mouth, ini_X12, mc_X12_mouth, mp_X12_mouth, by decide⟩
theorem mV_X12_395 : g_MV RX12 395 mX12_isMouth 12 1 := ⟨RX12, TX12, 60, rfl, rfl, (g_inT1 (i := 1561) (by decide +kernel) (by decide +kernel)), mi_X12_isMouth, me_X12_isMouth, ini_X12, mc_X12_isMouth, mp_X12_isMouth, by decide⟩
theorem mV_L_48 : g_MV "StoneReadersLaw" 48 mX12_letter 12 1 := ⟨RX12, TX12, 60, rfl, rfl, (g_inT1 (i := 1565) (by decide +kernel) (by decide +kernel)), mi_X12_letter, me_X12_letter, ini_X12, mc_X12_letter, mp_X12_letter, by decide⟩
theorem mV_X12_398 : g_MV RX12 398 mX12_isLetter0 12 1 := ⟨RX12, TX12, 60, rfl, rfl, (g_inT1 (i := 1569) (by decide +kernel) (by decide +kernel)), mi_X12_isLetter0, me_X12_isLetter0, ini_X12, mc_X12_isLetter0, mp_X12_isLetter0, by decide⟩
theorem mV_L_52 : g_MV "StoneReadersLaw" 52 mX12_slate 12 1 := ⟨RX12, TX12, 60, rfl, rfl, (g_inT1 (i := 1573) (by decide +kernel) (by decide +kernel)), mi_X12_slate, me_X12_slate, ini_X12, mc_X12_slate, mp_X12_slate, by decide⟩
theorem mV_L_56 : g_MV "StoneReadersLaw" 56 mX12_minute 12 0 := ⟨RX12, TX12, 60, rfl, rfl, (g_inT1 (i := 1577) (by decide +kernel) (by decide +kernel)), mi_X12_minute, me_X12_minute, ini_X12, mc_X12_minute, mp_X12_minute, by decide⟩
theorem mV_X12_405 : g_MV RX12 405 mX12_keeps 12 0 := ⟨RX12, TX12, 60, rfl, rfl, (g_inT1 (i := 1581) (by decide +kernel) (by decide +kernel)), mi_X12_keeps, me_X12_keeps, ini_X12, mc_X12_keeps, mp_X12_keeps, by decide⟩
theorem mS_X12_401 : g_MS RX12 401 mX12_copies 4 := ⟨(g_inT1 (i := 1585) (by decide +kernel) (by decide +kernel)), ms_X12_copies, ini_X12, mc_X12_copies, mp_X12_copies, by decide⟩
theorem mV_X12_408 : g_MV RX12 408 mX12_passesAsTold 12 0 := ⟨RX12, TX12, 60, rfl, rfl, (g_inT1 (i := 1588) (by decide +kernel) (by decide +kernel)), mi_X12_passesAsTold, me_X12_passesAsTold, ini_X12, mc_X12_passesAsTold, mp_X12_passesAsTold, by decide⟩
theorem mV_X12_389 : g_MV RX12 389 mX12_rainOf 12 1 := ⟨RX12, TX12, 60, rfl, rfl, (g_inT1 (i := 1592) (by decide +kernel) (by decide +kernel)), mi_X12_rainOf, me_X12_rainOf, ini_X12, mc_X12_rainOf, mp_X12_rainOf, by decide⟩
theorem mV_X12_392 : g_MV RX12 392 mX12_passes 12 1 := ⟨RX12, TX12, 60, rfl, rfl, (g_inT1 (i := 1596) (by decide +kernel) (by decide +kernel)), mi_X12_passes, me_X12_passes, ini_X12, mc_X12_passes, mp_X12_passes, by decide⟩
theorem mV_X12_377 : g_MV RX12 377 mX12_runsOver 12 1 := ⟨RX12, TX12, 60, rfl, rfl, (g_inT1 (i := 1600) (by decide +kernel) (by decide +kernel)), mi_X12_runsOver, me_X12_runsOver, ini_X12, mc_X12_runsOver, mp_X12_runsOver, by decide⟩
theorem mV_X12_380 : g_MV RX12 380 mX12_spoutOf 12 1 := ⟨RX12, TX12, 60, rfl, rfl, (g_inT1 (i := 1604) (by decide +kernel) (by decide +kernel)), mi_X12_spoutOf, me_X12_spoutOf, ini_X12, mc_X12_spoutOf, mp_X12_spoutOf, by decide⟩
theorem mV_X12_359 : g_MV RX12 359 mX12_isStopped 12 1 := ⟨RX12, TX12, 60, rfl, rfl, (g_inT1 (i := 1608) (by decide +kernel) (by decide +kernel)), mi_X12_isStopped, me_X12_isStopped, ini_X12, mc_X12_isStopped, mp_X12_isStopped, by decide⟩
theorem lk_X12_362 : Cond.methodLink RX12 362 Lib.Math.min.name ∈ g_T := g_inT1 (i := 1612) (by decide +kernel) (by decide +kernel)
theorem mV_X12_383 : g_MV RX12 383 mX12_isSounding 12 2 := ⟨RX12, TX12, 60, rfl, rfl, (g_inT1 (i := 1613) (by decide +kernel) (by decide +kernel)), mi_X12_isSounding, me_X12_isSounding, ini_X12, mc_X12_isSounding, mp_X12_isSounding, by decide⟩
theorem mV_X12_368 : g_MV RX12 368 mX12_worked 12 1 := ⟨RX12, TX12, 60, rfl, rfl, (g_inT1 (i := 1617) (by decide +kernel) (by decide +kernel)), mi_X12_worked, me_X12_worked, ini_X12, mc_X12_worked, mp_X12_worked, by decide⟩
theorem mV_X12_228 : g_MV RX12 228 mX12_opens 12 1 := ⟨RX12, TX12, 60, rfl, rfl, (g_inT1 (i := 1621) (by decide +kernel) (by decide +kernel)), mi_X12_opens, me_X12_opens, ini_X12, mc_X12_opens, mp_X12_opens, by decide⟩
theorem mV_X12_225 : g_MV RX12 225 mX12_sums 12 1 := ⟨RX12, TX12, 60, rfl, rfl, (g_inT1 (i := 1625) (by decide +kernel) (by decide +kernel)), mi_X12_sums, me_X12_sums, ini_X12, mc_X12_sums, mp_X12_sums, by decide⟩
theorem mV_X12_231 : g_MV RX12 231 mX12_tests 12 1 := ⟨RX12, TX12, 60, rfl, rfl, (g_inT1 (i := 1629) (by decide +kernel) (by decide +kernel)), mi_X12_tests, me_X12_tests, ini_X12, mc_X12_tests, mp_X12_tests, by decide⟩
theorem mV_X12_386 : g_MV RX12 386 mX12_readBy 12 1 := ⟨RX12, TX12, 60, rfl, rfl, (g_inT1 (i := 1633) (by decide +kernel) (by decide +kernel)), mi_X12_readBy, me_X12_readBy, ini_X12, mc_X12_readBy, mp_X12_readBy, by decide⟩
theorem mV_L_60 : g_MV "StoneReadersLaw" 60 mX12_pour 12 2 := ⟨RX12, TX12, 60, rfl, rfl, (g_inT1 (i := 1637) (by decide +kernel) (by decide +kernel)), mi_X12_pour, me_X12_pour, ini_X12, mc_X12_pour, mp_X12_pour, by decide⟩
theorem mV_X12_411 : g_MV RX12 411 mX12_pours 12 2 := ⟨RX12, TX12, 60, rfl, rfl, (g_inT1 (i := 1641) (by decide +kernel) (by decide +kernel)), mi_X12_pours, me_X12_pours, ini_X12, mc_X12_pours, mp_X12_pours, by decide⟩
theorem mV_L_65 : g_MV "StoneReadersLaw" 65 mX12_stop 12 1 := ⟨RX12, TX12, 60, rfl, rfl, (g_inT1 (i := 1645) (by decide +kernel) (by decide +kernel)), mi_X12_stop, me_X12_stop, ini_X12, mc_X12_stop, mp_X12_stop, by decide⟩
theorem mV_L_69 : g_MV "StoneReadersLaw" 69 mX12_clear 12 1 := ⟨RX12, TX12, 60, rfl, rfl, (g_inT1 (i := 1649) (by decide +kernel) (by decide +kernel)), mi_X12_clear, me_X12_clear, ini_X12, mc_X12_clear, mp_X12_clear, by decide⟩
theorem mV_L_74 : g_MV "StoneReadersLaw" 74 mX12_undo 12 0 := ⟨RX12, TX12, 60, rfl, rfl, (g_inT1 (i := 1653) (by decide +kernel) (by decide +kernel)), mi_X12_undo, me_X12_undo, ini_X12, mc_X12_undo, mp_X12_undo, by decide⟩
theorem mV_L_78 : g_MV "StoneReadersLaw" 78 mX12_judged 12 1 := ⟨RX12, TX12, 60, rfl, rfl, (g_inT1 (i := 1657) (by decide +kernel) (by decide +kernel)), mi_X12_judged, me_X12_judged, ini_X12, mc_X12_judged, mp_X12_judged, by decide⟩
theorem mV_X12_414 : g_MV RX12 414 mX12_holesNow 12 0 := ⟨RX12, TX12, 60, rfl, rfl, (g_inT1 (i := 1661) (by decide +kernel) (by decide +kernel)), mi_X12_holesNow, me_X12_holesNow, ini_X12, mc_X12_holesNow, mp_X12_holesNow, by decide⟩
theorem mV_L_82 : g_MV "StoneReadersLaw" 82 mX12_later 12 2 := ⟨RX12, TX12, 60, rfl, rfl, (g_inT1 (i := 1665) (by decide +kernel) (by decide +kernel)), mi_X12_later, me_X12_later, ini_X12, mc_X12_later, mp_X12_later, by decide⟩
theorem mV_L_86 : g_MV "StoneReadersLaw" 86 mX12_reads 12 1 := ⟨RX12, TX12, 60, rfl, rfl, (g_inT1 (i := 1669) (by decide +kernel) (by decide +kernel)), mi_X12_reads, me_X12_reads, ini_X12, mc_X12_reads, mp_X12_reads, by decide⟩
theorem mV_L_90 : g_MV "StoneReadersLaw" 90 mX12_when 12 1 := ⟨RX12, TX12, 60, rfl, rfl, (g_inT1 (i := 1673) (by decide +kernel) (by decide +kernel)), mi_X12_when, me_X12_when, ini_X12, mc_X12_when, mp_X12_when, by decide⟩
theorem mV_L_94 : g_MV "StoneReadersLaw" 94 mX12_dry 12 0 := ⟨RX12, TX12, 60, rfl, rfl, (g_inT1 (i := 1677) (by decide +kernel) (by decide +kernel)), mi_X12_dry, me_X12_dry, ini_X12, mc_X12_dry, mp_X12_dry, by decide⟩
theorem mV_X12_417 : g_MV RX12 417 mX12_allStands 12 0 := ⟨RX12, TX12, 60, rfl, rfl, (g_inT1 (i := 1681) (by decide +kernel) (by decide +kernel)), mi_X12_allStands, me_X12_allStands, ini_X12, mc_X12_allStands, mp_X12_allStands, by decide⟩
theorem mV_L_98 : g_MV "StoneReadersLaw" 98 mX12_spill 12 1 := ⟨RX12, TX12, 60, rfl, rfl, (g_inT1 (i := 1685) (by decide +kernel) (by decide +kernel)), mi_X12_spill, me_X12_spill, ini_X12, mc_X12_spill, mp_X12_spill, by decide⟩
theorem mV_L_102 : g_MV "StoneReadersLaw" 102 mX12_over 12 1 := ⟨RX12, TX12, 60, rfl, rfl, (g_inT1 (i := 1689) (by decide +kernel) (by decide +kernel)), mi_X12_over, me_X12_over, ini_X12, mc_X12_over, mp_X12_over, by decide⟩
theorem mV_X12_420 : g_MV RX12 420 mX12_overOf 12 1 := ⟨RX12, TX12, 60, rfl, rfl, (g_inT1 (i := 1693) (by decide +kernel) (by decide +kernel)), mi_X12_overOf, me_X12_overOf, ini_X12, mc_X12_overOf, mp_X12_overOf, by decide⟩
theorem mV_L_106 : g_MV "StoneReadersLaw" 106 mX12_first 12 0 := ⟨RX12, TX12, 60, rfl, rfl, (g_inT1 (i := 1697) (by decide +kernel) (by decide +kernel)), mi_X12_first, me_X12_first, ini_X12, mc_X12_first, mp_X12_first, by decide⟩
theorem mV_X12_423 : g_MV RX12 423 mX12_every 12 0 := ⟨RX12, TX12, 60, rfl, rfl, (g_inT1 (i := 1701) (by decide +kernel) (by decide +kernel)), mi_X12_every, me_X12_every, ini_X12, mc_X12_every, mp_X12_every, by decide⟩
theorem mS_X12_426 : g_MS RX12 426 mX12_lowest 1 := ⟨(g_inT1 (i := 1705) (by decide +kernel) (by decide +kernel)), ms_X12_lowest, ini_X12, mc_X12_lowest, mp_X12_lowest, by decide⟩
theorem mV_L_110 : g_MV "StoneReadersLaw" 110 mX12_great 12 1 := ⟨RX12, TX12, 60, rfl, rfl, (g_inT1 (i := 1708) (by decide +kernel) (by decide +kernel)), mi_X12_great, me_X12_great, ini_X12, mc_X12_great, mp_X12_great, by decide⟩
theorem mV_L_114 : g_MV "StoneReadersLaw" 114 mX12_twins 12 1 := ⟨RX12, TX12, 60, rfl, rfl, (g_inT1 (i := 1712) (by decide +kernel) (by decide +kernel)), mi_X12_twins, me_X12_twins, ini_X12, mc_X12_twins, mp_X12_twins, by decide⟩
theorem mS_X12_429 : g_MS RX12 429 mX12_bits 1 := ⟨(g_inT1 (i := 1716) (by decide +kernel) (by decide +kernel)), ms_X12_bits, ini_X12, mc_X12_bits, mp_X12_bits, by decide⟩
theorem mV_L_118 : g_MV "StoneReadersLaw" 118 mX12_down 12 1 := ⟨RX12, TX12, 60, rfl, rfl, (g_inT1 (i := 1719) (by decide +kernel) (by decide +kernel)), mi_X12_down, me_X12_down, ini_X12, mc_X12_down, mp_X12_down, by decide⟩
theorem mV_X12_432 : g_MV RX12 432 mX12_downOf 12 1 := ⟨RX12, TX12, 60, rfl, rfl, (g_inT1 (i := 1723) (by decide +kernel) (by decide +kernel)), mi_X12_downOf, me_X12_downOf, ini_X12, mc_X12_downOf, mp_X12_downOf, by decide⟩
theorem mV_L_122 : g_MV "StoneReadersLaw" 122 mX12_up 12 1 := ⟨RX12, TX12, 60, rfl, rfl, (g_inT1 (i := 1727) (by decide +kernel) (by decide +kernel)), mi_X12_up, me_X12_up, ini_X12, mc_X12_up, mp_X12_up, by decide⟩
theorem mV_L_126 : g_MV "StoneReadersLaw" 126 mX12_chain 12 0 := ⟨RX12, TX12, 60, rfl, rfl, (g_inT1 (i := 1731) (by decide +kernel) (by decide +kernel)), mi_X12_chain, me_X12_chain, ini_X12, mc_X12_chain, mp_X12_chain, by decide⟩
theorem lk_X12_435 : Cond.methodLink RX12 435 Lib.Math.max.name ∈ g_T := g_inT1 (i := 1735) (by decide +kernel) (by decide +kernel)
theorem mV_L_130 : g_MV "StoneReadersLaw" 130 mX12_sounds 12 0 := ⟨RX12, TX12, 60, rfl, rfl, (g_inT1 (i := 1736) (by decide +kernel) (by decide +kernel)), mi_X12_sounds, me_X12_sounds, ini_X12, mc_X12_sounds, mp_X12_sounds, by decide⟩
theorem mV_L_134 : g_MV "StoneReadersLaw" 134 mX12_last 12 0 := ⟨RX12, TX12, 60, rfl, rfl, (g_inT1 (i := 1740) (by decide +kernel) (by decide +kernel)), mi_X12_last, me_X12_last, ini_X12, mc_X12_last, mp_X12_last, by decide⟩
theorem mV_L_138 : g_MV "StoneReadersLaw" 138 mX12_often 12 0 := ⟨RX12, TX12, 60, rfl, rfl, (g_inT1 (i := 1744) (by decide +kernel) (by decide +kernel)), mi_X12_often, me_X12_often, ini_X12, mc_X12_often, mp_X12_often, by decide⟩
theorem mV_L_142 : g_MV "StoneReadersLaw" 142 mX12_run 12 0 := ⟨RX12, TX12, 60, rfl, rfl, (g_inT1 (i := 1748) (by decide +kernel) (by decide +kernel)), mi_X12_run, me_X12_run, ini_X12, mc_X12_run, mp_X12_run, by decide⟩
theorem mV_L_146 : g_MV "StoneReadersLaw" 146 mX12_stands 12 0 := ⟨RX12, TX12, 60, rfl, rfl, (g_inT1 (i := 1752) (by decide +kernel) (by decide +kernel)), mi_X12_stands, me_X12_stands, ini_X12, mc_X12_stands, mp_X12_stands, by decide⟩
theorem mV_X12_442 : g_MV RX12 442 mX12_standsFrom 12 0 := ⟨RX12, TX12, 60, rfl, rfl, (g_inT1 (i := 1756) (by decide +kernel) (by decide +kernel)), mi_X12_standsFrom, me_X12_standsFrom, ini_X12, mc_X12_standsFrom, mp_X12_standsFrom, by decide⟩
theorem mV_X12_438 : g_MV RX12 438 mX12_standsAt 12 2 := ⟨RX12, TX12, 60, rfl, rfl, (g_inT1 (i := 1760) (by decide +kernel) (by decide +kernel)), mi_X12_standsAt, me_X12_standsAt, ini_X12, mc_X12_standsAt, mp_X12_standsAt, by decide⟩
theorem mV_L_150 : g_MV "StoneReadersLaw" 150 mX12_maybe 12 0 := ⟨RX12, TX12, 60, rfl, rfl, (g_inT1 (i := 1764) (by decide +kernel) (by decide +kernel)), mi_X12_maybe, me_X12_maybe, ini_X12, mc_X12_maybe, mp_X12_maybe, by decide⟩
theorem mV_L_154 : g_MV "StoneReadersLaw" 154 mX12_entire 12 0 := ⟨RX12, TX12, 60, rfl, rfl, (g_inT1 (i := 1768) (by decide +kernel) (by decide +kernel)), mi_X12_entire, me_X12_entire, ini_X12, mc_X12_entire, mp_X12_entire, by decide⟩
theorem mV_L_158 : g_MV "StoneReadersLaw" 158 mX12_aim 12 2 := ⟨RX12, TX12, 60, rfl, rfl, (g_inT1 (i := 1772) (by decide +kernel) (by decide +kernel)), mi_X12_aim, me_X12_aim, ini_X12, mc_X12_aim, mp_X12_aim, by decide⟩
theorem mV_X12_445 : g_MV RX12 445 mX12_aimOf 12 2 := ⟨RX12, TX12, 60, rfl, rfl, (g_inT1 (i := 1776) (by decide +kernel) (by decide +kernel)), mi_X12_aimOf, me_X12_aimOf, ini_X12, mc_X12_aimOf, mp_X12_aimOf, by decide⟩
theorem mV_L_162 : g_MV "StoneReadersLaw" 162 mX12_hush 12 1 := ⟨RX12, TX12, 60, rfl, rfl, (g_inT1 (i := 1780) (by decide +kernel) (by decide +kernel)), mi_X12_hush, me_X12_hush, ini_X12, mc_X12_hush, mp_X12_hush, by decide⟩
theorem mV_L_167 : g_MV "StoneReadersLaw" 167 mX12_see 12 2 := ⟨RX12, TX12, 60, rfl, rfl, (g_inT1 (i := 1784) (by decide +kernel) (by decide +kernel)), mi_X12_see, me_X12_see, ini_X12, mc_X12_see, mp_X12_see, by decide⟩
theorem mV_L_171 : g_MV "StoneReadersLaw" 171 mX12_rains 12 0 := ⟨RX12, TX12, 60, rfl, rfl, (g_inT1 (i := 1788) (by decide +kernel) (by decide +kernel)), mi_X12_rains, me_X12_rains, ini_X12, mc_X12_rains, mp_X12_rains, by decide⟩
theorem mV_X12_448 : g_MV RX12 448 mX12_laysSounds 12 0 := ⟨RX12, TX12, 60, rfl, rfl, (g_inT1 (i := 1792) (by decide +kernel) (by decide +kernel)), mi_X12_laysSounds, me_X12_laysSounds, ini_X12, mc_X12_laysSounds, mp_X12_laysSounds, by decide⟩
theorem mV_X12_451 : g_MV RX12 451 mX12_isAsSeen 12 1 := ⟨RX12, TX12, 60, rfl, rfl, (g_inT1 (i := 1796) (by decide +kernel) (by decide +kernel)), mi_X12_isAsSeen, me_X12_isAsSeen, ini_X12, mc_X12_isAsSeen, mp_X12_isAsSeen, by decide⟩
theorem mV_L_175 : g_MV "StoneReadersLaw" 175 mX12_look 12 0 := ⟨RX12, TX12, 60, rfl, rfl, (g_inT1 (i := 1800) (by decide +kernel) (by decide +kernel)), mi_X12_look, me_X12_look, ini_X12, mc_X12_look, mp_X12_look, by decide⟩
theorem mV_X12_454 : g_MV RX12 454 mX12_rains 12 0 := ⟨RX12, TX12, 60, rfl, rfl, (g_inT1 (i := 1804) (by decide +kernel) (by decide +kernel)), mi_X12_rains, me_X12_rains, ini_X12, mc_X12_rains, mp_X12_rains, by decide⟩
theorem mV_L_180 : g_MV "StoneReadersLaw" 180 mX12_chance 12 3 := ⟨RX12, TX12, 60, rfl, rfl, (g_inT1 (i := 1805) (by decide +kernel) (by decide +kernel)), mi_X12_chance, me_X12_chance, ini_X12, mc_X12_chance, mp_X12_chance, by decide⟩
theorem mV_L_186 : g_MV "StoneReadersLaw" 186 mX12_rests 12 4 := ⟨RX12, TX12, 60, rfl, rfl, (g_inT1 (i := 1811) (by decide +kernel) (by decide +kernel)), mi_X12_rests, me_X12_rests, ini_X12, mc_X12_rests, mp_X12_rests, by decide⟩
theorem mS_X12_461 : g_MS RX12 461 mX12_getsBy 5 := ⟨(g_inT1 (i := 1815) (by decide +kernel) (by decide +kernel)), ms_X12_getsBy, ini_X12, mc_X12_getsBy, mp_X12_getsBy, by decide⟩
theorem mV_L_193 : g_MV "StoneReadersLaw" 193 mX12_days 12 3 := ⟨RX12, TX12, 60, rfl, rfl, (g_inT1 (i := 1818) (by decide +kernel) (by decide +kernel)), mi_X12_days, me_X12_days, ini_X12, mc_X12_days, mp_X12_days, by decide⟩
theorem mV_X12_479 : g_MV RX12 479 mX12_livesMinute 12 0 := ⟨RX12, TX12, 60, rfl, rfl, (g_inT1 (i := 1822) (by decide +kernel) (by decide +kernel)), mi_X12_livesMinute, me_X12_livesMinute, ini_X12, mc_X12_livesMinute, mp_X12_livesMinute, by decide⟩
theorem mV_X12_476 : g_MV RX12 476 mX12_draws 12 1 := ⟨RX12, TX12, 60, rfl, rfl, (g_inT1 (i := 1826) (by decide +kernel) (by decide +kernel)), mi_X12_draws, me_X12_draws, ini_X12, mc_X12_draws, mp_X12_draws, by decide⟩
theorem mV_L_197 : g_MV "StoneReadersLaw" 197 mX12_mark 12 2 := ⟨RX12, TX12, 60, rfl, rfl, (g_inT1 (i := 1834) (by decide +kernel) (by decide +kernel)), mi_X12_mark, me_X12_mark, ini_X12, mc_X12_mark, mp_X12_mark, by decide⟩
theorem mV_X12_482 : g_MV RX12 482 mX12_laysSeen 12 2 := ⟨RX12, TX12, 60, rfl, rfl, (g_inT1 (i := 1838) (by decide +kernel) (by decide +kernel)), mi_X12_laysSeen, me_X12_laysSeen, ini_X12, mc_X12_laysSeen, mp_X12_laysSeen, by decide⟩
theorem mV_L_201 : g_MV "StoneReadersLaw" 201 mX12_count 12 1 := ⟨RX12, TX12, 60, rfl, rfl, (g_inT1 (i := 1842) (by decide +kernel) (by decide +kernel)), mi_X12_count, me_X12_count, ini_X12, mc_X12_count, mp_X12_count, by decide⟩
theorem ci_J2_227 : Cond.constant RJ2 227 65536 ∈ g_T := g_inT1 (i := 482) (by decide +kernel) (by decide +kernel)
theorem ci_J11_110 : Cond.constant RJ11 110 55232 ∈ g_T := g_inT1 (i := 521) (by decide +kernel) (by decide +kernel)
theorem ci_J11_76 : Cond.constant RJ11 76 56320 ∈ g_T := g_inT1 (i := 525) (by decide +kernel) (by decide +kernel)
theorem ci_J6_265 : Cond.constant RJ6 265 1431655765 ∈ g_T := g_inT1 (i := 963) (by decide +kernel) (by decide +kernel)
theorem ci_J6_266 : Cond.constant RJ6 266 858993459 ∈ g_T := g_inT1 (i := 964) (by decide +kernel) (by decide +kernel)
theorem ci_J6_267 : Cond.constant RJ6 267 252645135 ∈ g_T := g_inT1 (i := 965) (by decide +kernel) (by decide +kernel)
theorem cl_X8_15 : Cond.constantLong RX8 15 255 ∈ g_T := g_inT1 (i := 409) (by decide +kernel) (by decide +kernel)
theorem cl_X8_54 : Cond.constantLong RX8 54 32 ∈ g_T := g_inT1 (i := 434) (by decide +kernel) (by decide +kernel)
theorem cl_X11_351 : Cond.constantLong RX11 351 1103515245 ∈ g_T := g_inT1 (i := 1090) (by decide +kernel) (by decide +kernel)
theorem cl_X11_353 : Cond.constantLong RX11 353 12345 ∈ g_T := g_inT1 (i := 1091) (by decide +kernel) (by decide +kernel)
theorem cl_X11_355 : Cond.constantLong RX11 355 2147483648 ∈ g_T := g_inT1 (i := 1092) (by decide +kernel) (by decide +kernel)
theorem cl_X11_357 : Cond.constantLong RX11 357 65536 ∈ g_T := g_inT1 (i := 1093) (by decide +kernel) (by decide +kernel)
theorem cl_X12_151 : Cond.constantLong RX12 151 255 ∈ g_T := g_inT1 (i := 1393) (by decide +kernel) (by decide +kernel)
theorem cl_X12_179 : Cond.constantLong RX12 179 27 ∈ g_T := g_inT1 (i := 1414) (by decide +kernel) (by decide +kernel)
theorem cl_X12_181 : Cond.constantLong RX12 181 96 ∈ g_T := g_inT1 (i := 1415) (by decide +kernel) (by decide +kernel)
theorem cl_X12_234 : Cond.constantLong RX12 234 7219835 ∈ g_T := g_inT1 (i := 1416) (by decide +kernel) (by decide +kernel)
theorem cl_X12_236 : Cond.constantLong RX12 236 164222 ∈ g_T := g_inT1 (i := 1437) (by decide +kernel) (by decide +kernel)
theorem cl_X12_238 : Cond.constantLong RX12 238 10656676 ∈ g_T := g_inT1 (i := 1438) (by decide +kernel) (by decide +kernel)
theorem cl_X12_240 : Cond.constantLong RX12 240 4555648 ∈ g_T := g_inT1 (i := 1439) (by decide +kernel) (by decide +kernel)
theorem cl_X12_242 : Cond.constantLong RX12 242 112011003 ∈ g_T := g_inT1 (i := 1440) (by decide +kernel) (by decide +kernel)
theorem cl_X12_244 : Cond.constantLong RX12 244 175252482 ∈ g_T := g_inT1 (i := 1441) (by decide +kernel) (by decide +kernel)
theorem cl_X12_246 : Cond.constantLong RX12 246 411 ∈ g_T := g_inT1 (i := 1442) (by decide +kernel) (by decide +kernel)
theorem cl_X12_248 : Cond.constantLong RX12 248 355280 ∈ g_T := g_inT1 (i := 1443) (by decide +kernel) (by decide +kernel)
theorem cl_X12_250 : Cond.constantLong RX12 250 281024524 ∈ g_T := g_inT1 (i := 1444) (by decide +kernel) (by decide +kernel)
theorem cl_X12_252 : Cond.constantLong RX12 252 191610176 ∈ g_T := g_inT1 (i := 1445) (by decide +kernel) (by decide +kernel)
theorem cl_X12_254 : Cond.constantLong RX12 254 326448 ∈ g_T := g_inT1 (i := 1446) (by decide +kernel) (by decide +kernel)
theorem cl_X12_256 : Cond.constantLong RX12 256 388978 ∈ g_T := g_inT1 (i := 1447) (by decide +kernel) (by decide +kernel)
theorem cl_X12_258 : Cond.constantLong RX12 258 1834209 ∈ g_T := g_inT1 (i := 1448) (by decide +kernel) (by decide +kernel)
theorem cl_X12_260 : Cond.constantLong RX12 260 8740238 ∈ g_T := g_inT1 (i := 1449) (by decide +kernel) (by decide +kernel)
theorem cl_X12_262 : Cond.constantLong RX12 262 459383 ∈ g_T := g_inT1 (i := 1450) (by decide +kernel) (by decide +kernel)
theorem cl_X12_264 : Cond.constantLong RX12 264 383153 ∈ g_T := g_inT1 (i := 1451) (by decide +kernel) (by decide +kernel)
theorem cl_X12_266 : Cond.constantLong RX12 266 279740 ∈ g_T := g_inT1 (i := 1452) (by decide +kernel) (by decide +kernel)
theorem cl_X12_201 : Cond.constantLong RX12 201 10631 ∈ g_T := g_inT1 (i := 1453) (by decide +kernel) (by decide +kernel)
theorem cl_X12_221 : Cond.constantLong RX12 221 1111 ∈ g_T := g_inT1 (i := 1454) (by decide +kernel) (by decide +kernel)
theorem cl_X12_223 : Cond.constantLong RX12 223 423 ∈ g_T := g_inT1 (i := 1455) (by decide +kernel) (by decide +kernel)
theorem cl_X12_189 : Cond.constantLong RX12 189 127274 ∈ g_T := g_inT1 (i := 1511) (by decide +kernel) (by decide +kernel)
theorem cl_X12_191 : Cond.constantLong RX12 191 283288069 ∈ g_T := g_inT1 (i := 1512) (by decide +kernel) (by decide +kernel)
theorem cl_X12_193 : Cond.constantLong RX12 193 394725 ∈ g_T := g_inT1 (i := 1513) (by decide +kernel) (by decide +kernel)
theorem cl_X12_195 : Cond.constantLong RX12 195 16922 ∈ g_T := g_inT1 (i := 1514) (by decide +kernel) (by decide +kernel)
theorem cl_X12_457 : Cond.constantLong RX12 457 10 ∈ g_T := g_inT1 (i := 1809) (by decide +kernel) (by decide +kernel)
theorem cl_X12_459 : Cond.constantLong RX12 459 1000000 ∈ g_T := g_inT1 (i := 1810) (by decide +kernel) (by decide +kernel)
theorem cl_X12_468 : Cond.constantLong RX12 468 1103515245 ∈ g_T := g_inT1 (i := 1830) (by decide +kernel) (by decide +kernel)
theorem cl_X12_470 : Cond.constantLong RX12 470 12345 ∈ g_T := g_inT1 (i := 1831) (by decide +kernel) (by decide +kernel)
theorem cl_X12_472 : Cond.constantLong RX12 472 2147483648 ∈ g_T := g_inT1 (i := 1832) (by decide +kernel) (by decide +kernel)
theorem cl_X12_474 : Cond.constantLong RX12 474 65536 ∈ g_T := g_inT1 (i := 1833) (by decide +kernel) (by decide +kernel)
theorem cl_L_19 : Cond.constantLong "StoneReadersLaw" 19 4294967295 ∈ g_T := g_inT1 (i := 1846) (by decide +kernel) (by decide +kernel)
theorem ck_L_8 : Cond.classLink "StoneReadersLaw" 8 RX11 ∈ g_T := g_inT1 (i := 26) (by decide +kernel) (by decide +kernel)
theorem ck_X11_7 : Cond.classLink RX11 7 RX8 ∈ g_T := g_inT1 (i := 34) (by decide +kernel) (by decide +kernel)
theorem ck_X11_16 : Cond.classLink RX11 16 RX2 ∈ g_T := g_inT1 (i := 71) (by decide +kernel) (by decide +kernel)
theorem ck_X2_15 : Cond.classLink RX2 15 RX4 ∈ g_T := g_inT1 (i := 77) (by decide +kernel) (by decide +kernel)
theorem ck_X11_25 : Cond.classLink RX11 25 RX5 ∈ g_T := g_inT1 (i := 94) (by decide +kernel) (by decide +kernel)
theorem ck_X11_32 : Cond.classLink RX11 32 RX1 ∈ g_T := g_inT1 (i := 104) (by decide +kernel) (by decide +kernel)
theorem ck_X1_43 : Cond.classLink RX1 43 RX3 ∈ g_T := g_inT1 (i := 110) (by decide +kernel) (by decide +kernel)
theorem ck_X11_42 : Cond.classLink RX11 42 RX0 ∈ g_T := g_inT1 (i := 201) (by decide +kernel) (by decide +kernel)
theorem ck_X11_52 : Cond.classLink RX11 52 RX10 ∈ g_T := g_inT1 (i := 228) (by decide +kernel) (by decide +kernel)
theorem ck_X11_62 : Cond.classLink RX11 62 RX7 ∈ g_T := g_inT1 (i := 246) (by decide +kernel) (by decide +kernel)
theorem ck_X11_69 : Cond.classLink RX11 69 RX9 ∈ g_T := g_inT1 (i := 264) (by decide +kernel) (by decide +kernel)
theorem ck_X11_83 : Cond.classLink RX11 83 RX6 ∈ g_T := g_inT1 (i := 311) (by decide +kernel) (by decide +kernel)
theorem ck_X6_7 : Cond.classLink RX6 7 RX9 ∈ g_T := g_inT1 (i := 318) (by decide +kernel) (by decide +kernel)
theorem ck_X6_16 : Cond.classLink RX6 16 RX0 ∈ g_T := g_inT1 (i := 320) (by decide +kernel) (by decide +kernel)
theorem ck_X6_23 : Cond.classLink RX6 23 RX10 ∈ g_T := g_inT1 (i := 322) (by decide +kernel) (by decide +kernel)
theorem ck_X6_30 : Cond.classLink RX6 30 RX7 ∈ g_T := g_inT1 (i := 324) (by decide +kernel) (by decide +kernel)
theorem ck_L_16 : Cond.classLink "StoneReadersLaw" 16 RX12 ∈ g_T := g_inT1 (i := 1194) (by decide +kernel) (by decide +kernel)
theorem it_X11 : Cond.instantiable RX11 18 ∈ g_T := g_inT1 (i := 27) (by decide +kernel) (by decide +kernel)
theorem it_X8 : Cond.instantiable RX8 8 ∈ g_T := g_inT1 (i := 35) (by decide +kernel) (by decide +kernel)
theorem it_X2 : Cond.instantiable RX2 2 ∈ g_T := g_inT1 (i := 72) (by decide +kernel) (by decide +kernel)
theorem it_X4 : Cond.instantiable RX4 1 ∈ g_T := g_inT1 (i := 78) (by decide +kernel) (by decide +kernel)
theorem it_X5 : Cond.instantiable RX5 1 ∈ g_T := g_inT1 (i := 95) (by decide +kernel) (by decide +kernel)
theorem it_X1 : Cond.instantiable RX1 14 ∈ g_T := g_inT1 (i := 105) (by decide +kernel) (by decide +kernel)
theorem it_X3 : Cond.instantiable RX3 3 ∈ g_T := g_inT1 (i := 111) (by decide +kernel) (by decide +kernel)
theorem it_X0 : Cond.instantiable RX0 4 ∈ g_T := g_inT1 (i := 202) (by decide +kernel) (by decide +kernel)
theorem it_X10 : Cond.instantiable RX10 2 ∈ g_T := g_inT1 (i := 229) (by decide +kernel) (by decide +kernel)
theorem it_X7 : Cond.instantiable RX7 3 ∈ g_T := g_inT1 (i := 247) (by decide +kernel) (by decide +kernel)
theorem it_X9 : Cond.instantiable RX9 10 ∈ g_T := g_inT1 (i := 265) (by decide +kernel) (by decide +kernel)
theorem it_X6 : Cond.instantiable RX6 5 ∈ g_T := g_inT1 (i := 313) (by decide +kernel) (by decide +kernel)
theorem it_X12 : Cond.instantiable RX12 60 ∈ g_T := g_inT1 (i := 1195) (by decide +kernel) (by decide +kernel)
