abbrev mX0_init : gMD := (yX0_init, cX0_init, 1, none, none)
abbrev mX0_copyFrom : gMD := (yX0_copyFrom, cX0_copyFrom, 2, none, none)
abbrev mX1_init : gMD := (yX1_init, cX1_init, 1, none, none)
abbrev mX1_forget : gMD := (yX1_forget, cX1_forget, 1, none, none)
abbrev mX1_mouthNamed : gMD := (yX1_mouthNamed, cX1_mouthNamed, 4, (some .int), none)
abbrev mX1_letterNamed : gMD := (yX1_letterNamed, cX1_letterNamed, 4, (some .int), none)
abbrev mX1_isTold : gMD := (yX1_isTold, cX1_isTold, 3, (some .boolean), none)
abbrev mX1_letterOf : gMD := (yX1_letterOf, cX1_letterOf, 3, (some .int), none)
abbrev mX1_readOf : gMD := (yX1_readOf, cX1_readOf, 3, (some .int), none)
abbrev mX1_rainOf : gMD := (yX1_rainOf, cX1_rainOf, 2, (some .int), none)
abbrev mX1_nests : gMD := (yX1_nests, cX1_nests, 3, (some .int), none)
abbrev mX1_mostSpouted : gMD := (yX1_mostSpouted, cX1_mostSpouted, 2, (some .int), none)
abbrev mX1_below : gMD := (yX1_below, cX1_below, 5, (some .int), none)
abbrev mX1_putInOrder : gMD := (yX1_putInOrder, cX1_putInOrder, 3, none, none)
abbrev mX2_init : gMD := (yX2_init, cX2_init, 2, none, none)
abbrev mX2_readFront : gMD := (yX2_readFront, cX2_readFront, 4, (some .int), none)
abbrev mX2_readLine : gMD := (yX2_readLine, cX2_readLine, 2, (some .boolean), none)
abbrev mX2_readMouth : gMD := (yX2_readMouth, cX2_readMouth, 3, (some .boolean), none)
abbrev mX2_isNewName : gMD := (yX2_isNewName, cX2_isNewName, 2, (some .boolean), none)
abbrev mX2_kindHere : gMD := (yX2_kindHere, cX2_kindHere, 1, (some .int), none)
abbrev mX2_readMeasure : gMD := (yX2_readMeasure, cX2_readMeasure, 4, (some .int), none)
abbrev mX2_readGutter : gMD := (yX2_readGutter, cX2_readGutter, 4, (some .boolean), none)
abbrev mX2_readLetterNamed : gMD := (yX2_readLetterNamed, cX2_readLetterNamed, 3, (some .boolean), none)
abbrev mX2_readLetterMouths : gMD := (yX2_readLetterMouths, cX2_readLetterMouths, 5, (some .boolean), none)
abbrev mX2_readRain : gMD := (yX2_readRain, cX2_readRain, 3, (some .boolean), none)
abbrev mX3_init : gMD := (yX3_init, cX3_init, 1, none, none)
abbrev mX3_add : gMD := (yX3_add, cX3_add, 2, none, none)
abbrev mX3_valueFor : gMD := (yX3_valueFor, cX3_valueFor, 8, (some .int), none)
abbrev mX3_fact : gMD := (yX3_fact, cX3_fact, 5, (some .int), none)
abbrev mX3_join : gMD := (yX3_join, cX3_join, 3, (some .int), none)
abbrev mX4_init : gMD := (yX4_init, cX4_init, 2, none, none)
abbrev mX4_readLevel : gMD := (yX4_readLevel, cX4_readLevel, 7, (some .boolean), none)
abbrev mX4_readPart : gMD := (yX4_readPart, cX4_readPart, 7, (some .boolean), none)
abbrev mX4_factHere : gMD := (yX4_factHere, cX4_factHere, 1, (some .int), none)
abbrev mX4_joinHere : gMD := (yX4_joinHere, cX4_joinHere, 2, (some .int), none)
abbrev mX5_init : gMD := (yX5_init, cX5_init, 2, none, none)
abbrev mX5_readDay : gMD := (yX5_readDay, cX5_readDay, 5, (some .int), none)
abbrev mX5_readLine : gMD := (yX5_readLine, cX5_readLine, 6, (some .boolean), none)
abbrev mX5_actHere : gMD := (yX5_actHere, cX5_actHere, 1, (some .int), none)
abbrev mX5_readWord : gMD := (yX5_readWord, cX5_readWord, 5, (some .int), none)
abbrev mX5_readLetterName : gMD := (yX5_readLetterName, cX5_readLetterName, 4, (some .boolean), none)
abbrev mX6_init : gMD := (yX6_init, cX6_init, 1, none, none)
abbrev mX7_init : gMD := (yX7_init, cX7_init, 1, none, none)
abbrev mX7_add : gMD := (yX7_add, cX7_add, 3, (some .boolean), none)
abbrev mX7_agreesWith : gMD := (yX7_agreesWith, cX7_agreesWith, 4, (some .boolean), none)
abbrev mX7_copyFrom : gMD := (yX7_copyFrom, cX7_copyFrom, 3, none, none)
abbrev mX8_init : gMD := (yX8_init, cX8_init, 1, none, none)
abbrev mX8_addBytes : gMD := (yX8_addBytes, cX8_addBytes, 6, none, none)
abbrev mX8_open : gMD := (yX8_open, cX8_open, 1, none, none)
abbrev mX8_close : gMD := (yX8_close, cX8_close, 1, (some .int), none)
abbrev mX8_fail : gMD := (yX8_fail, cX8_fail, 2, (some .boolean), none)
abbrev mX8_advance : gMD := (yX8_advance, cX8_advance, 3, none, none)
abbrev mX8_scanWord : gMD := (yX8_scanWord, cX8_scanWord, 1, none, none)
abbrev mX8_scanNumber : gMD := (yX8_scanNumber, cX8_scanNumber, 1, none, none)
abbrev mX8_isEnd : gMD := (yX8_isEnd, cX8_isEnd, 1, (some .boolean), none)
abbrev mX8_isNumber : gMD := (yX8_isNumber, cX8_isNumber, 1, (some .boolean), none)
abbrev mX8_isSign : gMD := (yX8_isSign, cX8_isSign, 2, (some .boolean), none)
abbrev mX8_isWord : gMD := (yX8_isWord, cX8_isWord, 3, (some .boolean), none)
abbrev mX8_isName : gMD := (yX8_isName, cX8_isName, 1, (some .boolean), none)
abbrev mX8_takeWord : gMD := (yX8_takeWord, cX8_takeWord, 2, (some .boolean), none)
abbrev mX8_takeSign : gMD := (yX8_takeSign, cX8_takeSign, 2, (some .boolean), none)
abbrev mX8_takeNumber : gMD := (yX8_takeNumber, cX8_takeNumber, 4, (some .int), none)
abbrev mX8_mouthHere : gMD := (yX8_mouthHere, cX8_mouthHere, 3, (some .int), none)
abbrev mX9_init : gMD := (yX9_init, cX9_init, 1, none, none)
abbrev mX9_begin : gMD := (yX9_begin, cX9_begin, 3, none, none)
abbrev mX9_copyFrom : gMD := (yX9_copyFrom, cX9_copyFrom, 2, none, none)
abbrev mX9_isStopped : gMD := (yX9_isStopped, cX9_isStopped, 2, (some .boolean), none)
abbrev mX9_ranOver : gMD := (yX9_ranOver, cX9_ranOver, 2, (some .boolean), none)
abbrev mX9_addWater : gMD := (yX9_addWater, cX9_addWater, 3, none, none)
abbrev mX9_stopMouth : gMD := (yX9_stopMouth, cX9_stopMouth, 3, (some .boolean), none)
abbrev mX9_clearMouth : gMD := (yX9_clearMouth, cX9_clearMouth, 3, (some .boolean), none)
abbrev mX9_passMinute : gMD := (yX9_passMinute, cX9_passMinute, 4, (some .int), none)
abbrev mX9_runOver : gMD := (yX9_runOver, cX9_runOver, 5, none, none)
abbrev mX9_spout : gMD := (yX9_spout, cX9_spout, 3, none, none)
abbrev mX9_soundingNow : gMD := (yX9_soundingNow, cX9_soundingNow, 5, (some .int), none)
abbrev mX9_allWater : gMD := (yX9_allWater, cX9_allWater, 4, (some .int), none)
abbrev mX9_flowsUnlike : gMD := (yX9_flowsUnlike, cX9_flowsUnlike, 5, (some .int), none)
abbrev mX9_signsLike : gMD := (yX9_signsLike, cX9_signsLike, 4, (some .int), none)
abbrev mX9_placeOf : gMD := (yX9_placeOf, cX9_placeOf, 3, (some .int), none)
abbrev mX9_placesFor : gMD := (yX9_placesFor, cX9_placesFor, 4, (some .int), none)
abbrev mX9_fitsAt : gMD := (yX9_fitsAt, cX9_fitsAt, 7, (some .boolean), none)
abbrev mX10_init : gMD := (yX10_init, cX10_init, 1, none, none)
abbrev mX10_copyFrom : gMD := (yX10_copyFrom, cX10_copyFrom, 2, none, none)
abbrev mX11_init : gMD := (yX11_init, cX11_init, 2, none, none)
abbrev mX11_feed : gMD := (yX11_feed, cX11_feed, 7, (some .int), none)
abbrev mX11_front : gMD := (yX11_front, cX11_front, 3, (some .int), none)
abbrev mX11_day : gMD := (yX11_day, cX11_day, 3, (some .int), none)
abbrev mX11_word : gMD := (yX11_word, cX11_word, 3, (some .int), none)
abbrev mX11_mouth : gMD := (yX11_mouth, cX11_mouth, 3, (some .int), none)
abbrev mX11_letter : gMD := (yX11_letter, cX11_letter, 2, (some .int), none)
abbrev mX11_slate : gMD := (yX11_slate, cX11_slate, 2, (some .int), none)
abbrev mX11_minute : gMD := (yX11_minute, cX11_minute, 1, (some .int), none)
abbrev mX11_pour : gMD := (yX11_pour, cX11_pour, 3, (some .int), none)
abbrev mX11_stop : gMD := (yX11_stop, cX11_stop, 2, (some .boolean), none)
abbrev mX11_clear : gMD := (yX11_clear, cX11_clear, 2, (some .boolean), none)
abbrev mX11_undo : gMD := (yX11_undo, cX11_undo, 1, (some .boolean), none)
abbrev mX11_judged : gMD := (yX11_judged, cX11_judged, 6, (some .int), none)
abbrev mX11_later : gMD := (yX11_later, cX11_later, 4, (some .int), none)
abbrev mX11_reads : gMD := (yX11_reads, cX11_reads, 3, (some .int), none)
abbrev mX11_when : gMD := (yX11_when, cX11_when, 3, (some .int), none)
abbrev mX11_dry : gMD := (yX11_dry, cX11_dry, 2, (some .int), none)
abbrev mX11_spill : gMD := (yX11_spill, cX11_spill, 4, (some .int), none)
abbrev mX11_over : gMD := (yX11_over, cX11_over, 3, (some .int), none)
abbrev mX11_first : gMD := (yX11_first, cX11_first, 3, (some .int), none)
abbrev mX11_great : gMD := (yX11_great, cX11_great, 4, (some .int), none)
abbrev mX11_twins : gMD := (yX11_twins, cX11_twins, 5, (some .int), none)
abbrev mX11_down : gMD := (yX11_down, cX11_down, 2, (some .int), none)
abbrev mX11_up : gMD := (yX11_up, cX11_up, 4, (some .int), none)
abbrev mX11_chain : gMD := (yX11_chain, cX11_chain, 3, (some .int), none)
abbrev mX11_sounds : gMD := (yX11_sounds, cX11_sounds, 1, (some .int), none)
abbrev mX11_last : gMD := (yX11_last, cX11_last, 1, (some .int), none)
abbrev mX11_often : gMD := (yX11_often, cX11_often, 2, (some .int), none)
abbrev mX11_run : gMD := (yX11_run, cX11_run, 5, (some .int), none)
abbrev mX11_stands : gMD := (yX11_stands, cX11_stands, 1, (some .int), none)
abbrev mX11_maybe : gMD := (yX11_maybe, cX11_maybe, 1, (some .int), none)
abbrev mX11_entire : gMD := (yX11_entire, cX11_entire, 2, (some .int), none)
abbrev mX11_aim : gMD := (yX11_aim, cX11_aim, 5, (some .int), none)
abbrev mX11_hush : gMD := (yX11_hush, cX11_hush, 6, (some .int), none)
abbrev mX11_see : gMD := (yX11_see, cX11_see, 3, (some .boolean), none)
abbrev mX11_rains : gMD := (yX11_rains, cX11_rains, 3, (some .int), none)
abbrev mX11_look : gMD := (yX11_look, cX11_look, 6, (some .int), none)
abbrev mX11_chance : gMD := (yX11_chance, cX11_chance, 9, (some .int), none)
abbrev mX11_rests : gMD := (yX11_rests, cX11_rests, 7, (some .int), none)
abbrev mX11_days : gMD := (yX11_days, cX11_days, 9, (some .int), none)
abbrev mX11_mark : gMD := (yX11_mark, cX11_mark, 4, (some .boolean), none)
abbrev mX11_count : gMD := (yX11_count, cX11_count, 2, (some .int), none)
abbrev mX11_isMouth : gMD := (yX11_isMouth, cX11_isMouth, 2, (some .boolean), none)
abbrev mX11_isLetter : gMD := (yX11_isLetter, cX11_isLetter, 2, (some .boolean), none)
abbrev mX11_isAhead : gMD := (yX11_isAhead, cX11_isAhead, 1, (some .boolean), none)
abbrev mX11_isDigit : gMD := (yX11_isDigit, cX11_isDigit, 1, (some .boolean), none)
abbrev mX11_beginAnew : gMD := (yX11_beginAnew, cX11_beginAnew, 2, none, none)
abbrev mX11_keepPast : gMD := (yX11_keepPast, cX11_keepPast, 1, none, none)
abbrev mX11_passTrialMinute : gMD := (yX11_passTrialMinute, cX11_passTrialMinute, 1, (some .int), none)
abbrev mX11_doLine : gMD := (yX11_doLine, cX11_doLine, 3, (some .int), none)
abbrev mX11_isReadWith : gMD := (yX11_isReadWith, cX11_isReadWith, 4, (some .boolean), none)
abbrev mX11_isReadTurned : gMD := (yX11_isReadTurned, cX11_isReadTurned, 3, (some .boolean), none)
abbrev mX11_soundingIn : gMD := (yX11_soundingIn, cX11_soundingIn, 2, (some .int), none)
abbrev mX11_isReadInOddRain : gMD := (yX11_isReadInOddRain, cX11_isReadInOddRain, 5, (some .boolean), none)
abbrev mX11_weightOf : gMD := (yX11_weightOf, cX11_weightOf, 5, (some .int), none)
abbrev mX11_isRest : gMD := (yX11_isRest, cX11_isRest, 8, (some .boolean), none)
abbrev mX11_gain : gMD := (yX11_gain, cX11_gain, 5, (some .int), none)
abbrev mX11_doDrawn : gMD := (yX11_doDrawn, cX11_doDrawn, 3, none, none)
abbrev mX11_draw : gMD := (yX11_draw, cX11_draw, 3, (some .int), none)
abbrev mX11_emptyRow : gMD := (yX11_emptyRow, cX11_emptyRow, 2, none, none)
abbrev mX11_addBitsToRow : gMD := (yX11_addBitsToRow, cX11_addBitsToRow, 3, none, none)
abbrev mX11_greatestOfRow : gMD := (yX11_greatestOfRow, cX11_greatestOfRow, 4, (some .int), none)
abbrev mX12_init : gMD := (yX12_init, cX12_init, 1, none, none)
abbrev mX12_thrown : gMD := (yX12_thrown, cX12_thrown, 1, (some .int), none)
abbrev mX12_within : gMD := (yX12_within, cX12_within, 3, (some .boolean), none)
abbrev mX12_bits : gMD := (yX12_bits, cX12_bits, 3, (some .int), none)
abbrev mX12_feed : gMD := (yX12_feed, cX12_feed, 11, (some .int), none)
abbrev mX12_signAt : gMD := (yX12_signAt, cX12_signAt, 2, (some .int), none)
abbrev mX12_nextToken : gMD := (yX12_nextToken, cX12_nextToken, 2, none, none)
abbrev mX12_isWord : gMD := (yX12_isWord, cX12_isWord, 3, (some .boolean), none)
abbrev mX12_isSign : gMD := (yX12_isSign, cX12_isSign, 2, (some .boolean), none)
abbrev mX12_fails : gMD := (yX12_fails, cX12_fails, 2, (some .boolean), none)
abbrev mX12_puts : gMD := (yX12_puts, cX12_puts, 2, none, none)
abbrev mX12_fact : gMD := (yX12_fact, cX12_fact, 1, (some .int), none)
abbrev mX12_readsLaw : gMD := (yX12_readsLaw, cX12_readsLaw, 6, (some .boolean), none)
abbrev mX12_opens : gMD := (yX12_opens, cX12_opens, 2, none, none)
abbrev mX12_sums : gMD := (yX12_sums, cX12_sums, 2, none, none)
abbrev mX12_tests : gMD := (yX12_tests, cX12_tests, 3, none, none)
abbrev mX12_worked : gMD := (yX12_worked, cX12_worked, 6, (some .int), none)
abbrev mX12_isKept : gMD := (yX12_isKept, cX12_isKept, 1, (some .boolean), none)
abbrev mX12_mouthNamed : gMD := (yX12_mouthNamed, cX12_mouthNamed, 3, (some .int), none)
abbrev mX12_letterNamed : gMD := (yX12_letterNamed, cX12_letterNamed, 3, (some .int), none)
abbrev mX12_needsNumber : gMD := (yX12_needsNumber, cX12_needsNumber, 3, (some .boolean), none)
abbrev mX12_needsBoth : gMD := (yX12_needsBoth, cX12_needsBoth, 5, (some .boolean), none)
abbrev mX12_closes : gMD := (yX12_closes, cX12_closes, 1, (some .boolean), none)
abbrev mX12_needsNew : gMD := (yX12_needsNew, cX12_needsNew, 1, (some .boolean), none)
abbrev mX12_needsMouth : gMD := (yX12_needsMouth, cX12_needsMouth, 2, (some .boolean), none)
abbrev mX12_readsMouth : gMD := (yX12_readsMouth, cX12_readsMouth, 2, (some .boolean), none)
abbrev mX12_readsGutter : gMD := (yX12_readsGutter, cX12_readsGutter, 2, (some .boolean), none)
abbrev mX12_readsLetter : gMD := (yX12_readsLetter, cX12_readsLetter, 4, (some .boolean), none)
abbrev mX12_readsRain : gMD := (yX12_readsRain, cX12_readsRain, 1, (some .boolean), none)
abbrev mX12_readsSounds : gMD := (yX12_readsSounds, cX12_readsSounds, 1, (some .boolean), none)
abbrev mX12_begins : gMD := (yX12_begins, cX12_begins, 1, none, none)
abbrev mX12_readsAll : gMD := (yX12_readsAll, cX12_readsAll, 2, (some .boolean), none)
abbrev mX12_shifts : gMD := (yX12_shifts, cX12_shifts, 3, none, none)
abbrev mX12_shiftsNames : gMD := (yX12_shiftsNames, cX12_shiftsNames, 3, none, none)
abbrev mX12_lays : gMD := (yX12_lays, cX12_lays, 1, none, none)
abbrev mX12_copies : gMD := (yX12_copies, cX12_copies, 5, none, none)
abbrev mX12_readsLine : gMD := (yX12_readsLine, cX12_readsLine, 3, (some .boolean), none)
abbrev mX12_laysLines : gMD := (yX12_laysLines, cX12_laysLines, 4, none, none)
abbrev mX12_laysWord : gMD := (yX12_laysWord, cX12_laysWord, 4, none, none)
abbrev mX12_laysSeen : gMD := (yX12_laysSeen, cX12_laysSeen, 4, none, none)
abbrev mX12_laysOrder : gMD := (yX12_laysOrder, cX12_laysOrder, 4, none, none)
abbrev mX12_fresh0 : gMD := (yX12_fresh0, cX12_fresh0, 2, none, none)
abbrev mX12_front : gMD := (yX12_front, cX12_front, 2, (some .int), none)
abbrev mX12_day : gMD := (yX12_day, cX12_day, 1, (some .int), none)
abbrev mX12_readsWord : gMD := (yX12_readsWord, cX12_readsWord, 2, (some .boolean), none)
abbrev mX12_word : gMD := (yX12_word, cX12_word, 1, (some .int), none)
abbrev mX12_isMouth : gMD := (yX12_isMouth, cX12_isMouth, 2, (some .boolean), none)
abbrev mX12_isLetter0 : gMD := (yX12_isLetter0, cX12_isLetter0, 2, (some .boolean), none)
abbrev mX12_isStopped : gMD := (yX12_isStopped, cX12_isStopped, 2, (some .boolean), none)
abbrev mX12_every : gMD := (yX12_every, cX12_every, 1, (some .int), none)
abbrev mX12_rainOf : gMD := (yX12_rainOf, cX12_rainOf, 2, (some .int), none)
abbrev mX12_spoutOf : gMD := (yX12_spoutOf, cX12_spoutOf, 2, (some .int), none)
abbrev mX12_isSounding : gMD := (yX12_isSounding, cX12_isSounding, 3, (some .boolean), none)
abbrev mX12_runsOver : gMD := (yX12_runsOver, cX12_runsOver, 3, none, none)
abbrev mX12_readBy : gMD := (yX12_readBy, cX12_readBy, 3, (some .int), none)
abbrev mX12_passes : gMD := (yX12_passes, cX12_passes, 5, (some .int), none)
abbrev mX12_passesAsTold : gMD := (yX12_passesAsTold, cX12_passesAsTold, 1, (some .int), none)
abbrev mX12_mouth : gMD := (yX12_mouth, cX12_mouth, 3, (some .int), none)
abbrev mX12_letter : gMD := (yX12_letter, cX12_letter, 2, (some .int), none)
abbrev mX12_slate : gMD := (yX12_slate, cX12_slate, 2, (some .int), none)
abbrev mX12_keeps : gMD := (yX12_keeps, cX12_keeps, 2, none, none)
abbrev mX12_minute : gMD := (yX12_minute, cX12_minute, 1, (some .int), none)
abbrev mX12_pours : gMD := (yX12_pours, cX12_pours, 3, none, none)
abbrev mX12_pour : gMD := (yX12_pour, cX12_pour, 3, (some .int), none)
abbrev mX12_stop : gMD := (yX12_stop, cX12_stop, 2, (some .boolean), none)
abbrev mX12_clear : gMD := (yX12_clear, cX12_clear, 2, (some .boolean), none)
abbrev mX12_undo : gMD := (yX12_undo, cX12_undo, 1, (some .boolean), none)
abbrev mX12_holesNow : gMD := (yX12_holesNow, cX12_holesNow, 3, (some .int), none)
abbrev mX12_judged : gMD := (yX12_judged, cX12_judged, 6, (some .int), none)
abbrev mX12_later : gMD := (yX12_later, cX12_later, 4, (some .int), none)
abbrev mX12_reads : gMD := (yX12_reads, cX12_reads, 4, (some .int), none)
abbrev mX12_when : gMD := (yX12_when, cX12_when, 3, (some .int), none)
abbrev mX12_allStands : gMD := (yX12_allStands, cX12_allStands, 3, (some .int), none)
abbrev mX12_dry : gMD := (yX12_dry, cX12_dry, 2, (some .int), none)
abbrev mX12_spill : gMD := (yX12_spill, cX12_spill, 4, (some .int), none)
abbrev mX12_overOf : gMD := (yX12_overOf, cX12_overOf, 4, (some .int), none)
abbrev mX12_over : gMD := (yX12_over, cX12_over, 2, (some .int), none)
abbrev mX12_lowest : gMD := (yX12_lowest, cX12_lowest, 2, (some .int), none)
abbrev mX12_first : gMD := (yX12_first, cX12_first, 1, (some .int), none)
abbrev mX12_great : gMD := (yX12_great, cX12_great, 4, (some .int), none)
abbrev mX12_twins : gMD := (yX12_twins, cX12_twins, 5, (some .int), none)
abbrev mX12_downOf : gMD := (yX12_downOf, cX12_downOf, 4, (some .int), none)
abbrev mX12_down : gMD := (yX12_down, cX12_down, 2, (some .int), none)
abbrev mX12_up : gMD := (yX12_up, cX12_up, 4, (some .int), none)
abbrev mX12_chain : gMD := (yX12_chain, cX12_chain, 3, (some .int), none)
abbrev mX12_sounds : gMD := (yX12_sounds, cX12_sounds, 1, (some .int), none)
abbrev mX12_last : gMD := (yX12_last, cX12_last, 1, (some .int), none)
abbrev mX12_often : gMD := (yX12_often, cX12_often, 6, (some .int), none)
abbrev mX12_run : gMD := (yX12_run, cX12_run, 4, (some .int), none)
abbrev mX12_standsAt : gMD := (yX12_standsAt, cX12_standsAt, 4, (some .boolean), none)
abbrev mX12_standsFrom : gMD := (yX12_standsFrom, cX12_standsFrom, 2, (some .int), none)
abbrev mX12_stands : gMD := (yX12_stands, cX12_stands, 1, (some .int), none)
abbrev mX12_maybe : gMD := (yX12_maybe, cX12_maybe, 3, (some .int), none)
abbrev mX12_entire : gMD := (yX12_entire, cX12_entire, 2, (some .int), none)
abbrev mX12_aimOf : gMD := (yX12_aimOf, cX12_aimOf, 5, (some .int), none)
abbrev mX12_aim : gMD := (yX12_aim, cX12_aim, 5, (some .int), none)
abbrev mX12_hush : gMD := (yX12_hush, cX12_hush, 4, (some .int), none)
abbrev mX12_laysSounds : gMD := (yX12_laysSounds, cX12_laysSounds, 2, none, none)
abbrev mX12_see : gMD := (yX12_see, cX12_see, 3, (some .boolean), none)
abbrev mX12_isAsSeen : gMD := (yX12_isAsSeen, cX12_isAsSeen, 3, (some .boolean), none)
abbrev mX12_rains : gMD := (yX12_rains, cX12_rains, 3, (some .int), none)
abbrev mX12_look : gMD := (yX12_look, cX12_look, 8, (some .int), none)
abbrev mX12_chance : gMD := (yX12_chance, cX12_chance, 14, (some .int), none)
abbrev mX12_getsBy : gMD := (yX12_getsBy, cX12_getsBy, 5, (some .int), none)
abbrev mX12_rests : gMD := (yX12_rests, cX12_rests, 9, (some .int), none)
abbrev mX12_draws : gMD := (yX12_draws, cX12_draws, 2, (some .int), none)
abbrev mX12_livesMinute : gMD := (yX12_livesMinute, cX12_livesMinute, 3, (some .int), none)
abbrev mX12_days : gMD := (yX12_days, cX12_days, 8, (some .int), none)
abbrev mX12_mark : gMD := (yX12_mark, cX12_mark, 5, (some .boolean), none)
abbrev mX12_count : gMD := (yX12_count, cX12_count, 2, (some .int), none)
abbrev mJ11_isValidCodePoint_9a6ad : gMD := (yJ11_isValidCodePoint_9a6ad, cJ11_isValidCodePoint_9a6ad, 2, (some .boolean), none)
abbrev mJ11_highSurrogate_5068e : gMD := (yJ11_highSurrogate_5068e, cJ11_highSurrogate_5068e, 1, (some .char), none)
abbrev mJ11_lowSurrogate_5068e : gMD := (yJ11_lowSurrogate_5068e, cJ11_lowSurrogate_5068e, 1, (some .char), none)
abbrev mJ6_bitCount_0f7a4 : gMD := (yJ6_bitCount_0f7a4, cJ6_bitCount_0f7a4, 1, (some .int), none)
abbrev mJ9_max_7cf53 : gMD := (yJ9_max_7cf53, cJ9_max_7cf53, 2, (some .int), none)
abbrev mJ9_min_7cf53 : gMD := (yJ9_min_7cf53, cJ9_min_7cf53, 2, (some .int), none)
abbrev mJ0_length_8abf5 : gMD := (yJ0_length_8abf5, cJ0_length_8abf5, 1, (some .int), none)
abbrev mJ0_charAt_5068e : gMD := (yJ0_charAt_5068e, cJ0_charAt_5068e, 2, (some .char), none)
abbrev mJ0_indexOf_0f7a4 : gMD := (yJ0_indexOf_0f7a4, cJ0_indexOf_0f7a4, 2, (some .int), none)
abbrev mJ0_indexOf_7cf53 : gMD := (yJ0_indexOf_7cf53, cJ0_indexOf_7cf53, 3, (some .int), none)
abbrev mJ0_coder_7d493 : gMD := (yJ0_coder_7d493, cJ0_coder_7d493, 1, (some .byte), none)
abbrev mJ0_isLatin1_aae02 : gMD := (yJ0_isLatin1_aae02, cJ0_isLatin1_aae02, 1, (some .boolean), none)
abbrev mJ0_checkIndex_df160 : gMD := (yJ0_checkIndex_df160, cJ0_checkIndex_df160, 2, none, none)
abbrev mJ0_checkBoundsBeginEnd_23922 : gMD := (yJ0_checkBoundsBeginEnd_23922, cJ0_checkBoundsBeginEnd_23922, 3, none, none)
abbrev mJ1_charAt_3b067 : gMD := (yJ1_charAt_3b067, cJ1_charAt_3b067, 2, (some .char), none)
abbrev mJ1_canEncode_9a6ad : gMD := (yJ1_canEncode_9a6ad, cJ1_canEncode_9a6ad, 1, (some .boolean), none)
abbrev mJ1_indexOf_4cfef : gMD := (yJ1_indexOf_4cfef, cJ1_indexOf_4cfef, 4, (some .int), none)
abbrev mJ1_indexOfChar_4cfef : gMD := (yJ1_indexOfChar_4cfef, cJ1_indexOfChar_4cfef, 6, (some .int), none)
abbrev mJ2_getChar_3b067 : gMD := (yJ2_getChar_3b067, cJ2_getChar_3b067, 2, (some .char), none)
abbrev mJ2_length_9d52b : gMD := (yJ2_length_9d52b, cJ2_length_9d52b, 1, (some .int), none)
abbrev mJ2_indexOf_4cfef : gMD := (yJ2_indexOf_4cfef, cJ2_indexOf_4cfef, 4, (some .int), none)
abbrev mJ2_indexOfChar_4cfef : gMD := (yJ2_indexOfChar_4cfef, cJ2_indexOfChar_4cfef, 4, (some .int), none)
abbrev mJ2_indexOfCharUnsafe_4cfef : gMD := (yJ2_indexOfCharUnsafe_4cfef, cJ2_indexOfCharUnsafe_4cfef, 5, (some .int), none)
abbrev mJ2_indexOfSupplementary_4cfef : gMD := (yJ2_indexOfSupplementary_4cfef, cJ2_indexOfSupplementary_4cfef, 7, (some .int), none)
abbrev mJ2_charAt_3b067 : gMD := (yJ2_charAt_3b067, cJ2_charAt_3b067, 2, (some .char), none)
abbrev mJ2_checkIndex_2214a : gMD := (yJ2_checkIndex_2214a, cJ2_checkIndex_2214a, 2, none, none)
abbrev mJ2_checkBoundsBeginEnd_d044e : gMD := (yJ2_checkBoundsBeginEnd_d044e, cJ2_checkBoundsBeginEnd_d044e, 3, none, none)
abbrev mJ3_checkIndex_8e157 : gMD := (yJ3_checkIndex_8e157, cJ3_checkIndex_8e157, 3, (some .int), none)
abbrev mJ3_checkFromToIndex_8c36e : gMD := (yJ3_checkFromToIndex_8c36e, cJ3_checkFromToIndex_8c36e, 4, (some .int), none)
abbrev mL_law (S : Nat × (Nat → Int32)) : gMD := (x, code, 7, some .boolean, some S)
theorem mi_X0_init : Cond.instanceMethod yX0_init ∈ g_T := g_inT1 (i := 204) (by decide +kernel) (by decide +kernel)
theorem mc_X0_init : Cond.code yX0_init cX0_init 1 none ∈ g_T := g_inT1 (i := 205) (by decide +kernel) (by decide +kernel)
theorem mp_X0_init : (mX0_init).1.cls ≠ "java/lang/invoke/MethodHandle" ∧ (mX0_init).1.cls ≠ "java/lang/invoke/VarHandle" ∧ (parseMethodDescriptor (mX0_init).1.desc).map (fun d => d.parameters.length) = some 0 := by decide +kernel
theorem mi_X0_copyFrom : Cond.instanceMethod yX0_copyFrom ∈ g_T := g_inT1 (i := 1099) (by decide +kernel) (by decide +kernel)
theorem me_X0_copyFrom : Cond.selects RX0 yX0_copyFrom yX0_copyFrom ∈ g_T := g_inT1 (i := 1100) (by decide +kernel) (by decide +kernel)
theorem mc_X0_copyFrom : Cond.code yX0_copyFrom cX0_copyFrom 2 none ∈ g_T := g_inT1 (i := 1101) (by decide +kernel) (by decide +kernel)
theorem mp_X0_copyFrom : (mX0_copyFrom).1.cls ≠ "java/lang/invoke/MethodHandle" ∧ (mX0_copyFrom).1.cls ≠ "java/lang/invoke/VarHandle" ∧ (parseMethodDescriptor (mX0_copyFrom).1.desc).map (fun d => d.parameters.length) = some 1 := by decide +kernel
theorem mi_X1_init : Cond.instanceMethod yX1_init ∈ g_T := g_inT1 (i := 107) (by decide +kernel) (by decide +kernel)
theorem mc_X1_init : Cond.code yX1_init cX1_init 1 none ∈ g_T := g_inT1 (i := 108) (by decide +kernel) (by decide +kernel)
theorem mp_X1_init : (mX1_init).1.cls ≠ "java/lang/invoke/MethodHandle" ∧ (mX1_init).1.cls ≠ "java/lang/invoke/VarHandle" ∧ (parseMethodDescriptor (mX1_init).1.desc).map (fun d => d.parameters.length) = some 0 := by decide +kernel
theorem mi_X1_forget : Cond.instanceMethod yX1_forget ∈ g_T := g_inT1 (i := 419) (by decide +kernel) (by decide +kernel)
theorem me_X1_forget : Cond.selects RX1 yX1_forget yX1_forget ∈ g_T := g_inT1 (i := 420) (by decide +kernel) (by decide +kernel)
theorem mc_X1_forget : Cond.code yX1_forget cX1_forget 1 none ∈ g_T := g_inT1 (i := 421) (by decide +kernel) (by decide +kernel)
theorem mp_X1_forget : (mX1_forget).1.cls ≠ "java/lang/invoke/MethodHandle" ∧ (mX1_forget).1.cls ≠ "java/lang/invoke/VarHandle" ∧ (parseMethodDescriptor (mX1_forget).1.desc).map (fun d => d.parameters.length) = some 0 := by decide +kernel
theorem mi_X1_mouthNamed : Cond.instanceMethod yX1_mouthNamed ∈ g_T := g_inT1 (i := 603) (by decide +kernel) (by decide +kernel)
theorem me_X1_mouthNamed : Cond.selects RX1 yX1_mouthNamed yX1_mouthNamed ∈ g_T := g_inT1 (i := 604) (by decide +kernel) (by decide +kernel)
theorem mc_X1_mouthNamed : Cond.code yX1_mouthNamed cX1_mouthNamed 4 (some .int) ∈ g_T := g_inT1 (i := 605) (by decide +kernel) (by decide +kernel)
theorem mp_X1_mouthNamed : (mX1_mouthNamed).1.cls ≠ "java/lang/invoke/MethodHandle" ∧ (mX1_mouthNamed).1.cls ≠ "java/lang/invoke/VarHandle" ∧ (parseMethodDescriptor (mX1_mouthNamed).1.desc).map (fun d => d.parameters.length) = some 1 := by decide +kernel
theorem mi_X1_letterNamed : Cond.instanceMethod yX1_letterNamed ∈ g_T := g_inT1 (i := 607) (by decide +kernel) (by decide +kernel)
theorem me_X1_letterNamed : Cond.selects RX1 yX1_letterNamed yX1_letterNamed ∈ g_T := g_inT1 (i := 608) (by decide +kernel) (by decide +kernel)
theorem mc_X1_letterNamed : Cond.code yX1_letterNamed cX1_letterNamed 4 (some .int) ∈ g_T := g_inT1 (i := 609) (by decide +kernel) (by decide +kernel)
theorem mp_X1_letterNamed : (mX1_letterNamed).1.cls ≠ "java/lang/invoke/MethodHandle" ∧ (mX1_letterNamed).1.cls ≠ "java/lang/invoke/VarHandle" ∧ (parseMethodDescriptor (mX1_letterNamed).1.desc).map (fun d => d.parameters.length) = some 1 := by decide +kernel
theorem mi_X1_isTold : Cond.instanceMethod yX1_isTold ∈ g_T := g_inT1 (i := 599) (by decide +kernel) (by decide +kernel)
theorem me_X1_isTold : Cond.selects RX1 yX1_isTold yX1_isTold ∈ g_T := g_inT1 (i := 600) (by decide +kernel) (by decide +kernel)
theorem mc_X1_isTold : Cond.code yX1_isTold cX1_isTold 3 (some .boolean) ∈ g_T := g_inT1 (i := 601) (by decide +kernel) (by decide +kernel)
theorem mp_X1_isTold : (mX1_isTold).1.cls ≠ "java/lang/invoke/MethodHandle" ∧ (mX1_isTold).1.cls ≠ "java/lang/invoke/VarHandle" ∧ (parseMethodDescriptor (mX1_isTold).1.desc).map (fun d => d.parameters.length) = some 1 := by decide +kernel
theorem mi_X1_letterOf : Cond.instanceMethod yX1_letterOf ∈ g_T := g_inT1 (i := 664) (by decide +kernel) (by decide +kernel)
theorem me_X1_letterOf : Cond.selects RX1 yX1_letterOf yX1_letterOf ∈ g_T := g_inT1 (i := 665) (by decide +kernel) (by decide +kernel)
theorem mc_X1_letterOf : Cond.code yX1_letterOf cX1_letterOf 3 (some .int) ∈ g_T := g_inT1 (i := 666) (by decide +kernel) (by decide +kernel)
theorem mp_X1_letterOf : (mX1_letterOf).1.cls ≠ "java/lang/invoke/MethodHandle" ∧ (mX1_letterOf).1.cls ≠ "java/lang/invoke/VarHandle" ∧ (parseMethodDescriptor (mX1_letterOf).1.desc).map (fun d => d.parameters.length) = some 1 := by decide +kernel
theorem mi_X1_readOf : Cond.instanceMethod yX1_readOf ∈ g_T := g_inT1 (i := 853) (by decide +kernel) (by decide +kernel)
theorem me_X1_readOf : Cond.selects RX1 yX1_readOf yX1_readOf ∈ g_T := g_inT1 (i := 854) (by decide +kernel) (by decide +kernel)
theorem mc_X1_readOf : Cond.code yX1_readOf cX1_readOf 3 (some .int) ∈ g_T := g_inT1 (i := 855) (by decide +kernel) (by decide +kernel)
theorem mp_X1_readOf : (mX1_readOf).1.cls ≠ "java/lang/invoke/MethodHandle" ∧ (mX1_readOf).1.cls ≠ "java/lang/invoke/VarHandle" ∧ (parseMethodDescriptor (mX1_readOf).1.desc).map (fun d => d.parameters.length) = some 1 := by decide +kernel
theorem mi_X1_rainOf : Cond.instanceMethod yX1_rainOf ∈ g_T := g_inT1 (i := 817) (by decide +kernel) (by decide +kernel)
theorem me_X1_rainOf : Cond.selects RX1 yX1_rainOf yX1_rainOf ∈ g_T := g_inT1 (i := 818) (by decide +kernel) (by decide +kernel)
theorem mc_X1_rainOf : Cond.code yX1_rainOf cX1_rainOf 2 (some .int) ∈ g_T := g_inT1 (i := 819) (by decide +kernel) (by decide +kernel)
theorem mp_X1_rainOf : (mX1_rainOf).1.cls ≠ "java/lang/invoke/MethodHandle" ∧ (mX1_rainOf).1.cls ≠ "java/lang/invoke/VarHandle" ∧ (parseMethodDescriptor (mX1_rainOf).1.desc).map (fun d => d.parameters.length) = some 1 := by decide +kernel
theorem mi_X1_nests : Cond.instanceMethod yX1_nests ∈ g_T := g_inT1 (i := 729) (by decide +kernel) (by decide +kernel)
theorem me_X1_nests : Cond.selects RX1 yX1_nests yX1_nests ∈ g_T := g_inT1 (i := 730) (by decide +kernel) (by decide +kernel)
theorem mc_X1_nests : Cond.code yX1_nests cX1_nests 3 (some .int) ∈ g_T := g_inT1 (i := 731) (by decide +kernel) (by decide +kernel)
theorem mp_X1_nests : (mX1_nests).1.cls ≠ "java/lang/invoke/MethodHandle" ∧ (mX1_nests).1.cls ≠ "java/lang/invoke/VarHandle" ∧ (parseMethodDescriptor (mX1_nests).1.desc).map (fun d => d.parameters.length) = some 0 := by decide +kernel
theorem mi_X1_mostSpouted : Cond.instanceMethod yX1_mostSpouted ∈ g_T := g_inT1 (i := 834) (by decide +kernel) (by decide +kernel)
theorem me_X1_mostSpouted : Cond.selects RX1 yX1_mostSpouted yX1_mostSpouted ∈ g_T := g_inT1 (i := 835) (by decide +kernel) (by decide +kernel)
theorem mc_X1_mostSpouted : Cond.code yX1_mostSpouted cX1_mostSpouted 2 (some .int) ∈ g_T := g_inT1 (i := 836) (by decide +kernel) (by decide +kernel)
theorem mp_X1_mostSpouted : (mX1_mostSpouted).1.cls ≠ "java/lang/invoke/MethodHandle" ∧ (mX1_mostSpouted).1.cls ≠ "java/lang/invoke/VarHandle" ∧ (parseMethodDescriptor (mX1_mostSpouted).1.desc).map (fun d => d.parameters.length) = some 1 := by decide +kernel
theorem mi_X1_below : Cond.instanceMethod yX1_below ∈ g_T := g_inT1 (i := 971) (by decide +kernel) (by decide +kernel)
theorem me_X1_below : Cond.selects RX1 yX1_below yX1_below ∈ g_T := g_inT1 (i := 972) (by decide +kernel) (by decide +kernel)
theorem mc_X1_below : Cond.code yX1_below cX1_below 5 (some .int) ∈ g_T := g_inT1 (i := 973) (by decide +kernel) (by decide +kernel)
theorem mp_X1_below : (mX1_below).1.cls ≠ "java/lang/invoke/MethodHandle" ∧ (mX1_below).1.cls ≠ "java/lang/invoke/VarHandle" ∧ (parseMethodDescriptor (mX1_below).1.desc).map (fun d => d.parameters.length) = some 1 := by decide +kernel
theorem mi_X1_putInOrder : Cond.instanceMethod yX1_putInOrder ∈ g_T := g_inT1 (i := 635) (by decide +kernel) (by decide +kernel)
theorem me_X1_putInOrder : Cond.selects RX1 yX1_putInOrder yX1_putInOrder ∈ g_T := g_inT1 (i := 636) (by decide +kernel) (by decide +kernel)
theorem mc_X1_putInOrder : Cond.code yX1_putInOrder cX1_putInOrder 3 none ∈ g_T := g_inT1 (i := 637) (by decide +kernel) (by decide +kernel)
theorem mp_X1_putInOrder : (mX1_putInOrder).1.cls ≠ "java/lang/invoke/MethodHandle" ∧ (mX1_putInOrder).1.cls ≠ "java/lang/invoke/VarHandle" ∧ (parseMethodDescriptor (mX1_putInOrder).1.desc).map (fun d => d.parameters.length) = some 1 := by decide +kernel
theorem mi_X2_init : Cond.instanceMethod yX2_init ∈ g_T := g_inT1 (i := 74) (by decide +kernel) (by decide +kernel)
theorem mc_X2_init : Cond.code yX2_init cX2_init 2 none ∈ g_T := g_inT1 (i := 75) (by decide +kernel) (by decide +kernel)
theorem mp_X2_init : (mX2_init).1.cls ≠ "java/lang/invoke/MethodHandle" ∧ (mX2_init).1.cls ≠ "java/lang/invoke/VarHandle" ∧ (parseMethodDescriptor (mX2_init).1.desc).map (fun d => d.parameters.length) = some 1 := by decide +kernel
theorem mi_X2_readFront : Cond.instanceMethod yX2_readFront ∈ g_T := g_inT1 (i := 415) (by decide +kernel) (by decide +kernel)
theorem me_X2_readFront : Cond.selects RX2 yX2_readFront yX2_readFront ∈ g_T := g_inT1 (i := 416) (by decide +kernel) (by decide +kernel)
theorem mc_X2_readFront : Cond.code yX2_readFront cX2_readFront 4 (some .int) ∈ g_T := g_inT1 (i := 417) (by decide +kernel) (by decide +kernel)
theorem mp_X2_readFront : (mX2_readFront).1.cls ≠ "java/lang/invoke/MethodHandle" ∧ (mX2_readFront).1.cls ≠ "java/lang/invoke/VarHandle" ∧ (parseMethodDescriptor (mX2_readFront).1.desc).map (fun d => d.parameters.length) = some 1 := by decide +kernel
theorem mi_X2_readLine : Cond.instanceMethod yX2_readLine ∈ g_T := g_inT1 (i := 532) (by decide +kernel) (by decide +kernel)
theorem me_X2_readLine : Cond.selects RX2 yX2_readLine yX2_readLine ∈ g_T := g_inT0 (i := 2) (by decide +kernel) (by decide +kernel)
theorem mc_X2_readLine : Cond.code yX2_readLine cX2_readLine 2 (some .boolean) ∈ g_T := g_inT1 (i := 533) (by decide +kernel) (by decide +kernel)
theorem mp_X2_readLine : (mX2_readLine).1.cls ≠ "java/lang/invoke/MethodHandle" ∧ (mX2_readLine).1.cls ≠ "java/lang/invoke/VarHandle" ∧ (parseMethodDescriptor (mX2_readLine).1.desc).map (fun d => d.parameters.length) = some 1 := by decide +kernel
theorem mi_X2_readMouth : Cond.instanceMethod yX2_readMouth ∈ g_T := g_inT1 (i := 562) (by decide +kernel) (by decide +kernel)
theorem me_X2_readMouth : Cond.selects RX2 yX2_readMouth yX2_readMouth ∈ g_T := g_inT0 (i := 3) (by decide +kernel) (by decide +kernel)
theorem mc_X2_readMouth : Cond.code yX2_readMouth cX2_readMouth 3 (some .boolean) ∈ g_T := g_inT1 (i := 563) (by decide +kernel) (by decide +kernel)
theorem mp_X2_readMouth : (mX2_readMouth).1.cls ≠ "java/lang/invoke/MethodHandle" ∧ (mX2_readMouth).1.cls ≠ "java/lang/invoke/VarHandle" ∧ (parseMethodDescriptor (mX2_readMouth).1.desc).map (fun d => d.parameters.length) = some 1 := by decide +kernel
theorem mi_X2_isNewName : Cond.instanceMethod yX2_isNewName ∈ g_T := g_inT1 (i := 571) (by decide +kernel) (by decide +kernel)
theorem me_X2_isNewName : Cond.selects RX2 yX2_isNewName yX2_isNewName ∈ g_T := g_inT0 (i := 4) (by decide +kernel) (by decide +kernel)
theorem mc_X2_isNewName : Cond.code yX2_isNewName cX2_isNewName 2 (some .boolean) ∈ g_T := g_inT1 (i := 572) (by decide +kernel) (by decide +kernel)
theorem mp_X2_isNewName : (mX2_isNewName).1.cls ≠ "java/lang/invoke/MethodHandle" ∧ (mX2_isNewName).1.cls ≠ "java/lang/invoke/VarHandle" ∧ (parseMethodDescriptor (mX2_isNewName).1.desc).map (fun d => d.parameters.length) = some 1 := by decide +kernel
theorem mi_X2_kindHere : Cond.instanceMethod yX2_kindHere ∈ g_T := g_inT1 (i := 612) (by decide +kernel) (by decide +kernel)
theorem me_X2_kindHere : Cond.selects RX2 yX2_kindHere yX2_kindHere ∈ g_T := g_inT0 (i := 5) (by decide +kernel) (by decide +kernel)
theorem mc_X2_kindHere : Cond.code yX2_kindHere cX2_kindHere 1 (some .int) ∈ g_T := g_inT1 (i := 613) (by decide +kernel) (by decide +kernel)
theorem mp_X2_kindHere : (mX2_kindHere).1.cls ≠ "java/lang/invoke/MethodHandle" ∧ (mX2_kindHere).1.cls ≠ "java/lang/invoke/VarHandle" ∧ (parseMethodDescriptor (mX2_kindHere).1.desc).map (fun d => d.parameters.length) = some 0 := by decide +kernel
theorem mi_X2_readMeasure : Cond.instanceMethod yX2_readMeasure ∈ g_T := g_inT1 (i := 621) (by decide +kernel) (by decide +kernel)
theorem me_X2_readMeasure : Cond.selects RX2 yX2_readMeasure yX2_readMeasure ∈ g_T := g_inT0 (i := 6) (by decide +kernel) (by decide +kernel)
theorem mc_X2_readMeasure : Cond.code yX2_readMeasure cX2_readMeasure 4 (some .int) ∈ g_T := g_inT1 (i := 622) (by decide +kernel) (by decide +kernel)
theorem mp_X2_readMeasure : (mX2_readMeasure).1.cls ≠ "java/lang/invoke/MethodHandle" ∧ (mX2_readMeasure).1.cls ≠ "java/lang/invoke/VarHandle" ∧ (parseMethodDescriptor (mX2_readMeasure).1.desc).map (fun d => d.parameters.length) = some 3 := by decide +kernel
theorem mi_X2_readGutter : Cond.instanceMethod yX2_readGutter ∈ g_T := g_inT1 (i := 641) (by decide +kernel) (by decide +kernel)
theorem me_X2_readGutter : Cond.selects RX2 yX2_readGutter yX2_readGutter ∈ g_T := g_inT0 (i := 7) (by decide +kernel) (by decide +kernel)
theorem mc_X2_readGutter : Cond.code yX2_readGutter cX2_readGutter 4 (some .boolean) ∈ g_T := g_inT1 (i := 642) (by decide +kernel) (by decide +kernel)
theorem mp_X2_readGutter : (mX2_readGutter).1.cls ≠ "java/lang/invoke/MethodHandle" ∧ (mX2_readGutter).1.cls ≠ "java/lang/invoke/VarHandle" ∧ (parseMethodDescriptor (mX2_readGutter).1.desc).map (fun d => d.parameters.length) = some 1 := by decide +kernel
theorem mi_X2_readLetterNamed : Cond.instanceMethod yX2_readLetterNamed ∈ g_T := g_inT1 (i := 652) (by decide +kernel) (by decide +kernel)
theorem me_X2_readLetterNamed : Cond.selects RX2 yX2_readLetterNamed yX2_readLetterNamed ∈ g_T := g_inT0 (i := 8) (by decide +kernel) (by decide +kernel)
theorem mc_X2_readLetterNamed : Cond.code yX2_readLetterNamed cX2_readLetterNamed 3 (some .boolean) ∈ g_T := g_inT1 (i := 653) (by decide +kernel) (by decide +kernel)
theorem mp_X2_readLetterNamed : (mX2_readLetterNamed).1.cls ≠ "java/lang/invoke/MethodHandle" ∧ (mX2_readLetterNamed).1.cls ≠ "java/lang/invoke/VarHandle" ∧ (parseMethodDescriptor (mX2_readLetterNamed).1.desc).map (fun d => d.parameters.length) = some 1 := by decide +kernel
theorem mi_X2_readLetterMouths : Cond.instanceMethod yX2_readLetterMouths ∈ g_T := g_inT1 (i := 657) (by decide +kernel) (by decide +kernel)
theorem me_X2_readLetterMouths : Cond.selects RX2 yX2_readLetterMouths yX2_readLetterMouths ∈ g_T := g_inT0 (i := 9) (by decide +kernel) (by decide +kernel)
theorem mc_X2_readLetterMouths : Cond.code yX2_readLetterMouths cX2_readLetterMouths 5 (some .boolean) ∈ g_T := g_inT1 (i := 658) (by decide +kernel) (by decide +kernel)
theorem mp_X2_readLetterMouths : (mX2_readLetterMouths).1.cls ≠ "java/lang/invoke/MethodHandle" ∧ (mX2_readLetterMouths).1.cls ≠ "java/lang/invoke/VarHandle" ∧ (parseMethodDescriptor (mX2_readLetterMouths).1.desc).map (fun d => d.parameters.length) = some 1 := by decide +kernel
theorem mi_X2_readRain : Cond.instanceMethod yX2_readRain ∈ g_T := g_inT1 (i := 670) (by decide +kernel) (by decide +kernel)
theorem me_X2_readRain : Cond.selects RX2 yX2_readRain yX2_readRain ∈ g_T := g_inT0 (i := 10) (by decide +kernel) (by decide +kernel)
theorem mc_X2_readRain : Cond.code yX2_readRain cX2_readRain 3 (some .boolean) ∈ g_T := g_inT1 (i := 671) (by decide +kernel) (by decide +kernel)
theorem mp_X2_readRain : (mX2_readRain).1.cls ≠ "java/lang/invoke/MethodHandle" ∧ (mX2_readRain).1.cls ≠ "java/lang/invoke/VarHandle" ∧ (parseMethodDescriptor (mX2_readRain).1.desc).map (fun d => d.parameters.length) = some 1 := by decide +kernel
theorem mi_X3_init : Cond.instanceMethod yX3_init ∈ g_T := g_inT1 (i := 113) (by decide +kernel) (by decide +kernel)
theorem mc_X3_init : Cond.code yX3_init cX3_init 1 none ∈ g_T := g_inT1 (i := 114) (by decide +kernel) (by decide +kernel)
theorem mp_X3_init : (mX3_init).1.cls ≠ "java/lang/invoke/MethodHandle" ∧ (mX3_init).1.cls ≠ "java/lang/invoke/VarHandle" ∧ (parseMethodDescriptor (mX3_init).1.desc).map (fun d => d.parameters.length) = some 0 := by decide +kernel
theorem mi_X3_add : Cond.instanceMethod yX3_add ∈ g_T := g_inT1 (i := 699) (by decide +kernel) (by decide +kernel)
theorem me_X3_add : Cond.selects RX3 yX3_add yX3_add ∈ g_T := g_inT1 (i := 700) (by decide +kernel) (by decide +kernel)
theorem mc_X3_add : Cond.code yX3_add cX3_add 2 none ∈ g_T := g_inT1 (i := 701) (by decide +kernel) (by decide +kernel)
theorem mp_X3_add : (mX3_add).1.cls ≠ "java/lang/invoke/MethodHandle" ∧ (mX3_add).1.cls ≠ "java/lang/invoke/VarHandle" ∧ (parseMethodDescriptor (mX3_add).1.desc).map (fun d => d.parameters.length) = some 1 := by decide +kernel
theorem mi_X3_valueFor : Cond.instanceMethod yX3_valueFor ∈ g_T := g_inT1 (i := 843) (by decide +kernel) (by decide +kernel)
theorem me_X3_valueFor : Cond.selects RX3 yX3_valueFor yX3_valueFor ∈ g_T := g_inT1 (i := 844) (by decide +kernel) (by decide +kernel)
theorem mc_X3_valueFor : Cond.code yX3_valueFor cX3_valueFor 8 (some .int) ∈ g_T := g_inT1 (i := 845) (by decide +kernel) (by decide +kernel)
theorem mp_X3_valueFor : (mX3_valueFor).1.cls ≠ "java/lang/invoke/MethodHandle" ∧ (mX3_valueFor).1.cls ≠ "java/lang/invoke/VarHandle" ∧ (parseMethodDescriptor (mX3_valueFor).1.desc).map (fun d => d.parameters.length) = some 4 := by decide +kernel
theorem ms_X3_fact : Cond.static yX3_fact ∈ g_T := g_inT1 (i := 850) (by decide +kernel) (by decide +kernel)
theorem mc_X3_fact : Cond.code yX3_fact cX3_fact 5 (some .int) ∈ g_T := g_inT1 (i := 851) (by decide +kernel) (by decide +kernel)
theorem mp_X3_fact : (mX3_fact).1.cls ≠ "java/lang/invoke/MethodHandle" ∧ (mX3_fact).1.cls ≠ "java/lang/invoke/VarHandle" ∧ (parseMethodDescriptor (mX3_fact).1.desc).map (fun d => d.parameters.length) = some 5 := by decide +kernel
theorem ms_X3_join : Cond.static yX3_join ∈ g_T := g_inT1 (i := 847) (by decide +kernel) (by decide +kernel)
theorem mc_X3_join : Cond.code yX3_join cX3_join 3 (some .int) ∈ g_T := g_inT1 (i := 848) (by decide +kernel) (by decide +kernel)
theorem mp_X3_join : (mX3_join).1.cls ≠ "java/lang/invoke/MethodHandle" ∧ (mX3_join).1.cls ≠ "java/lang/invoke/VarHandle" ∧ (parseMethodDescriptor (mX3_join).1.desc).map (fun d => d.parameters.length) = some 3 := by decide +kernel
theorem mi_X4_init : Cond.instanceMethod yX4_init ∈ g_T := g_inT1 (i := 80) (by decide +kernel) (by decide +kernel)
theorem mc_X4_init : Cond.code yX4_init cX4_init 2 none ∈ g_T := g_inT1 (i := 81) (by decide +kernel) (by decide +kernel)
theorem mp_X4_init : (mX4_init).1.cls ≠ "java/lang/invoke/MethodHandle" ∧ (mX4_init).1.cls ≠ "java/lang/invoke/VarHandle" ∧ (parseMethodDescriptor (mX4_init).1.desc).map (fun d => d.parameters.length) = some 1 := by decide +kernel
theorem mi_X4_readLevel : Cond.instanceMethod yX4_readLevel ∈ g_T := g_inT1 (i := 678) (by decide +kernel) (by decide +kernel)
theorem me_X4_readLevel : Cond.selects RX4 yX4_readLevel yX4_readLevel ∈ g_T := g_inT1 (i := 679) (by decide +kernel) (by decide +kernel)
theorem mc_X4_readLevel : Cond.code yX4_readLevel cX4_readLevel 7 (some .boolean) ∈ g_T := g_inT1 (i := 680) (by decide +kernel) (by decide +kernel)
theorem mp_X4_readLevel : (mX4_readLevel).1.cls ≠ "java/lang/invoke/MethodHandle" ∧ (mX4_readLevel).1.cls ≠ "java/lang/invoke/VarHandle" ∧ (parseMethodDescriptor (mX4_readLevel).1.desc).map (fun d => d.parameters.length) = some 3 := by decide +kernel
theorem mi_X4_readPart : Cond.instanceMethod yX4_readPart ∈ g_T := g_inT1 (i := 683) (by decide +kernel) (by decide +kernel)
theorem me_X4_readPart : Cond.selects RX4 yX4_readPart yX4_readPart ∈ g_T := g_inT0 (i := 11) (by decide +kernel) (by decide +kernel)
theorem mc_X4_readPart : Cond.code yX4_readPart cX4_readPart 7 (some .boolean) ∈ g_T := g_inT1 (i := 684) (by decide +kernel) (by decide +kernel)
theorem mp_X4_readPart : (mX4_readPart).1.cls ≠ "java/lang/invoke/MethodHandle" ∧ (mX4_readPart).1.cls ≠ "java/lang/invoke/VarHandle" ∧ (parseMethodDescriptor (mX4_readPart).1.desc).map (fun d => d.parameters.length) = some 2 := by decide +kernel
theorem mi_X4_factHere : Cond.instanceMethod yX4_factHere ∈ g_T := g_inT1 (i := 687) (by decide +kernel) (by decide +kernel)
theorem me_X4_factHere : Cond.selects RX4 yX4_factHere yX4_factHere ∈ g_T := g_inT0 (i := 12) (by decide +kernel) (by decide +kernel)
theorem mc_X4_factHere : Cond.code yX4_factHere cX4_factHere 1 (some .int) ∈ g_T := g_inT1 (i := 688) (by decide +kernel) (by decide +kernel)
theorem mp_X4_factHere : (mX4_factHere).1.cls ≠ "java/lang/invoke/MethodHandle" ∧ (mX4_factHere).1.cls ≠ "java/lang/invoke/VarHandle" ∧ (parseMethodDescriptor (mX4_factHere).1.desc).map (fun d => d.parameters.length) = some 0 := by decide +kernel
theorem mi_X4_joinHere : Cond.instanceMethod yX4_joinHere ∈ g_T := g_inT1 (i := 711) (by decide +kernel) (by decide +kernel)
theorem me_X4_joinHere : Cond.selects RX4 yX4_joinHere yX4_joinHere ∈ g_T := g_inT0 (i := 13) (by decide +kernel) (by decide +kernel)
theorem mc_X4_joinHere : Cond.code yX4_joinHere cX4_joinHere 2 (some .int) ∈ g_T := g_inT1 (i := 712) (by decide +kernel) (by decide +kernel)
theorem mp_X4_joinHere : (mX4_joinHere).1.cls ≠ "java/lang/invoke/MethodHandle" ∧ (mX4_joinHere).1.cls ≠ "java/lang/invoke/VarHandle" ∧ (parseMethodDescriptor (mX4_joinHere).1.desc).map (fun d => d.parameters.length) = some 1 := by decide +kernel
theorem mi_X5_init : Cond.instanceMethod yX5_init ∈ g_T := g_inT1 (i := 97) (by decide +kernel) (by decide +kernel)
theorem mc_X5_init : Cond.code yX5_init cX5_init 2 none ∈ g_T := g_inT1 (i := 98) (by decide +kernel) (by decide +kernel)
theorem mp_X5_init : (mX5_init).1.cls ≠ "java/lang/invoke/MethodHandle" ∧ (mX5_init).1.cls ≠ "java/lang/invoke/VarHandle" ∧ (parseMethodDescriptor (mX5_init).1.desc).map (fun d => d.parameters.length) = some 1 := by decide +kernel
theorem mi_X5_readDay : Cond.instanceMethod yX5_readDay ∈ g_T := g_inT1 (i := 738) (by decide +kernel) (by decide +kernel)
theorem me_X5_readDay : Cond.selects RX5 yX5_readDay yX5_readDay ∈ g_T := g_inT1 (i := 739) (by decide +kernel) (by decide +kernel)
theorem mc_X5_readDay : Cond.code yX5_readDay cX5_readDay 5 (some .int) ∈ g_T := g_inT1 (i := 740) (by decide +kernel) (by decide +kernel)
theorem mp_X5_readDay : (mX5_readDay).1.cls ≠ "java/lang/invoke/MethodHandle" ∧ (mX5_readDay).1.cls ≠ "java/lang/invoke/VarHandle" ∧ (parseMethodDescriptor (mX5_readDay).1.desc).map (fun d => d.parameters.length) = some 2 := by decide +kernel
theorem mi_X5_readLine : Cond.instanceMethod yX5_readLine ∈ g_T := g_inT1 (i := 745) (by decide +kernel) (by decide +kernel)
theorem me_X5_readLine : Cond.selects RX5 yX5_readLine yX5_readLine ∈ g_T := g_inT0 (i := 15) (by decide +kernel) (by decide +kernel)
theorem mc_X5_readLine : Cond.code yX5_readLine cX5_readLine 6 (some .boolean) ∈ g_T := g_inT1 (i := 746) (by decide +kernel) (by decide +kernel)
theorem mp_X5_readLine : (mX5_readLine).1.cls ≠ "java/lang/invoke/MethodHandle" ∧ (mX5_readLine).1.cls ≠ "java/lang/invoke/VarHandle" ∧ (parseMethodDescriptor (mX5_readLine).1.desc).map (fun d => d.parameters.length) = some 2 := by decide +kernel
theorem mi_X5_actHere : Cond.instanceMethod yX5_actHere ∈ g_T := g_inT1 (i := 749) (by decide +kernel) (by decide +kernel)
theorem me_X5_actHere : Cond.selects RX5 yX5_actHere yX5_actHere ∈ g_T := g_inT0 (i := 16) (by decide +kernel) (by decide +kernel)
theorem mc_X5_actHere : Cond.code yX5_actHere cX5_actHere 1 (some .int) ∈ g_T := g_inT1 (i := 750) (by decide +kernel) (by decide +kernel)
theorem mp_X5_actHere : (mX5_actHere).1.cls ≠ "java/lang/invoke/MethodHandle" ∧ (mX5_actHere).1.cls ≠ "java/lang/invoke/VarHandle" ∧ (parseMethodDescriptor (mX5_actHere).1.desc).map (fun d => d.parameters.length) = some 0 := by decide +kernel
theorem mi_X5_readWord : Cond.instanceMethod yX5_readWord ∈ g_T := g_inT1 (i := 767) (by decide +kernel) (by decide +kernel)
theorem me_X5_readWord : Cond.selects RX5 yX5_readWord yX5_readWord ∈ g_T := g_inT1 (i := 768) (by decide +kernel) (by decide +kernel)
theorem mc_X5_readWord : Cond.code yX5_readWord cX5_readWord 5 (some .int) ∈ g_T := g_inT1 (i := 769) (by decide +kernel) (by decide +kernel)
theorem mp_X5_readWord : (mX5_readWord).1.cls ≠ "java/lang/invoke/MethodHandle" ∧ (mX5_readWord).1.cls ≠ "java/lang/invoke/VarHandle" ∧ (parseMethodDescriptor (mX5_readWord).1.desc).map (fun d => d.parameters.length) = some 2 := by decide +kernel
theorem mi_X5_readLetterName : Cond.instanceMethod yX5_readLetterName ∈ g_T := g_inT1 (i := 772) (by decide +kernel) (by decide +kernel)
theorem me_X5_readLetterName : Cond.selects RX5 yX5_readLetterName yX5_readLetterName ∈ g_T := g_inT0 (i := 17) (by decide +kernel) (by decide +kernel)
theorem mc_X5_readLetterName : Cond.code yX5_readLetterName cX5_readLetterName 4 (some .boolean) ∈ g_T := g_inT1 (i := 773) (by decide +kernel) (by decide +kernel)
theorem mp_X5_readLetterName : (mX5_readLetterName).1.cls ≠ "java/lang/invoke/MethodHandle" ∧ (mX5_readLetterName).1.cls ≠ "java/lang/invoke/VarHandle" ∧ (parseMethodDescriptor (mX5_readLetterName).1.desc).map (fun d => d.parameters.length) = some 2 := by decide +kernel
theorem mi_X6_init : Cond.instanceMethod yX6_init ∈ g_T := g_inT1 (i := 315) (by decide +kernel) (by decide +kernel)
theorem mc_X6_init : Cond.code yX6_init cX6_init 1 none ∈ g_T := g_inT1 (i := 316) (by decide +kernel) (by decide +kernel)
theorem mp_X6_init : (mX6_init).1.cls ≠ "java/lang/invoke/MethodHandle" ∧ (mX6_init).1.cls ≠ "java/lang/invoke/VarHandle" ∧ (parseMethodDescriptor (mX6_init).1.desc).map (fun d => d.parameters.length) = some 0 := by decide +kernel
theorem mi_X7_init : Cond.instanceMethod yX7_init ∈ g_T := g_inT1 (i := 249) (by decide +kernel) (by decide +kernel)
theorem mc_X7_init : Cond.code yX7_init cX7_init 1 none ∈ g_T := g_inT1 (i := 250) (by decide +kernel) (by decide +kernel)
theorem mp_X7_init : (mX7_init).1.cls ≠ "java/lang/invoke/MethodHandle" ∧ (mX7_init).1.cls ≠ "java/lang/invoke/VarHandle" ∧ (parseMethodDescriptor (mX7_init).1.desc).map (fun d => d.parameters.length) = some 0 := by decide +kernel
theorem mi_X7_add : Cond.instanceMethod yX7_add ∈ g_T := g_inT1 (i := 1044) (by decide +kernel) (by decide +kernel)
theorem me_X7_add : Cond.selects RX7 yX7_add yX7_add ∈ g_T := g_inT1 (i := 1045) (by decide +kernel) (by decide +kernel)
theorem mc_X7_add : Cond.code yX7_add cX7_add 3 (some .boolean) ∈ g_T := g_inT1 (i := 1046) (by decide +kernel) (by decide +kernel)
theorem mp_X7_add : (mX7_add).1.cls ≠ "java/lang/invoke/MethodHandle" ∧ (mX7_add).1.cls ≠ "java/lang/invoke/VarHandle" ∧ (parseMethodDescriptor (mX7_add).1.desc).map (fun d => d.parameters.length) = some 2 := by decide +kernel
theorem mi_X7_agreesWith : Cond.instanceMethod yX7_agreesWith ∈ g_T := g_inT1 (i := 1056) (by decide +kernel) (by decide +kernel)
theorem me_X7_agreesWith : Cond.selects RX7 yX7_agreesWith yX7_agreesWith ∈ g_T := g_inT1 (i := 1057) (by decide +kernel) (by decide +kernel)
theorem mc_X7_agreesWith : Cond.code yX7_agreesWith cX7_agreesWith 4 (some .boolean) ∈ g_T := g_inT1 (i := 1058) (by decide +kernel) (by decide +kernel)
theorem mp_X7_agreesWith : (mX7_agreesWith).1.cls ≠ "java/lang/invoke/MethodHandle" ∧ (mX7_agreesWith).1.cls ≠ "java/lang/invoke/VarHandle" ∧ (parseMethodDescriptor (mX7_agreesWith).1.desc).map (fun d => d.parameters.length) = some 1 := by decide +kernel
theorem mi_X7_copyFrom : Cond.instanceMethod yX7_copyFrom ∈ g_T := g_inT1 (i := 1109) (by decide +kernel) (by decide +kernel)
theorem me_X7_copyFrom : Cond.selects RX7 yX7_copyFrom yX7_copyFrom ∈ g_T := g_inT1 (i := 1110) (by decide +kernel) (by decide +kernel)
theorem mc_X7_copyFrom : Cond.code yX7_copyFrom cX7_copyFrom 3 none ∈ g_T := g_inT1 (i := 1111) (by decide +kernel) (by decide +kernel)
theorem mp_X7_copyFrom : (mX7_copyFrom).1.cls ≠ "java/lang/invoke/MethodHandle" ∧ (mX7_copyFrom).1.cls ≠ "java/lang/invoke/VarHandle" ∧ (parseMethodDescriptor (mX7_copyFrom).1.desc).map (fun d => d.parameters.length) = some 1 := by decide +kernel
theorem mi_X8_init : Cond.instanceMethod yX8_init ∈ g_T := g_inT1 (i := 37) (by decide +kernel) (by decide +kernel)
theorem mc_X8_init : Cond.code yX8_init cX8_init 1 none ∈ g_T := g_inT1 (i := 38) (by decide +kernel) (by decide +kernel)
theorem mp_X8_init : (mX8_init).1.cls ≠ "java/lang/invoke/MethodHandle" ∧ (mX8_init).1.cls ≠ "java/lang/invoke/VarHandle" ∧ (parseMethodDescriptor (mX8_init).1.desc).map (fun d => d.parameters.length) = some 0 := by decide +kernel
theorem mi_X8_addBytes : Cond.instanceMethod yX8_addBytes ∈ g_T := g_inT1 (i := 406) (by decide +kernel) (by decide +kernel)
theorem me_X8_addBytes : Cond.selects RX8 yX8_addBytes yX8_addBytes ∈ g_T := g_inT1 (i := 407) (by decide +kernel) (by decide +kernel)
theorem mc_X8_addBytes : Cond.code yX8_addBytes cX8_addBytes 6 none ∈ g_T := g_inT1 (i := 408) (by decide +kernel) (by decide +kernel)
theorem mp_X8_addBytes : (mX8_addBytes).1.cls ≠ "java/lang/invoke/MethodHandle" ∧ (mX8_addBytes).1.cls ≠ "java/lang/invoke/VarHandle" ∧ (parseMethodDescriptor (mX8_addBytes).1.desc).map (fun d => d.parameters.length) = some 1 := by decide +kernel
theorem mi_X8_open : Cond.instanceMethod yX8_open ∈ g_T := g_inT1 (i := 423) (by decide +kernel) (by decide +kernel)
theorem me_X8_open : Cond.selects RX8 yX8_open yX8_open ∈ g_T := g_inT1 (i := 424) (by decide +kernel) (by decide +kernel)
theorem mc_X8_open : Cond.code yX8_open cX8_open 1 none ∈ g_T := g_inT1 (i := 425) (by decide +kernel) (by decide +kernel)
theorem mp_X8_open : (mX8_open).1.cls ≠ "java/lang/invoke/MethodHandle" ∧ (mX8_open).1.cls ≠ "java/lang/invoke/VarHandle" ∧ (parseMethodDescriptor (mX8_open).1.desc).map (fun d => d.parameters.length) = some 0 := by decide +kernel
theorem mi_X8_close : Cond.instanceMethod yX8_close ∈ g_T := g_inT1 (i := 717) (by decide +kernel) (by decide +kernel)
theorem me_X8_close : Cond.selects RX8 yX8_close yX8_close ∈ g_T := g_inT1 (i := 718) (by decide +kernel) (by decide +kernel)
theorem mc_X8_close : Cond.code yX8_close cX8_close 1 (some .int) ∈ g_T := g_inT1 (i := 719) (by decide +kernel) (by decide +kernel)
theorem mp_X8_close : (mX8_close).1.cls ≠ "java/lang/invoke/MethodHandle" ∧ (mX8_close).1.cls ≠ "java/lang/invoke/VarHandle" ∧ (parseMethodDescriptor (mX8_close).1.desc).map (fun d => d.parameters.length) = some 0 := by decide +kernel
theorem mi_X8_fail : Cond.instanceMethod yX8_fail ∈ g_T := g_inT1 (i := 565) (by decide +kernel) (by decide +kernel)
theorem me_X8_fail : Cond.selects RX8 yX8_fail yX8_fail ∈ g_T := g_inT1 (i := 566) (by decide +kernel) (by decide +kernel)
theorem mc_X8_fail : Cond.code yX8_fail cX8_fail 2 (some .boolean) ∈ g_T := g_inT1 (i := 567) (by decide +kernel) (by decide +kernel)
theorem mp_X8_fail : (mX8_fail).1.cls ≠ "java/lang/invoke/MethodHandle" ∧ (mX8_fail).1.cls ≠ "java/lang/invoke/VarHandle" ∧ (parseMethodDescriptor (mX8_fail).1.desc).map (fun d => d.parameters.length) = some 1 := by decide +kernel
theorem mi_X8_advance : Cond.instanceMethod yX8_advance ∈ g_T := g_inT1 (i := 427) (by decide +kernel) (by decide +kernel)
theorem me_X8_advance : Cond.selects RX8 yX8_advance yX8_advance ∈ g_T := g_inT1 (i := 428) (by decide +kernel) (by decide +kernel)
theorem mc_X8_advance : Cond.code yX8_advance cX8_advance 3 none ∈ g_T := g_inT1 (i := 429) (by decide +kernel) (by decide +kernel)
theorem mp_X8_advance : (mX8_advance).1.cls ≠ "java/lang/invoke/MethodHandle" ∧ (mX8_advance).1.cls ≠ "java/lang/invoke/VarHandle" ∧ (parseMethodDescriptor (mX8_advance).1.desc).map (fun d => d.parameters.length) = some 0 := by decide +kernel
theorem mi_X8_scanWord : Cond.instanceMethod yX8_scanWord ∈ g_T := g_inT1 (i := 432) (by decide +kernel) (by decide +kernel)
theorem me_X8_scanWord : Cond.selects RX8 yX8_scanWord yX8_scanWord ∈ g_T := g_inT0 (i := 0) (by decide +kernel) (by decide +kernel)
theorem mc_X8_scanWord : Cond.code yX8_scanWord cX8_scanWord 1 none ∈ g_T := g_inT1 (i := 433) (by decide +kernel) (by decide +kernel)
theorem mp_X8_scanWord : (mX8_scanWord).1.cls ≠ "java/lang/invoke/MethodHandle" ∧ (mX8_scanWord).1.cls ≠ "java/lang/invoke/VarHandle" ∧ (parseMethodDescriptor (mX8_scanWord).1.desc).map (fun d => d.parameters.length) = some 0 := by decide +kernel
theorem mi_X8_scanNumber : Cond.instanceMethod yX8_scanNumber ∈ g_T := g_inT1 (i := 437) (by decide +kernel) (by decide +kernel)
theorem me_X8_scanNumber : Cond.selects RX8 yX8_scanNumber yX8_scanNumber ∈ g_T := g_inT0 (i := 1) (by decide +kernel) (by decide +kernel)
theorem mc_X8_scanNumber : Cond.code yX8_scanNumber cX8_scanNumber 1 none ∈ g_T := g_inT1 (i := 438) (by decide +kernel) (by decide +kernel)
theorem mp_X8_scanNumber : (mX8_scanNumber).1.cls ≠ "java/lang/invoke/MethodHandle" ∧ (mX8_scanNumber).1.cls ≠ "java/lang/invoke/VarHandle" ∧ (parseMethodDescriptor (mX8_scanNumber).1.desc).map (fun d => d.parameters.length) = some 0 := by decide +kernel
theorem mi_X8_isEnd : Cond.instanceMethod yX8_isEnd ∈ g_T := g_inT1 (i := 527) (by decide +kernel) (by decide +kernel)
theorem me_X8_isEnd : Cond.selects RX8 yX8_isEnd yX8_isEnd ∈ g_T := g_inT1 (i := 528) (by decide +kernel) (by decide +kernel)
theorem mc_X8_isEnd : Cond.code yX8_isEnd cX8_isEnd 1 (some .boolean) ∈ g_T := g_inT1 (i := 529) (by decide +kernel) (by decide +kernel)
theorem mp_X8_isEnd : (mX8_isEnd).1.cls ≠ "java/lang/invoke/MethodHandle" ∧ (mX8_isEnd).1.cls ≠ "java/lang/invoke/VarHandle" ∧ (parseMethodDescriptor (mX8_isEnd).1.desc).map (fun d => d.parameters.length) = some 0 := by decide +kernel
theorem mi_X8_isNumber : Cond.instanceMethod yX8_isNumber ∈ g_T := g_inT1 (i := 673) (by decide +kernel) (by decide +kernel)
theorem me_X8_isNumber : Cond.selects RX8 yX8_isNumber yX8_isNumber ∈ g_T := g_inT1 (i := 674) (by decide +kernel) (by decide +kernel)
theorem mc_X8_isNumber : Cond.code yX8_isNumber cX8_isNumber 1 (some .boolean) ∈ g_T := g_inT1 (i := 675) (by decide +kernel) (by decide +kernel)
theorem mp_X8_isNumber : (mX8_isNumber).1.cls ≠ "java/lang/invoke/MethodHandle" ∧ (mX8_isNumber).1.cls ≠ "java/lang/invoke/VarHandle" ∧ (parseMethodDescriptor (mX8_isNumber).1.desc).map (fun d => d.parameters.length) = some 0 := by decide +kernel
theorem mi_X8_isSign : Cond.instanceMethod yX8_isSign ∈ g_T := g_inT1 (i := 660) (by decide +kernel) (by decide +kernel)
theorem me_X8_isSign : Cond.selects RX8 yX8_isSign yX8_isSign ∈ g_T := g_inT1 (i := 661) (by decide +kernel) (by decide +kernel)
theorem mc_X8_isSign : Cond.code yX8_isSign cX8_isSign 2 (some .boolean) ∈ g_T := g_inT1 (i := 662) (by decide +kernel) (by decide +kernel)
theorem mp_X8_isSign : (mX8_isSign).1.cls ≠ "java/lang/invoke/MethodHandle" ∧ (mX8_isSign).1.cls ≠ "java/lang/invoke/VarHandle" ∧ (parseMethodDescriptor (mX8_isSign).1.desc).map (fun d => d.parameters.length) = some 1 := by decide +kernel
theorem mi_X8_isWord : Cond.instanceMethod yX8_isWord ∈ g_T := g_inT1 (i := 536) (by decide +kernel) (by decide +kernel)
theorem me_X8_isWord : Cond.selects RX8 yX8_isWord yX8_isWord ∈ g_T := g_inT1 (i := 537) (by decide +kernel) (by decide +kernel)
theorem mc_X8_isWord : Cond.code yX8_isWord cX8_isWord 3 (some .boolean) ∈ g_T := g_inT1 (i := 538) (by decide +kernel) (by decide +kernel)
theorem mp_X8_isWord : (mX8_isWord).1.cls ≠ "java/lang/invoke/MethodHandle" ∧ (mX8_isWord).1.cls ≠ "java/lang/invoke/VarHandle" ∧ (parseMethodDescriptor (mX8_isWord).1.desc).map (fun d => d.parameters.length) = some 1 := by decide +kernel
theorem mi_X8_isName : Cond.instanceMethod yX8_isName ∈ g_T := g_inT1 (i := 574) (by decide +kernel) (by decide +kernel)
theorem me_X8_isName : Cond.selects RX8 yX8_isName yX8_isName ∈ g_T := g_inT1 (i := 575) (by decide +kernel) (by decide +kernel)
theorem mc_X8_isName : Cond.code yX8_isName cX8_isName 1 (some .boolean) ∈ g_T := g_inT1 (i := 576) (by decide +kernel) (by decide +kernel)
theorem mp_X8_isName : (mX8_isName).1.cls ≠ "java/lang/invoke/MethodHandle" ∧ (mX8_isName).1.cls ≠ "java/lang/invoke/VarHandle" ∧ (parseMethodDescriptor (mX8_isName).1.desc).map (fun d => d.parameters.length) = some 0 := by decide +kernel
theorem mi_X8_takeWord : Cond.instanceMethod yX8_takeWord ∈ g_T := g_inT1 (i := 624) (by decide +kernel) (by decide +kernel)
theorem me_X8_takeWord : Cond.selects RX8 yX8_takeWord yX8_takeWord ∈ g_T := g_inT1 (i := 625) (by decide +kernel) (by decide +kernel)
theorem mc_X8_takeWord : Cond.code yX8_takeWord cX8_takeWord 2 (some .boolean) ∈ g_T := g_inT1 (i := 626) (by decide +kernel) (by decide +kernel)
theorem mp_X8_takeWord : (mX8_takeWord).1.cls ≠ "java/lang/invoke/MethodHandle" ∧ (mX8_takeWord).1.cls ≠ "java/lang/invoke/VarHandle" ∧ (parseMethodDescriptor (mX8_takeWord).1.desc).map (fun d => d.parameters.length) = some 1 := by decide +kernel
theorem mi_X8_takeSign : Cond.instanceMethod yX8_takeSign ∈ g_T := g_inT1 (i := 705) (by decide +kernel) (by decide +kernel)
theorem me_X8_takeSign : Cond.selects RX8 yX8_takeSign yX8_takeSign ∈ g_T := g_inT1 (i := 706) (by decide +kernel) (by decide +kernel)
theorem mc_X8_takeSign : Cond.code yX8_takeSign cX8_takeSign 2 (some .boolean) ∈ g_T := g_inT1 (i := 707) (by decide +kernel) (by decide +kernel)
theorem mp_X8_takeSign : (mX8_takeSign).1.cls ≠ "java/lang/invoke/MethodHandle" ∧ (mX8_takeSign).1.cls ≠ "java/lang/invoke/VarHandle" ∧ (parseMethodDescriptor (mX8_takeSign).1.desc).map (fun d => d.parameters.length) = some 1 := by decide +kernel
theorem mi_X8_takeNumber : Cond.instanceMethod yX8_takeNumber ∈ g_T := g_inT1 (i := 629) (by decide +kernel) (by decide +kernel)
theorem me_X8_takeNumber : Cond.selects RX8 yX8_takeNumber yX8_takeNumber ∈ g_T := g_inT1 (i := 630) (by decide +kernel) (by decide +kernel)
theorem mc_X8_takeNumber : Cond.code yX8_takeNumber cX8_takeNumber 4 (some .int) ∈ g_T := g_inT1 (i := 631) (by decide +kernel) (by decide +kernel)
theorem mp_X8_takeNumber : (mX8_takeNumber).1.cls ≠ "java/lang/invoke/MethodHandle" ∧ (mX8_takeNumber).1.cls ≠ "java/lang/invoke/VarHandle" ∧ (parseMethodDescriptor (mX8_takeNumber).1.desc).map (fun d => d.parameters.length) = some 2 := by decide +kernel
theorem mi_X8_mouthHere : Cond.instanceMethod yX8_mouthHere ∈ g_T := g_inT1 (i := 644) (by decide +kernel) (by decide +kernel)
theorem me_X8_mouthHere : Cond.selects RX8 yX8_mouthHere yX8_mouthHere ∈ g_T := g_inT1 (i := 645) (by decide +kernel) (by decide +kernel)
theorem mc_X8_mouthHere : Cond.code yX8_mouthHere cX8_mouthHere 3 (some .int) ∈ g_T := g_inT1 (i := 646) (by decide +kernel) (by decide +kernel)
theorem mp_X8_mouthHere : (mX8_mouthHere).1.cls ≠ "java/lang/invoke/MethodHandle" ∧ (mX8_mouthHere).1.cls ≠ "java/lang/invoke/VarHandle" ∧ (parseMethodDescriptor (mX8_mouthHere).1.desc).map (fun d => d.parameters.length) = some 1 := by decide +kernel
theorem mi_X9_init : Cond.instanceMethod yX9_init ∈ g_T := g_inT1 (i := 267) (by decide +kernel) (by decide +kernel)
theorem mc_X9_init : Cond.code yX9_init cX9_init 1 none ∈ g_T := g_inT1 (i := 268) (by decide +kernel) (by decide +kernel)
theorem mp_X9_init : (mX9_init).1.cls ≠ "java/lang/invoke/MethodHandle" ∧ (mX9_init).1.cls ≠ "java/lang/invoke/VarHandle" ∧ (parseMethodDescriptor (mX9_init).1.desc).map (fun d => d.parameters.length) = some 0 := by decide +kernel
theorem mi_X9_begin : Cond.instanceMethod yX9_begin ∈ g_T := g_inT1 (i := 725) (by decide +kernel) (by decide +kernel)
theorem me_X9_begin : Cond.selects RX9 yX9_begin yX9_begin ∈ g_T := g_inT1 (i := 726) (by decide +kernel) (by decide +kernel)
theorem mc_X9_begin : Cond.code yX9_begin cX9_begin 3 none ∈ g_T := g_inT1 (i := 727) (by decide +kernel) (by decide +kernel)
theorem mp_X9_begin : (mX9_begin).1.cls ≠ "java/lang/invoke/MethodHandle" ∧ (mX9_begin).1.cls ≠ "java/lang/invoke/VarHandle" ∧ (parseMethodDescriptor (mX9_begin).1.desc).map (fun d => d.parameters.length) = some 1 := by decide +kernel
theorem mi_X9_copyFrom : Cond.instanceMethod yX9_copyFrom ∈ g_T := g_inT1 (i := 809) (by decide +kernel) (by decide +kernel)
theorem me_X9_copyFrom : Cond.selects RX9 yX9_copyFrom yX9_copyFrom ∈ g_T := g_inT1 (i := 810) (by decide +kernel) (by decide +kernel)
theorem mc_X9_copyFrom : Cond.code yX9_copyFrom cX9_copyFrom 2 none ∈ g_T := g_inT1 (i := 811) (by decide +kernel) (by decide +kernel)
theorem mp_X9_copyFrom : (mX9_copyFrom).1.cls ≠ "java/lang/invoke/MethodHandle" ∧ (mX9_copyFrom).1.cls ≠ "java/lang/invoke/VarHandle" ∧ (parseMethodDescriptor (mX9_copyFrom).1.desc).map (fun d => d.parameters.length) = some 1 := by decide +kernel
theorem mi_X9_isStopped : Cond.instanceMethod yX9_isStopped ∈ g_T := g_inT1 (i := 785) (by decide +kernel) (by decide +kernel)
theorem me_X9_isStopped : Cond.selects RX9 yX9_isStopped yX9_isStopped ∈ g_T := g_inT1 (i := 786) (by decide +kernel) (by decide +kernel)
theorem mc_X9_isStopped : Cond.code yX9_isStopped cX9_isStopped 2 (some .boolean) ∈ g_T := g_inT1 (i := 787) (by decide +kernel) (by decide +kernel)
theorem mp_X9_isStopped : (mX9_isStopped).1.cls ≠ "java/lang/invoke/MethodHandle" ∧ (mX9_isStopped).1.cls ≠ "java/lang/invoke/VarHandle" ∧ (parseMethodDescriptor (mX9_isStopped).1.desc).map (fun d => d.parameters.length) = some 1 := by decide +kernel
theorem mi_X9_ranOver : Cond.instanceMethod yX9_ranOver ∈ g_T := g_inT1 (i := 933) (by decide +kernel) (by decide +kernel)
theorem me_X9_ranOver : Cond.selects RX9 yX9_ranOver yX9_ranOver ∈ g_T := g_inT1 (i := 934) (by decide +kernel) (by decide +kernel)
theorem mc_X9_ranOver : Cond.code yX9_ranOver cX9_ranOver 2 (some .boolean) ∈ g_T := g_inT1 (i := 935) (by decide +kernel) (by decide +kernel)
theorem mp_X9_ranOver : (mX9_ranOver).1.cls ≠ "java/lang/invoke/MethodHandle" ∧ (mX9_ranOver).1.cls ≠ "java/lang/invoke/VarHandle" ∧ (parseMethodDescriptor (mX9_ranOver).1.desc).map (fun d => d.parameters.length) = some 1 := by decide +kernel
theorem mi_X9_addWater : Cond.instanceMethod yX9_addWater ∈ g_T := g_inT1 (i := 862) (by decide +kernel) (by decide +kernel)
theorem me_X9_addWater : Cond.selects RX9 yX9_addWater yX9_addWater ∈ g_T := g_inT1 (i := 863) (by decide +kernel) (by decide +kernel)
theorem mc_X9_addWater : Cond.code yX9_addWater cX9_addWater 3 none ∈ g_T := g_inT1 (i := 864) (by decide +kernel) (by decide +kernel)
theorem mp_X9_addWater : (mX9_addWater).1.cls ≠ "java/lang/invoke/MethodHandle" ∧ (mX9_addWater).1.cls ≠ "java/lang/invoke/VarHandle" ∧ (parseMethodDescriptor (mX9_addWater).1.desc).map (fun d => d.parameters.length) = some 2 := by decide +kernel
theorem mi_X9_stopMouth : Cond.instanceMethod yX9_stopMouth ∈ g_T := g_inT1 (i := 870) (by decide +kernel) (by decide +kernel)
theorem me_X9_stopMouth : Cond.selects RX9 yX9_stopMouth yX9_stopMouth ∈ g_T := g_inT1 (i := 871) (by decide +kernel) (by decide +kernel)
theorem mc_X9_stopMouth : Cond.code yX9_stopMouth cX9_stopMouth 3 (some .boolean) ∈ g_T := g_inT1 (i := 872) (by decide +kernel) (by decide +kernel)
theorem mp_X9_stopMouth : (mX9_stopMouth).1.cls ≠ "java/lang/invoke/MethodHandle" ∧ (mX9_stopMouth).1.cls ≠ "java/lang/invoke/VarHandle" ∧ (parseMethodDescriptor (mX9_stopMouth).1.desc).map (fun d => d.parameters.length) = some 1 := by decide +kernel
theorem mi_X9_clearMouth : Cond.instanceMethod yX9_clearMouth ∈ g_T := g_inT1 (i := 878) (by decide +kernel) (by decide +kernel)
theorem me_X9_clearMouth : Cond.selects RX9 yX9_clearMouth yX9_clearMouth ∈ g_T := g_inT1 (i := 879) (by decide +kernel) (by decide +kernel)
theorem mc_X9_clearMouth : Cond.code yX9_clearMouth cX9_clearMouth 3 (some .boolean) ∈ g_T := g_inT1 (i := 880) (by decide +kernel) (by decide +kernel)
theorem mp_X9_clearMouth : (mX9_clearMouth).1.cls ≠ "java/lang/invoke/MethodHandle" ∧ (mX9_clearMouth).1.cls ≠ "java/lang/invoke/VarHandle" ∧ (parseMethodDescriptor (mX9_clearMouth).1.desc).map (fun d => d.parameters.length) = some 1 := by decide +kernel
theorem mi_X9_passMinute : Cond.instanceMethod yX9_passMinute ∈ g_T := g_inT1 (i := 821) (by decide +kernel) (by decide +kernel)
theorem me_X9_passMinute : Cond.selects RX9 yX9_passMinute yX9_passMinute ∈ g_T := g_inT1 (i := 822) (by decide +kernel) (by decide +kernel)
theorem mc_X9_passMinute : Cond.code yX9_passMinute cX9_passMinute 4 (some .int) ∈ g_T := g_inT1 (i := 823) (by decide +kernel) (by decide +kernel)
theorem mp_X9_passMinute : (mX9_passMinute).1.cls ≠ "java/lang/invoke/MethodHandle" ∧ (mX9_passMinute).1.cls ≠ "java/lang/invoke/VarHandle" ∧ (parseMethodDescriptor (mX9_passMinute).1.desc).map (fun d => d.parameters.length) = some 2 := by decide +kernel
theorem mi_X9_runOver : Cond.instanceMethod yX9_runOver ∈ g_T := g_inT1 (i := 826) (by decide +kernel) (by decide +kernel)
theorem me_X9_runOver : Cond.selects RX9 yX9_runOver yX9_runOver ∈ g_T := g_inT0 (i := 21) (by decide +kernel) (by decide +kernel)
theorem mc_X9_runOver : Cond.code yX9_runOver cX9_runOver 5 none ∈ g_T := g_inT1 (i := 827) (by decide +kernel) (by decide +kernel)
theorem mp_X9_runOver : (mX9_runOver).1.cls ≠ "java/lang/invoke/MethodHandle" ∧ (mX9_runOver).1.cls ≠ "java/lang/invoke/VarHandle" ∧ (parseMethodDescriptor (mX9_runOver).1.desc).map (fun d => d.parameters.length) = some 2 := by decide +kernel
theorem mi_X9_spout : Cond.instanceMethod yX9_spout ∈ g_T := g_inT1 (i := 830) (by decide +kernel) (by decide +kernel)
theorem me_X9_spout : Cond.selects RX9 yX9_spout yX9_spout ∈ g_T := g_inT0 (i := 22) (by decide +kernel) (by decide +kernel)
theorem mc_X9_spout : Cond.code yX9_spout cX9_spout 3 none ∈ g_T := g_inT1 (i := 831) (by decide +kernel) (by decide +kernel)
theorem mp_X9_spout : (mX9_spout).1.cls ≠ "java/lang/invoke/MethodHandle" ∧ (mX9_spout).1.cls ≠ "java/lang/invoke/VarHandle" ∧ (parseMethodDescriptor (mX9_spout).1.desc).map (fun d => d.parameters.length) = some 2 := by decide +kernel
theorem mi_X9_soundingNow : Cond.instanceMethod yX9_soundingNow ∈ g_T := g_inT1 (i := 840) (by decide +kernel) (by decide +kernel)
theorem me_X9_soundingNow : Cond.selects RX9 yX9_soundingNow yX9_soundingNow ∈ g_T := g_inT0 (i := 23) (by decide +kernel) (by decide +kernel)
theorem mc_X9_soundingNow : Cond.code yX9_soundingNow cX9_soundingNow 5 (some .int) ∈ g_T := g_inT1 (i := 841) (by decide +kernel) (by decide +kernel)
theorem mp_X9_soundingNow : (mX9_soundingNow).1.cls ≠ "java/lang/invoke/MethodHandle" ∧ (mX9_soundingNow).1.cls ≠ "java/lang/invoke/VarHandle" ∧ (parseMethodDescriptor (mX9_soundingNow).1.desc).map (fun d => d.parameters.length) = some 2 := by decide +kernel
theorem mi_X9_allWater : Cond.instanceMethod yX9_allWater ∈ g_T := g_inT1 (i := 921) (by decide +kernel) (by decide +kernel)
theorem me_X9_allWater : Cond.selects RX9 yX9_allWater yX9_allWater ∈ g_T := g_inT1 (i := 922) (by decide +kernel) (by decide +kernel)
theorem mc_X9_allWater : Cond.code yX9_allWater cX9_allWater 4 (some .int) ∈ g_T := g_inT1 (i := 923) (by decide +kernel) (by decide +kernel)
theorem mp_X9_allWater : (mX9_allWater).1.cls ≠ "java/lang/invoke/MethodHandle" ∧ (mX9_allWater).1.cls ≠ "java/lang/invoke/VarHandle" ∧ (parseMethodDescriptor (mX9_allWater).1.desc).map (fun d => d.parameters.length) = some 1 := by decide +kernel
theorem mi_X9_flowsUnlike : Cond.instanceMethod yX9_flowsUnlike ∈ g_T := g_inT1 (i := 957) (by decide +kernel) (by decide +kernel)
theorem me_X9_flowsUnlike : Cond.selects RX9 yX9_flowsUnlike yX9_flowsUnlike ∈ g_T := g_inT1 (i := 958) (by decide +kernel) (by decide +kernel)
theorem mc_X9_flowsUnlike : Cond.code yX9_flowsUnlike cX9_flowsUnlike 5 (some .int) ∈ g_T := g_inT1 (i := 959) (by decide +kernel) (by decide +kernel)
theorem mp_X9_flowsUnlike : (mX9_flowsUnlike).1.cls ≠ "java/lang/invoke/MethodHandle" ∧ (mX9_flowsUnlike).1.cls ≠ "java/lang/invoke/VarHandle" ∧ (parseMethodDescriptor (mX9_flowsUnlike).1.desc).map (fun d => d.parameters.length) = some 2 := by decide +kernel
theorem mi_X9_signsLike : Cond.instanceMethod yX9_signsLike ∈ g_T := g_inT1 (i := 898) (by decide +kernel) (by decide +kernel)
theorem me_X9_signsLike : Cond.selects RX9 yX9_signsLike yX9_signsLike ∈ g_T := g_inT1 (i := 899) (by decide +kernel) (by decide +kernel)
theorem mc_X9_signsLike : Cond.code yX9_signsLike cX9_signsLike 4 (some .int) ∈ g_T := g_inT1 (i := 900) (by decide +kernel) (by decide +kernel)
theorem mp_X9_signsLike : (mX9_signsLike).1.cls ≠ "java/lang/invoke/MethodHandle" ∧ (mX9_signsLike).1.cls ≠ "java/lang/invoke/VarHandle" ∧ (parseMethodDescriptor (mX9_signsLike).1.desc).map (fun d => d.parameters.length) = some 1 := by decide +kernel
theorem mi_X9_placeOf : Cond.instanceMethod yX9_placeOf ∈ g_T := g_inT1 (i := 1004) (by decide +kernel) (by decide +kernel)
theorem me_X9_placeOf : Cond.selects RX9 yX9_placeOf yX9_placeOf ∈ g_T := g_inT1 (i := 1005) (by decide +kernel) (by decide +kernel)
theorem mc_X9_placeOf : Cond.code yX9_placeOf cX9_placeOf 3 (some .int) ∈ g_T := g_inT1 (i := 1006) (by decide +kernel) (by decide +kernel)
theorem mp_X9_placeOf : (mX9_placeOf).1.cls ≠ "java/lang/invoke/MethodHandle" ∧ (mX9_placeOf).1.cls ≠ "java/lang/invoke/VarHandle" ∧ (parseMethodDescriptor (mX9_placeOf).1.desc).map (fun d => d.parameters.length) = some 1 := by decide +kernel
theorem mi_X9_placesFor : Cond.instanceMethod yX9_placesFor ∈ g_T := g_inT1 (i := 1016) (by decide +kernel) (by decide +kernel)
theorem me_X9_placesFor : Cond.selects RX9 yX9_placesFor yX9_placesFor ∈ g_T := g_inT1 (i := 1017) (by decide +kernel) (by decide +kernel)
theorem mc_X9_placesFor : Cond.code yX9_placesFor cX9_placesFor 4 (some .int) ∈ g_T := g_inT1 (i := 1018) (by decide +kernel) (by decide +kernel)
theorem mp_X9_placesFor : (mX9_placesFor).1.cls ≠ "java/lang/invoke/MethodHandle" ∧ (mX9_placesFor).1.cls ≠ "java/lang/invoke/VarHandle" ∧ (parseMethodDescriptor (mX9_placesFor).1.desc).map (fun d => d.parameters.length) = some 1 := by decide +kernel
theorem mi_X9_fitsAt : Cond.instanceMethod yX9_fitsAt ∈ g_T := g_inT1 (i := 1009) (by decide +kernel) (by decide +kernel)
theorem me_X9_fitsAt : Cond.selects RX9 yX9_fitsAt yX9_fitsAt ∈ g_T := g_inT0 (i := 28) (by decide +kernel) (by decide +kernel)
theorem mc_X9_fitsAt : Cond.code yX9_fitsAt cX9_fitsAt 7 (some .boolean) ∈ g_T := g_inT1 (i := 1010) (by decide +kernel) (by decide +kernel)
theorem mp_X9_fitsAt : (mX9_fitsAt).1.cls ≠ "java/lang/invoke/MethodHandle" ∧ (mX9_fitsAt).1.cls ≠ "java/lang/invoke/VarHandle" ∧ (parseMethodDescriptor (mX9_fitsAt).1.desc).map (fun d => d.parameters.length) = some 3 := by decide +kernel
theorem mi_X10_init : Cond.instanceMethod yX10_init ∈ g_T := g_inT1 (i := 231) (by decide +kernel) (by decide +kernel)
theorem mc_X10_init : Cond.code yX10_init cX10_init 1 none ∈ g_T := g_inT1 (i := 232) (by decide +kernel) (by decide +kernel)
theorem mp_X10_init : (mX10_init).1.cls ≠ "java/lang/invoke/MethodHandle" ∧ (mX10_init).1.cls ≠ "java/lang/invoke/VarHandle" ∧ (parseMethodDescriptor (mX10_init).1.desc).map (fun d => d.parameters.length) = some 0 := by decide +kernel
theorem mi_X10_copyFrom : Cond.instanceMethod yX10_copyFrom ∈ g_T := g_inT1 (i := 1104) (by decide +kernel) (by decide +kernel)
theorem me_X10_copyFrom : Cond.selects RX10 yX10_copyFrom yX10_copyFrom ∈ g_T := g_inT1 (i := 1105) (by decide +kernel) (by decide +kernel)
theorem mc_X10_copyFrom : Cond.code yX10_copyFrom cX10_copyFrom 2 none ∈ g_T := g_inT1 (i := 1106) (by decide +kernel) (by decide +kernel)
theorem mp_X10_copyFrom : (mX10_copyFrom).1.cls ≠ "java/lang/invoke/MethodHandle" ∧ (mX10_copyFrom).1.cls ≠ "java/lang/invoke/VarHandle" ∧ (parseMethodDescriptor (mX10_copyFrom).1.desc).map (fun d => d.parameters.length) = some 1 := by decide +kernel
theorem mi_X11_init : Cond.instanceMethod yX11_init ∈ g_T := g_inT1 (i := 29) (by decide +kernel) (by decide +kernel)
theorem mc_X11_init : Cond.code yX11_init cX11_init 2 none ∈ g_T := g_inT1 (i := 30) (by decide +kernel) (by decide +kernel)
theorem mp_X11_init : (mX11_init).1.cls ≠ "java/lang/invoke/MethodHandle" ∧ (mX11_init).1.cls ≠ "java/lang/invoke/VarHandle" ∧ (parseMethodDescriptor (mX11_init).1.desc).map (fun d => d.parameters.length) = some 0 := by decide +kernel
theorem mi_X11_feed : Cond.instanceMethod yX11_feed ∈ g_T := g_inT1 (i := 402) (by decide +kernel) (by decide +kernel)
theorem me_X11_feed : Cond.selects RX11 yX11_feed yX11_feed ∈ g_T := g_inT1 (i := 403) (by decide +kernel) (by decide +kernel)
theorem mc_X11_feed : Cond.code yX11_feed cX11_feed 7 (some .int) ∈ g_T := g_inT1 (i := 404) (by decide +kernel) (by decide +kernel)
theorem mp_X11_feed : (mX11_feed).1.cls ≠ "java/lang/invoke/MethodHandle" ∧ (mX11_feed).1.cls ≠ "java/lang/invoke/VarHandle" ∧ (parseMethodDescriptor (mX11_feed).1.desc).map (fun d => d.parameters.length) = some 3 := by decide +kernel
theorem mi_X11_front : Cond.instanceMethod yX11_front ∈ g_T := g_inT1 (i := 411) (by decide +kernel) (by decide +kernel)
theorem me_X11_front : Cond.selects RX11 yX11_front yX11_front ∈ g_T := g_inT1 (i := 412) (by decide +kernel) (by decide +kernel)
theorem mc_X11_front : Cond.code yX11_front cX11_front 3 (some .int) ∈ g_T := g_inT1 (i := 413) (by decide +kernel) (by decide +kernel)
theorem mp_X11_front : (mX11_front).1.cls ≠ "java/lang/invoke/MethodHandle" ∧ (mX11_front).1.cls ≠ "java/lang/invoke/VarHandle" ∧ (parseMethodDescriptor (mX11_front).1.desc).map (fun d => d.parameters.length) = some 0 := by decide +kernel
theorem mi_X11_day : Cond.instanceMethod yX11_day ∈ g_T := g_inT1 (i := 734) (by decide +kernel) (by decide +kernel)
theorem me_X11_day : Cond.selects RX11 yX11_day yX11_day ∈ g_T := g_inT1 (i := 735) (by decide +kernel) (by decide +kernel)
theorem mc_X11_day : Cond.code yX11_day cX11_day 3 (some .int) ∈ g_T := g_inT1 (i := 736) (by decide +kernel) (by decide +kernel)
theorem mp_X11_day : (mX11_day).1.cls ≠ "java/lang/invoke/MethodHandle" ∧ (mX11_day).1.cls ≠ "java/lang/invoke/VarHandle" ∧ (parseMethodDescriptor (mX11_day).1.desc).map (fun d => d.parameters.length) = some 0 := by decide +kernel
theorem mi_X11_word : Cond.instanceMethod yX11_word ∈ g_T := g_inT1 (i := 763) (by decide +kernel) (by decide +kernel)
theorem me_X11_word : Cond.selects RX11 yX11_word yX11_word ∈ g_T := g_inT1 (i := 764) (by decide +kernel) (by decide +kernel)
theorem mc_X11_word : Cond.code yX11_word cX11_word 3 (some .int) ∈ g_T := g_inT1 (i := 765) (by decide +kernel) (by decide +kernel)
theorem mp_X11_word : (mX11_word).1.cls ≠ "java/lang/invoke/MethodHandle" ∧ (mX11_word).1.cls ≠ "java/lang/invoke/VarHandle" ∧ (parseMethodDescriptor (mX11_word).1.desc).map (fun d => d.parameters.length) = some 0 := by decide +kernel
theorem mi_X11_mouth : Cond.instanceMethod yX11_mouth ∈ g_T := g_inT1 (i := 777) (by decide +kernel) (by decide +kernel)
theorem me_X11_mouth : Cond.selects RX11 yX11_mouth yX11_mouth ∈ g_T := g_inT1 (i := 778) (by decide +kernel) (by decide +kernel)
theorem mc_X11_mouth : Cond.code yX11_mouth cX11_mouth 3 (some .int) ∈ g_T := g_inT1 (i := 779) (by decide +kernel) (by decide +kernel)
theorem mp_X11_mouth : (mX11_mouth).1.cls ≠ "java/lang/invoke/MethodHandle" ∧ (mX11_mouth).1.cls ≠ "java/lang/invoke/VarHandle" ∧ (parseMethodDescriptor (mX11_mouth).1.desc).map (fun d => d.parameters.length) = some 2 := by decide +kernel
theorem mi_X11_letter : Cond.instanceMethod yX11_letter ∈ g_T := g_inT1 (i := 789) (by decide +kernel) (by decide +kernel)
theorem me_X11_letter : Cond.selects RX11 yX11_letter yX11_letter ∈ g_T := g_inT1 (i := 790) (by decide +kernel) (by decide +kernel)
theorem mc_X11_letter : Cond.code yX11_letter cX11_letter 2 (some .int) ∈ g_T := g_inT1 (i := 791) (by decide +kernel) (by decide +kernel)
theorem mp_X11_letter : (mX11_letter).1.cls ≠ "java/lang/invoke/MethodHandle" ∧ (mX11_letter).1.cls ≠ "java/lang/invoke/VarHandle" ∧ (parseMethodDescriptor (mX11_letter).1.desc).map (fun d => d.parameters.length) = some 1 := by decide +kernel
theorem mi_X11_slate : Cond.instanceMethod yX11_slate ∈ g_T := g_inT1 (i := 797) (by decide +kernel) (by decide +kernel)
theorem me_X11_slate : Cond.selects RX11 yX11_slate yX11_slate ∈ g_T := g_inT1 (i := 798) (by decide +kernel) (by decide +kernel)
theorem mc_X11_slate : Cond.code yX11_slate cX11_slate 2 (some .int) ∈ g_T := g_inT1 (i := 799) (by decide +kernel) (by decide +kernel)
theorem mp_X11_slate : (mX11_slate).1.cls ≠ "java/lang/invoke/MethodHandle" ∧ (mX11_slate).1.cls ≠ "java/lang/invoke/VarHandle" ∧ (parseMethodDescriptor (mX11_slate).1.desc).map (fun d => d.parameters.length) = some 1 := by decide +kernel
theorem mi_X11_minute : Cond.instanceMethod yX11_minute ∈ g_T := g_inT1 (i := 801) (by decide +kernel) (by decide +kernel)
theorem me_X11_minute : Cond.selects RX11 yX11_minute yX11_minute ∈ g_T := g_inT1 (i := 802) (by decide +kernel) (by decide +kernel)
theorem mc_X11_minute : Cond.code yX11_minute cX11_minute 1 (some .int) ∈ g_T := g_inT1 (i := 803) (by decide +kernel) (by decide +kernel)
theorem mp_X11_minute : (mX11_minute).1.cls ≠ "java/lang/invoke/MethodHandle" ∧ (mX11_minute).1.cls ≠ "java/lang/invoke/VarHandle" ∧ (parseMethodDescriptor (mX11_minute).1.desc).map (fun d => d.parameters.length) = some 0 := by decide +kernel
theorem mi_X11_pour : Cond.instanceMethod yX11_pour ∈ g_T := g_inT1 (i := 858) (by decide +kernel) (by decide +kernel)
theorem me_X11_pour : Cond.selects RX11 yX11_pour yX11_pour ∈ g_T := g_inT1 (i := 859) (by decide +kernel) (by decide +kernel)
theorem mc_X11_pour : Cond.code yX11_pour cX11_pour 3 (some .int) ∈ g_T := g_inT1 (i := 860) (by decide +kernel) (by decide +kernel)
theorem mp_X11_pour : (mX11_pour).1.cls ≠ "java/lang/invoke/MethodHandle" ∧ (mX11_pour).1.cls ≠ "java/lang/invoke/VarHandle" ∧ (parseMethodDescriptor (mX11_pour).1.desc).map (fun d => d.parameters.length) = some 2 := by decide +kernel
theorem mi_X11_stop : Cond.instanceMethod yX11_stop ∈ g_T := g_inT1 (i := 866) (by decide +kernel) (by decide +kernel)
theorem me_X11_stop : Cond.selects RX11 yX11_stop yX11_stop ∈ g_T := g_inT1 (i := 867) (by decide +kernel) (by decide +kernel)
theorem mc_X11_stop : Cond.code yX11_stop cX11_stop 2 (some .boolean) ∈ g_T := g_inT1 (i := 868) (by decide +kernel) (by decide +kernel)
theorem mp_X11_stop : (mX11_stop).1.cls ≠ "java/lang/invoke/MethodHandle" ∧ (mX11_stop).1.cls ≠ "java/lang/invoke/VarHandle" ∧ (parseMethodDescriptor (mX11_stop).1.desc).map (fun d => d.parameters.length) = some 1 := by decide +kernel
theorem mi_X11_clear : Cond.instanceMethod yX11_clear ∈ g_T := g_inT1 (i := 874) (by decide +kernel) (by decide +kernel)
theorem me_X11_clear : Cond.selects RX11 yX11_clear yX11_clear ∈ g_T := g_inT1 (i := 875) (by decide +kernel) (by decide +kernel)
theorem mc_X11_clear : Cond.code yX11_clear cX11_clear 2 (some .boolean) ∈ g_T := g_inT1 (i := 876) (by decide +kernel) (by decide +kernel)
theorem mp_X11_clear : (mX11_clear).1.cls ≠ "java/lang/invoke/MethodHandle" ∧ (mX11_clear).1.cls ≠ "java/lang/invoke/VarHandle" ∧ (parseMethodDescriptor (mX11_clear).1.desc).map (fun d => d.parameters.length) = some 1 := by decide +kernel
theorem mi_X11_undo : Cond.instanceMethod yX11_undo ∈ g_T := g_inT1 (i := 882) (by decide +kernel) (by decide +kernel)
theorem me_X11_undo : Cond.selects RX11 yX11_undo yX11_undo ∈ g_T := g_inT1 (i := 883) (by decide +kernel) (by decide +kernel)
theorem mc_X11_undo : Cond.code yX11_undo cX11_undo 1 (some .boolean) ∈ g_T := g_inT1 (i := 884) (by decide +kernel) (by decide +kernel)
theorem mp_X11_undo : (mX11_undo).1.cls ≠ "java/lang/invoke/MethodHandle" ∧ (mX11_undo).1.cls ≠ "java/lang/invoke/VarHandle" ∧ (parseMethodDescriptor (mX11_undo).1.desc).map (fun d => d.parameters.length) = some 0 := by decide +kernel
theorem mi_X11_judged : Cond.instanceMethod yX11_judged ∈ g_T := g_inT1 (i := 886) (by decide +kernel) (by decide +kernel)
theorem me_X11_judged : Cond.selects RX11 yX11_judged yX11_judged ∈ g_T := g_inT1 (i := 887) (by decide +kernel) (by decide +kernel)
theorem mc_X11_judged : Cond.code yX11_judged cX11_judged 6 (some .int) ∈ g_T := g_inT1 (i := 888) (by decide +kernel) (by decide +kernel)
theorem mp_X11_judged : (mX11_judged).1.cls ≠ "java/lang/invoke/MethodHandle" ∧ (mX11_judged).1.cls ≠ "java/lang/invoke/VarHandle" ∧ (parseMethodDescriptor (mX11_judged).1.desc).map (fun d => d.parameters.length) = some 1 := by decide +kernel
theorem mi_X11_later : Cond.instanceMethod yX11_later ∈ g_T := g_inT1 (i := 902) (by decide +kernel) (by decide +kernel)
theorem me_X11_later : Cond.selects RX11 yX11_later yX11_later ∈ g_T := g_inT1 (i := 903) (by decide +kernel) (by decide +kernel)
theorem mc_X11_later : Cond.code yX11_later cX11_later 4 (some .int) ∈ g_T := g_inT1 (i := 904) (by decide +kernel) (by decide +kernel)
theorem mp_X11_later : (mX11_later).1.cls ≠ "java/lang/invoke/MethodHandle" ∧ (mX11_later).1.cls ≠ "java/lang/invoke/VarHandle" ∧ (parseMethodDescriptor (mX11_later).1.desc).map (fun d => d.parameters.length) = some 2 := by decide +kernel
theorem mi_X11_reads : Cond.instanceMethod yX11_reads ∈ g_T := g_inT1 (i := 906) (by decide +kernel) (by decide +kernel)
theorem me_X11_reads : Cond.selects RX11 yX11_reads yX11_reads ∈ g_T := g_inT1 (i := 907) (by decide +kernel) (by decide +kernel)
theorem mc_X11_reads : Cond.code yX11_reads cX11_reads 3 (some .int) ∈ g_T := g_inT1 (i := 908) (by decide +kernel) (by decide +kernel)
theorem mp_X11_reads : (mX11_reads).1.cls ≠ "java/lang/invoke/MethodHandle" ∧ (mX11_reads).1.cls ≠ "java/lang/invoke/VarHandle" ∧ (parseMethodDescriptor (mX11_reads).1.desc).map (fun d => d.parameters.length) = some 1 := by decide +kernel
theorem mi_X11_when : Cond.instanceMethod yX11_when ∈ g_T := g_inT1 (i := 913) (by decide +kernel) (by decide +kernel)
theorem me_X11_when : Cond.selects RX11 yX11_when yX11_when ∈ g_T := g_inT1 (i := 914) (by decide +kernel) (by decide +kernel)
theorem mc_X11_when : Cond.code yX11_when cX11_when 3 (some .int) ∈ g_T := g_inT1 (i := 915) (by decide +kernel) (by decide +kernel)
theorem mp_X11_when : (mX11_when).1.cls ≠ "java/lang/invoke/MethodHandle" ∧ (mX11_when).1.cls ≠ "java/lang/invoke/VarHandle" ∧ (parseMethodDescriptor (mX11_when).1.desc).map (fun d => d.parameters.length) = some 1 := by decide +kernel
theorem mi_X11_dry : Cond.instanceMethod yX11_dry ∈ g_T := g_inT1 (i := 917) (by decide +kernel) (by decide +kernel)
theorem me_X11_dry : Cond.selects RX11 yX11_dry yX11_dry ∈ g_T := g_inT1 (i := 918) (by decide +kernel) (by decide +kernel)
theorem mc_X11_dry : Cond.code yX11_dry cX11_dry 2 (some .int) ∈ g_T := g_inT1 (i := 919) (by decide +kernel) (by decide +kernel)
theorem mp_X11_dry : (mX11_dry).1.cls ≠ "java/lang/invoke/MethodHandle" ∧ (mX11_dry).1.cls ≠ "java/lang/invoke/VarHandle" ∧ (parseMethodDescriptor (mX11_dry).1.desc).map (fun d => d.parameters.length) = some 0 := by decide +kernel
theorem mi_X11_spill : Cond.instanceMethod yX11_spill ∈ g_T := g_inT1 (i := 925) (by decide +kernel) (by decide +kernel)
theorem me_X11_spill : Cond.selects RX11 yX11_spill yX11_spill ∈ g_T := g_inT1 (i := 926) (by decide +kernel) (by decide +kernel)
theorem mc_X11_spill : Cond.code yX11_spill cX11_spill 4 (some .int) ∈ g_T := g_inT1 (i := 927) (by decide +kernel) (by decide +kernel)
theorem mp_X11_spill : (mX11_spill).1.cls ≠ "java/lang/invoke/MethodHandle" ∧ (mX11_spill).1.cls ≠ "java/lang/invoke/VarHandle" ∧ (parseMethodDescriptor (mX11_spill).1.desc).map (fun d => d.parameters.length) = some 1 := by decide +kernel
theorem mi_X11_over : Cond.instanceMethod yX11_over ∈ g_T := g_inT1 (i := 929) (by decide +kernel) (by decide +kernel)
theorem me_X11_over : Cond.selects RX11 yX11_over yX11_over ∈ g_T := g_inT1 (i := 930) (by decide +kernel) (by decide +kernel)
theorem mc_X11_over : Cond.code yX11_over cX11_over 3 (some .int) ∈ g_T := g_inT1 (i := 931) (by decide +kernel) (by decide +kernel)
theorem mp_X11_over : (mX11_over).1.cls ≠ "java/lang/invoke/MethodHandle" ∧ (mX11_over).1.cls ≠ "java/lang/invoke/VarHandle" ∧ (parseMethodDescriptor (mX11_over).1.desc).map (fun d => d.parameters.length) = some 1 := by decide +kernel
theorem mi_X11_first : Cond.instanceMethod yX11_first ∈ g_T := g_inT1 (i := 937) (by decide +kernel) (by decide +kernel)
theorem me_X11_first : Cond.selects RX11 yX11_first yX11_first ∈ g_T := g_inT1 (i := 938) (by decide +kernel) (by decide +kernel)
theorem mc_X11_first : Cond.code yX11_first cX11_first 3 (some .int) ∈ g_T := g_inT1 (i := 939) (by decide +kernel) (by decide +kernel)
theorem mp_X11_first : (mX11_first).1.cls ≠ "java/lang/invoke/MethodHandle" ∧ (mX11_first).1.cls ≠ "java/lang/invoke/VarHandle" ∧ (parseMethodDescriptor (mX11_first).1.desc).map (fun d => d.parameters.length) = some 0 := by decide +kernel
theorem mi_X11_great : Cond.instanceMethod yX11_great ∈ g_T := g_inT1 (i := 941) (by decide +kernel) (by decide +kernel)
theorem me_X11_great : Cond.selects RX11 yX11_great yX11_great ∈ g_T := g_inT1 (i := 942) (by decide +kernel) (by decide +kernel)
theorem mc_X11_great : Cond.code yX11_great cX11_great 4 (some .int) ∈ g_T := g_inT1 (i := 943) (by decide +kernel) (by decide +kernel)
theorem mp_X11_great : (mX11_great).1.cls ≠ "java/lang/invoke/MethodHandle" ∧ (mX11_great).1.cls ≠ "java/lang/invoke/VarHandle" ∧ (parseMethodDescriptor (mX11_great).1.desc).map (fun d => d.parameters.length) = some 1 := by decide +kernel
theorem mi_X11_twins : Cond.instanceMethod yX11_twins ∈ g_T := g_inT1 (i := 953) (by decide +kernel) (by decide +kernel)
theorem me_X11_twins : Cond.selects RX11 yX11_twins yX11_twins ∈ g_T := g_inT1 (i := 954) (by decide +kernel) (by decide +kernel)
theorem mc_X11_twins : Cond.code yX11_twins cX11_twins 5 (some .int) ∈ g_T := g_inT1 (i := 955) (by decide +kernel) (by decide +kernel)
theorem mp_X11_twins : (mX11_twins).1.cls ≠ "java/lang/invoke/MethodHandle" ∧ (mX11_twins).1.cls ≠ "java/lang/invoke/VarHandle" ∧ (parseMethodDescriptor (mX11_twins).1.desc).map (fun d => d.parameters.length) = some 1 := by decide +kernel
theorem mi_X11_down : Cond.instanceMethod yX11_down ∈ g_T := g_inT1 (i := 967) (by decide +kernel) (by decide +kernel)
theorem me_X11_down : Cond.selects RX11 yX11_down yX11_down ∈ g_T := g_inT1 (i := 968) (by decide +kernel) (by decide +kernel)
theorem mc_X11_down : Cond.code yX11_down cX11_down 2 (some .int) ∈ g_T := g_inT1 (i := 969) (by decide +kernel) (by decide +kernel)
theorem mp_X11_down : (mX11_down).1.cls ≠ "java/lang/invoke/MethodHandle" ∧ (mX11_down).1.cls ≠ "java/lang/invoke/VarHandle" ∧ (parseMethodDescriptor (mX11_down).1.desc).map (fun d => d.parameters.length) = some 1 := by decide +kernel
theorem mi_X11_up : Cond.instanceMethod yX11_up ∈ g_T := g_inT1 (i := 975) (by decide +kernel) (by decide +kernel)
theorem me_X11_up : Cond.selects RX11 yX11_up yX11_up ∈ g_T := g_inT1 (i := 976) (by decide +kernel) (by decide +kernel)
theorem mc_X11_up : Cond.code yX11_up cX11_up 4 (some .int) ∈ g_T := g_inT1 (i := 977) (by decide +kernel) (by decide +kernel)
theorem mp_X11_up : (mX11_up).1.cls ≠ "java/lang/invoke/MethodHandle" ∧ (mX11_up).1.cls ≠ "java/lang/invoke/VarHandle" ∧ (parseMethodDescriptor (mX11_up).1.desc).map (fun d => d.parameters.length) = some 1 := by decide +kernel
theorem mi_X11_chain : Cond.instanceMethod yX11_chain ∈ g_T := g_inT1 (i := 979) (by decide +kernel) (by decide +kernel)
theorem me_X11_chain : Cond.selects RX11 yX11_chain yX11_chain ∈ g_T := g_inT1 (i := 980) (by decide +kernel) (by decide +kernel)
theorem mc_X11_chain : Cond.code yX11_chain cX11_chain 3 (some .int) ∈ g_T := g_inT1 (i := 981) (by decide +kernel) (by decide +kernel)
theorem mp_X11_chain : (mX11_chain).1.cls ≠ "java/lang/invoke/MethodHandle" ∧ (mX11_chain).1.cls ≠ "java/lang/invoke/VarHandle" ∧ (parseMethodDescriptor (mX11_chain).1.desc).map (fun d => d.parameters.length) = some 0 := by decide +kernel
theorem mi_X11_sounds : Cond.instanceMethod yX11_sounds ∈ g_T := g_inT1 (i := 984) (by decide +kernel) (by decide +kernel)
theorem me_X11_sounds : Cond.selects RX11 yX11_sounds yX11_sounds ∈ g_T := g_inT1 (i := 985) (by decide +kernel) (by decide +kernel)
theorem mc_X11_sounds : Cond.code yX11_sounds cX11_sounds 1 (some .int) ∈ g_T := g_inT1 (i := 986) (by decide +kernel) (by decide +kernel)
theorem mp_X11_sounds : (mX11_sounds).1.cls ≠ "java/lang/invoke/MethodHandle" ∧ (mX11_sounds).1.cls ≠ "java/lang/invoke/VarHandle" ∧ (parseMethodDescriptor (mX11_sounds).1.desc).map (fun d => d.parameters.length) = some 0 := by decide +kernel
theorem mi_X11_last : Cond.instanceMethod yX11_last ∈ g_T := g_inT1 (i := 988) (by decide +kernel) (by decide +kernel)
theorem me_X11_last : Cond.selects RX11 yX11_last yX11_last ∈ g_T := g_inT1 (i := 989) (by decide +kernel) (by decide +kernel)
theorem mc_X11_last : Cond.code yX11_last cX11_last 1 (some .int) ∈ g_T := g_inT1 (i := 990) (by decide +kernel) (by decide +kernel)
theorem mp_X11_last : (mX11_last).1.cls ≠ "java/lang/invoke/MethodHandle" ∧ (mX11_last).1.cls ≠ "java/lang/invoke/VarHandle" ∧ (parseMethodDescriptor (mX11_last).1.desc).map (fun d => d.parameters.length) = some 0 := by decide +kernel
theorem mi_X11_often : Cond.instanceMethod yX11_often ∈ g_T := g_inT1 (i := 992) (by decide +kernel) (by decide +kernel)
theorem me_X11_often : Cond.selects RX11 yX11_often yX11_often ∈ g_T := g_inT1 (i := 993) (by decide +kernel) (by decide +kernel)
theorem mc_X11_often : Cond.code yX11_often cX11_often 2 (some .int) ∈ g_T := g_inT1 (i := 994) (by decide +kernel) (by decide +kernel)
theorem mp_X11_often : (mX11_often).1.cls ≠ "java/lang/invoke/MethodHandle" ∧ (mX11_often).1.cls ≠ "java/lang/invoke/VarHandle" ∧ (parseMethodDescriptor (mX11_often).1.desc).map (fun d => d.parameters.length) = some 0 := by decide +kernel
theorem mi_X11_run : Cond.instanceMethod yX11_run ∈ g_T := g_inT1 (i := 996) (by decide +kernel) (by decide +kernel)
theorem me_X11_run : Cond.selects RX11 yX11_run yX11_run ∈ g_T := g_inT1 (i := 997) (by decide +kernel) (by decide +kernel)
theorem mc_X11_run : Cond.code yX11_run cX11_run 5 (some .int) ∈ g_T := g_inT1 (i := 998) (by decide +kernel) (by decide +kernel)
theorem mp_X11_run : (mX11_run).1.cls ≠ "java/lang/invoke/MethodHandle" ∧ (mX11_run).1.cls ≠ "java/lang/invoke/VarHandle" ∧ (parseMethodDescriptor (mX11_run).1.desc).map (fun d => d.parameters.length) = some 0 := by decide +kernel
theorem mi_X11_stands : Cond.instanceMethod yX11_stands ∈ g_T := g_inT1 (i := 1000) (by decide +kernel) (by decide +kernel)
theorem me_X11_stands : Cond.selects RX11 yX11_stands yX11_stands ∈ g_T := g_inT1 (i := 1001) (by decide +kernel) (by decide +kernel)
theorem mc_X11_stands : Cond.code yX11_stands cX11_stands 1 (some .int) ∈ g_T := g_inT1 (i := 1002) (by decide +kernel) (by decide +kernel)
theorem mp_X11_stands : (mX11_stands).1.cls ≠ "java/lang/invoke/MethodHandle" ∧ (mX11_stands).1.cls ≠ "java/lang/invoke/VarHandle" ∧ (parseMethodDescriptor (mX11_stands).1.desc).map (fun d => d.parameters.length) = some 0 := by decide +kernel
theorem mi_X11_maybe : Cond.instanceMethod yX11_maybe ∈ g_T := g_inT1 (i := 1012) (by decide +kernel) (by decide +kernel)
theorem me_X11_maybe : Cond.selects RX11 yX11_maybe yX11_maybe ∈ g_T := g_inT1 (i := 1013) (by decide +kernel) (by decide +kernel)
theorem mc_X11_maybe : Cond.code yX11_maybe cX11_maybe 1 (some .int) ∈ g_T := g_inT1 (i := 1014) (by decide +kernel) (by decide +kernel)
theorem mp_X11_maybe : (mX11_maybe).1.cls ≠ "java/lang/invoke/MethodHandle" ∧ (mX11_maybe).1.cls ≠ "java/lang/invoke/VarHandle" ∧ (parseMethodDescriptor (mX11_maybe).1.desc).map (fun d => d.parameters.length) = some 0 := by decide +kernel
theorem mi_X11_entire : Cond.instanceMethod yX11_entire ∈ g_T := g_inT1 (i := 1020) (by decide +kernel) (by decide +kernel)
theorem me_X11_entire : Cond.selects RX11 yX11_entire yX11_entire ∈ g_T := g_inT1 (i := 1021) (by decide +kernel) (by decide +kernel)
theorem mc_X11_entire : Cond.code yX11_entire cX11_entire 2 (some .int) ∈ g_T := g_inT1 (i := 1022) (by decide +kernel) (by decide +kernel)
theorem mp_X11_entire : (mX11_entire).1.cls ≠ "java/lang/invoke/MethodHandle" ∧ (mX11_entire).1.cls ≠ "java/lang/invoke/VarHandle" ∧ (parseMethodDescriptor (mX11_entire).1.desc).map (fun d => d.parameters.length) = some 0 := by decide +kernel
theorem mi_X11_aim : Cond.instanceMethod yX11_aim ∈ g_T := g_inT1 (i := 1024) (by decide +kernel) (by decide +kernel)
theorem me_X11_aim : Cond.selects RX11 yX11_aim yX11_aim ∈ g_T := g_inT1 (i := 1025) (by decide +kernel) (by decide +kernel)
theorem mc_X11_aim : Cond.code yX11_aim cX11_aim 5 (some .int) ∈ g_T := g_inT1 (i := 1026) (by decide +kernel) (by decide +kernel)
theorem mp_X11_aim : (mX11_aim).1.cls ≠ "java/lang/invoke/MethodHandle" ∧ (mX11_aim).1.cls ≠ "java/lang/invoke/VarHandle" ∧ (parseMethodDescriptor (mX11_aim).1.desc).map (fun d => d.parameters.length) = some 2 := by decide +kernel
theorem mi_X11_hush : Cond.instanceMethod yX11_hush ∈ g_T := g_inT1 (i := 1032) (by decide +kernel) (by decide +kernel)
theorem me_X11_hush : Cond.selects RX11 yX11_hush yX11_hush ∈ g_T := g_inT1 (i := 1033) (by decide +kernel) (by decide +kernel)
theorem mc_X11_hush : Cond.code yX11_hush cX11_hush 6 (some .int) ∈ g_T := g_inT1 (i := 1034) (by decide +kernel) (by decide +kernel)
theorem mp_X11_hush : (mX11_hush).1.cls ≠ "java/lang/invoke/MethodHandle" ∧ (mX11_hush).1.cls ≠ "java/lang/invoke/VarHandle" ∧ (parseMethodDescriptor (mX11_hush).1.desc).map (fun d => d.parameters.length) = some 1 := by decide +kernel
theorem mi_X11_see : Cond.instanceMethod yX11_see ∈ g_T := g_inT1 (i := 1040) (by decide +kernel) (by decide +kernel)
theorem me_X11_see : Cond.selects RX11 yX11_see yX11_see ∈ g_T := g_inT1 (i := 1041) (by decide +kernel) (by decide +kernel)
theorem mc_X11_see : Cond.code yX11_see cX11_see 3 (some .boolean) ∈ g_T := g_inT1 (i := 1042) (by decide +kernel) (by decide +kernel)
theorem mp_X11_see : (mX11_see).1.cls ≠ "java/lang/invoke/MethodHandle" ∧ (mX11_see).1.cls ≠ "java/lang/invoke/VarHandle" ∧ (parseMethodDescriptor (mX11_see).1.desc).map (fun d => d.parameters.length) = some 2 := by decide +kernel
theorem mi_X11_rains : Cond.instanceMethod yX11_rains ∈ g_T := g_inT1 (i := 1048) (by decide +kernel) (by decide +kernel)
theorem me_X11_rains : Cond.selects RX11 yX11_rains yX11_rains ∈ g_T := g_inT1 (i := 1049) (by decide +kernel) (by decide +kernel)
theorem mc_X11_rains : Cond.code yX11_rains cX11_rains 3 (some .int) ∈ g_T := g_inT1 (i := 1050) (by decide +kernel) (by decide +kernel)
theorem mp_X11_rains : (mX11_rains).1.cls ≠ "java/lang/invoke/MethodHandle" ∧ (mX11_rains).1.cls ≠ "java/lang/invoke/VarHandle" ∧ (parseMethodDescriptor (mX11_rains).1.desc).map (fun d => d.parameters.length) = some 0 := by decide +kernel
theorem mi_X11_look : Cond.instanceMethod yX11_look ∈ g_T := g_inT1 (i := 1060) (by decide +kernel) (by decide +kernel)
theorem me_X11_look : Cond.selects RX11 yX11_look yX11_look ∈ g_T := g_inT1 (i := 1061) (by decide +kernel) (by decide +kernel)
theorem mc_X11_look : Cond.code yX11_look cX11_look 6 (some .int) ∈ g_T := g_inT1 (i := 1062) (by decide +kernel) (by decide +kernel)
theorem mp_X11_look : (mX11_look).1.cls ≠ "java/lang/invoke/MethodHandle" ∧ (mX11_look).1.cls ≠ "java/lang/invoke/VarHandle" ∧ (parseMethodDescriptor (mX11_look).1.desc).map (fun d => d.parameters.length) = some 0 := by decide +kernel
theorem mi_X11_chance : Cond.instanceMethod yX11_chance ∈ g_T := g_inT1 (i := 1068) (by decide +kernel) (by decide +kernel)
theorem me_X11_chance : Cond.selects RX11 yX11_chance yX11_chance ∈ g_T := g_inT1 (i := 1069) (by decide +kernel) (by decide +kernel)
theorem mc_X11_chance : Cond.code yX11_chance cX11_chance 9 (some .int) ∈ g_T := g_inT1 (i := 1070) (by decide +kernel) (by decide +kernel)
theorem mp_X11_chance : (mX11_chance).1.cls ≠ "java/lang/invoke/MethodHandle" ∧ (mX11_chance).1.cls ≠ "java/lang/invoke/VarHandle" ∧ (parseMethodDescriptor (mX11_chance).1.desc).map (fun d => d.parameters.length) = some 3 := by decide +kernel
theorem mi_X11_rests : Cond.instanceMethod yX11_rests ∈ g_T := g_inT1 (i := 1121) (by decide +kernel) (by decide +kernel)
theorem me_X11_rests : Cond.selects RX11 yX11_rests yX11_rests ∈ g_T := g_inT1 (i := 1122) (by decide +kernel) (by decide +kernel)
theorem mc_X11_rests : Cond.code yX11_rests cX11_rests 7 (some .int) ∈ g_T := g_inT1 (i := 1123) (by decide +kernel) (by decide +kernel)
theorem mp_X11_rests : (mX11_rests).1.cls ≠ "java/lang/invoke/MethodHandle" ∧ (mX11_rests).1.cls ≠ "java/lang/invoke/VarHandle" ∧ (parseMethodDescriptor (mX11_rests).1.desc).map (fun d => d.parameters.length) = some 4 := by decide +kernel
theorem mi_X11_days : Cond.instanceMethod yX11_days ∈ g_T := g_inT1 (i := 1079) (by decide +kernel) (by decide +kernel)
theorem me_X11_days : Cond.selects RX11 yX11_days yX11_days ∈ g_T := g_inT1 (i := 1080) (by decide +kernel) (by decide +kernel)
theorem mc_X11_days : Cond.code yX11_days cX11_days 9 (some .int) ∈ g_T := g_inT1 (i := 1081) (by decide +kernel) (by decide +kernel)
theorem mp_X11_days : (mX11_days).1.cls ≠ "java/lang/invoke/MethodHandle" ∧ (mX11_days).1.cls ≠ "java/lang/invoke/VarHandle" ∧ (parseMethodDescriptor (mX11_days).1.desc).map (fun d => d.parameters.length) = some 3 := by decide +kernel
theorem mi_X11_mark : Cond.instanceMethod yX11_mark ∈ g_T := g_inT1 (i := 1095) (by decide +kernel) (by decide +kernel)
theorem me_X11_mark : Cond.selects RX11 yX11_mark yX11_mark ∈ g_T := g_inT1 (i := 1096) (by decide +kernel) (by decide +kernel)
theorem mc_X11_mark : Cond.code yX11_mark cX11_mark 4 (some .boolean) ∈ g_T := g_inT1 (i := 1097) (by decide +kernel) (by decide +kernel)
theorem mp_X11_mark : (mX11_mark).1.cls ≠ "java/lang/invoke/MethodHandle" ∧ (mX11_mark).1.cls ≠ "java/lang/invoke/VarHandle" ∧ (parseMethodDescriptor (mX11_mark).1.desc).map (fun d => d.parameters.length) = some 2 := by decide +kernel
theorem mi_X11_count : Cond.instanceMethod yX11_count ∈ g_T := g_inT1 (i := 1113) (by decide +kernel) (by decide +kernel)
theorem me_X11_count : Cond.selects RX11 yX11_count yX11_count ∈ g_T := g_inT1 (i := 1114) (by decide +kernel) (by decide +kernel)
theorem mc_X11_count : Cond.code yX11_count cX11_count 2 (some .int) ∈ g_T := g_inT1 (i := 1115) (by decide +kernel) (by decide +kernel)
theorem mp_X11_count : (mX11_count).1.cls ≠ "java/lang/invoke/MethodHandle" ∧ (mX11_count).1.cls ≠ "java/lang/invoke/VarHandle" ∧ (parseMethodDescriptor (mX11_count).1.desc).map (fun d => d.parameters.length) = some 1 := by decide +kernel
theorem mi_X11_isMouth : Cond.instanceMethod yX11_isMouth ∈ g_T := g_inT1 (i := 782) (by decide +kernel) (by decide +kernel)
theorem me_X11_isMouth : Cond.selects RX11 yX11_isMouth yX11_isMouth ∈ g_T := g_inT0 (i := 18) (by decide +kernel) (by decide +kernel)
theorem mc_X11_isMouth : Cond.code yX11_isMouth cX11_isMouth 2 (some .boolean) ∈ g_T := g_inT1 (i := 783) (by decide +kernel) (by decide +kernel)
theorem mp_X11_isMouth : (mX11_isMouth).1.cls ≠ "java/lang/invoke/MethodHandle" ∧ (mX11_isMouth).1.cls ≠ "java/lang/invoke/VarHandle" ∧ (parseMethodDescriptor (mX11_isMouth).1.desc).map (fun d => d.parameters.length) = some 1 := by decide +kernel
theorem mi_X11_isLetter : Cond.instanceMethod yX11_isLetter ∈ g_T := g_inT1 (i := 794) (by decide +kernel) (by decide +kernel)
theorem me_X11_isLetter : Cond.selects RX11 yX11_isLetter yX11_isLetter ∈ g_T := g_inT0 (i := 19) (by decide +kernel) (by decide +kernel)
theorem mc_X11_isLetter : Cond.code yX11_isLetter cX11_isLetter 2 (some .boolean) ∈ g_T := g_inT1 (i := 795) (by decide +kernel) (by decide +kernel)
theorem mp_X11_isLetter : (mX11_isLetter).1.cls ≠ "java/lang/invoke/MethodHandle" ∧ (mX11_isLetter).1.cls ≠ "java/lang/invoke/VarHandle" ∧ (parseMethodDescriptor (mX11_isLetter).1.desc).map (fun d => d.parameters.length) = some 1 := by decide +kernel
theorem ms_X11_isAhead : Cond.static yX11_isAhead ∈ g_T := g_inT1 (i := 910) (by decide +kernel) (by decide +kernel)
theorem mc_X11_isAhead : Cond.code yX11_isAhead cX11_isAhead 1 (some .boolean) ∈ g_T := g_inT1 (i := 911) (by decide +kernel) (by decide +kernel)
theorem mp_X11_isAhead : (mX11_isAhead).1.cls ≠ "java/lang/invoke/MethodHandle" ∧ (mX11_isAhead).1.cls ≠ "java/lang/invoke/VarHandle" ∧ (parseMethodDescriptor (mX11_isAhead).1.desc).map (fun d => d.parameters.length) = some 1 := by decide +kernel
theorem ms_X11_isDigit : Cond.static yX11_isDigit ∈ g_T := g_inT1 (i := 1125) (by decide +kernel) (by decide +kernel)
theorem mc_X11_isDigit : Cond.code yX11_isDigit cX11_isDigit 1 (some .boolean) ∈ g_T := g_inT1 (i := 1126) (by decide +kernel) (by decide +kernel)
theorem mp_X11_isDigit : (mX11_isDigit).1.cls ≠ "java/lang/invoke/MethodHandle" ∧ (mX11_isDigit).1.cls ≠ "java/lang/invoke/VarHandle" ∧ (parseMethodDescriptor (mX11_isDigit).1.desc).map (fun d => d.parameters.length) = some 1 := by decide +kernel
theorem mi_X11_beginAnew : Cond.instanceMethod yX11_beginAnew ∈ g_T := g_inT1 (i := 722) (by decide +kernel) (by decide +kernel)
theorem me_X11_beginAnew : Cond.selects RX11 yX11_beginAnew yX11_beginAnew ∈ g_T := g_inT0 (i := 14) (by decide +kernel) (by decide +kernel)
theorem mc_X11_beginAnew : Cond.code yX11_beginAnew cX11_beginAnew 2 none ∈ g_T := g_inT1 (i := 723) (by decide +kernel) (by decide +kernel)
theorem mp_X11_beginAnew : (mX11_beginAnew).1.cls ≠ "java/lang/invoke/MethodHandle" ∧ (mX11_beginAnew).1.cls ≠ "java/lang/invoke/VarHandle" ∧ (parseMethodDescriptor (mX11_beginAnew).1.desc).map (fun d => d.parameters.length) = some 0 := by decide +kernel
theorem mi_X11_keepPast : Cond.instanceMethod yX11_keepPast ∈ g_T := g_inT1 (i := 806) (by decide +kernel) (by decide +kernel)
theorem me_X11_keepPast : Cond.selects RX11 yX11_keepPast yX11_keepPast ∈ g_T := g_inT0 (i := 20) (by decide +kernel) (by decide +kernel)
theorem mc_X11_keepPast : Cond.code yX11_keepPast cX11_keepPast 1 none ∈ g_T := g_inT1 (i := 807) (by decide +kernel) (by decide +kernel)
theorem mp_X11_keepPast : (mX11_keepPast).1.cls ≠ "java/lang/invoke/MethodHandle" ∧ (mX11_keepPast).1.cls ≠ "java/lang/invoke/VarHandle" ∧ (parseMethodDescriptor (mX11_keepPast).1.desc).map (fun d => d.parameters.length) = some 0 := by decide +kernel
theorem mi_X11_passTrialMinute : Cond.instanceMethod yX11_passTrialMinute ∈ g_T := g_inT1 (i := 895) (by decide +kernel) (by decide +kernel)
theorem me_X11_passTrialMinute : Cond.selects RX11 yX11_passTrialMinute yX11_passTrialMinute ∈ g_T := g_inT0 (i := 25) (by decide +kernel) (by decide +kernel)
theorem mc_X11_passTrialMinute : Cond.code yX11_passTrialMinute cX11_passTrialMinute 1 (some .int) ∈ g_T := g_inT1 (i := 896) (by decide +kernel) (by decide +kernel)
theorem mp_X11_passTrialMinute : (mX11_passTrialMinute).1.cls ≠ "java/lang/invoke/MethodHandle" ∧ (mX11_passTrialMinute).1.cls ≠ "java/lang/invoke/VarHandle" ∧ (parseMethodDescriptor (mX11_passTrialMinute).1.desc).map (fun d => d.parameters.length) = some 0 := by decide +kernel
theorem mi_X11_doLine : Cond.instanceMethod yX11_doLine ∈ g_T := g_inT1 (i := 891) (by decide +kernel) (by decide +kernel)
theorem me_X11_doLine : Cond.selects RX11 yX11_doLine yX11_doLine ∈ g_T := g_inT0 (i := 24) (by decide +kernel) (by decide +kernel)
theorem mc_X11_doLine : Cond.code yX11_doLine cX11_doLine 3 (some .int) ∈ g_T := g_inT1 (i := 892) (by decide +kernel) (by decide +kernel)
theorem mp_X11_doLine : (mX11_doLine).1.cls ≠ "java/lang/invoke/MethodHandle" ∧ (mX11_doLine).1.cls ≠ "java/lang/invoke/VarHandle" ∧ (parseMethodDescriptor (mX11_doLine).1.desc).map (fun d => d.parameters.length) = some 1 := by decide +kernel
theorem mi_X11_isReadWith : Cond.instanceMethod yX11_isReadWith ∈ g_T := g_inT1 (i := 1029) (by decide +kernel) (by decide +kernel)
theorem me_X11_isReadWith : Cond.selects RX11 yX11_isReadWith yX11_isReadWith ∈ g_T := g_inT0 (i := 29) (by decide +kernel) (by decide +kernel)
theorem mc_X11_isReadWith : Cond.code yX11_isReadWith cX11_isReadWith 4 (some .boolean) ∈ g_T := g_inT1 (i := 1030) (by decide +kernel) (by decide +kernel)
theorem mp_X11_isReadWith : (mX11_isReadWith).1.cls ≠ "java/lang/invoke/MethodHandle" ∧ (mX11_isReadWith).1.cls ≠ "java/lang/invoke/VarHandle" ∧ (parseMethodDescriptor (mX11_isReadWith).1.desc).map (fun d => d.parameters.length) = some 3 := by decide +kernel
theorem mi_X11_isReadTurned : Cond.instanceMethod yX11_isReadTurned ∈ g_T := g_inT1 (i := 1037) (by decide +kernel) (by decide +kernel)
theorem me_X11_isReadTurned : Cond.selects RX11 yX11_isReadTurned yX11_isReadTurned ∈ g_T := g_inT0 (i := 30) (by decide +kernel) (by decide +kernel)
theorem mc_X11_isReadTurned : Cond.code yX11_isReadTurned cX11_isReadTurned 3 (some .boolean) ∈ g_T := g_inT1 (i := 1038) (by decide +kernel) (by decide +kernel)
theorem mp_X11_isReadTurned : (mX11_isReadTurned).1.cls ≠ "java/lang/invoke/MethodHandle" ∧ (mX11_isReadTurned).1.cls ≠ "java/lang/invoke/VarHandle" ∧ (parseMethodDescriptor (mX11_isReadTurned).1.desc).map (fun d => d.parameters.length) = some 2 := by decide +kernel
theorem mi_X11_soundingIn : Cond.instanceMethod yX11_soundingIn ∈ g_T := g_inT1 (i := 1053) (by decide +kernel) (by decide +kernel)
theorem me_X11_soundingIn : Cond.selects RX11 yX11_soundingIn yX11_soundingIn ∈ g_T := g_inT0 (i := 31) (by decide +kernel) (by decide +kernel)
theorem mc_X11_soundingIn : Cond.code yX11_soundingIn cX11_soundingIn 2 (some .int) ∈ g_T := g_inT1 (i := 1054) (by decide +kernel) (by decide +kernel)
theorem mp_X11_soundingIn : (mX11_soundingIn).1.cls ≠ "java/lang/invoke/MethodHandle" ∧ (mX11_soundingIn).1.cls ≠ "java/lang/invoke/VarHandle" ∧ (parseMethodDescriptor (mX11_soundingIn).1.desc).map (fun d => d.parameters.length) = some 1 := by decide +kernel
theorem mi_X11_isReadInOddRain : Cond.instanceMethod yX11_isReadInOddRain ∈ g_T := g_inT1 (i := 1076) (by decide +kernel) (by decide +kernel)
theorem me_X11_isReadInOddRain : Cond.selects RX11 yX11_isReadInOddRain yX11_isReadInOddRain ∈ g_T := g_inT0 (i := 33) (by decide +kernel) (by decide +kernel)
theorem mc_X11_isReadInOddRain : Cond.code yX11_isReadInOddRain cX11_isReadInOddRain 5 (some .boolean) ∈ g_T := g_inT1 (i := 1077) (by decide +kernel) (by decide +kernel)
theorem mp_X11_isReadInOddRain : (mX11_isReadInOddRain).1.cls ≠ "java/lang/invoke/MethodHandle" ∧ (mX11_isReadInOddRain).1.cls ≠ "java/lang/invoke/VarHandle" ∧ (parseMethodDescriptor (mX11_isReadInOddRain).1.desc).map (fun d => d.parameters.length) = some 3 := by decide +kernel
theorem ms_X11_weightOf : Cond.static yX11_weightOf ∈ g_T := g_inT1 (i := 1072) (by decide +kernel) (by decide +kernel)
theorem mc_X11_weightOf : Cond.code yX11_weightOf cX11_weightOf 5 (some .int) ∈ g_T := g_inT1 (i := 1073) (by decide +kernel) (by decide +kernel)
theorem mp_X11_weightOf : (mX11_weightOf).1.cls ≠ "java/lang/invoke/MethodHandle" ∧ (mX11_weightOf).1.cls ≠ "java/lang/invoke/VarHandle" ∧ (parseMethodDescriptor (mX11_weightOf).1.desc).map (fun d => d.parameters.length) = some 3 := by decide +kernel
theorem ms_X11_isRest : Cond.static yX11_isRest ∈ g_T := g_inT1 (i := 1189) (by decide +kernel) (by decide +kernel)
theorem mc_X11_isRest : Cond.code yX11_isRest cX11_isRest 8 (some .boolean) ∈ g_T := g_inT1 (i := 1190) (by decide +kernel) (by decide +kernel)
theorem mp_X11_isRest : (mX11_isRest).1.cls ≠ "java/lang/invoke/MethodHandle" ∧ (mX11_isRest).1.cls ≠ "java/lang/invoke/VarHandle" ∧ (parseMethodDescriptor (mX11_isRest).1.desc).map (fun d => d.parameters.length) = some 4 := by decide +kernel
theorem ms_X11_gain : Cond.static yX11_gain ∈ g_T := g_inT1 (i := 1192) (by decide +kernel) (by decide +kernel)
theorem mc_X11_gain : Cond.code yX11_gain cX11_gain 5 (some .int) ∈ g_T := g_inT1 (i := 1193) (by decide +kernel) (by decide +kernel)
theorem mp_X11_gain : (mX11_gain).1.cls ≠ "java/lang/invoke/MethodHandle" ∧ (mX11_gain).1.cls ≠ "java/lang/invoke/VarHandle" ∧ (parseMethodDescriptor (mX11_gain).1.desc).map (fun d => d.parameters.length) = some 5 := by decide +kernel
theorem mi_X11_doDrawn : Cond.instanceMethod yX11_doDrawn ∈ g_T := g_inT1 (i := 1084) (by decide +kernel) (by decide +kernel)
theorem me_X11_doDrawn : Cond.selects RX11 yX11_doDrawn yX11_doDrawn ∈ g_T := g_inT0 (i := 34) (by decide +kernel) (by decide +kernel)
theorem mc_X11_doDrawn : Cond.code yX11_doDrawn cX11_doDrawn 3 none ∈ g_T := g_inT1 (i := 1085) (by decide +kernel) (by decide +kernel)
theorem mp_X11_doDrawn : (mX11_doDrawn).1.cls ≠ "java/lang/invoke/MethodHandle" ∧ (mX11_doDrawn).1.cls ≠ "java/lang/invoke/VarHandle" ∧ (parseMethodDescriptor (mX11_doDrawn).1.desc).map (fun d => d.parameters.length) = some 0 := by decide +kernel
theorem mi_X11_draw : Cond.instanceMethod yX11_draw ∈ g_T := g_inT1 (i := 1088) (by decide +kernel) (by decide +kernel)
theorem me_X11_draw : Cond.selects RX11 yX11_draw yX11_draw ∈ g_T := g_inT0 (i := 35) (by decide +kernel) (by decide +kernel)
theorem mc_X11_draw : Cond.code yX11_draw cX11_draw 3 (some .int) ∈ g_T := g_inT1 (i := 1089) (by decide +kernel) (by decide +kernel)
theorem mp_X11_draw : (mX11_draw).1.cls ≠ "java/lang/invoke/MethodHandle" ∧ (mX11_draw).1.cls ≠ "java/lang/invoke/VarHandle" ∧ (parseMethodDescriptor (mX11_draw).1.desc).map (fun d => d.parameters.length) = some 1 := by decide +kernel
theorem mi_X11_emptyRow : Cond.instanceMethod yX11_emptyRow ∈ g_T := g_inT1 (i := 946) (by decide +kernel) (by decide +kernel)
theorem me_X11_emptyRow : Cond.selects RX11 yX11_emptyRow yX11_emptyRow ∈ g_T := g_inT0 (i := 26) (by decide +kernel) (by decide +kernel)
theorem mc_X11_emptyRow : Cond.code yX11_emptyRow cX11_emptyRow 2 none ∈ g_T := g_inT1 (i := 947) (by decide +kernel) (by decide +kernel)
theorem mp_X11_emptyRow : (mX11_emptyRow).1.cls ≠ "java/lang/invoke/MethodHandle" ∧ (mX11_emptyRow).1.cls ≠ "java/lang/invoke/VarHandle" ∧ (parseMethodDescriptor (mX11_emptyRow).1.desc).map (fun d => d.parameters.length) = some 0 := by decide +kernel
theorem mi_X11_addBitsToRow : Cond.instanceMethod yX11_addBitsToRow ∈ g_T := g_inT1 (i := 1065) (by decide +kernel) (by decide +kernel)
theorem me_X11_addBitsToRow : Cond.selects RX11 yX11_addBitsToRow yX11_addBitsToRow ∈ g_T := g_inT0 (i := 32) (by decide +kernel) (by decide +kernel)
theorem mc_X11_addBitsToRow : Cond.code yX11_addBitsToRow cX11_addBitsToRow 3 none ∈ g_T := g_inT1 (i := 1066) (by decide +kernel) (by decide +kernel)
theorem mp_X11_addBitsToRow : (mX11_addBitsToRow).1.cls ≠ "java/lang/invoke/MethodHandle" ∧ (mX11_addBitsToRow).1.cls ≠ "java/lang/invoke/VarHandle" ∧ (parseMethodDescriptor (mX11_addBitsToRow).1.desc).map (fun d => d.parameters.length) = some 1 := by decide +kernel
theorem mi_X11_greatestOfRow : Cond.instanceMethod yX11_greatestOfRow ∈ g_T := g_inT1 (i := 950) (by decide +kernel) (by decide +kernel)
theorem me_X11_greatestOfRow : Cond.selects RX11 yX11_greatestOfRow yX11_greatestOfRow ∈ g_T := g_inT0 (i := 27) (by decide +kernel) (by decide +kernel)
theorem mc_X11_greatestOfRow : Cond.code yX11_greatestOfRow cX11_greatestOfRow 4 (some .int) ∈ g_T := g_inT1 (i := 951) (by decide +kernel) (by decide +kernel)
theorem mp_X11_greatestOfRow : (mX11_greatestOfRow).1.cls ≠ "java/lang/invoke/MethodHandle" ∧ (mX11_greatestOfRow).1.cls ≠ "java/lang/invoke/VarHandle" ∧ (parseMethodDescriptor (mX11_greatestOfRow).1.desc).map (fun d => d.parameters.length) = some 1 := by decide +kernel
theorem mi_X12_init : Cond.instanceMethod yX12_init ∈ g_T := g_inT1 (i := 1197) (by decide +kernel) (by decide +kernel)
theorem mc_X12_init : Cond.code yX12_init cX12_init 1 none ∈ g_T := g_inT1 (i := 1198) (by decide +kernel) (by decide +kernel)
theorem mp_X12_init : (mX12_init).1.cls ≠ "java/lang/invoke/MethodHandle" ∧ (mX12_init).1.cls ≠ "java/lang/invoke/VarHandle" ∧ (parseMethodDescriptor (mX12_init).1.desc).map (fun d => d.parameters.length) = some 0 := by decide +kernel
theorem mi_X12_thrown : Cond.instanceMethod yX12_thrown ∈ g_T := g_inT1 (i := 1386) (by decide +kernel) (by decide +kernel)
theorem me_X12_thrown : Cond.selects RX12 yX12_thrown yX12_thrown ∈ g_T := g_inT1 (i := 1387) (by decide +kernel) (by decide +kernel)
theorem mc_X12_thrown : Cond.code yX12_thrown cX12_thrown 1 (some .int) ∈ g_T := g_inT1 (i := 1388) (by decide +kernel) (by decide +kernel)
theorem mp_X12_thrown : (mX12_thrown).1.cls ≠ "java/lang/invoke/MethodHandle" ∧ (mX12_thrown).1.cls ≠ "java/lang/invoke/VarHandle" ∧ (parseMethodDescriptor (mX12_thrown).1.desc).map (fun d => d.parameters.length) = some 0 := by decide +kernel
theorem ms_X12_within : Cond.static yX12_within ∈ g_T := g_inT1 (i := 1473) (by decide +kernel) (by decide +kernel)
theorem mc_X12_within : Cond.code yX12_within cX12_within 3 (some .boolean) ∈ g_T := g_inT1 (i := 1474) (by decide +kernel) (by decide +kernel)
theorem mp_X12_within : (mX12_within).1.cls ≠ "java/lang/invoke/MethodHandle" ∧ (mX12_within).1.cls ≠ "java/lang/invoke/VarHandle" ∧ (parseMethodDescriptor (mX12_within).1.desc).map (fun d => d.parameters.length) = some 3 := by decide +kernel
theorem ms_X12_bits : Cond.static yX12_bits ∈ g_T := g_inT1 (i := 1717) (by decide +kernel) (by decide +kernel)
theorem mc_X12_bits : Cond.code yX12_bits cX12_bits 3 (some .int) ∈ g_T := g_inT1 (i := 1718) (by decide +kernel) (by decide +kernel)
theorem mp_X12_bits : (mX12_bits).1.cls ≠ "java/lang/invoke/MethodHandle" ∧ (mX12_bits).1.cls ≠ "java/lang/invoke/VarHandle" ∧ (parseMethodDescriptor (mX12_bits).1.desc).map (fun d => d.parameters.length) = some 1 := by decide +kernel
theorem mi_X12_feed : Cond.instanceMethod yX12_feed ∈ g_T := g_inT1 (i := 1390) (by decide +kernel) (by decide +kernel)
theorem me_X12_feed : Cond.selects RX12 yX12_feed yX12_feed ∈ g_T := g_inT1 (i := 1391) (by decide +kernel) (by decide +kernel)
theorem mc_X12_feed : Cond.code yX12_feed cX12_feed 11 (some .int) ∈ g_T := g_inT1 (i := 1392) (by decide +kernel) (by decide +kernel)
theorem mp_X12_feed : (mX12_feed).1.cls ≠ "java/lang/invoke/MethodHandle" ∧ (mX12_feed).1.cls ≠ "java/lang/invoke/VarHandle" ∧ (parseMethodDescriptor (mX12_feed).1.desc).map (fun d => d.parameters.length) = some 3 := by decide +kernel
theorem mi_X12_signAt : Cond.instanceMethod yX12_signAt ∈ g_T := g_inT1 (i := 1412) (by decide +kernel) (by decide +kernel)
theorem me_X12_signAt : Cond.selects RX12 yX12_signAt yX12_signAt ∈ g_T := g_inT0 (i := 41) (by decide +kernel) (by decide +kernel)
theorem mc_X12_signAt : Cond.code yX12_signAt cX12_signAt 2 (some .int) ∈ g_T := g_inT1 (i := 1413) (by decide +kernel) (by decide +kernel)
theorem mp_X12_signAt : (mX12_signAt).1.cls ≠ "java/lang/invoke/MethodHandle" ∧ (mX12_signAt).1.cls ≠ "java/lang/invoke/VarHandle" ∧ (parseMethodDescriptor (mX12_signAt).1.desc).map (fun d => d.parameters.length) = some 1 := by decide +kernel
theorem mi_X12_nextToken : Cond.instanceMethod yX12_nextToken ∈ g_T := g_inT1 (i := 1408) (by decide +kernel) (by decide +kernel)
theorem me_X12_nextToken : Cond.selects RX12 yX12_nextToken yX12_nextToken ∈ g_T := g_inT0 (i := 40) (by decide +kernel) (by decide +kernel)
theorem mc_X12_nextToken : Cond.code yX12_nextToken cX12_nextToken 2 none ∈ g_T := g_inT1 (i := 1409) (by decide +kernel) (by decide +kernel)
theorem mp_X12_nextToken : (mX12_nextToken).1.cls ≠ "java/lang/invoke/MethodHandle" ∧ (mX12_nextToken).1.cls ≠ "java/lang/invoke/VarHandle" ∧ (parseMethodDescriptor (mX12_nextToken).1.desc).map (fun d => d.parameters.length) = some 0 := by decide +kernel
theorem mi_X12_isWord : Cond.instanceMethod yX12_isWord ∈ g_T := g_inT1 (i := 1419) (by decide +kernel) (by decide +kernel)
theorem me_X12_isWord : Cond.selects RX12 yX12_isWord yX12_isWord ∈ g_T := g_inT0 (i := 42) (by decide +kernel) (by decide +kernel)
theorem mc_X12_isWord : Cond.code yX12_isWord cX12_isWord 3 (some .boolean) ∈ g_T := g_inT1 (i := 1420) (by decide +kernel) (by decide +kernel)
theorem mp_X12_isWord : (mX12_isWord).1.cls ≠ "java/lang/invoke/MethodHandle" ∧ (mX12_isWord).1.cls ≠ "java/lang/invoke/VarHandle" ∧ (parseMethodDescriptor (mX12_isWord).1.desc).map (fun d => d.parameters.length) = some 1 := by decide +kernel
theorem mi_X12_isSign : Cond.instanceMethod yX12_isSign ∈ g_T := g_inT1 (i := 1481) (by decide +kernel) (by decide +kernel)
theorem me_X12_isSign : Cond.selects RX12 yX12_isSign yX12_isSign ∈ g_T := g_inT0 (i := 52) (by decide +kernel) (by decide +kernel)
theorem mc_X12_isSign : Cond.code yX12_isSign cX12_isSign 2 (some .boolean) ∈ g_T := g_inT1 (i := 1482) (by decide +kernel) (by decide +kernel)
theorem mp_X12_isSign : (mX12_isSign).1.cls ≠ "java/lang/invoke/MethodHandle" ∧ (mX12_isSign).1.cls ≠ "java/lang/invoke/VarHandle" ∧ (parseMethodDescriptor (mX12_isSign).1.desc).map (fun d => d.parameters.length) = some 1 := by decide +kernel
theorem mi_X12_fails : Cond.instanceMethod yX12_fails ∈ g_T := g_inT1 (i := 1427) (by decide +kernel) (by decide +kernel)
theorem me_X12_fails : Cond.selects RX12 yX12_fails yX12_fails ∈ g_T := g_inT0 (i := 44) (by decide +kernel) (by decide +kernel)
theorem mc_X12_fails : Cond.code yX12_fails cX12_fails 2 (some .boolean) ∈ g_T := g_inT1 (i := 1428) (by decide +kernel) (by decide +kernel)
theorem mp_X12_fails : (mX12_fails).1.cls ≠ "java/lang/invoke/MethodHandle" ∧ (mX12_fails).1.cls ≠ "java/lang/invoke/VarHandle" ∧ (parseMethodDescriptor (mX12_fails).1.desc).map (fun d => d.parameters.length) = some 1 := by decide +kernel
theorem mi_X12_puts : Cond.instanceMethod yX12_puts ∈ g_T := g_inT1 (i := 1517) (by decide +kernel) (by decide +kernel)
theorem me_X12_puts : Cond.selects RX12 yX12_puts yX12_puts ∈ g_T := g_inT0 (i := 60) (by decide +kernel) (by decide +kernel)
theorem mc_X12_puts : Cond.code yX12_puts cX12_puts 2 none ∈ g_T := g_inT1 (i := 1518) (by decide +kernel) (by decide +kernel)
theorem mp_X12_puts : (mX12_puts).1.cls ≠ "java/lang/invoke/MethodHandle" ∧ (mX12_puts).1.cls ≠ "java/lang/invoke/VarHandle" ∧ (parseMethodDescriptor (mX12_puts).1.desc).map (fun d => d.parameters.length) = some 1 := by decide +kernel
theorem mi_X12_fact : Cond.instanceMethod yX12_fact ∈ g_T := g_inT1 (i := 1509) (by decide +kernel) (by decide +kernel)
theorem me_X12_fact : Cond.selects RX12 yX12_fact yX12_fact ∈ g_T := g_inT0 (i := 59) (by decide +kernel) (by decide +kernel)
theorem mc_X12_fact : Cond.code yX12_fact cX12_fact 1 (some .int) ∈ g_T := g_inT1 (i := 1510) (by decide +kernel) (by decide +kernel)
theorem mp_X12_fact : (mX12_fact).1.cls ≠ "java/lang/invoke/MethodHandle" ∧ (mX12_fact).1.cls ≠ "java/lang/invoke/VarHandle" ∧ (parseMethodDescriptor (mX12_fact).1.desc).map (fun d => d.parameters.length) = some 0 := by decide +kernel
theorem mi_X12_readsLaw : Cond.instanceMethod yX12_readsLaw ∈ g_T := g_inT1 (i := 1505) (by decide +kernel) (by decide +kernel)
theorem me_X12_readsLaw : Cond.selects RX12 yX12_readsLaw yX12_readsLaw ∈ g_T := g_inT0 (i := 58) (by decide +kernel) (by decide +kernel)
theorem mc_X12_readsLaw : Cond.code yX12_readsLaw cX12_readsLaw 6 (some .boolean) ∈ g_T := g_inT1 (i := 1506) (by decide +kernel) (by decide +kernel)
theorem mp_X12_readsLaw : (mX12_readsLaw).1.cls ≠ "java/lang/invoke/MethodHandle" ∧ (mX12_readsLaw).1.cls ≠ "java/lang/invoke/VarHandle" ∧ (parseMethodDescriptor (mX12_readsLaw).1.desc).map (fun d => d.parameters.length) = some 0 := by decide +kernel
theorem mi_X12_opens : Cond.instanceMethod yX12_opens ∈ g_T := g_inT1 (i := 1623) (by decide +kernel) (by decide +kernel)
theorem me_X12_opens : Cond.selects RX12 yX12_opens yX12_opens ∈ g_T := g_inT0 (i := 78) (by decide +kernel) (by decide +kernel)
theorem mc_X12_opens : Cond.code yX12_opens cX12_opens 2 none ∈ g_T := g_inT1 (i := 1624) (by decide +kernel) (by decide +kernel)
theorem mp_X12_opens : (mX12_opens).1.cls ≠ "java/lang/invoke/MethodHandle" ∧ (mX12_opens).1.cls ≠ "java/lang/invoke/VarHandle" ∧ (parseMethodDescriptor (mX12_opens).1.desc).map (fun d => d.parameters.length) = some 1 := by decide +kernel
theorem mi_X12_sums : Cond.instanceMethod yX12_sums ∈ g_T := g_inT1 (i := 1627) (by decide +kernel) (by decide +kernel)
theorem me_X12_sums : Cond.selects RX12 yX12_sums yX12_sums ∈ g_T := g_inT0 (i := 79) (by decide +kernel) (by decide +kernel)
theorem mc_X12_sums : Cond.code yX12_sums cX12_sums 2 none ∈ g_T := g_inT1 (i := 1628) (by decide +kernel) (by decide +kernel)
theorem mp_X12_sums : (mX12_sums).1.cls ≠ "java/lang/invoke/MethodHandle" ∧ (mX12_sums).1.cls ≠ "java/lang/invoke/VarHandle" ∧ (parseMethodDescriptor (mX12_sums).1.desc).map (fun d => d.parameters.length) = some 1 := by decide +kernel
theorem mi_X12_tests : Cond.instanceMethod yX12_tests ∈ g_T := g_inT1 (i := 1631) (by decide +kernel) (by decide +kernel)
theorem me_X12_tests : Cond.selects RX12 yX12_tests yX12_tests ∈ g_T := g_inT0 (i := 80) (by decide +kernel) (by decide +kernel)
theorem mc_X12_tests : Cond.code yX12_tests cX12_tests 3 none ∈ g_T := g_inT1 (i := 1632) (by decide +kernel) (by decide +kernel)
theorem mp_X12_tests : (mX12_tests).1.cls ≠ "java/lang/invoke/MethodHandle" ∧ (mX12_tests).1.cls ≠ "java/lang/invoke/VarHandle" ∧ (parseMethodDescriptor (mX12_tests).1.desc).map (fun d => d.parameters.length) = some 1 := by decide +kernel
theorem mi_X12_worked : Cond.instanceMethod yX12_worked ∈ g_T := g_inT1 (i := 1619) (by decide +kernel) (by decide +kernel)
theorem me_X12_worked : Cond.selects RX12 yX12_worked yX12_worked ∈ g_T := g_inT0 (i := 77) (by decide +kernel) (by decide +kernel)
theorem mc_X12_worked : Cond.code yX12_worked cX12_worked 6 (some .int) ∈ g_T := g_inT1 (i := 1620) (by decide +kernel) (by decide +kernel)
theorem mp_X12_worked : (mX12_worked).1.cls ≠ "java/lang/invoke/MethodHandle" ∧ (mX12_worked).1.cls ≠ "java/lang/invoke/VarHandle" ∧ (parseMethodDescriptor (mX12_worked).1.desc).map (fun d => d.parameters.length) = some 1 := by decide +kernel
theorem mi_X12_isKept : Cond.instanceMethod yX12_isKept ∈ g_T := g_inT1 (i := 1435) (by decide +kernel) (by decide +kernel)
theorem me_X12_isKept : Cond.selects RX12 yX12_isKept yX12_isKept ∈ g_T := g_inT0 (i := 46) (by decide +kernel) (by decide +kernel)
theorem mc_X12_isKept : Cond.code yX12_isKept cX12_isKept 1 (some .boolean) ∈ g_T := g_inT1 (i := 1436) (by decide +kernel) (by decide +kernel)
theorem mp_X12_isKept : (mX12_isKept).1.cls ≠ "java/lang/invoke/MethodHandle" ∧ (mX12_isKept).1.cls ≠ "java/lang/invoke/VarHandle" ∧ (parseMethodDescriptor (mX12_isKept).1.desc).map (fun d => d.parameters.length) = some 0 := by decide +kernel
theorem mi_X12_mouthNamed : Cond.instanceMethod yX12_mouthNamed ∈ g_T := g_inT1 (i := 1458) (by decide +kernel) (by decide +kernel)
theorem me_X12_mouthNamed : Cond.selects RX12 yX12_mouthNamed yX12_mouthNamed ∈ g_T := g_inT0 (i := 47) (by decide +kernel) (by decide +kernel)
theorem mc_X12_mouthNamed : Cond.code yX12_mouthNamed cX12_mouthNamed 3 (some .int) ∈ g_T := g_inT1 (i := 1459) (by decide +kernel) (by decide +kernel)
theorem mp_X12_mouthNamed : (mX12_mouthNamed).1.cls ≠ "java/lang/invoke/MethodHandle" ∧ (mX12_mouthNamed).1.cls ≠ "java/lang/invoke/VarHandle" ∧ (parseMethodDescriptor (mX12_mouthNamed).1.desc).map (fun d => d.parameters.length) = some 1 := by decide +kernel
theorem mi_X12_letterNamed : Cond.instanceMethod yX12_letterNamed ∈ g_T := g_inT1 (i := 1462) (by decide +kernel) (by decide +kernel)
theorem me_X12_letterNamed : Cond.selects RX12 yX12_letterNamed yX12_letterNamed ∈ g_T := g_inT0 (i := 48) (by decide +kernel) (by decide +kernel)
theorem mc_X12_letterNamed : Cond.code yX12_letterNamed cX12_letterNamed 3 (some .int) ∈ g_T := g_inT1 (i := 1463) (by decide +kernel) (by decide +kernel)
theorem mp_X12_letterNamed : (mX12_letterNamed).1.cls ≠ "java/lang/invoke/MethodHandle" ∧ (mX12_letterNamed).1.cls ≠ "java/lang/invoke/VarHandle" ∧ (parseMethodDescriptor (mX12_letterNamed).1.desc).map (fun d => d.parameters.length) = some 1 := by decide +kernel
theorem mi_X12_needsNumber : Cond.instanceMethod yX12_needsNumber ∈ g_T := g_inT1 (i := 1470) (by decide +kernel) (by decide +kernel)
theorem me_X12_needsNumber : Cond.selects RX12 yX12_needsNumber yX12_needsNumber ∈ g_T := g_inT0 (i := 50) (by decide +kernel) (by decide +kernel)
theorem mc_X12_needsNumber : Cond.code yX12_needsNumber cX12_needsNumber 3 (some .boolean) ∈ g_T := g_inT1 (i := 1471) (by decide +kernel) (by decide +kernel)
theorem mp_X12_needsNumber : (mX12_needsNumber).1.cls ≠ "java/lang/invoke/MethodHandle" ∧ (mX12_needsNumber).1.cls ≠ "java/lang/invoke/VarHandle" ∧ (parseMethodDescriptor (mX12_needsNumber).1.desc).map (fun d => d.parameters.length) = some 2 := by decide +kernel
theorem mi_X12_needsBoth : Cond.instanceMethod yX12_needsBoth ∈ g_T := g_inT1 (i := 1466) (by decide +kernel) (by decide +kernel)
theorem me_X12_needsBoth : Cond.selects RX12 yX12_needsBoth yX12_needsBoth ∈ g_T := g_inT0 (i := 49) (by decide +kernel) (by decide +kernel)
theorem mc_X12_needsBoth : Cond.code yX12_needsBoth cX12_needsBoth 5 (some .boolean) ∈ g_T := g_inT1 (i := 1467) (by decide +kernel) (by decide +kernel)
theorem mp_X12_needsBoth : (mX12_needsBoth).1.cls ≠ "java/lang/invoke/MethodHandle" ∧ (mX12_needsBoth).1.cls ≠ "java/lang/invoke/VarHandle" ∧ (parseMethodDescriptor (mX12_needsBoth).1.desc).map (fun d => d.parameters.length) = some 3 := by decide +kernel
theorem mi_X12_closes : Cond.instanceMethod yX12_closes ∈ g_T := g_inT1 (i := 1477) (by decide +kernel) (by decide +kernel)
theorem me_X12_closes : Cond.selects RX12 yX12_closes yX12_closes ∈ g_T := g_inT0 (i := 51) (by decide +kernel) (by decide +kernel)
theorem mc_X12_closes : Cond.code yX12_closes cX12_closes 1 (some .boolean) ∈ g_T := g_inT1 (i := 1478) (by decide +kernel) (by decide +kernel)
theorem mp_X12_closes : (mX12_closes).1.cls ≠ "java/lang/invoke/MethodHandle" ∧ (mX12_closes).1.cls ≠ "java/lang/invoke/VarHandle" ∧ (parseMethodDescriptor (mX12_closes).1.desc).map (fun d => d.parameters.length) = some 0 := by decide +kernel
theorem mi_X12_needsNew : Cond.instanceMethod yX12_needsNew ∈ g_T := g_inT1 (i := 1431) (by decide +kernel) (by decide +kernel)
theorem me_X12_needsNew : Cond.selects RX12 yX12_needsNew yX12_needsNew ∈ g_T := g_inT0 (i := 45) (by decide +kernel) (by decide +kernel)
theorem mc_X12_needsNew : Cond.code yX12_needsNew cX12_needsNew 1 (some .boolean) ∈ g_T := g_inT1 (i := 1432) (by decide +kernel) (by decide +kernel)
theorem mp_X12_needsNew : (mX12_needsNew).1.cls ≠ "java/lang/invoke/MethodHandle" ∧ (mX12_needsNew).1.cls ≠ "java/lang/invoke/VarHandle" ∧ (parseMethodDescriptor (mX12_needsNew).1.desc).map (fun d => d.parameters.length) = some 0 := by decide +kernel
theorem mi_X12_needsMouth : Cond.instanceMethod yX12_needsMouth ∈ g_T := g_inT1 (i := 1489) (by decide +kernel) (by decide +kernel)
theorem me_X12_needsMouth : Cond.selects RX12 yX12_needsMouth yX12_needsMouth ∈ g_T := g_inT0 (i := 54) (by decide +kernel) (by decide +kernel)
theorem mc_X12_needsMouth : Cond.code yX12_needsMouth cX12_needsMouth 2 (some .boolean) ∈ g_T := g_inT1 (i := 1490) (by decide +kernel) (by decide +kernel)
theorem mp_X12_needsMouth : (mX12_needsMouth).1.cls ≠ "java/lang/invoke/MethodHandle" ∧ (mX12_needsMouth).1.cls ≠ "java/lang/invoke/VarHandle" ∧ (parseMethodDescriptor (mX12_needsMouth).1.desc).map (fun d => d.parameters.length) = some 1 := by decide +kernel
theorem mi_X12_readsMouth : Cond.instanceMethod yX12_readsMouth ∈ g_T := g_inT1 (i := 1423) (by decide +kernel) (by decide +kernel)
theorem me_X12_readsMouth : Cond.selects RX12 yX12_readsMouth yX12_readsMouth ∈ g_T := g_inT0 (i := 43) (by decide +kernel) (by decide +kernel)
theorem mc_X12_readsMouth : Cond.code yX12_readsMouth cX12_readsMouth 2 (some .boolean) ∈ g_T := g_inT1 (i := 1424) (by decide +kernel) (by decide +kernel)
theorem mp_X12_readsMouth : (mX12_readsMouth).1.cls ≠ "java/lang/invoke/MethodHandle" ∧ (mX12_readsMouth).1.cls ≠ "java/lang/invoke/VarHandle" ∧ (parseMethodDescriptor (mX12_readsMouth).1.desc).map (fun d => d.parameters.length) = some 0 := by decide +kernel
theorem mi_X12_readsGutter : Cond.instanceMethod yX12_readsGutter ∈ g_T := g_inT1 (i := 1485) (by decide +kernel) (by decide +kernel)
theorem me_X12_readsGutter : Cond.selects RX12 yX12_readsGutter yX12_readsGutter ∈ g_T := g_inT0 (i := 53) (by decide +kernel) (by decide +kernel)
theorem mc_X12_readsGutter : Cond.code yX12_readsGutter cX12_readsGutter 2 (some .boolean) ∈ g_T := g_inT1 (i := 1486) (by decide +kernel) (by decide +kernel)
theorem mp_X12_readsGutter : (mX12_readsGutter).1.cls ≠ "java/lang/invoke/MethodHandle" ∧ (mX12_readsGutter).1.cls ≠ "java/lang/invoke/VarHandle" ∧ (parseMethodDescriptor (mX12_readsGutter).1.desc).map (fun d => d.parameters.length) = some 0 := by decide +kernel
theorem mi_X12_readsLetter : Cond.instanceMethod yX12_readsLetter ∈ g_T := g_inT1 (i := 1493) (by decide +kernel) (by decide +kernel)
theorem me_X12_readsLetter : Cond.selects RX12 yX12_readsLetter yX12_readsLetter ∈ g_T := g_inT0 (i := 55) (by decide +kernel) (by decide +kernel)
theorem mc_X12_readsLetter : Cond.code yX12_readsLetter cX12_readsLetter 4 (some .boolean) ∈ g_T := g_inT1 (i := 1494) (by decide +kernel) (by decide +kernel)
theorem mp_X12_readsLetter : (mX12_readsLetter).1.cls ≠ "java/lang/invoke/MethodHandle" ∧ (mX12_readsLetter).1.cls ≠ "java/lang/invoke/VarHandle" ∧ (parseMethodDescriptor (mX12_readsLetter).1.desc).map (fun d => d.parameters.length) = some 0 := by decide +kernel
theorem mi_X12_readsRain : Cond.instanceMethod yX12_readsRain ∈ g_T := g_inT1 (i := 1497) (by decide +kernel) (by decide +kernel)
theorem me_X12_readsRain : Cond.selects RX12 yX12_readsRain yX12_readsRain ∈ g_T := g_inT0 (i := 56) (by decide +kernel) (by decide +kernel)
theorem mc_X12_readsRain : Cond.code yX12_readsRain cX12_readsRain 1 (some .boolean) ∈ g_T := g_inT1 (i := 1498) (by decide +kernel) (by decide +kernel)
theorem mp_X12_readsRain : (mX12_readsRain).1.cls ≠ "java/lang/invoke/MethodHandle" ∧ (mX12_readsRain).1.cls ≠ "java/lang/invoke/VarHandle" ∧ (parseMethodDescriptor (mX12_readsRain).1.desc).map (fun d => d.parameters.length) = some 0 := by decide +kernel
theorem mi_X12_readsSounds : Cond.instanceMethod yX12_readsSounds ∈ g_T := g_inT1 (i := 1501) (by decide +kernel) (by decide +kernel)
theorem me_X12_readsSounds : Cond.selects RX12 yX12_readsSounds yX12_readsSounds ∈ g_T := g_inT0 (i := 57) (by decide +kernel) (by decide +kernel)
theorem mc_X12_readsSounds : Cond.code yX12_readsSounds cX12_readsSounds 1 (some .boolean) ∈ g_T := g_inT1 (i := 1502) (by decide +kernel) (by decide +kernel)
theorem mp_X12_readsSounds : (mX12_readsSounds).1.cls ≠ "java/lang/invoke/MethodHandle" ∧ (mX12_readsSounds).1.cls ≠ "java/lang/invoke/VarHandle" ∧ (parseMethodDescriptor (mX12_readsSounds).1.desc).map (fun d => d.parameters.length) = some 0 := by decide +kernel
theorem mi_X12_begins : Cond.instanceMethod yX12_begins ∈ g_T := g_inT1 (i := 1404) (by decide +kernel) (by decide +kernel)
theorem me_X12_begins : Cond.selects RX12 yX12_begins yX12_begins ∈ g_T := g_inT0 (i := 39) (by decide +kernel) (by decide +kernel)
theorem mc_X12_begins : Cond.code yX12_begins cX12_begins 1 none ∈ g_T := g_inT1 (i := 1405) (by decide +kernel) (by decide +kernel)
theorem mp_X12_begins : (mX12_begins).1.cls ≠ "java/lang/invoke/MethodHandle" ∧ (mX12_begins).1.cls ≠ "java/lang/invoke/VarHandle" ∧ (parseMethodDescriptor (mX12_begins).1.desc).map (fun d => d.parameters.length) = some 0 := by decide +kernel
theorem mi_X12_readsAll : Cond.instanceMethod yX12_readsAll ∈ g_T := g_inT1 (i := 1400) (by decide +kernel) (by decide +kernel)
theorem me_X12_readsAll : Cond.selects RX12 yX12_readsAll yX12_readsAll ∈ g_T := g_inT0 (i := 38) (by decide +kernel) (by decide +kernel)
theorem mc_X12_readsAll : Cond.code yX12_readsAll cX12_readsAll 2 (some .boolean) ∈ g_T := g_inT1 (i := 1401) (by decide +kernel) (by decide +kernel)
theorem mp_X12_readsAll : (mX12_readsAll).1.cls ≠ "java/lang/invoke/MethodHandle" ∧ (mX12_readsAll).1.cls ≠ "java/lang/invoke/VarHandle" ∧ (parseMethodDescriptor (mX12_readsAll).1.desc).map (fun d => d.parameters.length) = some 0 := by decide +kernel
theorem ms_X12_shifts : Cond.static yX12_shifts ∈ g_T := g_inT1 (i := 1524) (by decide +kernel) (by decide +kernel)
theorem mc_X12_shifts : Cond.code yX12_shifts cX12_shifts 3 none ∈ g_T := g_inT1 (i := 1525) (by decide +kernel) (by decide +kernel)
theorem mp_X12_shifts : (mX12_shifts).1.cls ≠ "java/lang/invoke/MethodHandle" ∧ (mX12_shifts).1.cls ≠ "java/lang/invoke/VarHandle" ∧ (parseMethodDescriptor (mX12_shifts).1.desc).map (fun d => d.parameters.length) = some 2 := by decide +kernel
theorem ms_X12_shiftsNames : Cond.static yX12_shiftsNames ∈ g_T := g_inT1 (i := 1527) (by decide +kernel) (by decide +kernel)
theorem mc_X12_shiftsNames : Cond.code yX12_shiftsNames cX12_shiftsNames 3 none ∈ g_T := g_inT1 (i := 1528) (by decide +kernel) (by decide +kernel)
theorem mp_X12_shiftsNames : (mX12_shiftsNames).1.cls ≠ "java/lang/invoke/MethodHandle" ∧ (mX12_shiftsNames).1.cls ≠ "java/lang/invoke/VarHandle" ∧ (parseMethodDescriptor (mX12_shiftsNames).1.desc).map (fun d => d.parameters.length) = some 2 := by decide +kernel
theorem mi_X12_lays : Cond.instanceMethod yX12_lays ∈ g_T := g_inT1 (i := 1521) (by decide +kernel) (by decide +kernel)
theorem me_X12_lays : Cond.selects RX12 yX12_lays yX12_lays ∈ g_T := g_inT0 (i := 61) (by decide +kernel) (by decide +kernel)
theorem mc_X12_lays : Cond.code yX12_lays cX12_lays 1 none ∈ g_T := g_inT1 (i := 1522) (by decide +kernel) (by decide +kernel)
theorem mp_X12_lays : (mX12_lays).1.cls ≠ "java/lang/invoke/MethodHandle" ∧ (mX12_lays).1.cls ≠ "java/lang/invoke/VarHandle" ∧ (parseMethodDescriptor (mX12_lays).1.desc).map (fun d => d.parameters.length) = some 0 := by decide +kernel
theorem ms_X12_copies : Cond.static yX12_copies ∈ g_T := g_inT1 (i := 1586) (by decide +kernel) (by decide +kernel)
theorem mc_X12_copies : Cond.code yX12_copies cX12_copies 5 none ∈ g_T := g_inT1 (i := 1587) (by decide +kernel) (by decide +kernel)
theorem mp_X12_copies : (mX12_copies).1.cls ≠ "java/lang/invoke/MethodHandle" ∧ (mX12_copies).1.cls ≠ "java/lang/invoke/VarHandle" ∧ (parseMethodDescriptor (mX12_copies).1.desc).map (fun d => d.parameters.length) = some 4 := by decide +kernel
theorem mi_X12_readsLine : Cond.instanceMethod yX12_readsLine ∈ g_T := g_inT1 (i := 1539) (by decide +kernel) (by decide +kernel)
theorem me_X12_readsLine : Cond.selects RX12 yX12_readsLine yX12_readsLine ∈ g_T := g_inT0 (i := 63) (by decide +kernel) (by decide +kernel)
theorem mc_X12_readsLine : Cond.code yX12_readsLine cX12_readsLine 3 (some .boolean) ∈ g_T := g_inT1 (i := 1540) (by decide +kernel) (by decide +kernel)
theorem mp_X12_readsLine : (mX12_readsLine).1.cls ≠ "java/lang/invoke/MethodHandle" ∧ (mX12_readsLine).1.cls ≠ "java/lang/invoke/VarHandle" ∧ (parseMethodDescriptor (mX12_readsLine).1.desc).map (fun d => d.parameters.length) = some 0 := by decide +kernel
theorem mi_X12_laysLines : Cond.instanceMethod yX12_laysLines ∈ g_T := g_inT1 (i := 1543) (by decide +kernel) (by decide +kernel)
theorem me_X12_laysLines : Cond.selects RX12 yX12_laysLines yX12_laysLines ∈ g_T := g_inT0 (i := 64) (by decide +kernel) (by decide +kernel)
theorem mc_X12_laysLines : Cond.code yX12_laysLines cX12_laysLines 4 none ∈ g_T := g_inT1 (i := 1544) (by decide +kernel) (by decide +kernel)
theorem mp_X12_laysLines : (mX12_laysLines).1.cls ≠ "java/lang/invoke/MethodHandle" ∧ (mX12_laysLines).1.cls ≠ "java/lang/invoke/VarHandle" ∧ (parseMethodDescriptor (mX12_laysLines).1.desc).map (fun d => d.parameters.length) = some 2 := by decide +kernel
theorem mi_X12_laysWord : Cond.instanceMethod yX12_laysWord ∈ g_T := g_inT1 (i := 1555) (by decide +kernel) (by decide +kernel)
theorem me_X12_laysWord : Cond.selects RX12 yX12_laysWord yX12_laysWord ∈ g_T := g_inT0 (i := 66) (by decide +kernel) (by decide +kernel)
theorem mc_X12_laysWord : Cond.code yX12_laysWord cX12_laysWord 4 none ∈ g_T := g_inT1 (i := 1556) (by decide +kernel) (by decide +kernel)
theorem mp_X12_laysWord : (mX12_laysWord).1.cls ≠ "java/lang/invoke/MethodHandle" ∧ (mX12_laysWord).1.cls ≠ "java/lang/invoke/VarHandle" ∧ (parseMethodDescriptor (mX12_laysWord).1.desc).map (fun d => d.parameters.length) = some 2 := by decide +kernel
theorem mi_X12_laysSeen : Cond.instanceMethod yX12_laysSeen ∈ g_T := g_inT1 (i := 1840) (by decide +kernel) (by decide +kernel)
theorem me_X12_laysSeen : Cond.selects RX12 yX12_laysSeen yX12_laysSeen ∈ g_T := g_inT0 (i := 95) (by decide +kernel) (by decide +kernel)
theorem mc_X12_laysSeen : Cond.code yX12_laysSeen cX12_laysSeen 4 none ∈ g_T := g_inT1 (i := 1841) (by decide +kernel) (by decide +kernel)
theorem mp_X12_laysSeen : (mX12_laysSeen).1.cls ≠ "java/lang/invoke/MethodHandle" ∧ (mX12_laysSeen).1.cls ≠ "java/lang/invoke/VarHandle" ∧ (parseMethodDescriptor (mX12_laysSeen).1.desc).map (fun d => d.parameters.length) = some 2 := by decide +kernel
theorem mi_X12_laysOrder : Cond.instanceMethod yX12_laysOrder ∈ g_T := g_inT1 (i := 1531) (by decide +kernel) (by decide +kernel)
theorem me_X12_laysOrder : Cond.selects RX12 yX12_laysOrder yX12_laysOrder ∈ g_T := g_inT0 (i := 62) (by decide +kernel) (by decide +kernel)
theorem mc_X12_laysOrder : Cond.code yX12_laysOrder cX12_laysOrder 4 none ∈ g_T := g_inT1 (i := 1532) (by decide +kernel) (by decide +kernel)
theorem mp_X12_laysOrder : (mX12_laysOrder).1.cls ≠ "java/lang/invoke/MethodHandle" ∧ (mX12_laysOrder).1.cls ≠ "java/lang/invoke/VarHandle" ∧ (parseMethodDescriptor (mX12_laysOrder).1.desc).map (fun d => d.parameters.length) = some 0 := by decide +kernel
theorem mi_X12_fresh0 : Cond.instanceMethod yX12_fresh0 ∈ g_T := g_inT1 (i := 1202) (by decide +kernel) (by decide +kernel)
theorem me_X12_fresh0 : Cond.selects RX12 yX12_fresh0 yX12_fresh0 ∈ g_T := g_inT0 (i := 37) (by decide +kernel) (by decide +kernel)
theorem mc_X12_fresh0 : Cond.code yX12_fresh0 cX12_fresh0 2 none ∈ g_T := g_inT1 (i := 1203) (by decide +kernel) (by decide +kernel)
theorem mp_X12_fresh0 : (mX12_fresh0).1.cls ≠ "java/lang/invoke/MethodHandle" ∧ (mX12_fresh0).1.cls ≠ "java/lang/invoke/VarHandle" ∧ (parseMethodDescriptor (mX12_fresh0).1.desc).map (fun d => d.parameters.length) = some 0 := by decide +kernel
theorem mi_X12_front : Cond.instanceMethod yX12_front ∈ g_T := g_inT1 (i := 1395) (by decide +kernel) (by decide +kernel)
theorem me_X12_front : Cond.selects RX12 yX12_front yX12_front ∈ g_T := g_inT1 (i := 1396) (by decide +kernel) (by decide +kernel)
theorem mc_X12_front : Cond.code yX12_front cX12_front 2 (some .int) ∈ g_T := g_inT1 (i := 1397) (by decide +kernel) (by decide +kernel)
theorem mp_X12_front : (mX12_front).1.cls ≠ "java/lang/invoke/MethodHandle" ∧ (mX12_front).1.cls ≠ "java/lang/invoke/VarHandle" ∧ (parseMethodDescriptor (mX12_front).1.desc).map (fun d => d.parameters.length) = some 0 := by decide +kernel
theorem mi_X12_day : Cond.instanceMethod yX12_day ∈ g_T := g_inT1 (i := 1534) (by decide +kernel) (by decide +kernel)
theorem me_X12_day : Cond.selects RX12 yX12_day yX12_day ∈ g_T := g_inT1 (i := 1535) (by decide +kernel) (by decide +kernel)
theorem mc_X12_day : Cond.code yX12_day cX12_day 1 (some .int) ∈ g_T := g_inT1 (i := 1536) (by decide +kernel) (by decide +kernel)
theorem mp_X12_day : (mX12_day).1.cls ≠ "java/lang/invoke/MethodHandle" ∧ (mX12_day).1.cls ≠ "java/lang/invoke/VarHandle" ∧ (parseMethodDescriptor (mX12_day).1.desc).map (fun d => d.parameters.length) = some 0 := by decide +kernel
theorem mi_X12_readsWord : Cond.instanceMethod yX12_readsWord ∈ g_T := g_inT1 (i := 1551) (by decide +kernel) (by decide +kernel)
theorem me_X12_readsWord : Cond.selects RX12 yX12_readsWord yX12_readsWord ∈ g_T := g_inT0 (i := 65) (by decide +kernel) (by decide +kernel)
theorem mc_X12_readsWord : Cond.code yX12_readsWord cX12_readsWord 2 (some .boolean) ∈ g_T := g_inT1 (i := 1552) (by decide +kernel) (by decide +kernel)
theorem mp_X12_readsWord : (mX12_readsWord).1.cls ≠ "java/lang/invoke/MethodHandle" ∧ (mX12_readsWord).1.cls ≠ "java/lang/invoke/VarHandle" ∧ (parseMethodDescriptor (mX12_readsWord).1.desc).map (fun d => d.parameters.length) = some 0 := by decide +kernel
theorem mi_X12_word : Cond.instanceMethod yX12_word ∈ g_T := g_inT1 (i := 1546) (by decide +kernel) (by decide +kernel)
theorem me_X12_word : Cond.selects RX12 yX12_word yX12_word ∈ g_T := g_inT1 (i := 1547) (by decide +kernel) (by decide +kernel)
theorem mc_X12_word : Cond.code yX12_word cX12_word 1 (some .int) ∈ g_T := g_inT1 (i := 1548) (by decide +kernel) (by decide +kernel)
theorem mp_X12_word : (mX12_word).1.cls ≠ "java/lang/invoke/MethodHandle" ∧ (mX12_word).1.cls ≠ "java/lang/invoke/VarHandle" ∧ (parseMethodDescriptor (mX12_word).1.desc).map (fun d => d.parameters.length) = some 0 := by decide +kernel
theorem mi_X12_isMouth : Cond.instanceMethod yX12_isMouth ∈ g_T := g_inT1 (i := 1563) (by decide +kernel) (by decide +kernel)
theorem me_X12_isMouth : Cond.selects RX12 yX12_isMouth yX12_isMouth ∈ g_T := g_inT0 (i := 67) (by decide +kernel) (by decide +kernel)
theorem mc_X12_isMouth : Cond.code yX12_isMouth cX12_isMouth 2 (some .boolean) ∈ g_T := g_inT1 (i := 1564) (by decide +kernel) (by decide +kernel)
theorem mp_X12_isMouth : (mX12_isMouth).1.cls ≠ "java/lang/invoke/MethodHandle" ∧ (mX12_isMouth).1.cls ≠ "java/lang/invoke/VarHandle" ∧ (parseMethodDescriptor (mX12_isMouth).1.desc).map (fun d => d.parameters.length) = some 1 := by decide +kernel
theorem mi_X12_isLetter0 : Cond.instanceMethod yX12_isLetter0 ∈ g_T := g_inT1 (i := 1571) (by decide +kernel) (by decide +kernel)
theorem me_X12_isLetter0 : Cond.selects RX12 yX12_isLetter0 yX12_isLetter0 ∈ g_T := g_inT0 (i := 68) (by decide +kernel) (by decide +kernel)
theorem mc_X12_isLetter0 : Cond.code yX12_isLetter0 cX12_isLetter0 2 (some .boolean) ∈ g_T := g_inT1 (i := 1572) (by decide +kernel) (by decide +kernel)
theorem mp_X12_isLetter0 : (mX12_isLetter0).1.cls ≠ "java/lang/invoke/MethodHandle" ∧ (mX12_isLetter0).1.cls ≠ "java/lang/invoke/VarHandle" ∧ (parseMethodDescriptor (mX12_isLetter0).1.desc).map (fun d => d.parameters.length) = some 1 := by decide +kernel
theorem mi_X12_isStopped : Cond.instanceMethod yX12_isStopped ∈ g_T := g_inT1 (i := 1610) (by decide +kernel) (by decide +kernel)
theorem me_X12_isStopped : Cond.selects RX12 yX12_isStopped yX12_isStopped ∈ g_T := g_inT0 (i := 75) (by decide +kernel) (by decide +kernel)
theorem mc_X12_isStopped : Cond.code yX12_isStopped cX12_isStopped 2 (some .boolean) ∈ g_T := g_inT1 (i := 1611) (by decide +kernel) (by decide +kernel)
theorem mp_X12_isStopped : (mX12_isStopped).1.cls ≠ "java/lang/invoke/MethodHandle" ∧ (mX12_isStopped).1.cls ≠ "java/lang/invoke/VarHandle" ∧ (parseMethodDescriptor (mX12_isStopped).1.desc).map (fun d => d.parameters.length) = some 1 := by decide +kernel
theorem mi_X12_every : Cond.instanceMethod yX12_every ∈ g_T := g_inT1 (i := 1703) (by decide +kernel) (by decide +kernel)
theorem me_X12_every : Cond.selects RX12 yX12_every yX12_every ∈ g_T := g_inT0 (i := 86) (by decide +kernel) (by decide +kernel)
theorem mc_X12_every : Cond.code yX12_every cX12_every 1 (some .int) ∈ g_T := g_inT1 (i := 1704) (by decide +kernel) (by decide +kernel)
theorem mp_X12_every : (mX12_every).1.cls ≠ "java/lang/invoke/MethodHandle" ∧ (mX12_every).1.cls ≠ "java/lang/invoke/VarHandle" ∧ (parseMethodDescriptor (mX12_every).1.desc).map (fun d => d.parameters.length) = some 0 := by decide +kernel
theorem mi_X12_rainOf : Cond.instanceMethod yX12_rainOf ∈ g_T := g_inT1 (i := 1594) (by decide +kernel) (by decide +kernel)
theorem me_X12_rainOf : Cond.selects RX12 yX12_rainOf yX12_rainOf ∈ g_T := g_inT0 (i := 71) (by decide +kernel) (by decide +kernel)
theorem mc_X12_rainOf : Cond.code yX12_rainOf cX12_rainOf 2 (some .int) ∈ g_T := g_inT1 (i := 1595) (by decide +kernel) (by decide +kernel)
theorem mp_X12_rainOf : (mX12_rainOf).1.cls ≠ "java/lang/invoke/MethodHandle" ∧ (mX12_rainOf).1.cls ≠ "java/lang/invoke/VarHandle" ∧ (parseMethodDescriptor (mX12_rainOf).1.desc).map (fun d => d.parameters.length) = some 1 := by decide +kernel
theorem mi_X12_spoutOf : Cond.instanceMethod yX12_spoutOf ∈ g_T := g_inT1 (i := 1606) (by decide +kernel) (by decide +kernel)
theorem me_X12_spoutOf : Cond.selects RX12 yX12_spoutOf yX12_spoutOf ∈ g_T := g_inT0 (i := 74) (by decide +kernel) (by decide +kernel)
theorem mc_X12_spoutOf : Cond.code yX12_spoutOf cX12_spoutOf 2 (some .int) ∈ g_T := g_inT1 (i := 1607) (by decide +kernel) (by decide +kernel)
theorem mp_X12_spoutOf : (mX12_spoutOf).1.cls ≠ "java/lang/invoke/MethodHandle" ∧ (mX12_spoutOf).1.cls ≠ "java/lang/invoke/VarHandle" ∧ (parseMethodDescriptor (mX12_spoutOf).1.desc).map (fun d => d.parameters.length) = some 1 := by decide +kernel
theorem mi_X12_isSounding : Cond.instanceMethod yX12_isSounding ∈ g_T := g_inT1 (i := 1615) (by decide +kernel) (by decide +kernel)
theorem me_X12_isSounding : Cond.selects RX12 yX12_isSounding yX12_isSounding ∈ g_T := g_inT0 (i := 76) (by decide +kernel) (by decide +kernel)
theorem mc_X12_isSounding : Cond.code yX12_isSounding cX12_isSounding 3 (some .boolean) ∈ g_T := g_inT1 (i := 1616) (by decide +kernel) (by decide +kernel)
theorem mp_X12_isSounding : (mX12_isSounding).1.cls ≠ "java/lang/invoke/MethodHandle" ∧ (mX12_isSounding).1.cls ≠ "java/lang/invoke/VarHandle" ∧ (parseMethodDescriptor (mX12_isSounding).1.desc).map (fun d => d.parameters.length) = some 2 := by decide +kernel
theorem mi_X12_runsOver : Cond.instanceMethod yX12_runsOver ∈ g_T := g_inT1 (i := 1602) (by decide +kernel) (by decide +kernel)
theorem me_X12_runsOver : Cond.selects RX12 yX12_runsOver yX12_runsOver ∈ g_T := g_inT0 (i := 73) (by decide +kernel) (by decide +kernel)
theorem mc_X12_runsOver : Cond.code yX12_runsOver cX12_runsOver 3 none ∈ g_T := g_inT1 (i := 1603) (by decide +kernel) (by decide +kernel)
theorem mp_X12_runsOver : (mX12_runsOver).1.cls ≠ "java/lang/invoke/MethodHandle" ∧ (mX12_runsOver).1.cls ≠ "java/lang/invoke/VarHandle" ∧ (parseMethodDescriptor (mX12_runsOver).1.desc).map (fun d => d.parameters.length) = some 1 := by decide +kernel
theorem mi_X12_readBy : Cond.instanceMethod yX12_readBy ∈ g_T := g_inT1 (i := 1635) (by decide +kernel) (by decide +kernel)
theorem me_X12_readBy : Cond.selects RX12 yX12_readBy yX12_readBy ∈ g_T := g_inT0 (i := 81) (by decide +kernel) (by decide +kernel)
theorem mc_X12_readBy : Cond.code yX12_readBy cX12_readBy 3 (some .int) ∈ g_T := g_inT1 (i := 1636) (by decide +kernel) (by decide +kernel)
theorem mp_X12_readBy : (mX12_readBy).1.cls ≠ "java/lang/invoke/MethodHandle" ∧ (mX12_readBy).1.cls ≠ "java/lang/invoke/VarHandle" ∧ (parseMethodDescriptor (mX12_readBy).1.desc).map (fun d => d.parameters.length) = some 1 := by decide +kernel
theorem mi_X12_passes : Cond.instanceMethod yX12_passes ∈ g_T := g_inT1 (i := 1598) (by decide +kernel) (by decide +kernel)
theorem me_X12_passes : Cond.selects RX12 yX12_passes yX12_passes ∈ g_T := g_inT0 (i := 72) (by decide +kernel) (by decide +kernel)
theorem mc_X12_passes : Cond.code yX12_passes cX12_passes 5 (some .int) ∈ g_T := g_inT1 (i := 1599) (by decide +kernel) (by decide +kernel)
theorem mp_X12_passes : (mX12_passes).1.cls ≠ "java/lang/invoke/MethodHandle" ∧ (mX12_passes).1.cls ≠ "java/lang/invoke/VarHandle" ∧ (parseMethodDescriptor (mX12_passes).1.desc).map (fun d => d.parameters.length) = some 1 := by decide +kernel
theorem mi_X12_passesAsTold : Cond.instanceMethod yX12_passesAsTold ∈ g_T := g_inT1 (i := 1590) (by decide +kernel) (by decide +kernel)
theorem me_X12_passesAsTold : Cond.selects RX12 yX12_passesAsTold yX12_passesAsTold ∈ g_T := g_inT0 (i := 70) (by decide +kernel) (by decide +kernel)
theorem mc_X12_passesAsTold : Cond.code yX12_passesAsTold cX12_passesAsTold 1 (some .int) ∈ g_T := g_inT1 (i := 1591) (by decide +kernel) (by decide +kernel)
theorem mp_X12_passesAsTold : (mX12_passesAsTold).1.cls ≠ "java/lang/invoke/MethodHandle" ∧ (mX12_passesAsTold).1.cls ≠ "java/lang/invoke/VarHandle" ∧ (parseMethodDescriptor (mX12_passesAsTold).1.desc).map (fun d => d.parameters.length) = some 0 := by decide +kernel
theorem mi_X12_mouth : Cond.instanceMethod yX12_mouth ∈ g_T := g_inT1 (i := 1558) (by decide +kernel) (by decide +kernel)
theorem me_X12_mouth : Cond.selects RX12 yX12_mouth yX12_mouth ∈ g_T := g_inT1 (i := 1559) (by decide +kernel) (by decide +kernel)
theorem mc_X12_mouth : Cond.code yX12_mouth cX12_mouth 3 (some .int) ∈ g_T := g_inT1 (i := 1560) (by decide +kernel) (by decide +kernel)
theorem mp_X12_mouth : (mX12_mouth).1.cls ≠ "java/lang/invoke/MethodHandle" ∧ (mX12_mouth).1.cls ≠ "java/lang/invoke/VarHandle" ∧ (parseMethodDescriptor (mX12_mouth).1.desc).map (fun d => d.parameters.length) = some 2 := by decide +kernel
theorem mi_X12_letter : Cond.instanceMethod yX12_letter ∈ g_T := g_inT1 (i := 1566) (by decide +kernel) (by decide +kernel)
theorem me_X12_letter : Cond.selects RX12 yX12_letter yX12_letter ∈ g_T := g_inT1 (i := 1567) (by decide +kernel) (by decide +kernel)
theorem mc_X12_letter : Cond.code yX12_letter cX12_letter 2 (some .int) ∈ g_T := g_inT1 (i := 1568) (by decide +kernel) (by decide +kernel)
theorem mp_X12_letter : (mX12_letter).1.cls ≠ "java/lang/invoke/MethodHandle" ∧ (mX12_letter).1.cls ≠ "java/lang/invoke/VarHandle" ∧ (parseMethodDescriptor (mX12_letter).1.desc).map (fun d => d.parameters.length) = some 1 := by decide +kernel
theorem mi_X12_slate : Cond.instanceMethod yX12_slate ∈ g_T := g_inT1 (i := 1574) (by decide +kernel) (by decide +kernel)
theorem me_X12_slate : Cond.selects RX12 yX12_slate yX12_slate ∈ g_T := g_inT1 (i := 1575) (by decide +kernel) (by decide +kernel)
theorem mc_X12_slate : Cond.code yX12_slate cX12_slate 2 (some .int) ∈ g_T := g_inT1 (i := 1576) (by decide +kernel) (by decide +kernel)
theorem mp_X12_slate : (mX12_slate).1.cls ≠ "java/lang/invoke/MethodHandle" ∧ (mX12_slate).1.cls ≠ "java/lang/invoke/VarHandle" ∧ (parseMethodDescriptor (mX12_slate).1.desc).map (fun d => d.parameters.length) = some 1 := by decide +kernel
theorem mi_X12_keeps : Cond.instanceMethod yX12_keeps ∈ g_T := g_inT1 (i := 1583) (by decide +kernel) (by decide +kernel)
theorem me_X12_keeps : Cond.selects RX12 yX12_keeps yX12_keeps ∈ g_T := g_inT0 (i := 69) (by decide +kernel) (by decide +kernel)
theorem mc_X12_keeps : Cond.code yX12_keeps cX12_keeps 2 none ∈ g_T := g_inT1 (i := 1584) (by decide +kernel) (by decide +kernel)
theorem mp_X12_keeps : (mX12_keeps).1.cls ≠ "java/lang/invoke/MethodHandle" ∧ (mX12_keeps).1.cls ≠ "java/lang/invoke/VarHandle" ∧ (parseMethodDescriptor (mX12_keeps).1.desc).map (fun d => d.parameters.length) = some 0 := by decide +kernel
theorem mi_X12_minute : Cond.instanceMethod yX12_minute ∈ g_T := g_inT1 (i := 1578) (by decide +kernel) (by decide +kernel)
theorem me_X12_minute : Cond.selects RX12 yX12_minute yX12_minute ∈ g_T := g_inT1 (i := 1579) (by decide +kernel) (by decide +kernel)
theorem mc_X12_minute : Cond.code yX12_minute cX12_minute 1 (some .int) ∈ g_T := g_inT1 (i := 1580) (by decide +kernel) (by decide +kernel)
theorem mp_X12_minute : (mX12_minute).1.cls ≠ "java/lang/invoke/MethodHandle" ∧ (mX12_minute).1.cls ≠ "java/lang/invoke/VarHandle" ∧ (parseMethodDescriptor (mX12_minute).1.desc).map (fun d => d.parameters.length) = some 0 := by decide +kernel
theorem mi_X12_pours : Cond.instanceMethod yX12_pours ∈ g_T := g_inT1 (i := 1643) (by decide +kernel) (by decide +kernel)
theorem me_X12_pours : Cond.selects RX12 yX12_pours yX12_pours ∈ g_T := g_inT0 (i := 82) (by decide +kernel) (by decide +kernel)
theorem mc_X12_pours : Cond.code yX12_pours cX12_pours 3 none ∈ g_T := g_inT1 (i := 1644) (by decide +kernel) (by decide +kernel)
theorem mp_X12_pours : (mX12_pours).1.cls ≠ "java/lang/invoke/MethodHandle" ∧ (mX12_pours).1.cls ≠ "java/lang/invoke/VarHandle" ∧ (parseMethodDescriptor (mX12_pours).1.desc).map (fun d => d.parameters.length) = some 2 := by decide +kernel
theorem mi_X12_pour : Cond.instanceMethod yX12_pour ∈ g_T := g_inT1 (i := 1638) (by decide +kernel) (by decide +kernel)
theorem me_X12_pour : Cond.selects RX12 yX12_pour yX12_pour ∈ g_T := g_inT1 (i := 1639) (by decide +kernel) (by decide +kernel)
theorem mc_X12_pour : Cond.code yX12_pour cX12_pour 3 (some .int) ∈ g_T := g_inT1 (i := 1640) (by decide +kernel) (by decide +kernel)
theorem mp_X12_pour : (mX12_pour).1.cls ≠ "java/lang/invoke/MethodHandle" ∧ (mX12_pour).1.cls ≠ "java/lang/invoke/VarHandle" ∧ (parseMethodDescriptor (mX12_pour).1.desc).map (fun d => d.parameters.length) = some 2 := by decide +kernel
theorem mi_X12_stop : Cond.instanceMethod yX12_stop ∈ g_T := g_inT1 (i := 1646) (by decide +kernel) (by decide +kernel)
theorem me_X12_stop : Cond.selects RX12 yX12_stop yX12_stop ∈ g_T := g_inT1 (i := 1647) (by decide +kernel) (by decide +kernel)
theorem mc_X12_stop : Cond.code yX12_stop cX12_stop 2 (some .boolean) ∈ g_T := g_inT1 (i := 1648) (by decide +kernel) (by decide +kernel)
theorem mp_X12_stop : (mX12_stop).1.cls ≠ "java/lang/invoke/MethodHandle" ∧ (mX12_stop).1.cls ≠ "java/lang/invoke/VarHandle" ∧ (parseMethodDescriptor (mX12_stop).1.desc).map (fun d => d.parameters.length) = some 1 := by decide +kernel
theorem mi_X12_clear : Cond.instanceMethod yX12_clear ∈ g_T := g_inT1 (i := 1650) (by decide +kernel) (by decide +kernel)
theorem me_X12_clear : Cond.selects RX12 yX12_clear yX12_clear ∈ g_T := g_inT1 (i := 1651) (by decide +kernel) (by decide +kernel)
theorem mc_X12_clear : Cond.code yX12_clear cX12_clear 2 (some .boolean) ∈ g_T := g_inT1 (i := 1652) (by decide +kernel) (by decide +kernel)
theorem mp_X12_clear : (mX12_clear).1.cls ≠ "java/lang/invoke/MethodHandle" ∧ (mX12_clear).1.cls ≠ "java/lang/invoke/VarHandle" ∧ (parseMethodDescriptor (mX12_clear).1.desc).map (fun d => d.parameters.length) = some 1 := by decide +kernel
theorem mi_X12_undo : Cond.instanceMethod yX12_undo ∈ g_T := g_inT1 (i := 1654) (by decide +kernel) (by decide +kernel)
theorem me_X12_undo : Cond.selects RX12 yX12_undo yX12_undo ∈ g_T := g_inT1 (i := 1655) (by decide +kernel) (by decide +kernel)
theorem mc_X12_undo : Cond.code yX12_undo cX12_undo 1 (some .boolean) ∈ g_T := g_inT1 (i := 1656) (by decide +kernel) (by decide +kernel)
theorem mp_X12_undo : (mX12_undo).1.cls ≠ "java/lang/invoke/MethodHandle" ∧ (mX12_undo).1.cls ≠ "java/lang/invoke/VarHandle" ∧ (parseMethodDescriptor (mX12_undo).1.desc).map (fun d => d.parameters.length) = some 0 := by decide +kernel
theorem mi_X12_holesNow : Cond.instanceMethod yX12_holesNow ∈ g_T := g_inT1 (i := 1663) (by decide +kernel) (by decide +kernel)
theorem me_X12_holesNow : Cond.selects RX12 yX12_holesNow yX12_holesNow ∈ g_T := g_inT0 (i := 83) (by decide +kernel) (by decide +kernel)
theorem mc_X12_holesNow : Cond.code yX12_holesNow cX12_holesNow 3 (some .int) ∈ g_T := g_inT1 (i := 1664) (by decide +kernel) (by decide +kernel)
theorem mp_X12_holesNow : (mX12_holesNow).1.cls ≠ "java/lang/invoke/MethodHandle" ∧ (mX12_holesNow).1.cls ≠ "java/lang/invoke/VarHandle" ∧ (parseMethodDescriptor (mX12_holesNow).1.desc).map (fun d => d.parameters.length) = some 0 := by decide +kernel
theorem mi_X12_judged : Cond.instanceMethod yX12_judged ∈ g_T := g_inT1 (i := 1658) (by decide +kernel) (by decide +kernel)
theorem me_X12_judged : Cond.selects RX12 yX12_judged yX12_judged ∈ g_T := g_inT1 (i := 1659) (by decide +kernel) (by decide +kernel)
theorem mc_X12_judged : Cond.code yX12_judged cX12_judged 6 (some .int) ∈ g_T := g_inT1 (i := 1660) (by decide +kernel) (by decide +kernel)
theorem mp_X12_judged : (mX12_judged).1.cls ≠ "java/lang/invoke/MethodHandle" ∧ (mX12_judged).1.cls ≠ "java/lang/invoke/VarHandle" ∧ (parseMethodDescriptor (mX12_judged).1.desc).map (fun d => d.parameters.length) = some 1 := by decide +kernel
theorem mi_X12_later : Cond.instanceMethod yX12_later ∈ g_T := g_inT1 (i := 1666) (by decide +kernel) (by decide +kernel)
theorem me_X12_later : Cond.selects RX12 yX12_later yX12_later ∈ g_T := g_inT1 (i := 1667) (by decide +kernel) (by decide +kernel)
theorem mc_X12_later : Cond.code yX12_later cX12_later 4 (some .int) ∈ g_T := g_inT1 (i := 1668) (by decide +kernel) (by decide +kernel)
theorem mp_X12_later : (mX12_later).1.cls ≠ "java/lang/invoke/MethodHandle" ∧ (mX12_later).1.cls ≠ "java/lang/invoke/VarHandle" ∧ (parseMethodDescriptor (mX12_later).1.desc).map (fun d => d.parameters.length) = some 2 := by decide +kernel
theorem mi_X12_reads : Cond.instanceMethod yX12_reads ∈ g_T := g_inT1 (i := 1670) (by decide +kernel) (by decide +kernel)
theorem me_X12_reads : Cond.selects RX12 yX12_reads yX12_reads ∈ g_T := g_inT1 (i := 1671) (by decide +kernel) (by decide +kernel)
theorem mc_X12_reads : Cond.code yX12_reads cX12_reads 4 (some .int) ∈ g_T := g_inT1 (i := 1672) (by decide +kernel) (by decide +kernel)
theorem mp_X12_reads : (mX12_reads).1.cls ≠ "java/lang/invoke/MethodHandle" ∧ (mX12_reads).1.cls ≠ "java/lang/invoke/VarHandle" ∧ (parseMethodDescriptor (mX12_reads).1.desc).map (fun d => d.parameters.length) = some 1 := by decide +kernel
theorem mi_X12_when : Cond.instanceMethod yX12_when ∈ g_T := g_inT1 (i := 1674) (by decide +kernel) (by decide +kernel)
theorem me_X12_when : Cond.selects RX12 yX12_when yX12_when ∈ g_T := g_inT1 (i := 1675) (by decide +kernel) (by decide +kernel)
theorem mc_X12_when : Cond.code yX12_when cX12_when 3 (some .int) ∈ g_T := g_inT1 (i := 1676) (by decide +kernel) (by decide +kernel)
theorem mp_X12_when : (mX12_when).1.cls ≠ "java/lang/invoke/MethodHandle" ∧ (mX12_when).1.cls ≠ "java/lang/invoke/VarHandle" ∧ (parseMethodDescriptor (mX12_when).1.desc).map (fun d => d.parameters.length) = some 1 := by decide +kernel
theorem mi_X12_allStands : Cond.instanceMethod yX12_allStands ∈ g_T := g_inT1 (i := 1683) (by decide +kernel) (by decide +kernel)
theorem me_X12_allStands : Cond.selects RX12 yX12_allStands yX12_allStands ∈ g_T := g_inT0 (i := 84) (by decide +kernel) (by decide +kernel)
theorem mc_X12_allStands : Cond.code yX12_allStands cX12_allStands 3 (some .int) ∈ g_T := g_inT1 (i := 1684) (by decide +kernel) (by decide +kernel)
theorem mp_X12_allStands : (mX12_allStands).1.cls ≠ "java/lang/invoke/MethodHandle" ∧ (mX12_allStands).1.cls ≠ "java/lang/invoke/VarHandle" ∧ (parseMethodDescriptor (mX12_allStands).1.desc).map (fun d => d.parameters.length) = some 0 := by decide +kernel
theorem mi_X12_dry : Cond.instanceMethod yX12_dry ∈ g_T := g_inT1 (i := 1678) (by decide +kernel) (by decide +kernel)
theorem me_X12_dry : Cond.selects RX12 yX12_dry yX12_dry ∈ g_T := g_inT1 (i := 1679) (by decide +kernel) (by decide +kernel)
theorem mc_X12_dry : Cond.code yX12_dry cX12_dry 2 (some .int) ∈ g_T := g_inT1 (i := 1680) (by decide +kernel) (by decide +kernel)
theorem mp_X12_dry : (mX12_dry).1.cls ≠ "java/lang/invoke/MethodHandle" ∧ (mX12_dry).1.cls ≠ "java/lang/invoke/VarHandle" ∧ (parseMethodDescriptor (mX12_dry).1.desc).map (fun d => d.parameters.length) = some 0 := by decide +kernel
theorem mi_X12_spill : Cond.instanceMethod yX12_spill ∈ g_T := g_inT1 (i := 1686) (by decide +kernel) (by decide +kernel)
theorem me_X12_spill : Cond.selects RX12 yX12_spill yX12_spill ∈ g_T := g_inT1 (i := 1687) (by decide +kernel) (by decide +kernel)
theorem mc_X12_spill : Cond.code yX12_spill cX12_spill 4 (some .int) ∈ g_T := g_inT1 (i := 1688) (by decide +kernel) (by decide +kernel)
theorem mp_X12_spill : (mX12_spill).1.cls ≠ "java/lang/invoke/MethodHandle" ∧ (mX12_spill).1.cls ≠ "java/lang/invoke/VarHandle" ∧ (parseMethodDescriptor (mX12_spill).1.desc).map (fun d => d.parameters.length) = some 1 := by decide +kernel
theorem mi_X12_overOf : Cond.instanceMethod yX12_overOf ∈ g_T := g_inT1 (i := 1695) (by decide +kernel) (by decide +kernel)
theorem me_X12_overOf : Cond.selects RX12 yX12_overOf yX12_overOf ∈ g_T := g_inT0 (i := 85) (by decide +kernel) (by decide +kernel)
theorem mc_X12_overOf : Cond.code yX12_overOf cX12_overOf 4 (some .int) ∈ g_T := g_inT1 (i := 1696) (by decide +kernel) (by decide +kernel)
theorem mp_X12_overOf : (mX12_overOf).1.cls ≠ "java/lang/invoke/MethodHandle" ∧ (mX12_overOf).1.cls ≠ "java/lang/invoke/VarHandle" ∧ (parseMethodDescriptor (mX12_overOf).1.desc).map (fun d => d.parameters.length) = some 1 := by decide +kernel
theorem mi_X12_over : Cond.instanceMethod yX12_over ∈ g_T := g_inT1 (i := 1690) (by decide +kernel) (by decide +kernel)
theorem me_X12_over : Cond.selects RX12 yX12_over yX12_over ∈ g_T := g_inT1 (i := 1691) (by decide +kernel) (by decide +kernel)
theorem mc_X12_over : Cond.code yX12_over cX12_over 2 (some .int) ∈ g_T := g_inT1 (i := 1692) (by decide +kernel) (by decide +kernel)
theorem mp_X12_over : (mX12_over).1.cls ≠ "java/lang/invoke/MethodHandle" ∧ (mX12_over).1.cls ≠ "java/lang/invoke/VarHandle" ∧ (parseMethodDescriptor (mX12_over).1.desc).map (fun d => d.parameters.length) = some 1 := by decide +kernel
theorem ms_X12_lowest : Cond.static yX12_lowest ∈ g_T := g_inT1 (i := 1706) (by decide +kernel) (by decide +kernel)
theorem mc_X12_lowest : Cond.code yX12_lowest cX12_lowest 2 (some .int) ∈ g_T := g_inT1 (i := 1707) (by decide +kernel) (by decide +kernel)
theorem mp_X12_lowest : (mX12_lowest).1.cls ≠ "java/lang/invoke/MethodHandle" ∧ (mX12_lowest).1.cls ≠ "java/lang/invoke/VarHandle" ∧ (parseMethodDescriptor (mX12_lowest).1.desc).map (fun d => d.parameters.length) = some 1 := by decide +kernel
theorem mi_X12_first : Cond.instanceMethod yX12_first ∈ g_T := g_inT1 (i := 1698) (by decide +kernel) (by decide +kernel)
theorem me_X12_first : Cond.selects RX12 yX12_first yX12_first ∈ g_T := g_inT1 (i := 1699) (by decide +kernel) (by decide +kernel)
theorem mc_X12_first : Cond.code yX12_first cX12_first 1 (some .int) ∈ g_T := g_inT1 (i := 1700) (by decide +kernel) (by decide +kernel)
theorem mp_X12_first : (mX12_first).1.cls ≠ "java/lang/invoke/MethodHandle" ∧ (mX12_first).1.cls ≠ "java/lang/invoke/VarHandle" ∧ (parseMethodDescriptor (mX12_first).1.desc).map (fun d => d.parameters.length) = some 0 := by decide +kernel
theorem mi_X12_great : Cond.instanceMethod yX12_great ∈ g_T := g_inT1 (i := 1709) (by decide +kernel) (by decide +kernel)
theorem me_X12_great : Cond.selects RX12 yX12_great yX12_great ∈ g_T := g_inT1 (i := 1710) (by decide +kernel) (by decide +kernel)
theorem mc_X12_great : Cond.code yX12_great cX12_great 4 (some .int) ∈ g_T := g_inT1 (i := 1711) (by decide +kernel) (by decide +kernel)
theorem mp_X12_great : (mX12_great).1.cls ≠ "java/lang/invoke/MethodHandle" ∧ (mX12_great).1.cls ≠ "java/lang/invoke/VarHandle" ∧ (parseMethodDescriptor (mX12_great).1.desc).map (fun d => d.parameters.length) = some 1 := by decide +kernel
theorem mi_X12_twins : Cond.instanceMethod yX12_twins ∈ g_T := g_inT1 (i := 1713) (by decide +kernel) (by decide +kernel)
theorem me_X12_twins : Cond.selects RX12 yX12_twins yX12_twins ∈ g_T := g_inT1 (i := 1714) (by decide +kernel) (by decide +kernel)
theorem mc_X12_twins : Cond.code yX12_twins cX12_twins 5 (some .int) ∈ g_T := g_inT1 (i := 1715) (by decide +kernel) (by decide +kernel)
theorem mp_X12_twins : (mX12_twins).1.cls ≠ "java/lang/invoke/MethodHandle" ∧ (mX12_twins).1.cls ≠ "java/lang/invoke/VarHandle" ∧ (parseMethodDescriptor (mX12_twins).1.desc).map (fun d => d.parameters.length) = some 1 := by decide +kernel
theorem mi_X12_downOf : Cond.instanceMethod yX12_downOf ∈ g_T := g_inT1 (i := 1725) (by decide +kernel) (by decide +kernel)
theorem me_X12_downOf : Cond.selects RX12 yX12_downOf yX12_downOf ∈ g_T := g_inT0 (i := 87) (by decide +kernel) (by decide +kernel)
theorem mc_X12_downOf : Cond.code yX12_downOf cX12_downOf 4 (some .int) ∈ g_T := g_inT1 (i := 1726) (by decide +kernel) (by decide +kernel)
theorem mp_X12_downOf : (mX12_downOf).1.cls ≠ "java/lang/invoke/MethodHandle" ∧ (mX12_downOf).1.cls ≠ "java/lang/invoke/VarHandle" ∧ (parseMethodDescriptor (mX12_downOf).1.desc).map (fun d => d.parameters.length) = some 1 := by decide +kernel
theorem mi_X12_down : Cond.instanceMethod yX12_down ∈ g_T := g_inT1 (i := 1720) (by decide +kernel) (by decide +kernel)
theorem me_X12_down : Cond.selects RX12 yX12_down yX12_down ∈ g_T := g_inT1 (i := 1721) (by decide +kernel) (by decide +kernel)
theorem mc_X12_down : Cond.code yX12_down cX12_down 2 (some .int) ∈ g_T := g_inT1 (i := 1722) (by decide +kernel) (by decide +kernel)
theorem mp_X12_down : (mX12_down).1.cls ≠ "java/lang/invoke/MethodHandle" ∧ (mX12_down).1.cls ≠ "java/lang/invoke/VarHandle" ∧ (parseMethodDescriptor (mX12_down).1.desc).map (fun d => d.parameters.length) = some 1 := by decide +kernel
theorem mi_X12_up : Cond.instanceMethod yX12_up ∈ g_T := g_inT1 (i := 1728) (by decide +kernel) (by decide +kernel)
theorem me_X12_up : Cond.selects RX12 yX12_up yX12_up ∈ g_T := g_inT1 (i := 1729) (by decide +kernel) (by decide +kernel)
theorem mc_X12_up : Cond.code yX12_up cX12_up 4 (some .int) ∈ g_T := g_inT1 (i := 1730) (by decide +kernel) (by decide +kernel)
theorem mp_X12_up : (mX12_up).1.cls ≠ "java/lang/invoke/MethodHandle" ∧ (mX12_up).1.cls ≠ "java/lang/invoke/VarHandle" ∧ (parseMethodDescriptor (mX12_up).1.desc).map (fun d => d.parameters.length) = some 1 := by decide +kernel
theorem mi_X12_chain : Cond.instanceMethod yX12_chain ∈ g_T := g_inT1 (i := 1732) (by decide +kernel) (by decide +kernel)
theorem me_X12_chain : Cond.selects RX12 yX12_chain yX12_chain ∈ g_T := g_inT1 (i := 1733) (by decide +kernel) (by decide +kernel)
theorem mc_X12_chain : Cond.code yX12_chain cX12_chain 3 (some .int) ∈ g_T := g_inT1 (i := 1734) (by decide +kernel) (by decide +kernel)
theorem mp_X12_chain : (mX12_chain).1.cls ≠ "java/lang/invoke/MethodHandle" ∧ (mX12_chain).1.cls ≠ "java/lang/invoke/VarHandle" ∧ (parseMethodDescriptor (mX12_chain).1.desc).map (fun d => d.parameters.length) = some 0 := by decide +kernel
theorem mi_X12_sounds : Cond.instanceMethod yX12_sounds ∈ g_T := g_inT1 (i := 1737) (by decide +kernel) (by decide +kernel)
theorem me_X12_sounds : Cond.selects RX12 yX12_sounds yX12_sounds ∈ g_T := g_inT1 (i := 1738) (by decide +kernel) (by decide +kernel)
theorem mc_X12_sounds : Cond.code yX12_sounds cX12_sounds 1 (some .int) ∈ g_T := g_inT1 (i := 1739) (by decide +kernel) (by decide +kernel)
theorem mp_X12_sounds : (mX12_sounds).1.cls ≠ "java/lang/invoke/MethodHandle" ∧ (mX12_sounds).1.cls ≠ "java/lang/invoke/VarHandle" ∧ (parseMethodDescriptor (mX12_sounds).1.desc).map (fun d => d.parameters.length) = some 0 := by decide +kernel
theorem mi_X12_last : Cond.instanceMethod yX12_last ∈ g_T := g_inT1 (i := 1741) (by decide +kernel) (by decide +kernel)
theorem me_X12_last : Cond.selects RX12 yX12_last yX12_last ∈ g_T := g_inT1 (i := 1742) (by decide +kernel) (by decide +kernel)
theorem mc_X12_last : Cond.code yX12_last cX12_last 1 (some .int) ∈ g_T := g_inT1 (i := 1743) (by decide +kernel) (by decide +kernel)
theorem mp_X12_last : (mX12_last).1.cls ≠ "java/lang/invoke/MethodHandle" ∧ (mX12_last).1.cls ≠ "java/lang/invoke/VarHandle" ∧ (parseMethodDescriptor (mX12_last).1.desc).map (fun d => d.parameters.length) = some 0 := by decide +kernel
theorem mi_X12_often : Cond.instanceMethod yX12_often ∈ g_T := g_inT1 (i := 1745) (by decide +kernel) (by decide +kernel)
theorem me_X12_often : Cond.selects RX12 yX12_often yX12_often ∈ g_T := g_inT1 (i := 1746) (by decide +kernel) (by decide +kernel)
theorem mc_X12_often : Cond.code yX12_often cX12_often 6 (some .int) ∈ g_T := g_inT1 (i := 1747) (by decide +kernel) (by decide +kernel)
theorem mp_X12_often : (mX12_often).1.cls ≠ "java/lang/invoke/MethodHandle" ∧ (mX12_often).1.cls ≠ "java/lang/invoke/VarHandle" ∧ (parseMethodDescriptor (mX12_often).1.desc).map (fun d => d.parameters.length) = some 0 := by decide +kernel
theorem mi_X12_run : Cond.instanceMethod yX12_run ∈ g_T := g_inT1 (i := 1749) (by decide +kernel) (by decide +kernel)
theorem me_X12_run : Cond.selects RX12 yX12_run yX12_run ∈ g_T := g_inT1 (i := 1750) (by decide +kernel) (by decide +kernel)
theorem mc_X12_run : Cond.code yX12_run cX12_run 4 (some .int) ∈ g_T := g_inT1 (i := 1751) (by decide +kernel) (by decide +kernel)
theorem mp_X12_run : (mX12_run).1.cls ≠ "java/lang/invoke/MethodHandle" ∧ (mX12_run).1.cls ≠ "java/lang/invoke/VarHandle" ∧ (parseMethodDescriptor (mX12_run).1.desc).map (fun d => d.parameters.length) = some 0 := by decide +kernel
theorem mi_X12_standsAt : Cond.instanceMethod yX12_standsAt ∈ g_T := g_inT1 (i := 1762) (by decide +kernel) (by decide +kernel)
theorem me_X12_standsAt : Cond.selects RX12 yX12_standsAt yX12_standsAt ∈ g_T := g_inT0 (i := 89) (by decide +kernel) (by decide +kernel)
theorem mc_X12_standsAt : Cond.code yX12_standsAt cX12_standsAt 4 (some .boolean) ∈ g_T := g_inT1 (i := 1763) (by decide +kernel) (by decide +kernel)
theorem mp_X12_standsAt : (mX12_standsAt).1.cls ≠ "java/lang/invoke/MethodHandle" ∧ (mX12_standsAt).1.cls ≠ "java/lang/invoke/VarHandle" ∧ (parseMethodDescriptor (mX12_standsAt).1.desc).map (fun d => d.parameters.length) = some 2 := by decide +kernel
theorem mi_X12_standsFrom : Cond.instanceMethod yX12_standsFrom ∈ g_T := g_inT1 (i := 1758) (by decide +kernel) (by decide +kernel)
theorem me_X12_standsFrom : Cond.selects RX12 yX12_standsFrom yX12_standsFrom ∈ g_T := g_inT0 (i := 88) (by decide +kernel) (by decide +kernel)
theorem mc_X12_standsFrom : Cond.code yX12_standsFrom cX12_standsFrom 2 (some .int) ∈ g_T := g_inT1 (i := 1759) (by decide +kernel) (by decide +kernel)
theorem mp_X12_standsFrom : (mX12_standsFrom).1.cls ≠ "java/lang/invoke/MethodHandle" ∧ (mX12_standsFrom).1.cls ≠ "java/lang/invoke/VarHandle" ∧ (parseMethodDescriptor (mX12_standsFrom).1.desc).map (fun d => d.parameters.length) = some 0 := by decide +kernel
theorem mi_X12_stands : Cond.instanceMethod yX12_stands ∈ g_T := g_inT1 (i := 1753) (by decide +kernel) (by decide +kernel)
theorem me_X12_stands : Cond.selects RX12 yX12_stands yX12_stands ∈ g_T := g_inT1 (i := 1754) (by decide +kernel) (by decide +kernel)
theorem mc_X12_stands : Cond.code yX12_stands cX12_stands 1 (some .int) ∈ g_T := g_inT1 (i := 1755) (by decide +kernel) (by decide +kernel)
theorem mp_X12_stands : (mX12_stands).1.cls ≠ "java/lang/invoke/MethodHandle" ∧ (mX12_stands).1.cls ≠ "java/lang/invoke/VarHandle" ∧ (parseMethodDescriptor (mX12_stands).1.desc).map (fun d => d.parameters.length) = some 0 := by decide +kernel
theorem mi_X12_maybe : Cond.instanceMethod yX12_maybe ∈ g_T := g_inT1 (i := 1765) (by decide +kernel) (by decide +kernel)
theorem me_X12_maybe : Cond.selects RX12 yX12_maybe yX12_maybe ∈ g_T := g_inT1 (i := 1766) (by decide +kernel) (by decide +kernel)
theorem mc_X12_maybe : Cond.code yX12_maybe cX12_maybe 3 (some .int) ∈ g_T := g_inT1 (i := 1767) (by decide +kernel) (by decide +kernel)
theorem mp_X12_maybe : (mX12_maybe).1.cls ≠ "java/lang/invoke/MethodHandle" ∧ (mX12_maybe).1.cls ≠ "java/lang/invoke/VarHandle" ∧ (parseMethodDescriptor (mX12_maybe).1.desc).map (fun d => d.parameters.length) = some 0 := by decide +kernel
theorem mi_X12_entire : Cond.instanceMethod yX12_entire ∈ g_T := g_inT1 (i := 1769) (by decide +kernel) (by decide +kernel)
theorem me_X12_entire : Cond.selects RX12 yX12_entire yX12_entire ∈ g_T := g_inT1 (i := 1770) (by decide +kernel) (by decide +kernel)
theorem mc_X12_entire : Cond.code yX12_entire cX12_entire 2 (some .int) ∈ g_T := g_inT1 (i := 1771) (by decide +kernel) (by decide +kernel)
theorem mp_X12_entire : (mX12_entire).1.cls ≠ "java/lang/invoke/MethodHandle" ∧ (mX12_entire).1.cls ≠ "java/lang/invoke/VarHandle" ∧ (parseMethodDescriptor (mX12_entire).1.desc).map (fun d => d.parameters.length) = some 0 := by decide +kernel
theorem mi_X12_aimOf : Cond.instanceMethod yX12_aimOf ∈ g_T := g_inT1 (i := 1778) (by decide +kernel) (by decide +kernel)
theorem me_X12_aimOf : Cond.selects RX12 yX12_aimOf yX12_aimOf ∈ g_T := g_inT0 (i := 90) (by decide +kernel) (by decide +kernel)
theorem mc_X12_aimOf : Cond.code yX12_aimOf cX12_aimOf 5 (some .int) ∈ g_T := g_inT1 (i := 1779) (by decide +kernel) (by decide +kernel)
theorem mp_X12_aimOf : (mX12_aimOf).1.cls ≠ "java/lang/invoke/MethodHandle" ∧ (mX12_aimOf).1.cls ≠ "java/lang/invoke/VarHandle" ∧ (parseMethodDescriptor (mX12_aimOf).1.desc).map (fun d => d.parameters.length) = some 2 := by decide +kernel
theorem mi_X12_aim : Cond.instanceMethod yX12_aim ∈ g_T := g_inT1 (i := 1773) (by decide +kernel) (by decide +kernel)
theorem me_X12_aim : Cond.selects RX12 yX12_aim yX12_aim ∈ g_T := g_inT1 (i := 1774) (by decide +kernel) (by decide +kernel)
theorem mc_X12_aim : Cond.code yX12_aim cX12_aim 5 (some .int) ∈ g_T := g_inT1 (i := 1775) (by decide +kernel) (by decide +kernel)
theorem mp_X12_aim : (mX12_aim).1.cls ≠ "java/lang/invoke/MethodHandle" ∧ (mX12_aim).1.cls ≠ "java/lang/invoke/VarHandle" ∧ (parseMethodDescriptor (mX12_aim).1.desc).map (fun d => d.parameters.length) = some 2 := by decide +kernel
theorem mi_X12_hush : Cond.instanceMethod yX12_hush ∈ g_T := g_inT1 (i := 1781) (by decide +kernel) (by decide +kernel)
theorem me_X12_hush : Cond.selects RX12 yX12_hush yX12_hush ∈ g_T := g_inT1 (i := 1782) (by decide +kernel) (by decide +kernel)
theorem mc_X12_hush : Cond.code yX12_hush cX12_hush 4 (some .int) ∈ g_T := g_inT1 (i := 1783) (by decide +kernel) (by decide +kernel)
theorem mp_X12_hush : (mX12_hush).1.cls ≠ "java/lang/invoke/MethodHandle" ∧ (mX12_hush).1.cls ≠ "java/lang/invoke/VarHandle" ∧ (parseMethodDescriptor (mX12_hush).1.desc).map (fun d => d.parameters.length) = some 1 := by decide +kernel
theorem mi_X12_laysSounds : Cond.instanceMethod yX12_laysSounds ∈ g_T := g_inT1 (i := 1794) (by decide +kernel) (by decide +kernel)
theorem me_X12_laysSounds : Cond.selects RX12 yX12_laysSounds yX12_laysSounds ∈ g_T := g_inT0 (i := 91) (by decide +kernel) (by decide +kernel)
theorem mc_X12_laysSounds : Cond.code yX12_laysSounds cX12_laysSounds 2 none ∈ g_T := g_inT1 (i := 1795) (by decide +kernel) (by decide +kernel)
theorem mp_X12_laysSounds : (mX12_laysSounds).1.cls ≠ "java/lang/invoke/MethodHandle" ∧ (mX12_laysSounds).1.cls ≠ "java/lang/invoke/VarHandle" ∧ (parseMethodDescriptor (mX12_laysSounds).1.desc).map (fun d => d.parameters.length) = some 0 := by decide +kernel
theorem mi_X12_see : Cond.instanceMethod yX12_see ∈ g_T := g_inT1 (i := 1785) (by decide +kernel) (by decide +kernel)
theorem me_X12_see : Cond.selects RX12 yX12_see yX12_see ∈ g_T := g_inT1 (i := 1786) (by decide +kernel) (by decide +kernel)
theorem mc_X12_see : Cond.code yX12_see cX12_see 3 (some .boolean) ∈ g_T := g_inT1 (i := 1787) (by decide +kernel) (by decide +kernel)
theorem mp_X12_see : (mX12_see).1.cls ≠ "java/lang/invoke/MethodHandle" ∧ (mX12_see).1.cls ≠ "java/lang/invoke/VarHandle" ∧ (parseMethodDescriptor (mX12_see).1.desc).map (fun d => d.parameters.length) = some 2 := by decide +kernel
theorem mi_X12_isAsSeen : Cond.instanceMethod yX12_isAsSeen ∈ g_T := g_inT1 (i := 1798) (by decide +kernel) (by decide +kernel)
theorem me_X12_isAsSeen : Cond.selects RX12 yX12_isAsSeen yX12_isAsSeen ∈ g_T := g_inT0 (i := 92) (by decide +kernel) (by decide +kernel)
theorem mc_X12_isAsSeen : Cond.code yX12_isAsSeen cX12_isAsSeen 3 (some .boolean) ∈ g_T := g_inT1 (i := 1799) (by decide +kernel) (by decide +kernel)
theorem mp_X12_isAsSeen : (mX12_isAsSeen).1.cls ≠ "java/lang/invoke/MethodHandle" ∧ (mX12_isAsSeen).1.cls ≠ "java/lang/invoke/VarHandle" ∧ (parseMethodDescriptor (mX12_isAsSeen).1.desc).map (fun d => d.parameters.length) = some 1 := by decide +kernel
theorem mi_X12_rains : Cond.instanceMethod yX12_rains ∈ g_T := g_inT1 (i := 1789) (by decide +kernel) (by decide +kernel)
theorem me_X12_rains : Cond.selects RX12 yX12_rains yX12_rains ∈ g_T := g_inT1 (i := 1790) (by decide +kernel) (by decide +kernel)
theorem mc_X12_rains : Cond.code yX12_rains cX12_rains 3 (some .int) ∈ g_T := g_inT1 (i := 1791) (by decide +kernel) (by decide +kernel)
theorem mp_X12_rains : (mX12_rains).1.cls ≠ "java/lang/invoke/MethodHandle" ∧ (mX12_rains).1.cls ≠ "java/lang/invoke/VarHandle" ∧ (parseMethodDescriptor (mX12_rains).1.desc).map (fun d => d.parameters.length) = some 0 := by decide +kernel
theorem mi_X12_look : Cond.instanceMethod yX12_look ∈ g_T := g_inT1 (i := 1801) (by decide +kernel) (by decide +kernel)
theorem me_X12_look : Cond.selects RX12 yX12_look yX12_look ∈ g_T := g_inT1 (i := 1802) (by decide +kernel) (by decide +kernel)
theorem mc_X12_look : Cond.code yX12_look cX12_look 8 (some .int) ∈ g_T := g_inT1 (i := 1803) (by decide +kernel) (by decide +kernel)
theorem mp_X12_look : (mX12_look).1.cls ≠ "java/lang/invoke/MethodHandle" ∧ (mX12_look).1.cls ≠ "java/lang/invoke/VarHandle" ∧ (parseMethodDescriptor (mX12_look).1.desc).map (fun d => d.parameters.length) = some 0 := by decide +kernel
theorem mi_X12_chance : Cond.instanceMethod yX12_chance ∈ g_T := g_inT1 (i := 1806) (by decide +kernel) (by decide +kernel)
theorem me_X12_chance : Cond.selects RX12 yX12_chance yX12_chance ∈ g_T := g_inT1 (i := 1807) (by decide +kernel) (by decide +kernel)
theorem mc_X12_chance : Cond.code yX12_chance cX12_chance 14 (some .int) ∈ g_T := g_inT1 (i := 1808) (by decide +kernel) (by decide +kernel)
theorem mp_X12_chance : (mX12_chance).1.cls ≠ "java/lang/invoke/MethodHandle" ∧ (mX12_chance).1.cls ≠ "java/lang/invoke/VarHandle" ∧ (parseMethodDescriptor (mX12_chance).1.desc).map (fun d => d.parameters.length) = some 3 := by decide +kernel
theorem ms_X12_getsBy : Cond.static yX12_getsBy ∈ g_T := g_inT1 (i := 1816) (by decide +kernel) (by decide +kernel)
theorem mc_X12_getsBy : Cond.code yX12_getsBy cX12_getsBy 5 (some .int) ∈ g_T := g_inT1 (i := 1817) (by decide +kernel) (by decide +kernel)
theorem mp_X12_getsBy : (mX12_getsBy).1.cls ≠ "java/lang/invoke/MethodHandle" ∧ (mX12_getsBy).1.cls ≠ "java/lang/invoke/VarHandle" ∧ (parseMethodDescriptor (mX12_getsBy).1.desc).map (fun d => d.parameters.length) = some 5 := by decide +kernel
theorem mi_X12_rests : Cond.instanceMethod yX12_rests ∈ g_T := g_inT1 (i := 1812) (by decide +kernel) (by decide +kernel)
theorem me_X12_rests : Cond.selects RX12 yX12_rests yX12_rests ∈ g_T := g_inT1 (i := 1813) (by decide +kernel) (by decide +kernel)
theorem mc_X12_rests : Cond.code yX12_rests cX12_rests 9 (some .int) ∈ g_T := g_inT1 (i := 1814) (by decide +kernel) (by decide +kernel)
theorem mp_X12_rests : (mX12_rests).1.cls ≠ "java/lang/invoke/MethodHandle" ∧ (mX12_rests).1.cls ≠ "java/lang/invoke/VarHandle" ∧ (parseMethodDescriptor (mX12_rests).1.desc).map (fun d => d.parameters.length) = some 4 := by decide +kernel
theorem mi_X12_draws : Cond.instanceMethod yX12_draws ∈ g_T := g_inT1 (i := 1828) (by decide +kernel) (by decide +kernel)
theorem me_X12_draws : Cond.selects RX12 yX12_draws yX12_draws ∈ g_T := g_inT0 (i := 94) (by decide +kernel) (by decide +kernel)
theorem mc_X12_draws : Cond.code yX12_draws cX12_draws 2 (some .int) ∈ g_T := g_inT1 (i := 1829) (by decide +kernel) (by decide +kernel)
theorem mp_X12_draws : (mX12_draws).1.cls ≠ "java/lang/invoke/MethodHandle" ∧ (mX12_draws).1.cls ≠ "java/lang/invoke/VarHandle" ∧ (parseMethodDescriptor (mX12_draws).1.desc).map (fun d => d.parameters.length) = some 1 := by decide +kernel
theorem mi_X12_livesMinute : Cond.instanceMethod yX12_livesMinute ∈ g_T := g_inT1 (i := 1824) (by decide +kernel) (by decide +kernel)
theorem me_X12_livesMinute : Cond.selects RX12 yX12_livesMinute yX12_livesMinute ∈ g_T := g_inT0 (i := 93) (by decide +kernel) (by decide +kernel)
theorem mc_X12_livesMinute : Cond.code yX12_livesMinute cX12_livesMinute 3 (some .int) ∈ g_T := g_inT1 (i := 1825) (by decide +kernel) (by decide +kernel)
theorem mp_X12_livesMinute : (mX12_livesMinute).1.cls ≠ "java/lang/invoke/MethodHandle" ∧ (mX12_livesMinute).1.cls ≠ "java/lang/invoke/VarHandle" ∧ (parseMethodDescriptor (mX12_livesMinute).1.desc).map (fun d => d.parameters.length) = some 0 := by decide +kernel
theorem mi_X12_days : Cond.instanceMethod yX12_days ∈ g_T := g_inT1 (i := 1819) (by decide +kernel) (by decide +kernel)
theorem me_X12_days : Cond.selects RX12 yX12_days yX12_days ∈ g_T := g_inT1 (i := 1820) (by decide +kernel) (by decide +kernel)
theorem mc_X12_days : Cond.code yX12_days cX12_days 8 (some .int) ∈ g_T := g_inT1 (i := 1821) (by decide +kernel) (by decide +kernel)
theorem mp_X12_days : (mX12_days).1.cls ≠ "java/lang/invoke/MethodHandle" ∧ (mX12_days).1.cls ≠ "java/lang/invoke/VarHandle" ∧ (parseMethodDescriptor (mX12_days).1.desc).map (fun d => d.parameters.length) = some 3 := by decide +kernel
theorem mi_X12_mark : Cond.instanceMethod yX12_mark ∈ g_T := g_inT1 (i := 1835) (by decide +kernel) (by decide +kernel)
theorem me_X12_mark : Cond.selects RX12 yX12_mark yX12_mark ∈ g_T := g_inT1 (i := 1836) (by decide +kernel) (by decide +kernel)
theorem mc_X12_mark : Cond.code yX12_mark cX12_mark 5 (some .boolean) ∈ g_T := g_inT1 (i := 1837) (by decide +kernel) (by decide +kernel)
theorem mp_X12_mark : (mX12_mark).1.cls ≠ "java/lang/invoke/MethodHandle" ∧ (mX12_mark).1.cls ≠ "java/lang/invoke/VarHandle" ∧ (parseMethodDescriptor (mX12_mark).1.desc).map (fun d => d.parameters.length) = some 2 := by decide +kernel
theorem mi_X12_count : Cond.instanceMethod yX12_count ∈ g_T := g_inT1 (i := 1843) (by decide +kernel) (by decide +kernel)
theorem me_X12_count : Cond.selects RX12 yX12_count yX12_count ∈ g_T := g_inT1 (i := 1844) (by decide +kernel) (by decide +kernel)
theorem mc_X12_count : Cond.code yX12_count cX12_count 2 (some .int) ∈ g_T := g_inT1 (i := 1845) (by decide +kernel) (by decide +kernel)
theorem mp_X12_count : (mX12_count).1.cls ≠ "java/lang/invoke/MethodHandle" ∧ (mX12_count).1.cls ≠ "java/lang/invoke/VarHandle" ∧ (parseMethodDescriptor (mX12_count).1.desc).map (fun d => d.parameters.length) = some 1 := by decide +kernel
theorem ms_J11_isValidCodePoint_9a6ad : Cond.static yJ11_isValidCodePoint_9a6ad ∈ g_T := g_inT1 (i := 516) (by decide +kernel) (by decide +kernel)
theorem mc_J11_isValidCodePoint_9a6ad : Cond.code yJ11_isValidCodePoint_9a6ad cJ11_isValidCodePoint_9a6ad 2 (some .boolean) ∈ g_T := g_inT1 (i := 517) (by decide +kernel) (by decide +kernel)
theorem mp_J11_isValidCodePoint_9a6ad : (mJ11_isValidCodePoint_9a6ad).1.cls ≠ "java/lang/invoke/MethodHandle" ∧ (mJ11_isValidCodePoint_9a6ad).1.cls ≠ "java/lang/invoke/VarHandle" ∧ (parseMethodDescriptor (mJ11_isValidCodePoint_9a6ad).1.desc).map (fun d => d.parameters.length) = some 1 := by decide +kernel
theorem ms_J11_highSurrogate_5068e : Cond.static yJ11_highSurrogate_5068e ∈ g_T := g_inT1 (i := 519) (by decide +kernel) (by decide +kernel)
theorem mc_J11_highSurrogate_5068e : Cond.code yJ11_highSurrogate_5068e cJ11_highSurrogate_5068e 1 (some .char) ∈ g_T := g_inT1 (i := 520) (by decide +kernel) (by decide +kernel)
theorem mp_J11_highSurrogate_5068e : (mJ11_highSurrogate_5068e).1.cls ≠ "java/lang/invoke/MethodHandle" ∧ (mJ11_highSurrogate_5068e).1.cls ≠ "java/lang/invoke/VarHandle" ∧ (parseMethodDescriptor (mJ11_highSurrogate_5068e).1.desc).map (fun d => d.parameters.length) = some 1 := by decide +kernel
theorem ms_J11_lowSurrogate_5068e : Cond.static yJ11_lowSurrogate_5068e ∈ g_T := g_inT1 (i := 523) (by decide +kernel) (by decide +kernel)
theorem mc_J11_lowSurrogate_5068e : Cond.code yJ11_lowSurrogate_5068e cJ11_lowSurrogate_5068e 1 (some .char) ∈ g_T := g_inT1 (i := 524) (by decide +kernel) (by decide +kernel)
theorem mp_J11_lowSurrogate_5068e : (mJ11_lowSurrogate_5068e).1.cls ≠ "java/lang/invoke/MethodHandle" ∧ (mJ11_lowSurrogate_5068e).1.cls ≠ "java/lang/invoke/VarHandle" ∧ (parseMethodDescriptor (mJ11_lowSurrogate_5068e).1.desc).map (fun d => d.parameters.length) = some 1 := by decide +kernel
theorem ms_J6_bitCount_0f7a4 : Cond.static yJ6_bitCount_0f7a4 ∈ g_T := g_inT1 (i := 961) (by decide +kernel) (by decide +kernel)
theorem mc_J6_bitCount_0f7a4 : Cond.code yJ6_bitCount_0f7a4 cJ6_bitCount_0f7a4 1 (some .int) ∈ g_T := g_inT1 (i := 962) (by decide +kernel) (by decide +kernel)
theorem mp_J6_bitCount_0f7a4 : (mJ6_bitCount_0f7a4).1.cls ≠ "java/lang/invoke/MethodHandle" ∧ (mJ6_bitCount_0f7a4).1.cls ≠ "java/lang/invoke/VarHandle" ∧ (parseMethodDescriptor (mJ6_bitCount_0f7a4).1.desc).map (fun d => d.parameters.length) = some 1 := by decide +kernel
theorem ms_J9_max_7cf53 : Cond.static yJ9_max_7cf53 ∈ g_T := g_inT1 (i := 469) (by decide +kernel) (by decide +kernel)
theorem mc_J9_max_7cf53 : Cond.code yJ9_max_7cf53 cJ9_max_7cf53 2 (some .int) ∈ g_T := g_inT1 (i := 470) (by decide +kernel) (by decide +kernel)
theorem mp_J9_max_7cf53 : (mJ9_max_7cf53).1.cls ≠ "java/lang/invoke/MethodHandle" ∧ (mJ9_max_7cf53).1.cls ≠ "java/lang/invoke/VarHandle" ∧ (parseMethodDescriptor (mJ9_max_7cf53).1.desc).map (fun d => d.parameters.length) = some 2 := by decide +kernel
theorem ms_J9_min_7cf53 : Cond.static yJ9_min_7cf53 ∈ g_T := g_inT1 (i := 472) (by decide +kernel) (by decide +kernel)
theorem mc_J9_min_7cf53 : Cond.code yJ9_min_7cf53 cJ9_min_7cf53 2 (some .int) ∈ g_T := g_inT1 (i := 473) (by decide +kernel) (by decide +kernel)
theorem mp_J9_min_7cf53 : (mJ9_min_7cf53).1.cls ≠ "java/lang/invoke/MethodHandle" ∧ (mJ9_min_7cf53).1.cls ≠ "java/lang/invoke/VarHandle" ∧ (parseMethodDescriptor (mJ9_min_7cf53).1.desc).map (fun d => d.parameters.length) = some 2 := by decide +kernel
theorem mi_J0_length_8abf5 : Cond.instanceMethod yJ0_length_8abf5 ∈ g_T := g_inT1 (i := 455) (by decide +kernel) (by decide +kernel)
theorem me_J0_length_8abf5 : Cond.selects RJ0 yJ0_length_8abf5 yJ0_length_8abf5 ∈ g_T := g_inT1 (i := 456) (by decide +kernel) (by decide +kernel)
theorem mc_J0_length_8abf5 : Cond.code yJ0_length_8abf5 cJ0_length_8abf5 1 (some .int) ∈ g_T := g_inT1 (i := 457) (by decide +kernel) (by decide +kernel)
theorem mp_J0_length_8abf5 : (mJ0_length_8abf5).1.cls ≠ "java/lang/invoke/MethodHandle" ∧ (mJ0_length_8abf5).1.cls ≠ "java/lang/invoke/VarHandle" ∧ (parseMethodDescriptor (mJ0_length_8abf5).1.desc).map (fun d => d.parameters.length) = some 0 := by decide +kernel
theorem mi_J0_charAt_5068e : Cond.instanceMethod yJ0_charAt_5068e ∈ g_T := g_inT1 (i := 541) (by decide +kernel) (by decide +kernel)
theorem me_J0_charAt_5068e : Cond.selects RJ0 yJ0_charAt_5068e yJ0_charAt_5068e ∈ g_T := g_inT1 (i := 542) (by decide +kernel) (by decide +kernel)
theorem mc_J0_charAt_5068e : Cond.code yJ0_charAt_5068e cJ0_charAt_5068e 2 (some .char) ∈ g_T := g_inT1 (i := 543) (by decide +kernel) (by decide +kernel)
theorem mp_J0_charAt_5068e : (mJ0_charAt_5068e).1.cls ≠ "java/lang/invoke/MethodHandle" ∧ (mJ0_charAt_5068e).1.cls ≠ "java/lang/invoke/VarHandle" ∧ (parseMethodDescriptor (mJ0_charAt_5068e).1.desc).map (fun d => d.parameters.length) = some 1 := by decide +kernel
theorem mi_J0_indexOf_0f7a4 : Cond.instanceMethod yJ0_indexOf_0f7a4 ∈ g_T := g_inT1 (i := 441) (by decide +kernel) (by decide +kernel)
theorem me_J0_indexOf_0f7a4 : Cond.selects RJ0 yJ0_indexOf_0f7a4 yJ0_indexOf_0f7a4 ∈ g_T := g_inT1 (i := 442) (by decide +kernel) (by decide +kernel)
theorem mc_J0_indexOf_0f7a4 : Cond.code yJ0_indexOf_0f7a4 cJ0_indexOf_0f7a4 2 (some .int) ∈ g_T := g_inT1 (i := 443) (by decide +kernel) (by decide +kernel)
theorem mp_J0_indexOf_0f7a4 : (mJ0_indexOf_0f7a4).1.cls ≠ "java/lang/invoke/MethodHandle" ∧ (mJ0_indexOf_0f7a4).1.cls ≠ "java/lang/invoke/VarHandle" ∧ (parseMethodDescriptor (mJ0_indexOf_0f7a4).1.desc).map (fun d => d.parameters.length) = some 1 := by decide +kernel
theorem mi_J0_indexOf_7cf53 : Cond.instanceMethod yJ0_indexOf_7cf53 ∈ g_T := g_inT1 (i := 445) (by decide +kernel) (by decide +kernel)
theorem me_J0_indexOf_7cf53 : Cond.selects RJ0 yJ0_indexOf_7cf53 yJ0_indexOf_7cf53 ∈ g_T := g_inT1 (i := 446) (by decide +kernel) (by decide +kernel)
theorem mc_J0_indexOf_7cf53 : Cond.code yJ0_indexOf_7cf53 cJ0_indexOf_7cf53 3 (some .int) ∈ g_T := g_inT1 (i := 447) (by decide +kernel) (by decide +kernel)
theorem mp_J0_indexOf_7cf53 : (mJ0_indexOf_7cf53).1.cls ≠ "java/lang/invoke/MethodHandle" ∧ (mJ0_indexOf_7cf53).1.cls ≠ "java/lang/invoke/VarHandle" ∧ (parseMethodDescriptor (mJ0_indexOf_7cf53).1.desc).map (fun d => d.parameters.length) = some 2 := by decide +kernel
theorem mi_J0_coder_7d493 : Cond.instanceMethod yJ0_coder_7d493 ∈ g_T := g_inT1 (i := 459) (by decide +kernel) (by decide +kernel)
theorem me_J0_coder_7d493 : Cond.selects RJ0 yJ0_coder_7d493 yJ0_coder_7d493 ∈ g_T := g_inT1 (i := 460) (by decide +kernel) (by decide +kernel)
theorem mc_J0_coder_7d493 : Cond.code yJ0_coder_7d493 cJ0_coder_7d493 1 (some .byte) ∈ g_T := g_inT1 (i := 461) (by decide +kernel) (by decide +kernel)
theorem mp_J0_coder_7d493 : (mJ0_coder_7d493).1.cls ≠ "java/lang/invoke/MethodHandle" ∧ (mJ0_coder_7d493).1.cls ≠ "java/lang/invoke/VarHandle" ∧ (parseMethodDescriptor (mJ0_coder_7d493).1.desc).map (fun d => d.parameters.length) = some 0 := by decide +kernel
theorem mi_J0_isLatin1_aae02 : Cond.instanceMethod yJ0_isLatin1_aae02 ∈ g_T := g_inT1 (i := 449) (by decide +kernel) (by decide +kernel)
theorem me_J0_isLatin1_aae02 : Cond.selects RJ0 yJ0_isLatin1_aae02 yJ0_isLatin1_aae02 ∈ g_T := g_inT1 (i := 450) (by decide +kernel) (by decide +kernel)
theorem mc_J0_isLatin1_aae02 : Cond.code yJ0_isLatin1_aae02 cJ0_isLatin1_aae02 1 (some .boolean) ∈ g_T := g_inT1 (i := 451) (by decide +kernel) (by decide +kernel)
theorem mp_J0_isLatin1_aae02 : (mJ0_isLatin1_aae02).1.cls ≠ "java/lang/invoke/MethodHandle" ∧ (mJ0_isLatin1_aae02).1.cls ≠ "java/lang/invoke/VarHandle" ∧ (parseMethodDescriptor (mJ0_isLatin1_aae02).1.desc).map (fun d => d.parameters.length) = some 0 := by decide +kernel
theorem ms_J0_checkIndex_df160 : Cond.static yJ0_checkIndex_df160 ∈ g_T := g_inT1 (i := 548) (by decide +kernel) (by decide +kernel)
theorem mc_J0_checkIndex_df160 : Cond.code yJ0_checkIndex_df160 cJ0_checkIndex_df160 2 none ∈ g_T := g_inT1 (i := 549) (by decide +kernel) (by decide +kernel)
theorem mp_J0_checkIndex_df160 : (mJ0_checkIndex_df160).1.cls ≠ "java/lang/invoke/MethodHandle" ∧ (mJ0_checkIndex_df160).1.cls ≠ "java/lang/invoke/VarHandle" ∧ (parseMethodDescriptor (mJ0_checkIndex_df160).1.desc).map (fun d => d.parameters.length) = some 2 := by decide +kernel
theorem ms_J0_checkBoundsBeginEnd_23922 : Cond.static yJ0_checkBoundsBeginEnd_23922 ∈ g_T := g_inT1 (i := 493) (by decide +kernel) (by decide +kernel)
theorem mc_J0_checkBoundsBeginEnd_23922 : Cond.code yJ0_checkBoundsBeginEnd_23922 cJ0_checkBoundsBeginEnd_23922 3 none ∈ g_T := g_inT1 (i := 494) (by decide +kernel) (by decide +kernel)
theorem mp_J0_checkBoundsBeginEnd_23922 : (mJ0_checkBoundsBeginEnd_23922).1.cls ≠ "java/lang/invoke/MethodHandle" ∧ (mJ0_checkBoundsBeginEnd_23922).1.cls ≠ "java/lang/invoke/VarHandle" ∧ (parseMethodDescriptor (mJ0_checkBoundsBeginEnd_23922).1.desc).map (fun d => d.parameters.length) = some 3 := by decide +kernel
theorem ms_J1_charAt_3b067 : Cond.static yJ1_charAt_3b067 ∈ g_T := g_inT1 (i := 545) (by decide +kernel) (by decide +kernel)
theorem mc_J1_charAt_3b067 : Cond.code yJ1_charAt_3b067 cJ1_charAt_3b067 2 (some .char) ∈ g_T := g_inT1 (i := 546) (by decide +kernel) (by decide +kernel)
theorem mp_J1_charAt_3b067 : (mJ1_charAt_3b067).1.cls ≠ "java/lang/invoke/MethodHandle" ∧ (mJ1_charAt_3b067).1.cls ≠ "java/lang/invoke/VarHandle" ∧ (parseMethodDescriptor (mJ1_charAt_3b067).1.desc).map (fun d => d.parameters.length) = some 2 := by decide +kernel
theorem ms_J1_canEncode_9a6ad : Cond.static yJ1_canEncode_9a6ad ∈ g_T := g_inT1 (i := 466) (by decide +kernel) (by decide +kernel)
theorem mc_J1_canEncode_9a6ad : Cond.code yJ1_canEncode_9a6ad cJ1_canEncode_9a6ad 1 (some .boolean) ∈ g_T := g_inT1 (i := 467) (by decide +kernel) (by decide +kernel)
theorem mp_J1_canEncode_9a6ad : (mJ1_canEncode_9a6ad).1.cls ≠ "java/lang/invoke/MethodHandle" ∧ (mJ1_canEncode_9a6ad).1.cls ≠ "java/lang/invoke/VarHandle" ∧ (parseMethodDescriptor (mJ1_canEncode_9a6ad).1.desc).map (fun d => d.parameters.length) = some 1 := by decide +kernel
theorem ms_J1_indexOf_4cfef : Cond.static yJ1_indexOf_4cfef ∈ g_T := g_inT1 (i := 463) (by decide +kernel) (by decide +kernel)
theorem mc_J1_indexOf_4cfef : Cond.code yJ1_indexOf_4cfef cJ1_indexOf_4cfef 4 (some .int) ∈ g_T := g_inT1 (i := 464) (by decide +kernel) (by decide +kernel)
theorem mp_J1_indexOf_4cfef : (mJ1_indexOf_4cfef).1.cls ≠ "java/lang/invoke/MethodHandle" ∧ (mJ1_indexOf_4cfef).1.cls ≠ "java/lang/invoke/VarHandle" ∧ (parseMethodDescriptor (mJ1_indexOf_4cfef).1.desc).map (fun d => d.parameters.length) = some 4 := by decide +kernel
theorem ms_J1_indexOfChar_4cfef : Cond.static yJ1_indexOfChar_4cfef ∈ g_T := g_inT1 (i := 475) (by decide +kernel) (by decide +kernel)
theorem mc_J1_indexOfChar_4cfef : Cond.code yJ1_indexOfChar_4cfef cJ1_indexOfChar_4cfef 6 (some .int) ∈ g_T := g_inT1 (i := 476) (by decide +kernel) (by decide +kernel)
theorem mp_J1_indexOfChar_4cfef : (mJ1_indexOfChar_4cfef).1.cls ≠ "java/lang/invoke/MethodHandle" ∧ (mJ1_indexOfChar_4cfef).1.cls ≠ "java/lang/invoke/VarHandle" ∧ (parseMethodDescriptor (mJ1_indexOfChar_4cfef).1.desc).map (fun d => d.parameters.length) = some 4 := by decide +kernel
theorem ms_J2_getChar_3b067 : Cond.static yJ2_getChar_3b067 ∈ g_T := g_inT1 (i := 504) (by decide +kernel) (by decide +kernel)
theorem mc_J2_getChar_3b067 : Cond.code yJ2_getChar_3b067 cJ2_getChar_3b067 2 (some .char) ∈ g_T := g_inT1 (i := 505) (by decide +kernel) (by decide +kernel)
theorem mp_J2_getChar_3b067 : (mJ2_getChar_3b067).1.cls ≠ "java/lang/invoke/MethodHandle" ∧ (mJ2_getChar_3b067).1.cls ≠ "java/lang/invoke/VarHandle" ∧ (parseMethodDescriptor (mJ2_getChar_3b067).1.desc).map (fun d => d.parameters.length) = some 2 := by decide +kernel
theorem ms_J2_length_9d52b : Cond.static yJ2_length_9d52b ∈ g_T := g_inT1 (i := 490) (by decide +kernel) (by decide +kernel)
theorem mc_J2_length_9d52b : Cond.code yJ2_length_9d52b cJ2_length_9d52b 1 (some .int) ∈ g_T := g_inT1 (i := 491) (by decide +kernel) (by decide +kernel)
theorem mp_J2_length_9d52b : (mJ2_length_9d52b).1.cls ≠ "java/lang/invoke/MethodHandle" ∧ (mJ2_length_9d52b).1.cls ≠ "java/lang/invoke/VarHandle" ∧ (parseMethodDescriptor (mJ2_length_9d52b).1.desc).map (fun d => d.parameters.length) = some 1 := by decide +kernel
theorem ms_J2_indexOf_4cfef : Cond.static yJ2_indexOf_4cfef ∈ g_T := g_inT1 (i := 478) (by decide +kernel) (by decide +kernel)
theorem mc_J2_indexOf_4cfef : Cond.code yJ2_indexOf_4cfef cJ2_indexOf_4cfef 4 (some .int) ∈ g_T := g_inT1 (i := 479) (by decide +kernel) (by decide +kernel)
theorem mp_J2_indexOf_4cfef : (mJ2_indexOf_4cfef).1.cls ≠ "java/lang/invoke/MethodHandle" ∧ (mJ2_indexOf_4cfef).1.cls ≠ "java/lang/invoke/VarHandle" ∧ (parseMethodDescriptor (mJ2_indexOf_4cfef).1.desc).map (fun d => d.parameters.length) = some 4 := by decide +kernel
theorem ms_J2_indexOfChar_4cfef : Cond.static yJ2_indexOfChar_4cfef ∈ g_T := g_inT1 (i := 484) (by decide +kernel) (by decide +kernel)
theorem mc_J2_indexOfChar_4cfef : Cond.code yJ2_indexOfChar_4cfef cJ2_indexOfChar_4cfef 4 (some .int) ∈ g_T := g_inT1 (i := 485) (by decide +kernel) (by decide +kernel)
theorem mp_J2_indexOfChar_4cfef : (mJ2_indexOfChar_4cfef).1.cls ≠ "java/lang/invoke/MethodHandle" ∧ (mJ2_indexOfChar_4cfef).1.cls ≠ "java/lang/invoke/VarHandle" ∧ (parseMethodDescriptor (mJ2_indexOfChar_4cfef).1.desc).map (fun d => d.parameters.length) = some 4 := by decide +kernel
theorem ms_J2_indexOfCharUnsafe_4cfef : Cond.static yJ2_indexOfCharUnsafe_4cfef ∈ g_T := g_inT1 (i := 501) (by decide +kernel) (by decide +kernel)
theorem mc_J2_indexOfCharUnsafe_4cfef : Cond.code yJ2_indexOfCharUnsafe_4cfef cJ2_indexOfCharUnsafe_4cfef 5 (some .int) ∈ g_T := g_inT1 (i := 502) (by decide +kernel) (by decide +kernel)
theorem mp_J2_indexOfCharUnsafe_4cfef : (mJ2_indexOfCharUnsafe_4cfef).1.cls ≠ "java/lang/invoke/MethodHandle" ∧ (mJ2_indexOfCharUnsafe_4cfef).1.cls ≠ "java/lang/invoke/VarHandle" ∧ (parseMethodDescriptor (mJ2_indexOfCharUnsafe_4cfef).1.desc).map (fun d => d.parameters.length) = some 4 := by decide +kernel
theorem ms_J2_indexOfSupplementary_4cfef : Cond.static yJ2_indexOfSupplementary_4cfef ∈ g_T := g_inT1 (i := 513) (by decide +kernel) (by decide +kernel)
theorem mc_J2_indexOfSupplementary_4cfef : Cond.code yJ2_indexOfSupplementary_4cfef cJ2_indexOfSupplementary_4cfef 7 (some .int) ∈ g_T := g_inT1 (i := 514) (by decide +kernel) (by decide +kernel)
theorem mp_J2_indexOfSupplementary_4cfef : (mJ2_indexOfSupplementary_4cfef).1.cls ≠ "java/lang/invoke/MethodHandle" ∧ (mJ2_indexOfSupplementary_4cfef).1.cls ≠ "java/lang/invoke/VarHandle" ∧ (parseMethodDescriptor (mJ2_indexOfSupplementary_4cfef).1.desc).map (fun d => d.parameters.length) = some 4 := by decide +kernel
theorem ms_J2_charAt_3b067 : Cond.static yJ2_charAt_3b067 ∈ g_T := g_inT1 (i := 554) (by decide +kernel) (by decide +kernel)
theorem mc_J2_charAt_3b067 : Cond.code yJ2_charAt_3b067 cJ2_charAt_3b067 2 (some .char) ∈ g_T := g_inT1 (i := 555) (by decide +kernel) (by decide +kernel)
theorem mp_J2_charAt_3b067 : (mJ2_charAt_3b067).1.cls ≠ "java/lang/invoke/MethodHandle" ∧ (mJ2_charAt_3b067).1.cls ≠ "java/lang/invoke/VarHandle" ∧ (parseMethodDescriptor (mJ2_charAt_3b067).1.desc).map (fun d => d.parameters.length) = some 2 := by decide +kernel
theorem ms_J2_checkIndex_2214a : Cond.static yJ2_checkIndex_2214a ∈ g_T := g_inT1 (i := 557) (by decide +kernel) (by decide +kernel)
theorem mc_J2_checkIndex_2214a : Cond.code yJ2_checkIndex_2214a cJ2_checkIndex_2214a 2 none ∈ g_T := g_inT1 (i := 558) (by decide +kernel) (by decide +kernel)
theorem mp_J2_checkIndex_2214a : (mJ2_checkIndex_2214a).1.cls ≠ "java/lang/invoke/MethodHandle" ∧ (mJ2_checkIndex_2214a).1.cls ≠ "java/lang/invoke/VarHandle" ∧ (parseMethodDescriptor (mJ2_checkIndex_2214a).1.desc).map (fun d => d.parameters.length) = some 2 := by decide +kernel
theorem ms_J2_checkBoundsBeginEnd_d044e : Cond.static yJ2_checkBoundsBeginEnd_d044e ∈ g_T := g_inT1 (i := 487) (by decide +kernel) (by decide +kernel)
theorem mc_J2_checkBoundsBeginEnd_d044e : Cond.code yJ2_checkBoundsBeginEnd_d044e cJ2_checkBoundsBeginEnd_d044e 3 none ∈ g_T := g_inT1 (i := 488) (by decide +kernel) (by decide +kernel)
theorem mp_J2_checkBoundsBeginEnd_d044e : (mJ2_checkBoundsBeginEnd_d044e).1.cls ≠ "java/lang/invoke/MethodHandle" ∧ (mJ2_checkBoundsBeginEnd_d044e).1.cls ≠ "java/lang/invoke/VarHandle" ∧ (parseMethodDescriptor (mJ2_checkBoundsBeginEnd_d044e).1.desc).map (fun d => d.parameters.length) = some 3 := by decide +kernel
theorem ms_J3_checkIndex_8e157 : Cond.static yJ3_checkIndex_8e157 ∈ g_T := g_inT1 (i := 551) (by decide +kernel) (by decide +kernel)
theorem mc_J3_checkIndex_8e157 : Cond.code yJ3_checkIndex_8e157 cJ3_checkIndex_8e157 3 (some .int) ∈ g_T := g_inT1 (i := 552) (by decide +kernel) (by decide +kernel)
theorem mp_J3_checkIndex_8e157 : (mJ3_checkIndex_8e157).1.cls ≠ "java/lang/invoke/MethodHandle" ∧ (mJ3_checkIndex_8e157).1.cls ≠ "java/lang/invoke/VarHandle" ∧ (parseMethodDescriptor (mJ3_checkIndex_8e157).1.desc).map (fun d => d.parameters.length) = some 3 := by decide +kernel
theorem ms_J3_checkFromToIndex_8c36e : Cond.static yJ3_checkFromToIndex_8c36e ∈ g_T := g_inT1 (i := 498) (by decide +kernel) (by decide +kernel)
theorem mc_J3_checkFromToIndex_8c36e : Cond.code yJ3_checkFromToIndex_8c36e cJ3_checkFromToIndex_8c36e 4 (some .int) ∈ g_T := g_inT1 (i := 499) (by decide +kernel) (by decide +kernel)
theorem mp_J3_checkFromToIndex_8c36e : (mJ3_checkFromToIndex_8c36e).1.cls ≠ "java/lang/invoke/MethodHandle" ∧ (mJ3_checkFromToIndex_8c36e).1.cls ≠ "java/lang/invoke/VarHandle" ∧ (parseMethodDescriptor (mJ3_checkFromToIndex_8c36e).1.desc).map (fun d => d.parameters.length) = some 4 := by decide +kernel
theorem ini_X11 : Cond.initialized RX11 ∈ g_T := g_inT1 (i := 1) (by decide +kernel) (by decide +kernel)
theorem ini_X8 : Cond.initialized RX8 ∈ g_T := g_inT1 (i := 2) (by decide +kernel) (by decide +kernel)
theorem ini_X2 : Cond.initialized RX2 ∈ g_T := g_inT1 (i := 3) (by decide +kernel) (by decide +kernel)
theorem ini_X4 : Cond.initialized RX4 ∈ g_T := g_inT1 (i := 4) (by decide +kernel) (by decide +kernel)
theorem ini_X5 : Cond.initialized RX5 ∈ g_T := g_inT1 (i := 5) (by decide +kernel) (by decide +kernel)
theorem ini_X1 : Cond.initialized RX1 ∈ g_T := g_inT1 (i := 6) (by decide +kernel) (by decide +kernel)
theorem ini_X3 : Cond.initialized RX3 ∈ g_T := g_inT1 (i := 7) (by decide +kernel) (by decide +kernel)
theorem ini_X0 : Cond.initialized RX0 ∈ g_T := g_inT1 (i := 8) (by decide +kernel) (by decide +kernel)
theorem ini_X10 : Cond.initialized RX10 ∈ g_T := g_inT1 (i := 9) (by decide +kernel) (by decide +kernel)
theorem ini_X7 : Cond.initialized RX7 ∈ g_T := g_inT1 (i := 10) (by decide +kernel) (by decide +kernel)
theorem ini_X9 : Cond.initialized RX9 ∈ g_T := g_inT1 (i := 11) (by decide +kernel) (by decide +kernel)
theorem ini_X6 : Cond.initialized RX6 ∈ g_T := g_inT1 (i := 12) (by decide +kernel) (by decide +kernel)
theorem ini_X12 : Cond.initialized RX12 ∈ g_T := g_inT1 (i := 13) (by decide +kernel) (by decide +kernel)
theorem ini_J0 : Cond.initialized RJ0 ∈ g_T := g_inT1 (i := 14) (by decide +kernel) (by decide +kernel)
theorem ini_J1 : Cond.initialized RJ1 ∈ g_T := g_inT1 (i := 15) (by decide +kernel) (by decide +kernel)
theorem ini_J9 : Cond.initialized RJ9 ∈ g_T := g_inT1 (i := 16) (by decide +kernel) (by decide +kernel)
theorem ini_J2 : Cond.initialized RJ2 ∈ g_T := g_inT1 (i := 17) (by decide +kernel) (by decide +kernel)
theorem ini_J3 : Cond.initialized RJ3 ∈ g_T := g_inT1 (i := 18) (by decide +kernel) (by decide +kernel)
theorem ini_J11 : Cond.initialized RJ11 ∈ g_T := g_inT1 (i := 19) (by decide +kernel) (by decide +kernel)
theorem ini_J10 : Cond.initialized RJ10 ∈ g_T := g_inT1 (i := 20) (by decide +kernel) (by decide +kernel)
theorem ini_J6 : Cond.initialized RJ6 ∈ g_T := g_inT1 (i := 21) (by decide +kernel) (by decide +kernel)
theorem ini_Math : Cond.initialized "java/lang/Math" ∈ g_T := g_inT1 (i := 16) (by decide +kernel) (by decide +kernel)
theorem ini_System : Cond.initialized "java/lang/System" ∈ g_T := g_inT1 (i := 20) (by decide +kernel) (by decide +kernel)
theorem st_min : Cond.static Lib.Math.min.name ∈ g_T := g_inT1 (i := 472) (by decide +kernel) (by decide +kernel)
theorem co_min : Cond.code Lib.Math.min.name Lib.Math.min.code 2 (some .int) ∈ g_T := g_inT1 (i := 473) (by decide +kernel) (by decide +kernel)
theorem st_max : Cond.static Lib.Math.max.name ∈ g_T := g_inT1 (i := 469) (by decide +kernel) (by decide +kernel)
theorem co_max : Cond.code Lib.Math.max.name Lib.Math.max.code 2 (some .int) ∈ g_T := g_inT1 (i := 470) (by decide +kernel) (by decide +kernel)
