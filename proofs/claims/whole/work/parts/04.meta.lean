section
def at2 {α : Type} (t : List (List α)) (d : α) (i : Nat) : α := match t[i / 16]? with
  | none => d
  | some l => l.getD (i % 16) d
def ymL : List (List MethodName) := [
  [yX0_init, yX5_init, yX1_init, yX8_init, yX3_init, yX10_init, yX7_init, yX2_init, yX9_init, yX6_init, yX4_init, yX11_init, yX12_init, yX11_forget, yX11_state, yX12_forgets],
  [yX12_state, yX11_isWithin, yX5_begin, yX11_tool, yX12_isIn, yX12_tools, yX12_tool, yX11_man, yX12_man, yX11_isTool, yX11_isMan, yX11_canSet, yX11_change, yX11_set, yX12_mostOf, yX12_isTool],
  [yX12_isMan, yX12_set, yJ9_min_7cf53, yX11_copyRow, yX5_copy, yX11_keep, yJ9_max_7cf53, yX11_held, yX5_cheer, yX5_sharpen, yX11_mend, yX12_keeps, yX12_ofTool, yX12_lesser, yX12_greater, yX12_mend],
  [yX11_isIn, yX11_with, yX11_strike, yX12_strike, yX11_may, yX12_mayIts, yX12_may, yX9_begin, yX8_isOn, yX1_isDone, yX1_isOpen, yX5_weekday, yX5_bell, yX2_learn, yX2_reckon, yX2_firstLine],
  [yX2_isWilling, yX2_isServing, yX9_refuse, yX2_whatEdgesTell, yX2_workAnHour, yX9_write, yX9_goBy, yX5_draw, yX9_rust, yX5_nextHour, yX9_pass, yX11_hours, yX12_ofWork, yX12_isDone, yX12_doneSet, yX12_isOpen],
  [yX12_ofMan, yX12_lays, yX12_both, yX12_comesTo, yX12_holds, yX12_will, yX12_wouldServe, yX12_doesServe, yX12_held, yX12_edgesSay, yX12_wearOf, yX12_moodOf, yX12_wears, yX12_notes, yX12_works, yX12_draw],
  [yX12_anHour, yX12_hours, yX7_append, yX11_feed, yX12_feed, yX11_end, yX12_end, yX7_afterBlanks, yX7_isLetter, yX7_isDigit, yX7_afterToken, yJ0_coder_7d493, yJ0_length_8abf5, yJ0_isLatin1_aae02, yJ3_checkIndex_8e157, yJ0_checkIndex_df160],
  [yJ1_charAt_3b067, yJ0_charAt_5068e, yX7_isSpelled, yX7_wordOf, yJ1_canEncode_9a6ad, yJ1_indexOfChar_4cfef, yJ1_indexOf_4cfef, yJ0_indexOf_7cf53, yJ0_indexOf_0f7a4, yX7_tokenOf, yX7_valueOf, yX7_begin, yX7_fail, yX7_advance, yX3_put, yX7_passUnit],
  [yX7_passNumber, yX7_passSum, yX7_pass, yX7_passTest, yX7_passEither, yX7_passLine, yX3_copy, yX7_tellLaw, yX7_passWork, yX7_readHull, yX1_copy, yX5_beginWorks, yX11_tellHull, yX7_passDue, yX7_passDuty, yX7_readRota],
  [yX8_copy, yX11_tellRota, yX11_text, yX12_see, yX12_isLetter, yX12_is, yX12_asked, yX12_lawWord, yX12_hullWord, yX12_rotaWord, yX12_word, yX12_isDigit, yX12_next0, yX12_bad, yX12_lay, yX12_unit],
  [yX12_product, yX12_sumUp, yX12_opens, yX12_need, yX12_oneTest, yX12_every, yX12_any, yX12_aLine, yX12_readsLaw, yX12_number, yX12_told, yX12_aWork, yX12_aRota, yX12_readsRows, yX12_putsLaw, yX12_putsHull],
  [yX12_putsRota, yX12_text, yX11_fault, yX12_fault, yX0_allTools, yX0_agrees, yJ6_bitCount_0f7a4, yX0_ordersWith, yX0_turns, yX2_toolsServing, yX4_nextToAsk, yX4_sharpest, yX4_rather, yX4_ask, yX4_match, yX11_of],
  [yX12_votesOf, yX12_isAgreed, yX12_isSwing, yX12_swings, yX12_count, yX12_orders1, yX12_power, yX12_bestTool, yX12_likeOf, yX12_isRather, yX12_asksFor, yX12_laysMates, yX12_mateOf, yX12_of, yX11_at, yX12_toolOf],
  [yX12_at, yX0_toolsOf, yX2_countHands, yX2_toolsInHands, yJ6_numberOfTrailingZeros_0f7a4, yX2_firstHand, yX2_firstServed, yX11_work, yX12_isWork, yX12_firstHands, yX12_handsOf, yX12_work, yX11_serves, yX12_serves, yX11_tells, yX12_tells],
  [yX11_book, yX12_book, yX1_kindsLeft, yX2_kindsInHands, yX6_makeRoom, yX1_worksOf, yX6_couplesAtOnce, yX6_prepare, yX6_unfinished, yX6_longestAhead, yX6_hoursOf, yX6_atLeast, yX6_openOf, yX6_mostAtOnce, yX6_canGoOn, yX6_spread],
  [yX6_fewestByFirst, yX6_fewest, yX6_hoursFor, yX6_firstSet, yX11_soonest, yX12_allWorks, yX12_takesOne, yX12_canTogether, yX12_laysTogether, yX12_started, yX12_ended, yX12_openIn, yX12_isFull, yX12_step, yX12_farFrom, yX12_firstSet],
  [yX12_soonest, yX11_isLess, yX11_fewestToStop, yJ6_lowestOneBit_0f7a4, yX11_fewestToKeep, yX11_few, yX12_toolsFor, yX12_stopSet, yX12_haveAll, yX12_keepSet, yX12_few, yX2_isWillingForAny, yX2_leastBranchWilling, yX11_changes, yX12_isWanted, yX12_branchFor],
  [yX12_changes, yX11_vote, yX12_vote, yX11_lasts, yX12_laysAside, yX12_putsBack, yX12_lasts, yX11_think, yX11_runs, yX12_runs, yX11_idle, yX12_idle, yX11_dull, yX12_dull, yX4_mostLoved, yX11_loved],
  [yX12_loversOf, yX12_loved, yX11_ready, yX12_ready, yX11_seen, yX12_seen, yX1_aheadOf, yX1_waysTo, yX1_countOrders, yX1_leastAfter, yX1_inFirstOrder, yX11_orders, yX12_canCome, yX12_laysOrders, yX12_nextOf, yX12_orders],
  [yX11_undo, yX12_undo, yX0_copy, yX10_copy, yX11_image, yX12_image, yX11_look, yX12_look, yL_law]]
def bmL : List (List ByteArray) := [
  [cX0_init, cX5_init, cX1_init, cX8_init, cX3_init, cX10_init, cX7_init, cX2_init, cX9_init, cX6_init, cX4_init, cX11_init, cX12_init, cX11_forget, cX11_state, cX12_forgets],
  [cX12_state, cX11_isWithin, cX5_begin, cX11_tool, cX12_isIn, cX12_tools, cX12_tool, cX11_man, cX12_man, cX11_isTool, cX11_isMan, cX11_canSet, cX11_change, cX11_set, cX12_mostOf, cX12_isTool],
  [cX12_isMan, cX12_set, cJ9_min_7cf53, cX11_copyRow, cX5_copy, cX11_keep, cJ9_max_7cf53, cX11_held, cX5_cheer, cX5_sharpen, cX11_mend, cX12_keeps, cX12_ofTool, cX12_lesser, cX12_greater, cX12_mend],
  [cX11_isIn, cX11_with, cX11_strike, cX12_strike, cX11_may, cX12_mayIts, cX12_may, cX9_begin, cX8_isOn, cX1_isDone, cX1_isOpen, cX5_weekday, cX5_bell, cX2_learn, cX2_reckon, cX2_firstLine],
  [cX2_isWilling, cX2_isServing, cX9_refuse, cX2_whatEdgesTell, cX2_workAnHour, cX9_write, cX9_goBy, cX5_draw, cX9_rust, cX5_nextHour, cX9_pass, cX11_hours, cX12_ofWork, cX12_isDone, cX12_doneSet, cX12_isOpen],
  [cX12_ofMan, cX12_lays, cX12_both, cX12_comesTo, cX12_holds, cX12_will, cX12_wouldServe, cX12_doesServe, cX12_held, cX12_edgesSay, cX12_wearOf, cX12_moodOf, cX12_wears, cX12_notes, cX12_works, cX12_draw],
  [cX12_anHour, cX12_hours, cX7_append, cX11_feed, cX12_feed, cX11_end, cX12_end, cX7_afterBlanks, cX7_isLetter, cX7_isDigit, cX7_afterToken, cJ0_coder_7d493, cJ0_length_8abf5, cJ0_isLatin1_aae02, cJ3_checkIndex_8e157, cJ0_checkIndex_df160],
  [cJ1_charAt_3b067, cJ0_charAt_5068e, cX7_isSpelled, cX7_wordOf, cJ1_canEncode_9a6ad, cJ1_indexOfChar_4cfef, cJ1_indexOf_4cfef, cJ0_indexOf_7cf53, cJ0_indexOf_0f7a4, cX7_tokenOf, cX7_valueOf, cX7_begin, cX7_fail, cX7_advance, cX3_put, cX7_passUnit],
  [cX7_passNumber, cX7_passSum, cX7_pass, cX7_passTest, cX7_passEither, cX7_passLine, cX3_copy, cX7_tellLaw, cX7_passWork, cX7_readHull, cX1_copy, cX5_beginWorks, cX11_tellHull, cX7_passDue, cX7_passDuty, cX7_readRota],
  [cX8_copy, cX11_tellRota, cX11_text, cX12_see, cX12_isLetter, cX12_is, cX12_asked, cX12_lawWord, cX12_hullWord, cX12_rotaWord, cX12_word, cX12_isDigit, cX12_next0, cX12_bad, cX12_lay, cX12_unit],
  [cX12_product, cX12_sumUp, cX12_opens, cX12_need, cX12_oneTest, cX12_every, cX12_any, cX12_aLine, cX12_readsLaw, cX12_number, cX12_told, cX12_aWork, cX12_aRota, cX12_readsRows, cX12_putsLaw, cX12_putsHull],
  [cX12_putsRota, cX12_text, cX11_fault, cX12_fault, cX0_allTools, cX0_agrees, cJ6_bitCount_0f7a4, cX0_ordersWith, cX0_turns, cX2_toolsServing, cX4_nextToAsk, cX4_sharpest, cX4_rather, cX4_ask, cX4_match, cX11_of],
  [cX12_votesOf, cX12_isAgreed, cX12_isSwing, cX12_swings, cX12_count, cX12_orders1, cX12_power, cX12_bestTool, cX12_likeOf, cX12_isRather, cX12_asksFor, cX12_laysMates, cX12_mateOf, cX12_of, cX11_at, cX12_toolOf],
  [cX12_at, cX0_toolsOf, cX2_countHands, cX2_toolsInHands, cJ6_numberOfTrailingZeros_0f7a4, cX2_firstHand, cX2_firstServed, cX11_work, cX12_isWork, cX12_firstHands, cX12_handsOf, cX12_work, cX11_serves, cX12_serves, cX11_tells, cX12_tells],
  [cX11_book, cX12_book, cX1_kindsLeft, cX2_kindsInHands, cX6_makeRoom, cX1_worksOf, cX6_couplesAtOnce, cX6_prepare, cX6_unfinished, cX6_longestAhead, cX6_hoursOf, cX6_atLeast, cX6_openOf, cX6_mostAtOnce, cX6_canGoOn, cX6_spread],
  [cX6_fewestByFirst, cX6_fewest, cX6_hoursFor, cX6_firstSet, cX11_soonest, cX12_allWorks, cX12_takesOne, cX12_canTogether, cX12_laysTogether, cX12_started, cX12_ended, cX12_openIn, cX12_isFull, cX12_step, cX12_farFrom, cX12_firstSet],
  [cX12_soonest, cX11_isLess, cX11_fewestToStop, cJ6_lowestOneBit_0f7a4, cX11_fewestToKeep, cX11_few, cX12_toolsFor, cX12_stopSet, cX12_haveAll, cX12_keepSet, cX12_few, cX2_isWillingForAny, cX2_leastBranchWilling, cX11_changes, cX12_isWanted, cX12_branchFor],
  [cX12_changes, cX11_vote, cX12_vote, cX11_lasts, cX12_laysAside, cX12_putsBack, cX12_lasts, cX11_think, cX11_runs, cX12_runs, cX11_idle, cX12_idle, cX11_dull, cX12_dull, cX4_mostLoved, cX11_loved],
  [cX12_loversOf, cX12_loved, cX11_ready, cX12_ready, cX11_seen, cX12_seen, cX1_aheadOf, cX1_waysTo, cX1_countOrders, cX1_leastAfter, cX1_inFirstOrder, cX11_orders, cX12_canCome, cX12_laysOrders, cX12_nextOf, cX12_orders],
  [cX11_undo, cX12_undo, cX0_copy, cX10_copy, cX11_image, cX12_image, cX11_look, cX12_look, cL_law]]
def rtL : List (List (Option FieldType)) := [
  [none, none, none, none, none, none, none, none, none, none, none, none, none, none, some .int, none],
  [some .int, some .boolean, none, some .int, some .boolean, none, some .int, some .int, some .int, some .boolean, some .boolean, some .boolean, none, some .boolean, some .int, some .boolean],
  [some .boolean, some .boolean, some .int, none, none, none, some .int, some .int, none, none, some .boolean, none, some .int, some .int, some .int, some .boolean],
  [some .boolean, some .int, some .boolean, some .boolean, some .boolean, some .boolean, some .boolean, none, some .boolean, some .boolean, some .boolean, some .int, some .int, none, some .int, some .int],
  [some .boolean, some .boolean, none, some .int, none, none, none, some .int, none, none, none, some .int, some .int, some .boolean, some .int, some .boolean],
  [some .int, none, some .int, some .int, some .boolean, some .boolean, some .boolean, some .boolean, some .int, some .int, some .int, some .int, none, none, some .boolean, some .int],
  [some .int, some .int, none, some .int, some .int, some .boolean, some .boolean, some .int, some .boolean, some .boolean, some .int, some .byte, some .int, some .boolean, some .int, none],
  [some .char, some .char, some .boolean, some .int, some .boolean, some .int, some .int, some .int, some .int, some .int, some .int, none, some .boolean, none, none, some .boolean],
  [some .boolean, some .boolean, some .boolean, some .boolean, some .boolean, some .boolean, none, some .int, some .boolean, some .boolean, none, none, some .int, some .boolean, some .boolean, some .boolean],
  [none, some .int, some .int, some .int, some .boolean, some .boolean, some .int, some .int, some .int, some .int, some .int, some .boolean, none, some .boolean, none, some .boolean],
  [some .boolean, some .boolean, some .boolean, some .boolean, some .boolean, some .boolean, some .boolean, some .boolean, some .boolean, some .boolean, some .boolean, some .boolean, some .boolean, some .boolean, some .int, some .int],
  [some .int, some .int, some .int, some .int, some .int, some .boolean, some .int, some .int, some .int, some .int, some .int, some .int, some .boolean, none, none, some .int],
  [some .int, some .boolean, some .boolean, some .int, some .int, some .int, some .int, some .int, some .int, some .boolean, none, none, some .int, some .int, some .int, some .int],
  [some .int, some .int, some .int, some .int, some .int, some .int, some .int, some .int, some .boolean, some .int, some .int, some .int, some .int, some .int, some .int, some .int],
  [some .int, some .int, some .int, some .int, none, some .int, some .int, none, some .int, some .int, some .int, some .int, some .int, some .int, some .boolean, some .int],
  [some .int, some .int, some .int, some .int, some .int, some .int, some .boolean, some .boolean, none, some .int, some .int, some .int, some .boolean, some .int, some .int, some .int],
  [some .int, some .boolean, some .int, some .int, some .int, some .int, some .int, some .int, some .boolean, some .int, some .int, some .boolean, some .int, some .int, some .boolean, some .int],
  [some .int, some .int, some .int, some .int, none, none, some .int, none, some .int, some .int, some .int, some .int, some .int, some .int, some .int, some .int],
  [some .int, some .int, some .int, some .int, some .int, some .int, some .int, some .int, some .int, some .int, some .int, some .int, some .boolean, none, some .int, some .int],
  [some .boolean, some .boolean, none, none, some .boolean, some .boolean, some .int, some .int, some .boolean]]
def ocL : List (List Nat) := [
  [0, 1, 2, 3, 4, 5, 6, 7, 8, 9, 10, 11, 12, 11, 11, 12],
  [12, 11, 1, 11, 12, 12, 12, 11, 12, 11, 11, 11, 11, 11, 12, 12],
  [12, 12, 13, 11, 1, 11, 13, 11, 1, 1, 11, 12, 12, 12, 12, 12],
  [11, 11, 11, 12, 11, 12, 12, 8, 3, 2, 2, 1, 1, 7, 7, 7],
  [7, 7, 8, 7, 7, 8, 8, 1, 8, 1, 8, 11, 12, 12, 12, 12],
  [12, 12, 12, 12, 12, 12, 12, 12, 12, 12, 12, 12, 12, 12, 12, 12],
  [12, 12, 6, 11, 12, 11, 12, 6, 6, 6, 6, 14, 14, 14, 15, 14],
  [16, 14, 6, 6, 16, 16, 16, 14, 14, 6, 6, 6, 6, 6, 4, 6],
  [6, 6, 6, 6, 6, 6, 4, 6, 6, 6, 2, 1, 11, 6, 6, 6],
  [3, 11, 11, 12, 12, 12, 12, 12, 12, 12, 12, 12, 12, 12, 12, 12],
  [12, 12, 12, 12, 12, 12, 12, 12, 12, 12, 12, 12, 12, 12, 12, 12],
  [12, 12, 11, 12, 0, 0, 17, 0, 0, 7, 10, 10, 10, 10, 10, 11],
  [12, 12, 12, 12, 12, 12, 12, 12, 12, 12, 12, 12, 12, 12, 11, 12],
  [12, 0, 7, 7, 17, 7, 7, 11, 12, 12, 12, 12, 11, 12, 11, 12],
  [11, 12, 2, 7, 9, 2, 9, 9, 9, 9, 9, 9, 9, 9, 9, 9],
  [9, 9, 9, 9, 11, 12, 12, 12, 12, 12, 12, 12, 12, 12, 12, 12],
  [12, 11, 11, 17, 11, 11, 12, 12, 12, 12, 12, 7, 7, 11, 12, 12],
  [12, 11, 12, 11, 12, 12, 12, 11, 11, 12, 11, 12, 11, 12, 10, 11],
  [12, 12, 11, 12, 11, 12, 2, 2, 2, 2, 2, 11, 12, 12, 12, 12],
  [11, 12, 0, 5, 11, 12, 11, 12, 18]]
def stcL : List (List Bool) := [
  [false, false, false, false, false, false, false, false, false, false, false, false, false, false, false, false],
  [false, true, false, false, true, false, false, false, false, false, false, false, false, false, true, false],
  [false, false, true, true, false, false, true, true, false, false, false, false, false, true, true, false],
  [true, true, false, false, false, false, false, false, false, false, false, false, false, false, false, false],
  [false, false, false, false, false, false, false, false, false, false, false, false, false, false, false, false],
  [false, false, true, false, false, false, false, false, true, false, false, false, false, false, false, false],
  [false, false, false, false, false, false, false, false, true, true, false, false, false, false, true, true],
  [true, false, false, false, true, true, true, false, false, false, false, false, false, false, false, false],
  [false, false, false, false, false, false, false, false, false, false, false, false, false, false, false, false],
  [false, false, false, false, true, false, false, false, false, false, false, true, false, false, false, false],
  [false, false, false, false, false, false, false, false, false, false, false, false, false, false, false, false],
  [false, false, false, false, false, false, true, false, false, false, false, true, false, false, false, false],
  [false, false, false, false, true, true, false, false, false, false, false, false, false, false, false, false],
  [false, false, false, false, true, false, false, false, false, false, false, false, false, false, false, false],
  [false, false, false, false, false, false, false, false, false, false, false, false, true, false, false, true],
  [false, false, false, false, false, false, false, false, false, false, false, false, false, false, false, false],
  [false, true, false, true, false, false, false, false, false, false, false, false, false, false, false, false],
  [false, false, false, false, false, false, false, false, false, false, false, false, false, false, false, false],
  [false, false, false, false, false, false, false, false, false, false, false, false, false, false, false, false],
  [false, false, false, false, false, false, false, false, true]]
def onL : List String := [RX0, RX5, RX1, RX8, RX3, RX10, RX7, RX2, RX9, RX6, RX4, RX11, RX12, RJ9, RJ0, RJ3, RJ1, RJ6, RL]
def mhL : List (List (List (Nat × Nat))) := [
  [[(1, 40), (1, 3), (1, 39)], [(1, 107), (1, 4), (1, 106)], [(1, 167), (1, 5), (1, 166)], [(1, 217), (1, 6), (1, 216)], [(2, 13), (1, 7), (2, 12)], [(1, 34), (1, 2), (1, 33)], [(2, 102), (1, 8), (2, 101)], [(2, 159), (1, 9), (2, 158)], [(2, 172), (1, 10), (2, 171)], [(2, 205), (1, 11), (2, 204)], [(2, 233), (1, 12), (2, 232)], [(1, 26), (1, 1), (1, 25)], [(6, 78), (1, 13), (6, 77)], [(3, 54), (1, 1), (3, 53), (0, 0)], [(3, 50), (1, 1), (3, 48), (3, 49)], [(6, 207), (1, 13), (6, 206), (0, 54)]],
  [[(6, 203), (1, 13), (6, 201), (6, 202)], [(3, 61), (1, 1), (3, 60)], [(3, 65), (1, 4), (3, 63), (3, 64)], [(3, 58), (1, 1), (3, 56), (3, 57)], [(6, 214), (1, 13), (6, 213)], [(6, 218), (1, 13), (6, 217), (0, 55)], [(6, 211), (1, 13), (6, 209), (6, 210)], [(3, 69), (1, 1), (3, 67), (3, 68)], [(6, 222), (1, 13), (6, 220), (6, 221)], [(3, 81), (1, 1), (3, 80), (0, 2)], [(3, 85), (1, 1), (3, 84), (0, 3)], [(3, 77), (1, 1), (3, 76), (0, 1)], [(3, 89), (1, 1), (3, 88), (0, 4)], [(3, 73), (1, 1), (3, 71), (3, 72)], [(6, 229), (1, 13), (6, 228)], [(6, 233), (1, 13), (6, 232), (0, 56)]],
  [[(6, 237), (1, 13), (6, 236), (0, 57)], [(6, 226), (1, 13), (6, 224), (6, 225)], [(3, 107), (1, 14), (3, 106)], [(3, 104), (1, 1), (3, 103)], [(3, 101), (1, 4), (3, 99), (3, 100)], [(3, 97), (1, 1), (3, 96), (0, 5)], [(3, 120), (1, 14), (3, 119)], [(3, 117), (1, 1), (3, 116)], [(3, 114), (1, 4), (3, 112), (3, 113)], [(3, 124), (1, 4), (3, 122), (3, 123)], [(3, 93), (1, 1), (3, 91), (3, 92)], [(7, 171), (1, 13), (7, 170), (0, 86)], [(7, 175), (1, 13), (7, 174), (0, 87)], [(7, 178), (1, 13), (7, 177)], [(7, 181), (1, 13), (7, 180)], [(7, 167), (1, 13), (7, 165), (7, 166)]],
  [[(3, 131), (1, 1), (3, 130)], [(3, 134), (1, 1), (3, 133)], [(3, 128), (1, 1), (3, 126), (3, 127)], [(7, 185), (1, 13), (7, 183), (7, 184)], [(3, 138), (1, 1), (3, 136), (3, 137)], [(7, 193), (1, 13), (7, 192), (0, 88)], [(7, 189), (1, 13), (7, 187), (7, 188)], [(3, 146), (1, 10), (3, 144), (3, 145)], [(3, 154), (1, 6), (3, 152), (3, 153)], [(3, 167), (1, 5), (3, 165), (3, 166)], [(3, 163), (1, 5), (3, 161), (3, 162)], [(3, 181), (1, 4), (3, 179), (3, 180)], [(3, 189), (1, 4), (3, 187), (3, 188)], [(3, 185), (1, 9), (3, 184), (0, 8)], [(3, 197), (1, 9), (3, 196), (0, 10)], [(3, 193), (1, 9), (3, 192), (0, 9)]],
  [[(3, 177), (1, 9), (3, 176), (0, 7)], [(3, 172), (1, 9), (3, 170), (3, 171)], [(3, 201), (1, 10), (3, 200), (0, 11)], [(3, 209), (1, 9), (3, 207), (3, 208)], [(3, 205), (1, 9), (3, 203), (3, 204)], [(3, 216), (1, 10), (3, 215), (0, 12)], [(3, 158), (1, 10), (3, 157), (0, 6)], [(3, 224), (1, 4), (3, 222), (3, 223)], [(3, 220), (1, 10), (3, 219), (0, 13)], [(3, 230), (1, 4), (3, 228), (3, 229)], [(3, 150), (1, 10), (3, 148), (3, 149)], [(3, 142), (1, 1), (3, 140), (3, 141)], [(7, 217), (1, 13), (7, 216), (0, 93)], [(7, 213), (1, 13), (7, 212), (0, 92)], [(7, 221), (1, 13), (7, 220), (0, 94)], [(7, 209), (1, 13), (7, 208), (0, 91)]],
  [[(8, 1), (1, 13), (8, 0), (0, 99)], [(7, 237), (1, 13), (7, 236), (0, 98)], [(8, 12), (1, 13), (8, 11)], [(8, 9), (1, 13), (8, 8), (0, 101)], [(8, 5), (1, 13), (8, 4), (0, 100)], [(7, 233), (1, 13), (7, 232), (0, 97)], [(7, 229), (1, 13), (7, 228), (0, 96)], [(7, 225), (1, 13), (7, 224), (0, 95)], [(8, 27), (1, 13), (8, 26)], [(8, 24), (1, 13), (8, 23), (0, 104)], [(8, 20), (1, 13), (8, 19), (0, 103)], [(8, 31), (1, 13), (8, 30), (0, 105)], [(8, 16), (1, 13), (8, 15), (0, 102)], [(8, 35), (1, 13), (8, 34), (0, 106)], [(7, 205), (1, 13), (7, 204), (0, 90)], [(8, 39), (1, 13), (8, 38), (0, 107)]],
  [[(7, 201), (1, 13), (7, 200), (0, 89)], [(7, 197), (1, 13), (7, 195), (7, 196)], [(3, 239), (1, 8), (3, 237), (3, 238)], [(3, 235), (1, 1), (3, 233), (3, 234)], [(7, 1), (1, 13), (6, 239), (7, 0)], [(4, 3), (1, 1), (4, 1), (4, 2)], [(7, 5), (1, 13), (7, 3), (7, 4)], [(4, 15), (1, 8), (4, 14), (0, 14)], [(4, 22), (1, 8), (4, 21)], [(4, 25), (1, 8), (4, 24)], [(4, 19), (1, 8), (4, 18), (0, 15)], [(4, 42), (1, 16), (4, 40), (4, 41)], [(4, 38), (1, 16), (4, 36), (4, 37)], [(4, 52), (1, 16), (4, 50), (4, 51)], [(4, 63), (1, 18), (4, 62)], [(4, 58), (1, 16), (4, 57)]],
  [[(4, 55), (1, 17), (4, 54)], [(4, 48), (1, 16), (4, 46), (4, 47)], [(4, 86), (1, 8), (4, 85), (0, 18)], [(4, 33), (1, 8), (4, 32), (0, 17)], [(4, 102), (1, 17), (4, 101)], [(4, 107), (1, 17), (4, 106)], [(4, 99), (1, 17), (4, 98)], [(4, 95), (1, 16), (4, 93), (4, 94)], [(4, 91), (1, 16), (4, 89), (4, 90)], [(4, 29), (1, 8), (4, 28), (0, 16)], [(4, 146), (1, 8), (4, 145), (0, 19)], [(4, 11), (1, 8), (4, 9), (4, 10)], [(4, 158), (1, 8), (4, 157), (0, 21)], [(4, 162), (1, 8), (4, 161), (0, 22)], [(4, 174), (1, 7), (4, 172), (4, 173)], [(4, 170), (1, 8), (4, 169), (0, 24)]],
  [[(4, 178), (1, 8), (4, 177), (0, 25)], [(4, 166), (1, 8), (4, 165), (0, 23)], [(4, 190), (1, 8), (4, 189), (0, 28)], [(4, 186), (1, 8), (4, 185), (0, 27)], [(4, 182), (1, 8), (4, 181), (0, 26)], [(4, 154), (1, 8), (4, 153), (0, 20)], [(4, 194), (1, 7), (4, 192), (4, 193)], [(4, 150), (1, 8), (4, 148), (4, 149)], [(4, 207), (1, 8), (4, 206), (0, 30)], [(4, 203), (1, 8), (4, 201), (4, 202)], [(4, 211), (1, 5), (4, 209), (4, 210)], [(4, 216), (1, 4), (4, 214), (4, 215)], [(4, 199), (1, 1), (4, 198), (0, 29)], [(4, 232), (1, 8), (4, 231), (0, 33)], [(4, 228), (1, 8), (4, 227), (0, 32)], [(4, 224), (1, 8), (4, 222), (4, 223)]],
  [[(4, 236), (1, 6), (4, 234), (4, 235)], [(4, 220), (1, 1), (4, 219), (0, 31)], [(4, 7), (1, 1), (4, 5), (4, 6)], [(7, 17), (1, 13), (7, 16), (0, 59)], [(7, 20), (1, 13), (7, 19)], [(7, 33), (1, 13), (7, 32), (0, 62)], [(7, 47), (1, 13), (7, 46), (0, 63)], [(7, 28), (1, 13), (7, 27), (0, 61)], [(7, 61), (1, 13), (7, 60), (0, 64)], [(7, 68), (1, 13), (7, 67), (0, 65)], [(7, 24), (1, 13), (7, 23), (0, 60)], [(7, 75), (1, 13), (7, 74)], [(7, 13), (1, 13), (7, 12), (0, 58)], [(7, 87), (1, 13), (7, 86), (0, 68)], [(7, 103), (1, 13), (7, 102), (0, 72)], [(7, 99), (1, 13), (7, 98), (0, 71)]],
  [[(7, 95), (1, 13), (7, 94), (0, 70)], [(7, 91), (1, 13), (7, 90), (0, 69)], [(7, 119), (1, 13), (7, 118), (0, 76)], [(7, 123), (1, 13), (7, 122), (0, 77)], [(7, 115), (1, 13), (7, 114), (0, 75)], [(7, 111), (1, 13), (7, 110), (0, 74)], [(7, 107), (1, 13), (7, 106), (0, 73)], [(7, 83), (1, 13), (7, 82), (0, 67)], [(7, 79), (1, 13), (7, 78), (0, 66)], [(7, 139), (1, 13), (7, 138), (0, 81)], [(7, 135), (1, 13), (7, 134), (0, 80)], [(7, 131), (1, 13), (7, 130), (0, 79)], [(7, 143), (1, 13), (7, 142), (0, 82)], [(7, 127), (1, 13), (7, 126), (0, 78)], [(7, 147), (1, 13), (7, 146), (0, 83)], [(7, 151), (1, 13), (7, 150), (0, 84)]],
  [[(7, 155), (1, 13), (7, 154), (0, 85)], [(7, 9), (1, 13), (7, 7), (7, 8)], [(5, 2), (1, 1), (5, 0), (5, 1)], [(7, 159), (1, 13), (7, 157), (7, 158)], [(5, 14), (1, 3), (5, 12), (5, 13)], [(5, 18), (1, 3), (5, 16), (5, 17)], [(5, 22), (1, 21), (5, 21)], [(5, 29), (1, 3), (5, 28), (0, 34)], [(5, 10), (1, 3), (5, 8), (5, 9)], [(5, 39), (1, 9), (5, 37), (5, 38)], [(5, 44), (1, 12), (5, 43), (0, 35)], [(5, 51), (1, 12), (5, 50)], [(5, 56), (1, 12), (5, 55), (0, 37)], [(5, 48), (1, 12), (5, 47), (0, 36)], [(5, 35), (1, 12), (5, 33), (5, 34)], [(5, 6), (1, 1), (5, 4), (5, 5)]],
  [[(8, 168), (1, 13), (8, 167), (0, 129)], [(8, 164), (1, 13), (8, 163), (0, 128)], [(8, 216), (1, 13), (8, 215), (0, 137)], [(8, 212), (1, 13), (8, 211), (0, 136)], [(8, 88), (1, 13), (8, 87)], [(8, 223), (1, 13), (8, 222)], [(8, 220), (1, 13), (8, 219), (0, 138)], [(8, 180), (1, 13), (8, 179), (0, 131)], [(9, 3), (1, 13), (9, 2), (0, 143)], [(8, 239), (1, 13), (8, 238), (0, 142)], [(8, 235), (1, 13), (8, 234), (0, 141)], [(8, 231), (1, 13), (8, 230), (0, 140)], [(8, 227), (1, 13), (8, 226), (0, 139)], [(8, 208), (1, 13), (8, 206), (8, 207)], [(5, 61), (1, 1), (5, 59), (5, 60)], [(9, 11), (1, 13), (9, 10), (0, 144)]],
  [[(9, 7), (1, 13), (9, 5), (9, 6)], [(5, 75), (1, 3), (5, 73), (5, 74)], [(5, 71), (1, 9), (5, 69), (5, 70)], [(5, 85), (1, 9), (5, 83), (5, 84)], [(5, 88), (1, 21), (5, 87)], [(5, 81), (1, 9), (5, 79), (5, 80)], [(5, 93), (1, 9), (5, 91), (5, 92)], [(5, 65), (1, 1), (5, 63), (5, 64)], [(8, 188), (1, 13), (8, 187), (0, 132)], [(9, 19), (1, 13), (9, 18), (0, 145)], [(8, 108), (1, 13), (8, 107), (0, 116)], [(9, 15), (1, 13), (9, 13), (9, 14)], [(5, 97), (1, 1), (5, 95), (5, 96)], [(9, 23), (1, 13), (9, 21), (9, 22)], [(5, 102), (1, 1), (5, 100), (5, 101)], [(9, 27), (1, 13), (9, 25), (9, 26)]],
  [[(5, 107), (1, 1), (5, 105), (5, 106)], [(9, 31), (1, 13), (9, 29), (9, 30)], [(5, 115), (1, 5), (5, 113), (5, 114)], [(5, 119), (1, 9), (5, 117), (5, 118)], [(5, 127), (1, 11), (5, 126), (0, 38)], [(5, 132), (1, 5), (5, 130), (5, 131)], [(5, 137), (1, 11), (5, 136), (0, 39)], [(5, 123), (1, 11), (5, 121), (5, 122)], [(5, 144), (1, 11), (5, 142), (5, 143)], [(5, 164), (1, 11), (5, 163), (0, 43)], [(5, 169), (1, 11), (5, 168), (0, 44)], [(5, 160), (1, 11), (5, 159), (0, 42)], [(5, 172), (1, 11), (5, 171)], [(5, 176), (1, 11), (5, 175), (0, 45)], [(5, 180), (1, 11), (5, 179), (0, 46)], [(5, 183), (1, 11), (5, 182)]],
  [[(5, 156), (1, 11), (5, 155), (0, 41)], [(5, 152), (1, 11), (5, 151), (0, 40)], [(5, 148), (1, 11), (5, 146), (5, 147)], [(5, 187), (1, 11), (5, 185), (5, 186)], [(5, 111), (1, 1), (5, 109), (5, 110)], [(8, 61), (1, 13), (8, 60), (0, 110)], [(8, 128), (1, 13), (8, 127), (0, 120)], [(8, 124), (1, 13), (8, 123), (0, 119)], [(8, 120), (1, 13), (8, 119), (0, 118)], [(8, 132), (1, 13), (8, 131), (0, 121)], [(8, 136), (1, 13), (8, 135), (0, 122)], [(8, 144), (1, 13), (8, 143), (0, 124)], [(8, 148), (1, 13), (8, 147), (0, 125)], [(8, 152), (1, 13), (8, 151), (0, 126)], [(8, 140), (1, 13), (8, 139), (0, 123)], [(8, 156), (1, 13), (8, 155), (0, 127)]],
  [[(8, 116), (1, 13), (8, 114), (8, 115)], [(5, 200), (1, 1), (5, 199)], [(5, 196), (1, 1), (5, 195), (0, 47)], [(5, 208), (1, 21), (5, 207)], [(5, 205), (1, 1), (5, 204), (0, 48)], [(5, 191), (1, 1), (5, 189), (5, 190)], [(8, 85), (1, 13), (8, 84), (0, 112)], [(8, 81), (1, 13), (8, 80), (0, 111)], [(8, 96), (1, 13), (8, 95), (0, 114)], [(8, 92), (1, 13), (8, 91), (0, 113)], [(8, 77), (1, 13), (8, 75), (8, 76)], [(5, 220), (1, 9), (5, 219), (0, 49)], [(5, 216), (1, 9), (5, 214), (5, 215)], [(5, 212), (1, 1), (5, 210), (5, 211)], [(8, 104), (1, 13), (8, 103), (0, 115)], [(8, 112), (1, 13), (8, 111), (0, 117)]],
  [[(8, 100), (1, 13), (8, 98), (8, 99)], [(5, 224), (1, 1), (5, 222), (5, 223)], [(8, 160), (1, 13), (8, 158), (8, 159)], [(5, 229), (1, 1), (5, 227), (5, 228)], [(8, 49), (1, 13), (8, 48), (0, 108)], [(8, 53), (1, 13), (8, 52), (0, 109)], [(8, 73), (1, 13), (8, 71), (8, 72)], [(5, 238), (1, 1), (5, 237), (0, 50)], [(5, 234), (1, 1), (5, 232), (5, 233)], [(8, 45), (1, 13), (8, 43), (8, 44)], [(6, 2), (1, 1), (6, 0), (6, 1)], [(8, 65), (1, 13), (8, 63), (8, 64)], [(6, 7), (1, 1), (6, 5), (6, 6)], [(8, 69), (1, 13), (8, 67), (8, 68)], [(6, 15), (1, 12), (6, 13), (6, 14)], [(6, 11), (1, 1), (6, 9), (6, 10)]],
  [[(8, 176), (1, 13), (8, 175), (0, 130)], [(8, 172), (1, 13), (8, 170), (8, 171)], [(6, 19), (1, 1), (6, 17), (6, 18)], [(8, 57), (1, 13), (8, 55), (8, 56)], [(6, 23), (1, 1), (6, 21), (6, 22)], [(8, 184), (1, 13), (8, 182), (8, 183)], [(6, 35), (1, 5), (6, 34), (0, 51)], [(6, 39), (1, 5), (6, 38), (0, 52)], [(6, 31), (1, 5), (6, 29), (6, 30)], [(6, 47), (1, 5), (6, 46), (0, 53)], [(6, 43), (1, 5), (6, 41), (6, 42)], [(6, 27), (1, 1), (6, 25), (6, 26)], [(8, 200), (1, 13), (8, 199), (0, 134)], [(8, 196), (1, 13), (8, 195), (0, 133)], [(8, 204), (1, 13), (8, 203), (0, 135)], [(8, 192), (1, 13), (8, 190), (8, 191)]],
  [[(6, 51), (1, 1), (6, 49), (6, 50)], [(7, 163), (1, 13), (7, 161), (7, 162)], [(6, 63), (1, 3), (6, 61), (6, 62)], [(6, 59), (1, 2), (6, 57), (6, 58)], [(6, 55), (1, 1), (6, 53), (6, 54)], [(9, 35), (1, 13), (9, 33), (9, 34)], [(6, 73), (1, 1), (6, 71), (6, 72)], [(9, 39), (1, 13), (9, 37), (9, 38)], []]]
def lkL : List (List (List (Nat × Nat × Nat))) := [
  [[(3, 1, 41), (9, 1, 56), (15, 1, 58)], [(19, 1, 62), (22, 1, 65), (25, 1, 68), (28, 1, 70), (31, 1, 73)], [(34, 1, 76), (37, 1, 42), (40, 1, 47), (43, 1, 53), (46, 6, 64)], [(50, 5, 19), (54, 5, 11), (58, 5, 15), (62, 5, 20)], [(68, 5, 26), (71, 5, 30)]],
  [[(3, 1, 108), (9, 1, 109), (15, 1, 114)], [(18, 1, 117), (21, 1, 120), (24, 1, 123), (27, 1, 128), (30, 3, 102)], [(34, 1, 131), (38, 1, 135), (41, 1, 136), (44, 1, 139), (47, 3, 115)], [(51, 3, 225), (52, 3, 226), (53, 3, 231)]],
  [[(3, 1, 168), (9, 1, 173), (15, 1, 178)], [(18, 1, 182), (21, 1, 188), (24, 1, 190), (27, 1, 192), (30, 1, 193)], [(33, 1, 169), (37, 4, 212), (41, 1, 186), (44, 1, 124)], [(49, 3, 164), (53, 3, 168), (57, 6, 32), (61, 6, 36)], [(64, 6, 44)]],
  [[(3, 1, 218), (9, 1, 223), (15, 1, 226)], [(18, 1, 229), (21, 1, 232), (24, 1, 234), (27, 1, 219), (31, 4, 237)]],
  [[(3, 2, 14), (9, 2, 21), (15, 2, 24)], [(18, 2, 27), (21, 2, 30), (24, 2, 33), (27, 2, 15), (31, 2, 19)], [(34, 4, 195)]],
  [[(3, 1, 35), (9, 1, 36), (11, 1, 38), (12, 2, 50)], [(18, 1, 103), (20, 1, 105), (21, 2, 57), (25, 1, 163), (27, 1, 165), (28, 2, 63)], [(32, 1, 213), (34, 1, 215), (35, 2, 68), (39, 2, 9), (41, 2, 11), (42, 2, 71), (46, 2, 74)], [(49, 2, 77), (53, 6, 60), (57, 6, 65), (60, 6, 66), (63, 6, 67)], [(66, 6, 68), (69, 6, 69)]],
  [[(3, 2, 103), (9, 2, 110), (15, 2, 115)], [(19, 2, 117), (22, 2, 118), (25, 2, 119), (28, 2, 104), (30, 2, 105), (31, 2, 123)], [(35, 2, 106), (37, 2, 107), (38, 2, 124), (42, 2, 108), (44, 2, 109), (45, 2, 126)], [(49, 2, 111), (52, 2, 113), (55, 4, 12), (59, 4, 16), (62, 4, 26)], [(66, 4, 143), (69, 2, 120), (72, 2, 121), (75, 4, 20), (79, 4, 23)], [(82, 4, 30), (85, 4, 87), (87, 4, 88), (92, 4, 34), (94, 4, 35)], [(97, 4, 45), (101, 4, 83), (105, 4, 155), (108, 4, 159), (111, 2, 122)], [(114, 2, 17), (117, 2, 20), (120, 4, 151), (124, 4, 191)], [(128, 2, 23), (131, 2, 26), (134, 4, 163), (138, 2, 29), (141, 4, 179)], [(144, 2, 32), (147, 4, 187), (150, 4, 183), (153, 4, 171), (157, 4, 167)], [(160, 4, 175), (164, 1, 172), (165, 4, 204), (168, 1, 177), (171, 1, 181), (174, 1, 185)], [(177, 1, 222), (178, 4, 225), (182, 1, 225), (185, 2, 56), (191, 1, 46)], [(196, 4, 229), (200, 1, 228), (203, 1, 52), (206, 1, 231)], [(209, 2, 67), (210, 1, 233), (213, 1, 235)]],
  [[(3, 2, 160), (11, 2, 161), (15, 2, 162)], [(18, 1, 129), (23, 2, 51), (29, 1, 63)], [(34, 1, 59), (37, 3, 173), (41, 3, 174), (45, 1, 137)], [(49, 1, 71), (52, 3, 178), (56, 1, 110), (59, 3, 182), (63, 2, 72)], [(67, 3, 190), (71, 2, 22), (78, 2, 75)], [(81, 2, 25), (84, 2, 28), (87, 3, 194), (91, 3, 210), (95, 3, 206)], [(99, 3, 211), (103, 3, 212), (106, 1, 118), (109, 1, 121)], [(112, 1, 75), (115, 1, 115), (118, 1, 67), (121, 1, 78), (124, 3, 186), (127, 2, 16)], [(130, 2, 31), (133, 2, 34), (136, 1, 45), (139, 2, 62), (143, 5, 40)], [(146, 1, 51), (149, 5, 76), (153, 5, 82), (157, 5, 72)], [(161, 5, 77), (166, 5, 86), (169, 5, 217)]],
  [[(3, 2, 173), (9, 2, 174), (15, 2, 176)], [(18, 2, 178), (21, 2, 180), (24, 2, 182), (27, 2, 184), (30, 2, 185)], [(33, 2, 69), (39, 1, 220), (44, 1, 132)], [(49, 3, 151), (53, 3, 155), (57, 2, 55), (61, 1, 54)], [(66, 3, 217), (69, 3, 227), (72, 1, 224), (76, 1, 227), (79, 1, 230)], [(82, 3, 159), (85, 2, 65), (89, 3, 160), (95, 1, 174)], [(98, 1, 61), (99, 3, 169), (105, 3, 198), (109, 3, 202)], [(113, 1, 125), (116, 3, 213), (120, 2, 61), (124, 1, 140), (127, 2, 78)], [(130, 1, 44), (133, 1, 112), (136, 3, 221)]],
  [[(3, 2, 206), (9, 2, 207), (15, 2, 208)], [(18, 2, 209), (21, 2, 210), (24, 2, 211), (27, 2, 212), (30, 2, 64)], [(36, 1, 170), (42, 5, 124), (46, 2, 213)], [(49, 2, 52), (53, 1, 48), (58, 5, 128)], [(64, 5, 129), (67, 5, 133), (70, 5, 134), (73, 5, 138), (77, 5, 139)], [(82, 5, 140), (88, 1, 179), (91, 2, 60), (95, 1, 126)], [(100, 5, 149), (104, 5, 153), (107, 5, 157), (111, 5, 170)], [(114, 5, 173), (117, 5, 177), (121, 5, 181), (124, 1, 175), (127, 1, 183)], [(130, 5, 161), (133, 5, 165), (136, 5, 166)]],
  [[(3, 2, 234), (9, 2, 235), (15, 2, 237)], [(18, 2, 239), (21, 3, 0), (24, 2, 53), (30, 1, 49)], [(36, 5, 36), (42, 5, 41), (46, 5, 45)], [(50, 2, 59), (54, 5, 49), (58, 5, 53), (62, 5, 57)], [(66, 5, 52), (70, 1, 111)]],
  [[(1, 1, 27), (7, 1, 30), (9, 1, 32), (10, 3, 10)], [(16, 3, 11), (19, 2, 95), (21, 2, 96), (22, 3, 13), (26, 3, 14), (30, 2, 98)], [(32, 2, 100), (33, 3, 17), (37, 2, 155), (39, 2, 157), (40, 3, 18), (44, 2, 168), (46, 2, 170), (47, 3, 19)], [(51, 2, 201), (53, 2, 203), (54, 3, 20), (58, 2, 229), (60, 2, 231), (61, 3, 21)], [(65, 2, 58), (68, 1, 134), (72, 3, 51), (75, 2, 54), (79, 1, 43)], [(84, 3, 59), (88, 1, 60), (92, 1, 64), (95, 1, 66)], [(98, 1, 69), (101, 1, 72), (104, 3, 62), (108, 1, 50), (111, 1, 74)], [(114, 1, 77), (117, 3, 74), (121, 3, 86), (125, 3, 78)], [(129, 3, 82), (132, 1, 113), (135, 1, 116), (138, 1, 55), (141, 1, 57)], [(144, 3, 94), (147, 3, 111), (151, 3, 121), (154, 1, 138), (157, 3, 129)], [(160, 3, 132), (164, 1, 130), (167, 1, 133), (170, 3, 143), (172, 3, 147)], [(176, 2, 177), (179, 2, 112), (182, 3, 236), (185, 4, 8), (186, 2, 73), (190, 4, 147)], [(194, 2, 76), (197, 4, 196), (201, 4, 217), (204, 4, 200)], [(208, 2, 66), (212, 2, 125), (213, 4, 208), (219, 1, 187), (222, 2, 70)], [(226, 1, 221), (231, 4, 213), (234, 1, 171), (235, 4, 221), (239, 2, 127)], [(240, 4, 233), (243, 2, 114), (246, 2, 116), (249, 1, 119), (252, 1, 122), (255, 5, 7)], [(259, 5, 32), (263, 2, 236), (266, 2, 238), (269, 1, 176), (270, 1, 180)], [(273, 1, 184), (276, 1, 127), (279, 5, 66), (283, 5, 67), (286, 5, 68)], [(290, 5, 78), (293, 5, 90), (296, 5, 98), (300, 5, 103)], [(304, 1, 141), (307, 2, 79), (310, 5, 112), (314, 5, 116), (318, 5, 120)], [(321, 5, 141), (324, 5, 145), (328, 5, 184), (331, 5, 192), (334, 5, 193)], [(338, 5, 202), (341, 5, 201), (347, 5, 197), (350, 5, 198)], [(353, 5, 206), (356, 5, 213), (359, 5, 225), (362, 3, 98), (365, 5, 230)], [(369, 5, 235), (372, 2, 175), (375, 2, 179), (378, 2, 181), (381, 6, 3)], [(384, 2, 183), (387, 6, 12), (391, 1, 189), (394, 1, 191), (397, 6, 28)], [(400, 6, 40), (403, 3, 15), (406, 3, 16), (409, 3, 105), (414, 6, 56)], [(417, 3, 12), (421, 2, 18), (424, 3, 118), (427, 3, 108)]],
  [[(1, 6, 79), (7, 6, 81), (13, 6, 82)], [(16, 6, 83), (19, 6, 84), (22, 6, 87), (25, 6, 88), (28, 6, 89), (31, 6, 90)], [(34, 6, 91), (37, 6, 92), (40, 6, 106), (44, 6, 112)], [(48, 6, 113), (51, 6, 114), (54, 6, 80), (55, 6, 115), (58, 6, 116), (61, 6, 117)], [(64, 6, 118), (67, 6, 119), (70, 7, 176), (74, 7, 179), (77, 6, 212)], [(81, 6, 85), (84, 6, 204), (87, 8, 40), (88, 8, 41), (89, 6, 215), (93, 6, 227)], [(97, 6, 230), (101, 6, 234), (104, 6, 97), (107, 6, 98), (110, 6, 100)], [(113, 7, 34), (119, 7, 35), (123, 7, 48), (125, 7, 30)], [(129, 7, 49), (131, 7, 50), (133, 7, 51), (135, 7, 52), (137, 7, 53), (139, 7, 54), (141, 7, 55), (143, 7, 56)], [(145, 7, 57), (147, 7, 29), (149, 7, 36), (151, 7, 37), (153, 7, 38), (155, 6, 93), (158, 7, 39)], [(160, 7, 40), (162, 7, 41), (164, 7, 42), (166, 7, 43), (168, 7, 44), (171, 7, 62), (173, 7, 63), (175, 7, 64)], [(177, 7, 69), (179, 7, 70), (181, 7, 71), (183, 7, 72), (185, 7, 25), (188, 7, 58), (191, 7, 65)], [(194, 7, 14), (197, 6, 99), (200, 7, 18), (203, 7, 21), (206, 7, 73)], [(209, 6, 101), (212, 6, 102), (215, 6, 103), (218, 7, 84), (221, 7, 10)], [(224, 6, 95), (227, 6, 105), (230, 7, 92), (234, 7, 100), (238, 7, 96)], [(241, 7, 108), (244, 7, 112), (247, 7, 116), (250, 7, 104), (253, 7, 120)], [(256, 7, 88), (259, 6, 94), (262, 7, 80), (265, 6, 107), (268, 7, 136)], [(272, 6, 96), (275, 7, 132), (279, 7, 128), (282, 7, 140), (285, 6, 104)], [(288, 7, 76), (291, 7, 124), (294, 7, 144), (297, 7, 148), (300, 7, 152), (303, 8, 10)], [(307, 8, 6), (310, 7, 238), (313, 7, 172), (316, 7, 234), (319, 8, 2)], [(322, 7, 230), (324, 7, 190), (327, 7, 226), (330, 8, 25), (333, 8, 21)], [(337, 7, 214), (340, 7, 210), (343, 7, 218), (346, 7, 168), (349, 8, 17)], [(352, 8, 28), (355, 6, 111), (358, 7, 206), (361, 7, 222), (364, 8, 13), (367, 6, 110)], [(370, 8, 32), (373, 7, 202), (377, 6, 108), (380, 6, 109), (383, 8, 36)], [(386, 7, 198), (390, 8, 46), (393, 8, 50), (396, 8, 58), (399, 8, 82)], [(402, 8, 86), (405, 8, 93), (408, 8, 78), (411, 8, 89), (414, 8, 101)], [(417, 8, 105), (420, 8, 109), (423, 8, 125), (426, 8, 121), (429, 8, 141)], [(432, 8, 145), (435, 8, 149), (438, 8, 137), (441, 8, 129), (444, 8, 133), (447, 8, 117)], [(450, 8, 153), (453, 8, 165), (456, 8, 161), (459, 8, 221), (462, 8, 213)], [(465, 9, 0), (468, 8, 177), (471, 8, 236), (474, 8, 232), (478, 8, 173)], [(481, 8, 185), (484, 8, 197), (487, 8, 193), (490, 8, 201), (493, 8, 228)], [(496, 8, 209), (499, 8, 217), (502, 8, 224), (505, 9, 8), (508, 9, 16), (511, 6, 86)]],
  [],
  [[(9, 9, 40), (15, 9, 41)], [], [(38, 4, 43)], [], [], [], [], [], [], [], [], [], [], [], [], [], [], [], [], [], [(335, 4, 39)], [], [], [], [], [], [], [], [], [], [(492, 4, 49), (495, 4, 53)], [(498, 4, 64), (505, 4, 96)], [], [], [], [], [], [], [], [(633, 4, 92), (637, 4, 97)], [(640, 4, 108)], [], [], [], [], [], [], [], [], [], [], [], [], [], [], [], [], [], [], [], [], [], [], [], [], [(1053, 4, 59)], [(1059, 4, 61), (1062, 4, 123)]],
  [],
  [[(9, 4, 56)], [], [(38, 4, 104)], [], [], [(88, 4, 100), (92, 4, 103), (95, 4, 105)]],
  [[], [], [], [], [], [], [], [], [], [], [], [], [], [], [], [], [(264, 5, 89), (265, 5, 23), (266, 5, 24), (267, 5, 25)]],
  [[(7, 1, 22), (9, 1, 24), (10, 6, 74), (12, 6, 76), (13, 3, 47)], [(17, 6, 200), (18, 3, 55), (22, 6, 208), (23, 3, 66), (27, 6, 219), (28, 3, 70)], [(32, 6, 223), (33, 3, 90), (37, 7, 164), (38, 3, 125), (41, 7, 182), (42, 3, 135), (46, 7, 186), (47, 3, 139)], [(50, 7, 194), (51, 3, 232), (55, 6, 238), (56, 4, 0), (60, 7, 2), (61, 4, 4)], [(64, 7, 6), (65, 4, 239), (68, 7, 156), (69, 5, 3), (72, 8, 205), (73, 5, 58), (76, 9, 4), (77, 5, 62)], [(80, 9, 12), (81, 5, 94), (84, 9, 20), (85, 5, 99), (88, 9, 24), (89, 5, 104), (92, 9, 28), (93, 5, 108)], [(96, 8, 113), (97, 5, 188), (100, 8, 74), (101, 5, 209), (104, 8, 97), (105, 5, 221), (108, 8, 157), (109, 5, 226)], [(112, 8, 70), (113, 5, 231), (116, 8, 42), (117, 5, 239), (120, 8, 62), (121, 6, 4), (124, 8, 66), (125, 6, 8)], [(129, 8, 169), (130, 6, 16), (133, 8, 54), (134, 6, 20), (137, 8, 181), (138, 6, 24), (141, 8, 189), (142, 6, 48)], [(146, 7, 160), (147, 6, 52), (151, 9, 32), (152, 6, 70), (155, 9, 36)]]]
def strL : List String := ["will wont wear mood like when or and not skill edge moods today kind same branch bell weekday served work takes after tool man from for ", ";+-*/()<=>", "when", "or", "and", "not", "will", "wont", "wear", "mood", "like", "skill", "edge", "moods", "today", "kind", "same", "branch", "bell", "weekday", "served", "work", "takes", "after", "tool", "man", "from", "for"]
def tabsL : List (List Cond) := [k2_sels lw_privs, tables_1_1, tables_1_2, tables_1_3, tables_1_4, tables_1_5, tables_1_6, tables_1_7, tables_1_8, tables_1_9]
def ymw (mid : Nat) : MethodName := at2 ymL yL_law mid
def bmw (mid : Nat) : ByteArray := at2 bmL cL_law mid
def rtw (mid : Nat) : Option FieldType := at2 rtL none mid
def ocw (mid : Nat) : Nat := at2 ocL 99 mid
def scw (mid : Nat) : Bool := at2 stcL false mid
def onw (mid : Nat) : String := onL.getD (ocw mid) ""
def wdw (h : Nat × Nat) : Option Cond := match tabsL[h.1]? with
  | none => none
  | some l => l[h.2]?
def lnkw (oc idx : Nat) : Option Cond := match lkL[oc]? with
  | none => none
  | some t => match t[idx / 16]? with
    | none => none
    | some l => match l.find? (fun e => e.1 == idx) with
      | none => none
      | some (_, h) => wdw h
theorem wdw_mem {h : Nat × Nat} {w : Cond} (e : wdw h = some w) : w ∈ lw_tbl := by
  unfold wdw at e
  have key : ∀ l ∈ tabsL, ∀ w ∈ l, w ∈ lw_tbl := by
    intro l hl w hw
    unfold lw_tbl tables_1
    simp only [tabsL, List.mem_cons, List.not_mem_nil, or_false] at hl
    simp only [List.mem_append]
    rcases hl with rfl | rfl | rfl | rfl | rfl | rfl | rfl | rfl | rfl | rfl <;> simp [hw]
  cases ht : tabsL[h.1]? with
  | none => rw [ht] at e; cases e
  | some l =>
    rw [ht] at e
    exact key l (List.mem_of_getElem? ht) w (List.mem_of_getElem? e)
theorem lnkw_mem {oc idx : Nat} {w : Cond} (e : lnkw oc idx = some w) : w ∈ lw_tbl := by
  unfold lnkw at e
  split at e
  · cases e
  · split at e
    · cases e
    · split at e
      · cases e
      · exact wdw_mem e
def fTw (a b : Nat) : String × String × String × Bool := match vwCl[a]? with
  | none => ("", "", "", false)
  | some r => r.2.1 b
def nfw (a : Nat) : Nat := match vwCl[a]? with
  | none => 0
  | some r => r.2.2
def isRf (a b : Nat) : Bool := !((fTw a b).2.2.1 == "I") && !((fTw a b).2.2.1 == "Z")
def strw (j : Nat) : String := strL.getD j ""
def clsw (ci : Nat) : String := if ci = 200 then "java/lang/String" else match vwCl[ci]? with
  | none => ""
  | some r => r.1
def isIo (nm : String) : Bool := nm == "<init>"
/-- what an entry says of its instruction and of what it links -/
def chkE (mid : Nat) (e : EEw) : Bool := match e with
  | (pc, I, len, a, b, c) => decide (decode (bmw mid) pc = .ok (I, len)) && (match I with
    | .iload _ | .aload _ | .istore _ | .astore _ => len == 2
    | .iload_n _ | .aload_n _ | .istore_n _ | .astore_n _ => len == 1
    | .iinc _ _ => len == 3
    | .iconst n => len == 1 && decide (Int32.ofInt n = Int32.ofNat a)
    | .bipush n => len == 2 && decide ((Int8.ofInt n).toInt32 = Int32.ofNat a)
    | .sipush n => len == 3 && decide ((Int16.ofInt n).toInt32 = Int32.ofNat a)
    | .ldc i => len == 2 && (if c = 0 then decide (lnkw (ocw mid) i = some (.constant (onw mid) i (Int32.ofNat a))) else decide (a < 28) && decide (lnkw (ocw mid) i = some (.stringRef (onw mid) i (strw a))))
    | .ldc_w i => len == 3 && decide (lnkw (ocw mid) i = some (.constant (onw mid) i (Int32.ofNat a)))
    | .iadd | .isub | .imul | .iand | .ior | .ixor | .ishl | .ishr | .iushr | .idiv | .irem | .ineg | .i2c | .i2b | .dup | .dup2 | .pop | .iaload | .baload | .iastore | .bastore | .aaload | .aastore | .arraylength => len == 1
    | .ifCond _ o | .if_icmp _ o | .goto o => len == 3 && decide ((pc : Int) + o = (a : Int))
    | .tableswitch d lo hi os => decide ((pc : Int) + d = (b : Int)) && decide (lo = (a : Int)) && decide (hi + 1 = lo + (os.size : Int)) && decide (a + os.size < 1000) && os.toList.all (fun o => decide (0 ≤ (pc : Int) + o))
    | .lookupswitch d ps => decide ((pc : Int) + d = (b : Int)) && (ps.toList.zip (ps.toList.drop 1)).all (fun (a, next) => a.1 < next.1) && ps.toList.all (fun o => decide (0 ≤ (pc : Int) + o.2) && decide (-1000 < o.1) && decide (o.1 < 1000))
    | .getfield i => len == 3 && (if a = 200 then (if c = 2 then decide (lnkw (ocw mid) i = some (.fieldLink (onw mid) i "java/lang/String" "value" "[B")) else decide (c = 3) && decide (lnkw (ocw mid) i = some (.fieldLink (onw mid) i "java/lang/String" "coder" "B"))) else decide (c < 2) && decide (b < nfw a) && decide (lnkw (ocw mid) i = some (.fieldLink (onw mid) i (fTw a b).1 (fTw a b).2.1 (fTw a b).2.2.1)) && (isRf a b == (c == 1)))
    | .putfield i => len == 3 && decide (b < nfw a) && decide (lnkw (ocw mid) i = some (.fieldLink (onw mid) i (fTw a b).1 (fTw a b).2.1 (fTw a b).2.2.1)) && (if c = 0 then (fTw a b).2.2.1 == "I" else if c = 2 then (fTw a b).2.2.1 == "Z" else decide (c = 1) && isRf a b) && (!(fTw a b).2.2.2 || ((ymw mid).name == "<init>" && (fTw a b).1 == onw mid))
    | .getstatic i => len == 3 && (if c = 0 then decide (a = 1) && decide (lnkw (ocw mid) i = some (.fieldLink (onw mid) i "java/lang/String" "COMPACT_STRINGS" "Z")) else if a = 56 then decide (lnkw (ocw mid) i = some (.fieldLink (onw mid) i "ToolUnion$Crew" "ORDERS_OF" "[I")) else decide (a = 58) && decide (lnkw (ocw mid) i = some (.fieldLink (onw mid) i "jdk/internal/util/Preconditions" "SIOOBE_FORMATTER" "Ljava/util/function/BiFunction;")))
    | .new i => if a = 99 then true else len == 3 && decide (a < 13) && decide (b = nfw a) && decide (lnkw (ocw mid) i = some (.classLink (onw mid) i (clsw a)))
    | .newarray .int => len == 2
    | .newarray .boolean => len == 2
    | .anewarray i => len == 3 && decide (lnkw (ocw mid) i = some (.classLink (onw mid) i "ToolUnion$Moves"))
    | .invokestatic i => len == 3 && (if a = 9998 then decide (lnkw (ocw mid) i = some (.methodLink (onw mid) i arraycopyName)) else if a = 9997 then true else decide (a < 312) && scw a && decide ((parseMethodDescriptor (ymw a).desc).map (fun d => d.parameters.length) = some b) && ((rtw a).isSome == (c % 2 == 1)) && (decide (2 ≤ c % 4) == alm a) && (decide (lnkw (ocw mid) i = some (.methodLink (onw mid) i (ymw a)))|| decide (lnkw (ocw mid) i = some (.methodLinkNest (onw mid) i (ymw a) "ToolUnion"))))
    | .invokevirtual i => len == 3 && (if a = 9997 then true else decide (a < 312) && !scw a && !((ymw a).name == "<init>") && decide ((ymw a).cls = clsw (c / 4)) && decide ((parseMethodDescriptor (ymw a).desc).map (fun d => d.parameters.length) = some b) && ((rtw a).isSome == (c % 2 == 1)) && (decide (2 ≤ c % 4) == alm a) && (decide (lnkw (ocw mid) i = some (.methodLink (onw mid) i (ymw a)))|| decide (lnkw (ocw mid) i = some (.methodLinkNest (onw mid) i (ymw a) "ToolUnion"))))
    | .invokespecial i => len == 3 && (if a = 9999 then decide (lnkw (ocw mid) i = some (.methodLink (onw mid) i objectInit)) else if a = 9997 then true else decide (a < 312) && !scw a && ((ymw a).name == "<init>") && decide ((parseMethodDescriptor (ymw a).desc).map (fun d => d.parameters.length) = some b) && decide (rtw a = none) && decide (c % 4 = 2) && alm a && (decide (lnkw (ocw mid) i = some (.methodLink (onw mid) i (ymw a)))|| decide (lnkw (ocw mid) i = some (.methodLinkNest (onw mid) i (ymw a) "ToolUnion"))))
    | .ireturn => len == 1 && (if c = 0 then decide (rtw mid = some .int) else if c = 1 then decide (rtw mid = some .boolean) else if c = 2 then decide (rtw mid = some .char) else decide (rtw mid = some .byte))
    | .return_ => len == 1 && decide (rtw mid = none)
    | _ => true)
def codeOf (mid : Nat) : List (List EEw) := match codeT[mid / 16]? with
  | none => []
  | some l => match l[mid % 16]? with
    | none => []
    | some t => t
def chkC (mid : Nat) : Bool := (codeOf mid).all (fun l => l.all (chkE mid))
def mhw (mid : Nat) : List (Nat × Nat) := at2 mhL [] mid
/-- what is said of a method that is called -/
def chkM (mid : Nat) : Bool := decide (wdw ((mhw mid).getD 1 (99, 99)) = some (.initialized (ymw mid).cls)) && decide (onw mid = (ymw mid).cls) && (plainName (ymw mid).cls || (NativeRow.find? Jvm.natives (ymw mid).cls (ymw mid).name (ymw mid).desc).isNone) && decide ((ymw mid).cls ≠ "java/lang/invoke/MethodHandle") && decide ((ymw mid).cls ≠ "java/lang/invoke/VarHandle") && (if scw mid then decide (wdw ((mhw mid).getD 2 (99, 99)) = some (.static (ymw mid))) else decide (wdw ((mhw mid).getD 2 (99, 99)) = some (.instanceMethod (ymw mid))) && (((ymw mid).name == "<init>") || decide (wdw ((mhw mid).getD 3 (99, 99)) = some (.selects (ymw mid).cls (ymw mid) (ymw mid)))))
end
