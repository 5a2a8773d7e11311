abbrev md_J6_bitCount_0f7a4 : Md := ([], [], [], [])
abbrev md_J7_fill_53178 (q1 : Nat) : Md := ([q1], [], [], [])
abbrev md_X0_ask : Md := ([17], [(2, 1), (2, 2), (2, 4), (2, 5), (2, 6), (2, 7), (2, 8), (2, 9), (2, 10)], [], [])
abbrev md_X0_lookAt : Md := ([], [(2, 6), (2, 8), (2, 9), (2, 10)], [], [])
abbrev md_X0_push : Md := ([17], [(2, 4)], [], [])
abbrev md_X0_pop : Md := ([], [(2, 4)], [], [])
abbrev md_X0_apply : Md := ([17], [(2, 1), (2, 4), (2, 5)], [], [])
abbrev md_X0_addIf : Md := ([], [(2, 1)], [], [])
abbrev md_X0_joinTwo : Md := ([17], [(2, 4)], [], [])
abbrev md_X1_isPerson : Md := ([], [], [], [])
abbrev md_X1_forgetAll : Md := ([], [], [5], [])
abbrev md_X1_freshened : Md := ([17], [(2, 1), (2, 2), (2, 4), (2, 5), (2, 6), (2, 7), (2, 8), (2, 9), (2, 10)], [5, 8], [2, 3, 4])
abbrev md_X1_freshenAll : Md := ([17], [(2, 1), (2, 2), (2, 4), (2, 5), (2, 6), (2, 7), (2, 8), (2, 9), (2, 10)], [5, 8], [2, 3, 4])
abbrev md_X1_allMoney : Md := ([], [], [], [])
abbrev md_X2_find : Md := ([40], [(10, 3)], [], [])
abbrev md_X2_works : Md := ([40], [], [], [])
abbrev md_X2_openLessons : Md := ([], [], [], [])
abbrev md_X2_spareOf : Md := ([], [], [], [])
abbrev md_X3_envyOf : Md := ([], [], [], [])
abbrev md_X3_isBetter : Md := ([], [], [], [])
abbrev md_X3_findWaste : Md := ([39], [], [], [])
abbrev md_X3_findSwap : Md := ([39], [], [], [])
abbrev md_X3_bitOf : Md := ([], [], [], [])
abbrev md_X3_betters : Md := ([], [], [], [])
abbrev md_X3_growth : Md := ([], [], [], [])
abbrev md_X3_shareOf : Md := ([], [], [], [])
abbrev md_X3_leastHeap : Md := ([], [], [], [])
abbrev md_X4_mark : Md := ([26, 27], [], [], [])
abbrev md_X4_costOf : Md := ([], [], [], [])
abbrev md_X4_pick : Md := ([], [(6, 5)], [], [])
abbrev md_X4_leastBetter : Md := ([], [(6, 5)], [], [])
abbrev md_X4_alike : Md := ([], [(6, 5)], [], [])
abbrev md_X4_squareAt : Md := ([25, 26, 27], [(6, 5)], [], [])
abbrev md_X5_wishFor (p : Nat) : Md := mdP [] [] [1] [4, 5] p
abbrev md_X5_standFor (p : Nat) : Md := mdP [] [] [] [0, 1, 5] p
abbrev md_X5_freshen (p : Nat) : Md := mdP [17] [(2, 1), (2, 2), (2, 4), (2, 5), (2, 6), (2, 7), (2, 8), (2, 9), (2, 10)] [2, 3, 4] [5, 8] p
abbrev md_X5_bundleAt : Md := ([], [], [], [])
abbrev md_X5_worthAt : Md := ([], [], [], [])
abbrev md_X5_rankWithin : Md := ([], [], [], [])
abbrev md_X5_hasLawfulWith : Md := ([], [], [], [])
abbrev md_X5_betterThan : Md := ([], [], [], [])
abbrev md_X6_isLesson : Md := ([], [], [], [])
abbrev md_X6_addLesson : Md := ([12, 13, 14, 15], [(1, 0)], [], [])
abbrev md_X6_addCouple : Md := ([16], [(1, 2)], [], [])
abbrev md_X6_barOf : Md := ([], [], [], [])
abbrev md_X7_read : Md := ([20, 21, 22, 23], [(4, 0), (4, 2), (5, 1), (5, 3), (5, 4)], [], [])
abbrev md_X7_failed : Md := ([], [(5, 4)], [], [])
abbrev md_X7_kind : Md := ([], [], [], [])
abbrev md_X7_take : Md := ([], [(5, 1)], [], [])
abbrev md_X7_emit : Md := ([23], [(5, 3)], [], [])
abbrev md_X7_statement : Md := ([23], [(5, 1), (5, 3)], [], [])
abbrev md_X7_anyOf : Md := ([23], [(5, 1), (5, 3)], [], [])
abbrev md_X7_oneOf : Md := ([23], [(5, 1), (5, 3)], [], [])
abbrev md_X7_expression : Md := ([23], [(5, 1), (5, 3)], [], [])
abbrev md_X7_takeEither : Md := ([], [(5, 1)], [], [])
abbrev md_X7_atom : Md := ([23], [(5, 1), (5, 3)], [], [])
abbrev md_X8_run : Md := ([25, 26, 27, 28, 29, 30, 31, 32, 75, 76, 77, 78, 79, 80, 81, 82], [(6, 5), (7, 3), (7, 4), (7, 9)], [], [])
abbrev md_X8_goOn : Md := ([25, 26, 27, 28, 29, 30, 31, 32, 75, 76, 77, 78, 79, 80, 81, 82], [(6, 5), (7, 3), (7, 4), (7, 9)], [], [])
abbrev md_X8_change : Md := ([31], [], [], [])
abbrev md_X8_consider : Md := ([25, 26, 27, 32], [(6, 5), (7, 9)], [], [])
abbrev md_X8_isGone : Md := ([], [], [], [])
abbrev md_X8_isTrial : Md := ([], [], [], [])
abbrev md_X8_goToChosen : Md := ([28, 29, 75, 76, 77, 78, 79, 80, 81, 82], [(7, 3), (7, 4)], [], [])
abbrev md_X8_leastSquare : Md := ([25, 26, 27, 31], [(6, 5)], [], [])
abbrev md_X8_edgeOf : Md := ([26, 27, 31], [(6, 5)], [], [])
abbrev md_X8_copy (q2 : Nat) : Md := ([q2], [], [], [])
abbrev md_X9_put : Md := ([19], [(4, 0)], [], [])
abbrev md_X9_token : Md := ([20, 21, 22], [(4, 2)], [], [])
abbrev md_X9_wordKind : Md := ([], [], [], [])
abbrev md_X9_numberOf : Md := ([], [], [], [])
abbrev md_X9_isLetter : Md := ([], [], [], [])
abbrev md_X9_isDigit : Md := ([], [], [], [])
abbrev md_X10_run : Md := ([17, 26, 27, 34, 35, 36, 37, 38], [(2, 1), (2, 2), (2, 4), (2, 5), (2, 6), (2, 7), (2, 8), (2, 9), (2, 10), (6, 5)], [5, 8], [2, 3, 4])
abbrev md_X10_countSpare : Md := ([35], [], [], [])
abbrev md_X10_byPrices : Md := ([26, 27, 34, 35, 37], [(6, 5)], [], [])
abbrev md_X10_buyFor : Md := ([34, 37], [(6, 5)], [], [])
abbrev md_X10_mended : Md := ([26, 27, 34, 35, 36, 37], [(6, 5)], [], [])
abbrev md_X10_fullest : Md := ([], [], [], [])
abbrev md_X10_raise : Md := ([26, 27, 34, 35, 36, 37], [(6, 5)], [], [])
abbrev md_X10_byTurns : Md := ([34, 35], [], [], [])
abbrev md_X10_roundOfAdding : Md := ([34, 35], [], [], [])
abbrev md_X10_addFor : Md := ([34, 35], [], [], [])
abbrev md_X10_canTake : Md := ([], [], [], [])
abbrev md_X10_take : Md := ([34, 35], [], [], [])
abbrev md_X10_byBids : Md := ([34, 35, 38], [], [], [])
abbrev md_X10_fillBids : Md := ([38], [], [], [])
abbrev md_X10_oneAfterAnother : Md := ([34, 35], [], [], [])
abbrev md_X10_openLessons : Md := ([], [], [], [])
abbrev md_X10_byHand : Md := ([34, 35], [], [], [])
abbrev md_X11_lesson : Md := ([12, 13, 14, 15], [(1, 0)], [5], [])
abbrev md_X11_places : Md := ([12], [], [], [])
abbrev md_X11_after : Md := ([16], [(1, 2)], [5], [])
abbrev md_X11_most : Md := ([], [(1, 1)], [5], [])
abbrev md_X11_purse : Md := ([], [], [0, 5], [])
abbrev md_X11_feed : Md := ([19], [(4, 0)], [], [])
abbrev md_X11_wish : Md := ([20, 21, 22, 23], [(0, 12), (4, 0), (4, 2), (5, 1), (5, 3), (5, 4)], [4, 5], [1])
abbrev md_X11_falsely : Md := ([20, 21, 22, 23, 84], [(0, 11), (0, 12), (4, 0), (4, 2), (5, 1), (5, 3), (5, 4), (83, 4), (83, 5)], [], [])
abbrev md_X11_fault : Md := ([], [], [], [])
abbrev md_X11_bars : Md := ([17], [(2, 1), (2, 2), (2, 4), (2, 5), (2, 6), (2, 7), (2, 8), (2, 9), (2, 10)], [], [])
abbrev md_X11_worth : Md := ([17], [(2, 1), (2, 2), (2, 4), (2, 5), (2, 6), (2, 7), (2, 8), (2, 9), (2, 10)], [], [])
abbrev md_X11_price : Md := ([24], [], [], [])
abbrev md_X11_step : Md := ([], [(6, 3)], [], [])
abbrev md_X11_buys : Md := ([17, 26, 27], [(2, 1), (2, 2), (2, 4), (2, 5), (2, 6), (2, 7), (2, 8), (2, 9), (2, 10), (6, 5)], [5, 8], [2, 3, 4])
abbrev md_X11_dear : Md := ([17, 26, 27], [(2, 1), (2, 2), (2, 4), (2, 5), (2, 6), (2, 7), (2, 8), (2, 9), (2, 10), (6, 5)], [5, 8], [2, 3, 4])
abbrev md_X11_over : Md := ([17, 25, 26, 27], [(2, 1), (2, 2), (2, 4), (2, 5), (2, 6), (2, 7), (2, 8), (2, 9), (2, 10), (6, 5)], [5, 8], [2, 3, 4])
abbrev md_X11_square : Md := ([17, 25, 26, 27], [(2, 1), (2, 2), (2, 4), (2, 5), (2, 6), (2, 7), (2, 8), (2, 9), (2, 10), (6, 5)], [5, 8], [2, 3, 4])
abbrev md_X11_fit : Md := ([17, 25, 26, 27, 28, 29, 30, 31, 32, 75, 76, 77, 78, 79, 80, 81, 82], [(2, 1), (2, 2), (2, 4), (2, 5), (2, 6), (2, 7), (2, 8), (2, 9), (2, 10), (6, 5), (7, 3), (7, 4), (7, 9)], [5, 8], [2, 3, 4])
abbrev md_X11_settle : Md := ([17, 24, 25, 26, 27, 28, 29, 30, 31, 32, 75, 76, 77, 78, 79, 80, 81, 82], [(2, 1), (2, 2), (2, 4), (2, 5), (2, 6), (2, 7), (2, 8), (2, 9), (2, 10), (6, 5), (7, 3), (7, 4), (7, 9)], [5, 8], [2, 3, 4])
abbrev md_X11_must : Md := ([17, 25, 26, 27, 31], [(2, 1), (2, 2), (2, 4), (2, 5), (2, 6), (2, 7), (2, 8), (2, 9), (2, 10), (6, 5)], [5, 8], [2, 3, 4])
abbrev md_X11_why : Md := ([17, 26, 27], [(2, 1), (2, 2), (2, 4), (2, 5), (2, 6), (2, 7), (2, 8), (2, 9), (2, 10), (6, 5)], [5, 8], [2, 3, 4])
abbrev md_X11_give : Md := ([], [], [2], [])
abbrev md_X11_has : Md := ([17, 26, 27, 34, 35, 36, 37, 38], [(2, 1), (2, 2), (2, 4), (2, 5), (2, 6), (2, 7), (2, 8), (2, 9), (2, 10), (6, 5)], [5, 8], [2, 3, 4])
abbrev md_X11_left : Md := ([17, 26, 27, 34, 35, 36, 37, 38], [(2, 1), (2, 2), (2, 4), (2, 5), (2, 6), (2, 7), (2, 8), (2, 9), (2, 10), (6, 5)], [5, 8], [2, 3, 4])
abbrev md_X11_sum : Md := ([17, 26, 27, 34, 35, 36, 37, 38], [(2, 1), (2, 2), (2, 4), (2, 5), (2, 6), (2, 7), (2, 8), (2, 9), (2, 10), (6, 5)], [5, 8], [2, 3, 4])
abbrev md_X11_envy : Md := ([17, 26, 27, 34, 35, 36, 37, 38], [(2, 1), (2, 2), (2, 4), (2, 5), (2, 6), (2, 7), (2, 8), (2, 9), (2, 10), (6, 5)], [5, 8], [2, 3, 4])
abbrev md_X11_envies : Md := ([17, 26, 27, 34, 35, 36, 37, 38], [(2, 1), (2, 2), (2, 4), (2, 5), (2, 6), (2, 7), (2, 8), (2, 9), (2, 10), (6, 5)], [5, 8], [2, 3, 4])
abbrev md_X11_waste : Md := ([17, 26, 27, 34, 35, 36, 37, 38, 39], [(2, 1), (2, 2), (2, 4), (2, 5), (2, 6), (2, 7), (2, 8), (2, 9), (2, 10), (6, 5)], [5, 8], [2, 3, 4])
abbrev md_X11_share : Md := ([17], [(2, 1), (2, 2), (2, 4), (2, 5), (2, 6), (2, 7), (2, 8), (2, 9), (2, 10)], [5, 8], [2, 3, 4])
abbrev md_X11_gain : Md := ([17, 18, 26, 27, 34, 35, 36, 37, 38], [(2, 1), (2, 2), (2, 4), (2, 5), (2, 6), (2, 7), (2, 8), (2, 9), (2, 10), (6, 5), (83, 0), (83, 1), (83, 5)], [5, 8], [2, 3, 4])
abbrev md_X11_rank : Md := ([17, 26, 27, 34, 35, 36, 37, 38], [(2, 1), (2, 2), (2, 4), (2, 5), (2, 6), (2, 7), (2, 8), (2, 9), (2, 10), (6, 5)], [5, 8], [2, 3, 4])
abbrev md_X11_ties : Md := ([17, 26, 27], [(2, 1), (2, 2), (2, 4), (2, 5), (2, 6), (2, 7), (2, 8), (2, 9), (2, 10), (6, 5)], [5, 8], [2, 3, 4])
abbrev md_X11_edge : Md := ([17, 26, 27, 31], [(2, 1), (2, 2), (2, 4), (2, 5), (2, 6), (2, 7), (2, 8), (2, 9), (2, 10), (6, 5)], [5, 8], [2, 3, 4])
abbrev md_X11_few : Md := ([17, 26, 27, 34, 35, 36, 37, 38, 40], [(2, 1), (2, 2), (2, 4), (2, 5), (2, 6), (2, 7), (2, 8), (2, 9), (2, 10), (6, 5), (10, 3)], [5, 8], [2, 3, 4])
abbrev md_X11_judge : Md := ([17, 26, 27, 34, 35, 36, 37, 38], [(2, 1), (2, 2), (2, 4), (2, 5), (2, 6), (2, 7), (2, 8), (2, 9), (2, 10), (6, 5)], [5, 8], [2, 3, 4])
abbrev md_X11_count : Md := ([], [], [], [])
abbrev md_X11_isPurse : Md := ([], [], [], [])
abbrev md_X11_isBundle : Md := ([], [], [], [])
abbrev md_X11_isWay : Md := ([], [], [], [])
abbrev md_X11_contains : Md := ([], [], [], [])
abbrev md_X11_total : Md := ([], [], [], [])
abbrev md_X12_isIn : Md := ([], [], [], [])
abbrev md_X12_one : Md := ([], [], [], [])
abbrev md_X12_holds : Md := ([], [], [], [])
abbrev md_X12_bits : Md := ([], [], [], [])
abbrev md_X12_isLesson : Md := ([], [], [], [])
abbrev md_X12_isPerson : Md := ([], [], [], [])
abbrev md_X12_isBundle : Md := ([], [], [], [])
abbrev md_X12_lesson : Md := ([41, 42, 43], [(11, 0), (11, 20)], [], [])
abbrev md_X12_places : Md := ([41], [], [], [])
abbrev md_X12_after : Md := ([45, 46], [(11, 2), (11, 20)], [], [])
abbrev md_X12_most : Md := ([], [(11, 3), (11, 20)], [], [])
abbrev md_X12_person : Md := ([47, 48, 50], [(11, 1), (11, 20)], [], [])
abbrev md_X12_purse : Md := ([47], [(11, 20)], [], [])
abbrev md_X12_price : Md := ([44], [], [], [])
abbrev md_X12_step : Md := ([], [(11, 4)], [], [])
abbrev md_X12_feed : Md := ([59], [(11, 14)], [], [])
abbrev md_X12_four : Md := ([59], [(11, 14)], [], [])
abbrev md_X12_blanks : Md := ([], [(11, 16)], [], [])
abbrev md_X12_word : Md := ([], [(11, 16), (11, 33)], [], [])
abbrev md_X12_takes : Md := ([], [(11, 16), (11, 33)], [], [])
abbrev md_X12_takesSign : Md := ([], [(11, 16)], [], [])
abbrev md_X12_takesNumber : Md := ([], [(11, 16), (11, 34)], [], [])
abbrev md_X12_asked : Md := ([], [], [], [])
abbrev md_X12_puts : Md := ([55, 56], [(11, 18)], [], [])
abbrev md_X12_opens : Md := ([], [(11, 17)], [], [])
abbrev md_X12_atom : Md := ([55, 56], [(11, 16), (11, 17), (11, 18), (11, 33), (11, 34)], [], [])
abbrev md_X12_product : Md := ([55, 56], [(11, 16), (11, 17), (11, 18), (11, 33), (11, 34)], [], [])
abbrev md_X12_ex : Md := ([55, 56], [(11, 16), (11, 17), (11, 18), (11, 33), (11, 34)], [], [])
abbrev md_X12_single : Md := ([55, 56], [(11, 16), (11, 17), (11, 18), (11, 33), (11, 34)], [], [])
abbrev md_X12_all : Md := ([55, 56], [(11, 16), (11, 17), (11, 18), (11, 33), (11, 34)], [], [])
abbrev md_X12_any : Md := ([55, 56], [(11, 16), (11, 17), (11, 18), (11, 33), (11, 34)], [], [])
abbrev md_X12_statement : Md := ([51, 52, 53, 54, 55, 56], [(11, 16), (11, 17), (11, 18), (11, 33), (11, 34)], [], [])
abbrev md_X12_reads : Md := ([50, 51, 52, 53, 54, 55, 56, 60], [(11, 14), (11, 15), (11, 16), (11, 17), (11, 18), (11, 19), (11, 33), (11, 34)], [], [])
abbrev md_X12_becomes : Md := ([50, 51, 52, 53, 54, 55, 56], [(11, 20)], [], [])
abbrev md_X12_wish : Md := ([50, 51, 52, 53, 54, 55, 56, 60], [(11, 14), (11, 15), (11, 16), (11, 17), (11, 18), (11, 19), (11, 20), (11, 33), (11, 34)], [], [])
abbrev md_X12_falsely : Md := ([50, 51, 52, 53, 54, 55, 56, 60], [(11, 14), (11, 15), (11, 16), (11, 17), (11, 18), (11, 19), (11, 20), (11, 21), (11, 33), (11, 34)], [], [])
abbrev md_X12_fault : Md := ([], [], [], [])
abbrev md_X12_held : Md := ([], [], [], [])
abbrev md_X12_bit : Md := ([], [], [], [])
abbrev md_X12_both : Md := ([], [], [], [])
abbrev md_X12_runs : Md := ([57], [], [], [])
abbrev md_X12_asks : Md := ([58], [], [], [])
abbrev md_X12_worthBy : Md := ([57, 58], [], [], [])
abbrev md_X12_saysNever : Md := ([57, 58], [], [], [])
abbrev md_X12_barsBy : Md := ([57, 58], [], [], [])
abbrev md_X12_bars : Md := ([57, 58], [], [], [])
abbrev md_X12_worth : Md := ([57, 58], [], [], [])
abbrev md_X12_fills : Md := ([57, 58, 61, 62], [], [], [])
abbrev md_X12_tables : Md := ([57, 58, 61, 62], [(11, 37)], [], [])
abbrev md_X12_isLawful : Md := ([], [], [], [])
abbrev md_X12_worthOf : Md := ([], [], [], [])
abbrev md_X12_rowOf : Md := ([], [], [], [])
abbrev md_X12_costOf : Md := ([], [], [], [])
abbrev md_X12_buysBy : Md := ([], [(11, 40), (11, 41)], [], [])
abbrev md_X12_told : Md := ([57, 58, 61, 62, 63], [(11, 37)], [], [])
abbrev md_X12_buys : Md := ([57, 58, 61, 62, 63], [(11, 37), (11, 40), (11, 41)], [], [])
abbrev md_X12_dear : Md := ([57, 58, 61, 62, 63], [(11, 37), (11, 40), (11, 41)], [], [])
abbrev md_X12_squares : Md := ([64, 65], [(11, 40), (11, 41)], [], [])
abbrev md_X12_over : Md := ([57, 58, 61, 62, 63, 64, 65], [(11, 37), (11, 40), (11, 41)], [], [])
abbrev md_X12_square : Md := ([57, 58, 61, 62, 63, 64, 65], [(11, 37), (11, 40), (11, 41)], [], [])
abbrev md_X12_wasGone : Md := ([], [], [], [])
abbrev md_X12_held_ : Md := ([], [], [], [])
abbrev md_X12_tries : Md := ([63], [], [], [])
abbrev md_X12_fits : Md := ([57, 58, 61, 62, 63, 64, 65, 66, 67, 68, 69, 70], [(11, 37), (11, 40), (11, 41), (11, 49), (11, 50)], [], [])
abbrev md_X12_goesOn : Md := ([63, 64, 65, 66, 67, 68, 69, 70], [(11, 40), (11, 41), (11, 49), (11, 50)], [], [])
abbrev md_X12_fit : Md := ([57, 58, 61, 62, 63, 64, 65, 66, 67, 68, 69, 70], [(11, 37), (11, 40), (11, 41), (11, 49), (11, 50)], [], [])
abbrev md_X12_settle : Md := ([44, 57, 58, 61, 62, 63, 64, 65, 66, 67, 68, 69, 70], [(11, 37), (11, 40), (11, 41), (11, 49), (11, 50)], [], [])
abbrev md_X12_must : Md := ([57, 58, 61, 62, 63, 64, 65], [(11, 37), (11, 40), (11, 41)], [], [])
abbrev md_X12_why : Md := ([57, 58, 61, 62, 63], [(11, 37), (11, 40), (11, 41)], [], [])
abbrev md_X12_isWay : Md := ([], [], [], [])
abbrev md_X12_leftOf : Md := ([], [], [], [])
abbrev md_X12_adds : Md := ([71], [], [], [])
abbrev md_X12_allAdd : Md := ([71], [], [], [])
abbrev md_X12_mends : Md := ([63, 64, 65, 71], [(11, 40), (11, 41)], [], [])
abbrev md_X12_turns : Md := ([71], [], [], [])
abbrev md_X12_bidOf : Md := ([], [], [], [])
abbrev md_X12_bids : Md := ([71, 72], [], [], [])
abbrev md_X12_takesBest : Md := ([], [], [], [])
abbrev md_X12_serial : Md := ([71], [], [], [])
abbrev md_X12_goes : Md := ([57, 58, 61, 62, 63, 64, 65, 71, 72], [(11, 37), (11, 40), (11, 41)], [], [])
abbrev md_X12_give : Md := ([49], [], [], [])
abbrev md_X12_has : Md := ([57, 58, 61, 62, 63, 64, 65, 71, 72], [(11, 37), (11, 40), (11, 41)], [], [])
abbrev md_X12_hasIn : Md := ([57, 58, 61, 62, 63, 64, 65, 71, 72], [(11, 37), (11, 40), (11, 41)], [], [])
abbrev md_X12_left : Md := ([57, 58, 61, 62, 63, 64, 65, 71, 72], [(11, 37), (11, 40), (11, 41)], [], [])
abbrev md_X12_sum : Md := ([57, 58, 61, 62, 63, 64, 65, 71, 72], [(11, 37), (11, 40), (11, 41)], [], [])
abbrev md_X12_isBetter : Md := ([], [], [], [])
abbrev md_X12_envyOf : Md := ([], [], [], [])
abbrev md_X12_envy : Md := ([57, 58, 61, 62, 63, 64, 65, 71, 72], [(11, 37), (11, 40), (11, 41)], [], [])
abbrev md_X12_envies : Md := ([57, 58, 61, 62, 63, 64, 65, 71, 72], [(11, 37), (11, 40), (11, 41)], [], [])
abbrev md_X12_changed : Md := ([], [], [], [])
abbrev md_X12_isWaste : Md := ([], [], [], [])
abbrev md_X12_waste : Md := ([57, 58, 61, 62, 63, 64, 65, 71, 72], [(11, 37), (11, 40), (11, 41)], [], [])
abbrev md_X12_share : Md := ([57, 58, 61, 62, 73], [(11, 37)], [], [])
abbrev md_X12_heapOf : Md := ([], [], [], [])
abbrev md_X12_gain : Md := ([57, 58, 61, 62, 63, 64, 65, 71, 72], [(11, 37), (11, 38), (11, 40), (11, 41)], [], [])
abbrev md_X12_rank : Md := ([57, 58, 61, 62, 63, 64, 65, 71, 72], [(11, 37), (11, 40), (11, 41)], [], [])
abbrev md_X12_ties : Md := ([57, 58, 61, 62, 63], [(11, 37), (11, 40), (11, 41)], [], [])
abbrev md_X12_edge : Md := ([57, 58, 61, 62, 63], [(11, 37), (11, 40), (11, 41)], [], [])
abbrev md_X12_isWell : Md := ([71], [], [], [])
abbrev md_X12_few : Md := ([57, 58, 61, 62, 63, 64, 65, 71, 72, 74], [(11, 37), (11, 40), (11, 41)], [], [])
abbrev md_X12_judge : Md := ([57, 58, 71], [], [], [])
abbrev md_X12_count : Md := ([], [], [], [])
abbrev md_X5_sortRanked (p : Nat) : Md := mdP [] [] [4] [] p
abbrev md_X9_cut : Md := ([20, 21, 22], [(4, 0), (4, 2)], [], [])
abbrev md_X9_isWord : Md := ([], [], [], [])
theorem S_J6_bitCount_0f7a4 {d n : Nat} {Q : Int32 → St → Prop} {σ : St} {a1 : Int32} (h : Q ((((((((a1 - (((a1.toUInt32 >>> ((1 : Int32).toUInt32 &&& Int32.toUInt32 31)).toInt32) &&& 1431655765)) &&& 858993459) + ((((a1 - (((a1.toUInt32 >>> ((1 : Int32).toUInt32 &&& Int32.toUInt32 31)).toInt32) &&& 1431655765)).toUInt32 >>> ((2 : Int32).toUInt32 &&& Int32.toUInt32 31)).toInt32) &&& 858993459)) + (((((a1 - (((a1.toUInt32 >>> ((1 : Int32).toUInt32 &&& Int32.toUInt32 31)).toInt32) &&& 1431655765)) &&& 858993459) + ((((a1 - (((a1.toUInt32 >>> ((1 : Int32).toUInt32 &&& Int32.toUInt32 31)).toInt32) &&& 1431655765)).toUInt32 >>> ((2 : Int32).toUInt32 &&& Int32.toUInt32 31)).toInt32) &&& 858993459)).toUInt32 >>> ((4 : Int32).toUInt32 &&& Int32.toUInt32 31)).toInt32)) &&& 252645135) + (((((((a1 - (((a1.toUInt32 >>> ((1 : Int32).toUInt32 &&& Int32.toUInt32 31)).toInt32) &&& 1431655765)) &&& 858993459) + ((((a1 - (((a1.toUInt32 >>> ((1 : Int32).toUInt32 &&& Int32.toUInt32 31)).toInt32) &&& 1431655765)).toUInt32 >>> ((2 : Int32).toUInt32 &&& Int32.toUInt32 31)).toInt32) &&& 858993459)) + (((((a1 - (((a1.toUInt32 >>> ((1 : Int32).toUInt32 &&& Int32.toUInt32 31)).toInt32) &&& 1431655765)) &&& 858993459) + ((((a1 - (((a1.toUInt32 >>> ((1 : Int32).toUInt32 &&& Int32.toUInt32 31)).toInt32) &&& 1431655765)).toUInt32 >>> ((2 : Int32).toUInt32 &&& Int32.toUInt32 31)).toInt32) &&& 858993459)).toUInt32 >>> ((4 : Int32).toUInt32 &&& Int32.toUInt32 31)).toInt32)) &&& 252645135).toUInt32 >>> ((8 : Int32).toUInt32 &&& Int32.toUInt32 31)).toInt32)) + ((((((((a1 - (((a1.toUInt32 >>> ((1 : Int32).toUInt32 &&& Int32.toUInt32 31)).toInt32) &&& 1431655765)) &&& 858993459) + ((((a1 - (((a1.toUInt32 >>> ((1 : Int32).toUInt32 &&& Int32.toUInt32 31)).toInt32) &&& 1431655765)).toUInt32 >>> ((2 : Int32).toUInt32 &&& Int32.toUInt32 31)).toInt32) &&& 858993459)) + (((((a1 - (((a1.toUInt32 >>> ((1 : Int32).toUInt32 &&& Int32.toUInt32 31)).toInt32) &&& 1431655765)) &&& 858993459) + ((((a1 - (((a1.toUInt32 >>> ((1 : Int32).toUInt32 &&& Int32.toUInt32 31)).toInt32) &&& 1431655765)).toUInt32 >>> ((2 : Int32).toUInt32 &&& Int32.toUInt32 31)).toInt32) &&& 858993459)).toUInt32 >>> ((4 : Int32).toUInt32 &&& Int32.toUInt32 31)).toInt32)) &&& 252645135) + (((((((a1 - (((a1.toUInt32 >>> ((1 : Int32).toUInt32 &&& Int32.toUInt32 31)).toInt32) &&& 1431655765)) &&& 858993459) + ((((a1 - (((a1.toUInt32 >>> ((1 : Int32).toUInt32 &&& Int32.toUInt32 31)).toInt32) &&& 1431655765)).toUInt32 >>> ((2 : Int32).toUInt32 &&& Int32.toUInt32 31)).toInt32) &&& 858993459)) + (((((a1 - (((a1.toUInt32 >>> ((1 : Int32).toUInt32 &&& Int32.toUInt32 31)).toInt32) &&& 1431655765)) &&& 858993459) + ((((a1 - (((a1.toUInt32 >>> ((1 : Int32).toUInt32 &&& Int32.toUInt32 31)).toInt32) &&& 1431655765)).toUInt32 >>> ((2 : Int32).toUInt32 &&& Int32.toUInt32 31)).toInt32) &&& 858993459)).toUInt32 >>> ((4 : Int32).toUInt32 &&& Int32.toUInt32 31)).toInt32)) &&& 252645135).toUInt32 >>> ((8 : Int32).toUInt32 &&& Int32.toUInt32 31)).toInt32)).toUInt32 >>> ((16 : Int32).toUInt32 &&& Int32.toUInt32 31)).toInt32)) &&& 63) σ) : Cn d n M_J6_bitCount_0f7a4 md_J6_bitCount_0f7a4 [.int a1] σ (liI Q) := by
  refine Cn.of (k0 := 0) (by decide) rfl ?_
  show Ev (d, n, md_J6_bitCount_0f7a4, σ, liI Q) M_J6_bitCount_0f7a4 0 [some (.int a1)] [] σ
  refine e_iload_n dJ6_bitCount_0f7a4_0 rfl rfl ?_
  refine e_iload_n dJ6_bitCount_0f7a4_1 rfl rfl ?_
  refine e_iconst dJ6_bitCount_0f7a4_2 ci_1 ?_
  refine e_iushr dJ6_bitCount_0f7a4_3 ?_
  refine e_ldcw dJ6_bitCount_0f7a4_4 ck_J6_265 ?_
  refine e_iand dJ6_bitCount_0f7a4_7 ?_
  refine e_isub dJ6_bitCount_0f7a4_8 ?_
  refine e_istore_n dJ6_bitCount_0f7a4_9 rfl rfl (by decide) ?_
  refine e_iload_n dJ6_bitCount_0f7a4_10 rfl rfl ?_
  refine e_ldcw dJ6_bitCount_0f7a4_11 ck_J6_266 ?_
  refine e_iand dJ6_bitCount_0f7a4_14 ?_
  refine e_iload_n dJ6_bitCount_0f7a4_15 rfl rfl ?_
  refine e_iconst dJ6_bitCount_0f7a4_16 ci_2 ?_
  refine e_iushr dJ6_bitCount_0f7a4_17 ?_
  refine e_ldcw dJ6_bitCount_0f7a4_18 ck_J6_266 ?_
  refine e_iand dJ6_bitCount_0f7a4_21 ?_
  refine e_iadd dJ6_bitCount_0f7a4_22 ?_
  refine e_istore_n dJ6_bitCount_0f7a4_23 rfl rfl (by decide) ?_
  refine e_iload_n dJ6_bitCount_0f7a4_24 rfl rfl ?_
  refine e_iload_n dJ6_bitCount_0f7a4_25 rfl rfl ?_
  refine e_iconst dJ6_bitCount_0f7a4_26 ci_4 ?_
  refine e_iushr dJ6_bitCount_0f7a4_27 ?_
  refine e_iadd dJ6_bitCount_0f7a4_28 ?_
  refine e_ldcw dJ6_bitCount_0f7a4_29 ck_J6_267 ?_
  refine e_iand dJ6_bitCount_0f7a4_32 ?_
  refine e_istore_n dJ6_bitCount_0f7a4_33 rfl rfl (by decide) ?_
  refine e_iload_n dJ6_bitCount_0f7a4_34 rfl rfl ?_
  refine e_iload_n dJ6_bitCount_0f7a4_35 rfl rfl ?_
  refine e_bipush dJ6_bitCount_0f7a4_36 cb_8 ?_
  refine e_iushr dJ6_bitCount_0f7a4_38 ?_
  refine e_iadd dJ6_bitCount_0f7a4_39 ?_
  refine e_istore_n dJ6_bitCount_0f7a4_40 rfl rfl (by decide) ?_
  refine e_iload_n dJ6_bitCount_0f7a4_41 rfl rfl ?_
  refine e_iload_n dJ6_bitCount_0f7a4_42 rfl rfl ?_
  refine e_bipush dJ6_bitCount_0f7a4_43 cb_16 ?_
  refine e_iushr dJ6_bitCount_0f7a4_45 ?_
  refine e_iadd dJ6_bitCount_0f7a4_46 ?_
  refine e_istore_n dJ6_bitCount_0f7a4_47 rfl rfl (by decide) ?_
  refine e_iload_n dJ6_bitCount_0f7a4_48 rfl rfl ?_
  refine e_bipush dJ6_bitCount_0f7a4_49 cb_63 ?_
  refine e_iand dJ6_bitCount_0f7a4_51 ?_
  exact e_iret dJ6_bitCount_0f7a4_52 rfl ⟨_, rfl, h⟩
def fn_J6_bitCount_0f7a4 (a1 : Int32) : Int32 := ((((((((a1 - (((a1.toUInt32 >>> ((1 : Int32).toUInt32 &&& Int32.toUInt32 31)).toInt32) &&& 1431655765)) &&& 858993459) + ((((a1 - (((a1.toUInt32 >>> ((1 : Int32).toUInt32 &&& Int32.toUInt32 31)).toInt32) &&& 1431655765)).toUInt32 >>> ((2 : Int32).toUInt32 &&& Int32.toUInt32 31)).toInt32) &&& 858993459)) + (((((a1 - (((a1.toUInt32 >>> ((1 : Int32).toUInt32 &&& Int32.toUInt32 31)).toInt32) &&& 1431655765)) &&& 858993459) + ((((a1 - (((a1.toUInt32 >>> ((1 : Int32).toUInt32 &&& Int32.toUInt32 31)).toInt32) &&& 1431655765)).toUInt32 >>> ((2 : Int32).toUInt32 &&& Int32.toUInt32 31)).toInt32) &&& 858993459)).toUInt32 >>> ((4 : Int32).toUInt32 &&& Int32.toUInt32 31)).toInt32)) &&& 252645135) + (((((((a1 - (((a1.toUInt32 >>> ((1 : Int32).toUInt32 &&& Int32.toUInt32 31)).toInt32) &&& 1431655765)) &&& 858993459) + ((((a1 - (((a1.toUInt32 >>> ((1 : Int32).toUInt32 &&& Int32.toUInt32 31)).toInt32) &&& 1431655765)).toUInt32 >>> ((2 : Int32).toUInt32 &&& Int32.toUInt32 31)).toInt32) &&& 858993459)) + (((((a1 - (((a1.toUInt32 >>> ((1 : Int32).toUInt32 &&& Int32.toUInt32 31)).toInt32) &&& 1431655765)) &&& 858993459) + ((((a1 - (((a1.toUInt32 >>> ((1 : Int32).toUInt32 &&& Int32.toUInt32 31)).toInt32) &&& 1431655765)).toUInt32 >>> ((2 : Int32).toUInt32 &&& Int32.toUInt32 31)).toInt32) &&& 858993459)).toUInt32 >>> ((4 : Int32).toUInt32 &&& Int32.toUInt32 31)).toInt32)) &&& 252645135).toUInt32 >>> ((8 : Int32).toUInt32 &&& Int32.toUInt32 31)).toInt32)) + ((((((((a1 - (((a1.toUInt32 >>> ((1 : Int32).toUInt32 &&& Int32.toUInt32 31)).toInt32) &&& 1431655765)) &&& 858993459) + ((((a1 - (((a1.toUInt32 >>> ((1 : Int32).toUInt32 &&& Int32.toUInt32 31)).toInt32) &&& 1431655765)).toUInt32 >>> ((2 : Int32).toUInt32 &&& Int32.toUInt32 31)).toInt32) &&& 858993459)) + (((((a1 - (((a1.toUInt32 >>> ((1 : Int32).toUInt32 &&& Int32.toUInt32 31)).toInt32) &&& 1431655765)) &&& 858993459) + ((((a1 - (((a1.toUInt32 >>> ((1 : Int32).toUInt32 &&& Int32.toUInt32 31)).toInt32) &&& 1431655765)).toUInt32 >>> ((2 : Int32).toUInt32 &&& Int32.toUInt32 31)).toInt32) &&& 858993459)).toUInt32 >>> ((4 : Int32).toUInt32 &&& Int32.toUInt32 31)).toInt32)) &&& 252645135) + (((((((a1 - (((a1.toUInt32 >>> ((1 : Int32).toUInt32 &&& Int32.toUInt32 31)).toInt32) &&& 1431655765)) &&& 858993459) + ((((a1 - (((a1.toUInt32 >>> ((1 : Int32).toUInt32 &&& Int32.toUInt32 31)).toInt32) &&& 1431655765)).toUInt32 >>> ((2 : Int32).toUInt32 &&& Int32.toUInt32 31)).toInt32) &&& 858993459)) + (((((a1 - (((a1.toUInt32 >>> ((1 : Int32).toUInt32 &&& Int32.toUInt32 31)).toInt32) &&& 1431655765)) &&& 858993459) + ((((a1 - (((a1.toUInt32 >>> ((1 : Int32).toUInt32 &&& Int32.toUInt32 31)).toInt32) &&& 1431655765)).toUInt32 >>> ((2 : Int32).toUInt32 &&& Int32.toUInt32 31)).toInt32) &&& 858993459)).toUInt32 >>> ((4 : Int32).toUInt32 &&& Int32.toUInt32 31)).toInt32)) &&& 252645135).toUInt32 >>> ((8 : Int32).toUInt32 &&& Int32.toUInt32 31)).toInt32)).toUInt32 >>> ((16 : Int32).toUInt32 &&& Int32.toUInt32 31)).toInt32)) &&& 63)
theorem sp_J6_bitCount_0f7a4 {d n : Nat} {σ : St} {a1 : Int32} : Cn d n M_J6_bitCount_0f7a4 ([], [], [], []) [.int a1] σ (liI (fun v σ' => v = fn_J6_bitCount_0f7a4 a1 ∧ σ = σ')) := by
  refine S_J6_bitCount_0f7a4 ?_
  exact ⟨by unfold fn_J6_bitCount_0f7a4; rfl, rfl⟩
theorem S_X11_contains {d n : Nat} {Q : Int32 → St → Prop} {σ : St} {a1 : Int32} {a2 : Int32} (h : ((((a1 >>> (a2 &&& 31)) &&& 1) = 0 → Q 0 σ) ∧ (¬ ((a1 >>> (a2 &&& 31)) &&& 1) = 0 → Q 1 σ))) : Cn d n M_X11_contains md_X11_contains [.int a1, .int a2] σ (liI Q) := by
  refine Cn.of (k0 := 0) (by decide) rfl ?_
  show Ev (d, n, md_X11_contains, σ, liI Q) M_X11_contains 0 [some (.int a1), some (.int a2)] [] σ
  refine e_iload_n dX11_contains_0 rfl rfl ?_
  refine e_iload_n dX11_contains_1 rfl rfl ?_
  refine e_ishr dX11_contains_2 ?_
  refine e_iconst dX11_contains_3 ci_1 ?_
  refine e_iand dX11_contains_4 ?_
  refine e_if_eq (tgt := 12) dX11_contains_5 (by decide) (fun c1 => ?_) (fun c1 => ?_)
  · replace h := h.1 c1
    refine e_iconst dX11_contains_12 ci_0 ?_
    exact e_zret dX11_contains_13 rfl (nar_z (Or.inl rfl)) ⟨_, rfl, h⟩
  · replace h := h.2 c1
    refine e_iconst dX11_contains_8 ci_1 ?_
    refine e_goto (tgt := 13) dX11_contains_9 (by decide) ?_
    exact e_zret dX11_contains_13 rfl (nar_z (Or.inr rfl)) ⟨_, rfl, h⟩
def fn_X11_contains (a1 : Int32) (a2 : Int32) : Int32 := (if ((a1 >>> (a2 &&& 31)) &&& 1) = 0 then 0 else 1)
theorem sp_X11_contains {d n : Nat} {σ : St} {a1 : Int32} {a2 : Int32} : Cn d n M_X11_contains ([], [], [], []) [.int a1, .int a2] σ (liI (fun v σ' => v = fn_X11_contains a1 a2 ∧ σ = σ')) := by
  refine S_X11_contains ?_
  refine ⟨fun c1 => ?_, fun c1 => ?_⟩
  · exact ⟨by unfold fn_X11_contains; rw [if_pos c1], rfl⟩
  · exact ⟨by unfold fn_X11_contains; rw [if_neg c1], rfl⟩
theorem fn_X11_contains_01 (a1 : Int32) (a2 : Int32) : fn_X11_contains a1 a2 = 0 ∨ fn_X11_contains a1 a2 = 1 := by
  unfold fn_X11_contains
  repeat' split
  all_goals first | exact Or.inl rfl | exact Or.inr rfl | simp
theorem S_X1_isPerson {d n : Nat} {Q : Int32 → St → Prop} {σ : St} {a1 : Int32} (hn : FIX ≤ n) (h : ((a1 < 0 → Q 0 σ) ∧ (¬ a1 < 0 → (((gI σ 3 2) ≤ a1 → Q 0 σ) ∧ (¬ (gI σ 3 2) ≤ a1 → Q 1 σ))))) : Cn d n M_X1_isPerson md_X1_isPerson [.ref 3, .int a1] σ (liI Q) := by
  refine Cn.of (k0 := 0) (by decide) rfl ?_
  show Ev (d, n, md_X1_isPerson, σ, liI Q) M_X1_isPerson 0 [some (.ref 3), some (.int a1)] [] σ
  refine e_iload_n dX1_isPerson_0 rfl rfl ?_
  refine e_if_lt (tgt := 16) dX1_isPerson_1 (by decide) (fun c1 => ?_) (fun c1 => ?_)
  · replace h := h.1 c1
    refine e_iconst dX1_isPerson_16 ci_0 ?_
    exact e_zret dX1_isPerson_17 rfl (nar_z (Or.inl rfl)) ⟨_, rfl, h⟩
  · replace h := h.2 c1
    refine e_iload_n dX1_isPerson_4 rfl rfl ?_
    refine e_aload_n dX1_isPerson_5 rfl rfl ?_
    refine e_getI dX1_isPerson_6 fl_X1_21 (ob_3 hn) rfl ?_
    refine e_icmp_ge (tgt := 16) dX1_isPerson_9 (by decide) (fun c2 => ?_) (fun c2 => ?_)
    · replace h := h.1 c2
      refine e_iconst dX1_isPerson_16 ci_0 ?_
      exact e_zret dX1_isPerson_17 rfl (nar_z (Or.inl rfl)) ⟨_, rfl, h⟩
    · replace h := h.2 c2
      refine e_iconst dX1_isPerson_12 ci_1 ?_
      refine e_goto (tgt := 17) dX1_isPerson_13 (by decide) ?_
      exact e_zret dX1_isPerson_17 rfl (nar_z (Or.inr rfl)) ⟨_, rfl, h⟩
def fn_X1_isPerson (σ : St) (a1 : Int32) : Int32 := (if a1 < 0 then 0 else (if (gI σ 3 2) ≤ a1 then 0 else 1))
theorem sp_X1_isPerson {d n : Nat} {σ : St} {a1 : Int32} (hn : FIX ≤ n) : Cn d n M_X1_isPerson ([], [], [], []) [.ref 3, .int a1] σ (liI (fun v σ' => v = fn_X1_isPerson σ a1 ∧ σ = σ')) := by
  refine S_X1_isPerson hn ?_
  refine ⟨fun c1 => ?_, fun c1 => ?_⟩
  · exact ⟨by unfold fn_X1_isPerson; rw [if_pos c1], rfl⟩
  · refine ⟨fun c2 => ?_, fun c2 => ?_⟩
    · exact ⟨by unfold fn_X1_isPerson; rw [if_neg c1, if_pos c2], rfl⟩
    · exact ⟨by unfold fn_X1_isPerson; rw [if_neg c1, if_neg c2], rfl⟩
theorem fn_X1_isPerson_01 (σ : St) (a1 : Int32) : fn_X1_isPerson σ a1 = 0 ∨ fn_X1_isPerson σ a1 = 1 := by
  unfold fn_X1_isPerson
  repeat' split
  all_goals first | exact Or.inl rfl | exact Or.inr rfl | simp
theorem S_X5_bundleAt {d n : Nat} {Q : Int32 → St → Prop} {σ : St} {p : Nat} {a1 : Int32} (hp_p : IsP n p) (h : ((a1 < 0 → Q 0 σ) ∧ (¬ a1 < 0 → ((a1 < (gI σ p 8) → vp_in a1 1024 ∧ Q ((gI σ (p + 4) a1.toNatClampNeg) &&& 1023) σ) ∧ (¬ a1 < (gI σ p 8) → Q 0 σ))))) : Cn d n M_X5_bundleAt md_X5_bundleAt [.ref p, .int a1] σ (liI Q) := by
  refine Cn.of (k0 := 0) (by decide) rfl ?_
  show Ev (d, n, md_X5_bundleAt, σ, liI Q) M_X5_bundleAt 0 [some (.ref p), some (.int a1)] [] σ
  refine e_iload_n dX5_bundleAt_0 rfl rfl ?_
  refine e_if_lt (tgt := 12) dX5_bundleAt_1 (by decide) (fun c1 => ?_) (fun c1 => ?_)
  · replace h := h.1 c1
    refine e_iconst dX5_bundleAt_12 ci_0 ?_
    refine e_goto (tgt := 26) dX5_bundleAt_13 (by decide) ?_
    exact e_iret dX5_bundleAt_26 rfl ⟨_, rfl, h⟩
  · replace h := h.2 c1
    refine e_iload_n dX5_bundleAt_4 rfl rfl ?_
    refine e_aload_n dX5_bundleAt_5 rfl rfl ?_
    refine e_getI dX5_bundleAt_6 fl_X5_51 (Ob.p hp_p) rfl ?_
    refine e_icmp_lt (tgt := 16) dX5_bundleAt_9 (by decide) (fun c2 => ?_) (fun c2 => ?_)
    · replace h := h.1 c2
      refine e_aload_n dX5_bundleAt_16 rfl rfl ?_
      refine e_getR (y := p + 4) dX5_bundleAt_17 fl_X5_22 (Ob.p hp_p) rfl (rf_p hp_p (by decide)) ?_
      refine e_iload_n dX5_bundleAt_20 rfl rfl ?_
      refine e_iald dX5_bundleAt_21 (Ar.p4 hp_p) h.1 ?_
      replace h := h.2
      refine e_sipush dX5_bundleAt_22 cs_1023 ?_
      refine e_iand dX5_bundleAt_25 ?_
      exact e_iret dX5_bundleAt_26 rfl ⟨_, rfl, h⟩
    · replace h := h.2 c2
      refine e_iconst dX5_bundleAt_12 ci_0 ?_
      refine e_goto (tgt := 26) dX5_bundleAt_13 (by decide) ?_
      exact e_iret dX5_bundleAt_26 rfl ⟨_, rfl, h⟩
def fn_X5_bundleAt (σ : St) (p : Nat) (a1 : Int32) : Int32 := (if a1 < 0 then 0 else (if a1 < (gI σ p 8) then ((gI σ (p + 4) a1.toNatClampNeg) &&& 1023) else 0))
def pre_X5_bundleAt (σ : St) (p : Nat) (a1 : Int32) : Prop := ((a1 < 0 → True) ∧ (¬ a1 < 0 → ((a1 < (gI σ p 8) → vp_in a1 1024 ∧ True) ∧ (¬ a1 < (gI σ p 8) → True))))
theorem sp_X5_bundleAt {d n : Nat} {σ : St} {p : Nat} {a1 : Int32} (hp_p : IsP n p) (hpre : pre_X5_bundleAt σ p a1) : Cn d n M_X5_bundleAt ([], [], [], []) [.ref p, .int a1] σ (liI (fun v σ' => v = fn_X5_bundleAt σ p a1 ∧ σ = σ')) := by
  refine S_X5_bundleAt hp_p ?_
  unfold pre_X5_bundleAt at hpre
  refine ⟨fun c1 => ?_, fun c1 => ?_⟩
  · replace hpre := hpre.1 c1
    exact ⟨by unfold fn_X5_bundleAt; rw [if_pos c1], rfl⟩
  · replace hpre := hpre.2 c1
    refine ⟨fun c2 => ?_, fun c2 => ?_⟩
    · replace hpre := hpre.1 c2
      refine ⟨hpre.1, ?_⟩
      replace hpre := hpre.2
      exact ⟨by unfold fn_X5_bundleAt; rw [if_neg c1, if_pos c2], rfl⟩
    · replace hpre := hpre.2 c2
      exact ⟨by unfold fn_X5_bundleAt; rw [if_neg c1, if_neg c2], rfl⟩
theorem S_X3_isBetter {d n : Nat} {Q : Int32 → St → Prop} {σ : St} {p1 : Nat} {a2 : Int32} {a3 : Int32} (hp_p1 : IsP n p1) (h : vp_in a2 1024 ∧ (((gI σ (p1 + 3) a2.toNatClampNeg) = 0 → Q 0 σ) ∧ (¬ (gI σ (p1 + 3) a2.toNatClampNeg) = 0 → vp_in a2 1024 ∧ (((gI σ (p1 + 2) a2.toNatClampNeg) ≤ a3 → Q 0 σ) ∧ (¬ (gI σ (p1 + 2) a2.toNatClampNeg) ≤ a3 → Q 1 σ))))) : Cn d n M_X3_isBetter md_X3_isBetter [.ref p1, .int a2, .int a3] σ (liI Q) := by
  refine Cn.of (k0 := 0) (by decide) rfl ?_
  show Ev (d, n, md_X3_isBetter, σ, liI Q) M_X3_isBetter 0 [some (.ref p1), some (.int a2), some (.int a3)] [] σ
  refine e_aload_n dX3_isBetter_0 rfl rfl ?_
  refine e_getR (y := p1 + 3) dX3_isBetter_1 fl_X3_57 (Ob.p hp_p1) rfl (rf_p hp_p1 (by decide)) ?_
  refine e_iload_n dX3_isBetter_4 rfl rfl ?_
  refine e_zald dX3_isBetter_5 (Ar.p3 hp_p1) h.1 ?_
  replace h := h.2
  refine e_if_eq (tgt := 23) dX3_isBetter_6 (by decide) (fun c1 => ?_) (fun c1 => ?_)
  · replace h := h.1 c1
    refine e_iconst dX3_isBetter_23 ci_0 ?_
    exact e_zret dX3_isBetter_24 rfl (nar_z (Or.inl rfl)) ⟨_, rfl, h⟩
  · replace h := h.2 c1
    refine e_aload_n dX3_isBetter_9 rfl rfl ?_
    refine e_getR (y := p1 + 2) dX3_isBetter_10 fl_X3_33 (Ob.p hp_p1) rfl (rf_p hp_p1 (by decide)) ?_
    refine e_iload_n dX3_isBetter_13 rfl rfl ?_
    refine e_iald dX3_isBetter_14 (Ar.p2 hp_p1) h.1 ?_
    replace h := h.2
    refine e_iload_n dX3_isBetter_15 rfl rfl ?_
    refine e_icmp_le (tgt := 23) dX3_isBetter_16 (by decide) (fun c2 => ?_) (fun c2 => ?_)
    · replace h := h.1 c2
      refine e_iconst dX3_isBetter_23 ci_0 ?_
      exact e_zret dX3_isBetter_24 rfl (nar_z (Or.inl rfl)) ⟨_, rfl, h⟩
    · replace h := h.2 c2
      refine e_iconst dX3_isBetter_19 ci_1 ?_
      refine e_goto (tgt := 24) dX3_isBetter_20 (by decide) ?_
      exact e_zret dX3_isBetter_24 rfl (nar_z (Or.inr rfl)) ⟨_, rfl, h⟩
def fn_X3_isBetter (σ : St) (p1 : Nat) (a2 : Int32) (a3 : Int32) : Int32 := (if (gI σ (p1 + 3) a2.toNatClampNeg) = 0 then 0 else (if (gI σ (p1 + 2) a2.toNatClampNeg) ≤ a3 then 0 else 1))
def pre_X3_isBetter (σ : St) (p1 : Nat) (a2 : Int32) (a3 : Int32) : Prop := vp_in a2 1024 ∧ (((gI σ (p1 + 3) a2.toNatClampNeg) = 0 → True) ∧ (¬ (gI σ (p1 + 3) a2.toNatClampNeg) = 0 → vp_in a2 1024 ∧ (((gI σ (p1 + 2) a2.toNatClampNeg) ≤ a3 → True) ∧ (¬ (gI σ (p1 + 2) a2.toNatClampNeg) ≤ a3 → True))))
theorem sp_X3_isBetter {d n : Nat} {σ : St} {p1 : Nat} {a2 : Int32} {a3 : Int32} (hp_p1 : IsP n p1) (hpre : pre_X3_isBetter σ p1 a2 a3) : Cn d n M_X3_isBetter ([], [], [], []) [.ref p1, .int a2, .int a3] σ (liI (fun v σ' => v = fn_X3_isBetter σ p1 a2 a3 ∧ σ = σ')) := by
  refine S_X3_isBetter hp_p1 ?_
  unfold pre_X3_isBetter at hpre
  refine ⟨hpre.1, ?_⟩
  replace hpre := hpre.2
  refine ⟨fun c1 => ?_, fun c1 => ?_⟩
  · replace hpre := hpre.1 c1
    exact ⟨by unfold fn_X3_isBetter; rw [if_pos c1], rfl⟩
  · replace hpre := hpre.2 c1
    refine ⟨hpre.1, ?_⟩
    replace hpre := hpre.2
    refine ⟨fun c2 => ?_, fun c2 => ?_⟩
    · replace hpre := hpre.1 c2
      exact ⟨by unfold fn_X3_isBetter; rw [if_neg c1, if_pos c2], rfl⟩
    · replace hpre := hpre.2 c2
      exact ⟨by unfold fn_X3_isBetter; rw [if_neg c1, if_neg c2], rfl⟩
theorem fn_X3_isBetter_01 (σ : St) (p1 : Nat) (a2 : Int32) (a3 : Int32) : fn_X3_isBetter σ p1 a2 a3 = 0 ∨ fn_X3_isBetter σ p1 a2 a3 = 1 := by
  unfold fn_X3_isBetter
  repeat' split
  all_goals first | exact Or.inl rfl | exact Or.inr rfl | simp
theorem S_X3_growth {d n : Nat} {Q : Int32 → St → Prop} {σ : St} {p1 : Nat} {a2 : Int32} {a3 : Int32} (hp_p1 : IsP n p1) (h : vp_in a3 1024 ∧ (((gI σ (p1 + 3) a3.toNatClampNeg) = 0 → Q (-1) σ) ∧ (¬ (gI σ (p1 + 3) a3.toNatClampNeg) = 0 → vp_in a3 1024 ∧ vp_in a2 1024 ∧ Q ((gI σ (p1 + 2) a3.toNatClampNeg) - (gI σ (p1 + 2) a2.toNatClampNeg)) σ))) : Cn d n M_X3_growth md_X3_growth [.ref p1, .int a2, .int a3] σ (liI Q) := by
  refine Cn.of (k0 := 0) (by decide) rfl ?_
  show Ev (d, n, md_X3_growth, σ, liI Q) M_X3_growth 0 [some (.ref p1), some (.int a2), some (.int a3)] [] σ
  refine e_aload_n dX3_growth_0 rfl rfl ?_
  refine e_getR (y := p1 + 3) dX3_growth_1 fl_X3_57 (Ob.p hp_p1) rfl (rf_p hp_p1 (by decide)) ?_
  refine e_iload_n dX3_growth_4 rfl rfl ?_
  refine e_zald dX3_growth_5 (Ar.p3 hp_p1) h.1 ?_
  replace h := h.2
  refine e_if_eq (tgt := 25) dX3_growth_6 (by decide) (fun c1 => ?_) (fun c1 => ?_)
  · replace h := h.1 c1
    refine e_iconst dX3_growth_25 ci_m1 ?_
    exact e_iret dX3_growth_26 rfl ⟨_, rfl, h⟩
  · replace h := h.2 c1
    refine e_aload_n dX3_growth_9 rfl rfl ?_
    refine e_getR (y := p1 + 2) dX3_growth_10 fl_X3_33 (Ob.p hp_p1) rfl (rf_p hp_p1 (by decide)) ?_
    refine e_iload_n dX3_growth_13 rfl rfl ?_
    refine e_iald dX3_growth_14 (Ar.p2 hp_p1) h.1 ?_
    replace h := h.2
    refine e_aload_n dX3_growth_15 rfl rfl ?_
    refine e_getR (y := p1 + 2) dX3_growth_16 fl_X3_33 (Ob.p hp_p1) rfl (rf_p hp_p1 (by decide)) ?_
    refine e_iload_n dX3_growth_19 rfl rfl ?_
    refine e_iald dX3_growth_20 (Ar.p2 hp_p1) h.1 ?_
    replace h := h.2
    refine e_isub dX3_growth_21 ?_
    refine e_goto (tgt := 26) dX3_growth_22 (by decide) ?_
    exact e_iret dX3_growth_26 rfl ⟨_, rfl, h⟩
def fn_X3_growth (σ : St) (p1 : Nat) (a2 : Int32) (a3 : Int32) : Int32 := (if (gI σ (p1 + 3) a3.toNatClampNeg) = 0 then (-1) else ((gI σ (p1 + 2) a3.toNatClampNeg) - (gI σ (p1 + 2) a2.toNatClampNeg)))
def pre_X3_growth (σ : St) (p1 : Nat) (a2 : Int32) (a3 : Int32) : Prop := vp_in a3 1024 ∧ (((gI σ (p1 + 3) a3.toNatClampNeg) = 0 → True) ∧ (¬ (gI σ (p1 + 3) a3.toNatClampNeg) = 0 → vp_in a3 1024 ∧ vp_in a2 1024 ∧ True))
theorem sp_X3_growth {d n : Nat} {σ : St} {p1 : Nat} {a2 : Int32} {a3 : Int32} (hp_p1 : IsP n p1) (hpre : pre_X3_growth σ p1 a2 a3) : Cn d n M_X3_growth ([], [], [], []) [.ref p1, .int a2, .int a3] σ (liI (fun v σ' => v = fn_X3_growth σ p1 a2 a3 ∧ σ = σ')) := by
  refine S_X3_growth hp_p1 ?_
  unfold pre_X3_growth at hpre
  refine ⟨hpre.1, ?_⟩
  replace hpre := hpre.2
  refine ⟨fun c1 => ?_, fun c1 => ?_⟩
  · replace hpre := hpre.1 c1
    exact ⟨by unfold fn_X3_growth; rw [if_pos c1], rfl⟩
  · replace hpre := hpre.2 c1
    refine ⟨hpre.1, ?_⟩
    replace hpre := hpre.2
    refine ⟨hpre.1, ?_⟩
    replace hpre := hpre.2
    exact ⟨by unfold fn_X3_growth; rw [if_neg c1], rfl⟩
theorem S_X3_bitOf {d n : Nat} {Q : Int32 → St → Prop} {σ : St} {a1 : Int32} (h : ((a1 ≠ 10 → Q ((1 : Int32) <<< (a1 &&& 31)) σ) ∧ (a1 = 10 → Q 0 σ))) : Cn d n M_X3_bitOf md_X3_bitOf [.int a1] σ (liI Q) := by
  refine Cn.of (k0 := 0) (by decide) rfl ?_
  show Ev (d, n, md_X3_bitOf, σ, liI Q) M_X3_bitOf 0 [some (.int a1)] [] σ
  refine e_iload_n dX3_bitOf_0 rfl rfl ?_
  refine e_bipush dX3_bitOf_1 cb_10 ?_
  refine e_icmp_ne (tgt := 10) dX3_bitOf_3 (by decide) (fun c1 => ?_) (fun c1 => ?_)
  · replace h := h.1 c1
    refine e_iconst dX3_bitOf_10 ci_1 ?_
    refine e_iload_n dX3_bitOf_11 rfl rfl ?_
    refine e_ishl dX3_bitOf_12 ?_
    exact e_iret dX3_bitOf_13 rfl ⟨_, rfl, h⟩
  · replace h := h.2 c1
    refine e_iconst dX3_bitOf_6 ci_0 ?_
    refine e_goto (tgt := 13) dX3_bitOf_7 (by decide) ?_
    exact e_iret dX3_bitOf_13 rfl ⟨_, rfl, h⟩
def fn_X3_bitOf (a1 : Int32) : Int32 := (if a1 = 10 then 0 else ((1 : Int32) <<< (a1 &&& 31)))
theorem sp_X3_bitOf {d n : Nat} {σ : St} {a1 : Int32} : Cn d n M_X3_bitOf ([], [], [], []) [.int a1] σ (liI (fun v σ' => v = fn_X3_bitOf a1 ∧ σ = σ')) := by
  refine S_X3_bitOf ?_
  refine ⟨fun c1 => ?_, fun c1 => ?_⟩
  · exact ⟨by unfold fn_X3_bitOf; rw [if_neg c1], rfl⟩
  · exact ⟨by unfold fn_X3_bitOf; rw [if_pos c1], rfl⟩
theorem S_X5_worthAt {d n : Nat} {Q : Int32 → St → Prop} {σ : St} {p : Nat} {a1 : Int32} (hp_p : IsP n p) (h : ((a1 < 0 → Q 0 σ) ∧ (¬ a1 < 0 → ((a1 < (gI σ p 8) → vp_in a1 1024 ∧ Q (1000000 - ((gI σ (p + 4) a1.toNatClampNeg) / 1024)) σ) ∧ (¬ a1 < (gI σ p 8) → Q 0 σ))))) : Cn d n M_X5_worthAt md_X5_worthAt [.ref p, .int a1] σ (liI Q) := by
  refine Cn.of (k0 := 0) (by decide) rfl ?_
  show Ev (d, n, md_X5_worthAt, σ, liI Q) M_X5_worthAt 0 [some (.ref p), some (.int a1)] [] σ
  refine e_iload_n dX5_worthAt_0 rfl rfl ?_
  refine e_if_lt (tgt := 12) dX5_worthAt_1 (by decide) (fun c1 => ?_) (fun c1 => ?_)
  · replace h := h.1 c1
    refine e_iconst dX5_worthAt_12 ci_0 ?_
    refine e_goto (tgt := 29) dX5_worthAt_13 (by decide) ?_
    exact e_iret dX5_worthAt_29 rfl ⟨_, rfl, h⟩
  · replace h := h.2 c1
    refine e_iload_n dX5_worthAt_4 rfl rfl ?_
    refine e_aload_n dX5_worthAt_5 rfl rfl ?_
    refine e_getI dX5_worthAt_6 fl_X5_51 (Ob.p hp_p) rfl ?_
    refine e_icmp_lt (tgt := 16) dX5_worthAt_9 (by decide) (fun c2 => ?_) (fun c2 => ?_)
    · replace h := h.1 c2
      refine e_ldc dX5_worthAt_16 ck_X5_75 ?_
      refine e_aload_n dX5_worthAt_18 rfl rfl ?_
      refine e_getR (y := p + 4) dX5_worthAt_19 fl_X5_22 (Ob.p hp_p) rfl (rf_p hp_p (by decide)) ?_
      refine e_iload_n dX5_worthAt_22 rfl rfl ?_
      refine e_iald dX5_worthAt_23 (Ar.p4 hp_p) h.1 ?_
      replace h := h.2
      refine e_sipush dX5_worthAt_24 cs_1024 ?_
      refine e_idiv dX5_worthAt_27 (by decide) ?_
      refine e_isub dX5_worthAt_28 ?_
      exact e_iret dX5_worthAt_29 rfl ⟨_, rfl, h⟩
    · replace h := h.2 c2
      refine e_iconst dX5_worthAt_12 ci_0 ?_
      refine e_goto (tgt := 29) dX5_worthAt_13 (by decide) ?_
      exact e_iret dX5_worthAt_29 rfl ⟨_, rfl, h⟩
def fn_X5_worthAt (σ : St) (p : Nat) (a1 : Int32) : Int32 := (if a1 < 0 then 0 else (if a1 < (gI σ p 8) then (1000000 - ((gI σ (p + 4) a1.toNatClampNeg) / 1024)) else 0))
def pre_X5_worthAt (σ : St) (p : Nat) (a1 : Int32) : Prop := ((a1 < 0 → True) ∧ (¬ a1 < 0 → ((a1 < (gI σ p 8) → vp_in a1 1024 ∧ True) ∧ (¬ a1 < (gI σ p 8) → True))))
theorem sp_X5_worthAt {d n : Nat} {σ : St} {p : Nat} {a1 : Int32} (hp_p : IsP n p) (hpre : pre_X5_worthAt σ p a1) : Cn d n M_X5_worthAt ([], [], [], []) [.ref p, .int a1] σ (liI (fun v σ' => v = fn_X5_worthAt σ p a1 ∧ σ = σ')) := by
  refine S_X5_worthAt hp_p ?_
  unfold pre_X5_worthAt at hpre
  refine ⟨fun c1 => ?_, fun c1 => ?_⟩
  · replace hpre := hpre.1 c1
    exact ⟨by unfold fn_X5_worthAt; rw [if_pos c1], rfl⟩
  · replace hpre := hpre.2 c1
    refine ⟨fun c2 => ?_, fun c2 => ?_⟩
    · replace hpre := hpre.1 c2
      refine ⟨hpre.1, ?_⟩
      replace hpre := hpre.2
      exact ⟨by unfold fn_X5_worthAt; rw [if_neg c1, if_pos c2], rfl⟩
    · replace hpre := hpre.2 c2
      exact ⟨by unfold fn_X5_worthAt; rw [if_neg c1, if_neg c2], rfl⟩
theorem S_X4_costOf {d n : Nat} {Q : Int32 → St → Prop} {σ : St} {a1 : Int32} (hn : FIX ≤ n) (h : vp_in (a1 &&& 31) 32 ∧ vp_in ((a1 >>> (5 &&& 31)) &&& 31) 32 ∧ Q ((gI σ 26 (a1 &&& 31).toNatClampNeg) + (gI σ 27 ((a1 >>> (5 &&& 31)) &&& 31).toNatClampNeg)) σ) : Cn d n M_X4_costOf md_X4_costOf [.ref 6, .int a1] σ (liI Q) := by
  refine Cn.of (k0 := 0) (by decide) rfl ?_
  show Ev (d, n, md_X4_costOf, σ, liI Q) M_X4_costOf 0 [some (.ref 6), some (.int a1)] [] σ
  refine e_aload_n dX4_costOf_0 rfl rfl ?_
  refine e_getR (y := 26) dX4_costOf_1 fl_X4_22 (ob_6 hn) rfl rfl ?_
  refine e_iload_n dX4_costOf_4 rfl rfl ?_
  refine e_bipush dX4_costOf_5 cb_31 ?_
  refine e_iand dX4_costOf_7 ?_
  refine e_iald dX4_costOf_8 (ar_26 hn) h.1 ?_
  replace h := h.2
  refine e_aload_n dX4_costOf_9 rfl rfl ?_
  refine e_getR (y := 27) dX4_costOf_10 fl_X4_25 (ob_6 hn) rfl rfl ?_
  refine e_iload_n dX4_costOf_13 rfl rfl ?_
  refine e_iconst dX4_costOf_14 ci_5 ?_
  refine e_ishr dX4_costOf_15 ?_
  refine e_bipush dX4_costOf_16 cb_31 ?_
  refine e_iand dX4_costOf_18 ?_
  refine e_iald dX4_costOf_19 (ar_27 hn) h.1 ?_
  replace h := h.2
  refine e_iadd dX4_costOf_20 ?_
  exact e_iret dX4_costOf_21 rfl ⟨_, rfl, h⟩
def fn_X4_costOf (σ : St) (a1 : Int32) : Int32 := ((gI σ 26 (a1 &&& 31).toNatClampNeg) + (gI σ 27 ((a1 >>> (5 &&& 31)) &&& 31).toNatClampNeg))
def pre_X4_costOf (σ : St) (a1 : Int32) : Prop := vp_in (a1 &&& 31) 32 ∧ vp_in ((a1 >>> (5 &&& 31)) &&& 31) 32 ∧ True
theorem sp_X4_costOf {d n : Nat} {σ : St} {a1 : Int32} (hn : FIX ≤ n) (hpre : pre_X4_costOf σ a1) : Cn d n M_X4_costOf ([], [], [], []) [.ref 6, .int a1] σ (liI (fun v σ' => v = fn_X4_costOf σ a1 ∧ σ = σ')) := by
  refine S_X4_costOf hn ?_
  unfold pre_X4_costOf at hpre
  refine ⟨hpre.1, ?_⟩
  replace hpre := hpre.2
  refine ⟨hpre.1, ?_⟩
  replace hpre := hpre.2
  exact ⟨by unfold fn_X4_costOf; rfl, rfl⟩
theorem S_X6_isLesson {d n : Nat} {Q : Int32 → St → Prop} {σ : St} {a1 : Int32} (hn : FIX ≤ n) (h : ((a1 < 0 → Q 0 σ) ∧ (¬ a1 < 0 → (((gI σ 1 0) ≤ a1 → Q 0 σ) ∧ (¬ (gI σ 1 0) ≤ a1 → Q 1 σ))))) : Cn d n M_X6_isLesson md_X6_isLesson [.ref 1, .int a1] σ (liI Q) := by
  refine Cn.of (k0 := 0) (by decide) rfl ?_
  show Ev (d, n, md_X6_isLesson, σ, liI Q) M_X6_isLesson 0 [some (.ref 1), some (.int a1)] [] σ
  refine e_iload_n dX6_isLesson_0 rfl rfl ?_
  refine e_if_lt (tgt := 16) dX6_isLesson_1 (by decide) (fun c1 => ?_) (fun c1 => ?_)
  · replace h := h.1 c1
    refine e_iconst dX6_isLesson_16 ci_0 ?_
    exact e_zret dX6_isLesson_17 rfl (nar_z (Or.inl rfl)) ⟨_, rfl, h⟩
  · replace h := h.2 c1
    refine e_iload_n dX6_isLesson_4 rfl rfl ?_
    refine e_aload_n dX6_isLesson_5 rfl rfl ?_
    refine e_getI dX6_isLesson_6 fl_X6_31 (ob_1 hn) rfl ?_
    refine e_icmp_ge (tgt := 16) dX6_isLesson_9 (by decide) (fun c2 => ?_) (fun c2 => ?_)
    · replace h := h.1 c2
      refine e_iconst dX6_isLesson_16 ci_0 ?_
      exact e_zret dX6_isLesson_17 rfl (nar_z (Or.inl rfl)) ⟨_, rfl, h⟩
    · replace h := h.2 c2
      refine e_iconst dX6_isLesson_12 ci_1 ?_
      refine e_goto (tgt := 17) dX6_isLesson_13 (by decide) ?_
      exact e_zret dX6_isLesson_17 rfl (nar_z (Or.inr rfl)) ⟨_, rfl, h⟩
def fn_X6_isLesson (σ : St) (a1 : Int32) : Int32 := (if a1 < 0 then 0 else (if (gI σ 1 0) ≤ a1 then 0 else 1))
theorem sp_X6_isLesson {d n : Nat} {σ : St} {a1 : Int32} (hn : FIX ≤ n) : Cn d n M_X6_isLesson ([], [], [], []) [.ref 1, .int a1] σ (liI (fun v σ' => v = fn_X6_isLesson σ a1 ∧ σ = σ')) := by
  refine S_X6_isLesson hn ?_
  refine ⟨fun c1 => ?_, fun c1 => ?_⟩
  · exact ⟨by unfold fn_X6_isLesson; rw [if_pos c1], rfl⟩
  · refine ⟨fun c2 => ?_, fun c2 => ?_⟩
    · exact ⟨by unfold fn_X6_isLesson; rw [if_neg c1, if_pos c2], rfl⟩
    · exact ⟨by unfold fn_X6_isLesson; rw [if_neg c1, if_neg c2], rfl⟩
theorem fn_X6_isLesson_01 (σ : St) (a1 : Int32) : fn_X6_isLesson σ a1 = 0 ∨ fn_X6_isLesson σ a1 = 1 := by
  unfold fn_X6_isLesson
  repeat' split
  all_goals first | exact Or.inl rfl | exact Or.inr rfl | simp
theorem S_X7_kind {d n : Nat} {Q : Int32 → St → Prop} {σ : St}  (hn : FIX ≤ n) (h : vp_in (gI σ 5 1) 401 ∧ Q (gI σ 20 (gI σ 5 1).toNatClampNeg) σ) : Cn d n M_X7_kind md_X7_kind [.ref 5] σ (liI Q) := by
  refine Cn.of (k0 := 0) (by decide) rfl ?_
  show Ev (d, n, md_X7_kind, σ, liI Q) M_X7_kind 0 [some (.ref 5)] [] σ
  refine e_aload_n dX7_kind_0 rfl rfl ?_
  refine e_getR (y := 4) dX7_kind_1 fl_X7_19 (ob_5 hn) rfl rfl ?_
  refine e_getR (y := 20) dX7_kind_4 fl_X7_49 (ob_4 hn) rfl rfl ?_
  refine e_aload_n dX7_kind_7 rfl rfl ?_
  refine e_getI dX7_kind_8 fl_X7_29 (ob_5 hn) rfl ?_
  refine e_iald dX7_kind_11 (ar_20 hn) h.1 ?_
  replace h := h.2
  exact e_iret dX7_kind_12 rfl ⟨_, rfl, h⟩
def fn_X7_kind (σ : St) : Int32 := (gI σ 20 (gI σ 5 1).toNatClampNeg)
def pre_X7_kind (σ : St) : Prop := vp_in (gI σ 5 1) 401 ∧ True
theorem sp_X7_kind {d n : Nat} {σ : St}  (hn : FIX ≤ n) (hpre : pre_X7_kind σ) : Cn d n M_X7_kind ([], [], [], []) [.ref 5] σ (liI (fun v σ' => v = fn_X7_kind σ ∧ σ = σ')) := by
  refine S_X7_kind hn ?_
  unfold pre_X7_kind at hpre
  refine ⟨hpre.1, ?_⟩
  replace hpre := hpre.2
  exact ⟨by unfold fn_X7_kind; rfl, rfl⟩
theorem S_X9_isLetter {d n : Nat} {Q : Int32 → St → Prop} {σ : St} {a1 : Int32} (h : ((a1 < 97 → Q 0 σ) ∧ (¬ a1 < 97 → (((122 : Int32) < a1 → Q 0 σ) ∧ (¬ (122 : Int32) < a1 → Q 1 σ))))) : Cn d n M_X9_isLetter md_X9_isLetter [.int a1] σ (liI Q) := by
  refine Cn.of (k0 := 0) (by decide) rfl ?_
  show Ev (d, n, md_X9_isLetter, σ, liI Q) M_X9_isLetter 0 [some (.int a1)] [] σ
  refine e_iload_n dX9_isLetter_0 rfl rfl ?_
  refine e_bipush dX9_isLetter_1 cb_97 ?_
  refine e_icmp_lt (tgt := 16) dX9_isLetter_3 (by decide) (fun c1 => ?_) (fun c1 => ?_)
  · replace h := h.1 c1
    refine e_iconst dX9_isLetter_16 ci_0 ?_
    exact e_zret dX9_isLetter_17 rfl (nar_z (Or.inl rfl)) ⟨_, rfl, h⟩
  · replace h := h.2 c1
    refine e_iload_n dX9_isLetter_6 rfl rfl ?_
    refine e_bipush dX9_isLetter_7 cb_122 ?_
    refine e_icmp_gt (tgt := 16) dX9_isLetter_9 (by decide) (fun c2 => ?_) (fun c2 => ?_)
    · replace h := h.1 c2
      refine e_iconst dX9_isLetter_16 ci_0 ?_
      exact e_zret dX9_isLetter_17 rfl (nar_z (Or.inl rfl)) ⟨_, rfl, h⟩
    · replace h := h.2 c2
      refine e_iconst dX9_isLetter_12 ci_1 ?_
      refine e_goto (tgt := 17) dX9_isLetter_13 (by decide) ?_
      exact e_zret dX9_isLetter_17 rfl (nar_z (Or.inr rfl)) ⟨_, rfl, h⟩
def fn_X9_isLetter (a1 : Int32) : Int32 := (if a1 < 97 then 0 else (if (122 : Int32) < a1 then 0 else 1))
theorem sp_X9_isLetter {d n : Nat} {σ : St} {a1 : Int32} : Cn d n M_X9_isLetter ([], [], [], []) [.int a1] σ (liI (fun v σ' => v = fn_X9_isLetter a1 ∧ σ = σ')) := by
  refine S_X9_isLetter ?_
  refine ⟨fun c1 => ?_, fun c1 => ?_⟩
  · exact ⟨by unfold fn_X9_isLetter; rw [if_pos c1], rfl⟩
  · refine ⟨fun c2 => ?_, fun c2 => ?_⟩
    · exact ⟨by unfold fn_X9_isLetter; rw [if_neg c1, if_pos c2], rfl⟩
    · exact ⟨by unfold fn_X9_isLetter; rw [if_neg c1, if_neg c2], rfl⟩
theorem fn_X9_isLetter_01 (a1 : Int32) : fn_X9_isLetter a1 = 0 ∨ fn_X9_isLetter a1 = 1 := by
  unfold fn_X9_isLetter
  repeat' split
  all_goals first | exact Or.inl rfl | exact Or.inr rfl | simp
theorem S_X9_isDigit {d n : Nat} {Q : Int32 → St → Prop} {σ : St} {a1 : Int32} (h : ((a1 < 48 → Q 0 σ) ∧ (¬ a1 < 48 → (((57 : Int32) < a1 → Q 0 σ) ∧ (¬ (57 : Int32) < a1 → Q 1 σ))))) : Cn d n M_X9_isDigit md_X9_isDigit [.int a1] σ (liI Q) := by
  refine Cn.of (k0 := 0) (by decide) rfl ?_
  show Ev (d, n, md_X9_isDigit, σ, liI Q) M_X9_isDigit 0 [some (.int a1)] [] σ
  refine e_iload_n dX9_isDigit_0 rfl rfl ?_
  refine e_bipush dX9_isDigit_1 cb_48 ?_
  refine e_icmp_lt (tgt := 16) dX9_isDigit_3 (by decide) (fun c1 => ?_) (fun c1 => ?_)
  · replace h := h.1 c1
    refine e_iconst dX9_isDigit_16 ci_0 ?_
    exact e_zret dX9_isDigit_17 rfl (nar_z (Or.inl rfl)) ⟨_, rfl, h⟩
  · replace h := h.2 c1
    refine e_iload_n dX9_isDigit_6 rfl rfl ?_
    refine e_bipush dX9_isDigit_7 cb_57 ?_
    refine e_icmp_gt (tgt := 16) dX9_isDigit_9 (by decide) (fun c2 => ?_) (fun c2 => ?_)
    · replace h := h.1 c2
      refine e_iconst dX9_isDigit_16 ci_0 ?_
      exact e_zret dX9_isDigit_17 rfl (nar_z (Or.inl rfl)) ⟨_, rfl, h⟩
    · replace h := h.2 c2
      refine e_iconst dX9_isDigit_12 ci_1 ?_
      refine e_goto (tgt := 17) dX9_isDigit_13 (by decide) ?_
      exact e_zret dX9_isDigit_17 rfl (nar_z (Or.inr rfl)) ⟨_, rfl, h⟩
def fn_X9_isDigit (a1 : Int32) : Int32 := (if a1 < 48 then 0 else (if (57 : Int32) < a1 then 0 else 1))
theorem sp_X9_isDigit {d n : Nat} {σ : St} {a1 : Int32} : Cn d n M_X9_isDigit ([], [], [], []) [.int a1] σ (liI (fun v σ' => v = fn_X9_isDigit a1 ∧ σ = σ')) := by
  refine S_X9_isDigit ?_
  refine ⟨fun c1 => ?_, fun c1 => ?_⟩
  · exact ⟨by unfold fn_X9_isDigit; rw [if_pos c1], rfl⟩
  · refine ⟨fun c2 => ?_, fun c2 => ?_⟩
    · exact ⟨by unfold fn_X9_isDigit; rw [if_neg c1, if_pos c2], rfl⟩
    · exact ⟨by unfold fn_X9_isDigit; rw [if_neg c1, if_neg c2], rfl⟩
theorem fn_X9_isDigit_01 (a1 : Int32) : fn_X9_isDigit a1 = 0 ∨ fn_X9_isDigit a1 = 1 := by
  unfold fn_X9_isDigit
  repeat' split
  all_goals first | exact Or.inl rfl | exact Or.inr rfl | simp
theorem S_X11_isPurse {d n : Nat} {Q : Int32 → St → Prop} {σ : St} {a1 : Int32} (h : ((a1 < 0 → Q 0 σ) ∧ (¬ a1 < 0 → (((200 : Int32) < a1 → Q 0 σ) ∧ (¬ (200 : Int32) < a1 → Q 1 σ))))) : Cn d n M_X11_isPurse md_X11_isPurse [.int a1] σ (liI Q) := by
  refine Cn.of (k0 := 0) (by decide) rfl ?_
  show Ev (d, n, md_X11_isPurse, σ, liI Q) M_X11_isPurse 0 [some (.int a1)] [] σ
  refine e_iload_n dX11_isPurse_0 rfl rfl ?_
  refine e_if_lt (tgt := 15) dX11_isPurse_1 (by decide) (fun c1 => ?_) (fun c1 => ?_)
  · replace h := h.1 c1
    refine e_iconst dX11_isPurse_15 ci_0 ?_
    exact e_zret dX11_isPurse_16 rfl (nar_z (Or.inl rfl)) ⟨_, rfl, h⟩
  · replace h := h.2 c1
    refine e_iload_n dX11_isPurse_4 rfl rfl ?_
    refine e_sipush dX11_isPurse_5 cs_200 ?_
    refine e_icmp_gt (tgt := 15) dX11_isPurse_8 (by decide) (fun c2 => ?_) (fun c2 => ?_)
    · replace h := h.1 c2
      refine e_iconst dX11_isPurse_15 ci_0 ?_
      exact e_zret dX11_isPurse_16 rfl (nar_z (Or.inl rfl)) ⟨_, rfl, h⟩
    · replace h := h.2 c2
      refine e_iconst dX11_isPurse_11 ci_1 ?_
      refine e_goto (tgt := 16) dX11_isPurse_12 (by decide) ?_
      exact e_zret dX11_isPurse_16 rfl (nar_z (Or.inr rfl)) ⟨_, rfl, h⟩
def fn_X11_isPurse (a1 : Int32) : Int32 := (if a1 < 0 then 0 else (if (200 : Int32) < a1 then 0 else 1))
theorem sp_X11_isPurse {d n : Nat} {σ : St} {a1 : Int32} : Cn d n M_X11_isPurse ([], [], [], []) [.int a1] σ (liI (fun v σ' => v = fn_X11_isPurse a1 ∧ σ = σ')) := by
  refine S_X11_isPurse ?_
  refine ⟨fun c1 => ?_, fun c1 => ?_⟩
  · exact ⟨by unfold fn_X11_isPurse; rw [if_pos c1], rfl⟩
  · refine ⟨fun c2 => ?_, fun c2 => ?_⟩
    · exact ⟨by unfold fn_X11_isPurse; rw [if_neg c1, if_pos c2], rfl⟩
    · exact ⟨by unfold fn_X11_isPurse; rw [if_neg c1, if_neg c2], rfl⟩
theorem fn_X11_isPurse_01 (a1 : Int32) : fn_X11_isPurse a1 = 0 ∨ fn_X11_isPurse a1 = 1 := by
  unfold fn_X11_isPurse
  repeat' split
  all_goals first | exact Or.inl rfl | exact Or.inr rfl | simp
theorem S_X11_fault {d n : Nat} {Q : Int32 → St → Prop} {σ : St}  (hn : FIX ≤ n) (h : Q (gI σ 0 12) σ) : Cn d n M_X11_fault md_X11_fault [.ref 0] σ (liI Q) := by
  refine Cn.of (k0 := 0) (by decide) rfl ?_
  show Ev (d, n, md_X11_fault, σ, liI Q) M_X11_fault 0 [some (.ref 0)] [] σ
  refine e_aload_n dX11_fault_0 rfl rfl ?_
  refine e_getI dX11_fault_1 fl_X11_102 (ob_0 hn) rfl ?_
  exact e_iret dX11_fault_4 rfl ⟨_, rfl, h⟩
def fn_X11_fault (σ : St) : Int32 := (gI σ 0 12)
theorem sp_X11_fault {d n : Nat} {σ : St}  (hn : FIX ≤ n) : Cn d n M_X11_fault ([], [], [], []) [.ref 0] σ (liI (fun v σ' => v = fn_X11_fault σ ∧ σ = σ')) := by
  refine S_X11_fault hn ?_
  exact ⟨by unfold fn_X11_fault; rfl, rfl⟩
theorem S_X11_isBundle {d n : Nat} {Q : Int32 → St → Prop} {σ : St} {a1 : Int32} (h : ((a1 < 0 → Q 0 σ) ∧ (¬ a1 < 0 → (((1024 : Int32) ≤ a1 → Q 0 σ) ∧ (¬ (1024 : Int32) ≤ a1 → Q 1 σ))))) : Cn d n M_X11_isBundle md_X11_isBundle [.int a1] σ (liI Q) := by
  refine Cn.of (k0 := 0) (by decide) rfl ?_
  show Ev (d, n, md_X11_isBundle, σ, liI Q) M_X11_isBundle 0 [some (.int a1)] [] σ
  refine e_iload_n dX11_isBundle_0 rfl rfl ?_
  refine e_if_lt (tgt := 15) dX11_isBundle_1 (by decide) (fun c1 => ?_) (fun c1 => ?_)
  · replace h := h.1 c1
    refine e_iconst dX11_isBundle_15 ci_0 ?_
    exact e_zret dX11_isBundle_16 rfl (nar_z (Or.inl rfl)) ⟨_, rfl, h⟩
  · replace h := h.2 c1
    refine e_iload_n dX11_isBundle_4 rfl rfl ?_
    refine e_sipush dX11_isBundle_5 cs_1024 ?_
    refine e_icmp_ge (tgt := 15) dX11_isBundle_8 (by decide) (fun c2 => ?_) (fun c2 => ?_)
    · replace h := h.1 c2
      refine e_iconst dX11_isBundle_15 ci_0 ?_
      exact e_zret dX11_isBundle_16 rfl (nar_z (Or.inl rfl)) ⟨_, rfl, h⟩
    · replace h := h.2 c2
      refine e_iconst dX11_isBundle_11 ci_1 ?_
      refine e_goto (tgt := 16) dX11_isBundle_12 (by decide) ?_
      exact e_zret dX11_isBundle_16 rfl (nar_z (Or.inr rfl)) ⟨_, rfl, h⟩
def fn_X11_isBundle (a1 : Int32) : Int32 := (if a1 < 0 then 0 else (if (1024 : Int32) ≤ a1 then 0 else 1))
theorem sp_X11_isBundle {d n : Nat} {σ : St} {a1 : Int32} : Cn d n M_X11_isBundle ([], [], [], []) [.int a1] σ (liI (fun v σ' => v = fn_X11_isBundle a1 ∧ σ = σ')) := by
  refine S_X11_isBundle ?_
  refine ⟨fun c1 => ?_, fun c1 => ?_⟩
  · exact ⟨by unfold fn_X11_isBundle; rw [if_pos c1], rfl⟩
  · refine ⟨fun c2 => ?_, fun c2 => ?_⟩
    · exact ⟨by unfold fn_X11_isBundle; rw [if_neg c1, if_pos c2], rfl⟩
    · exact ⟨by unfold fn_X11_isBundle; rw [if_neg c1, if_neg c2], rfl⟩
theorem fn_X11_isBundle_01 (a1 : Int32) : fn_X11_isBundle a1 = 0 ∨ fn_X11_isBundle a1 = 1 := by
  unfold fn_X11_isBundle
  repeat' split
  all_goals first | exact Or.inl rfl | exact Or.inr rfl | simp
theorem S_X11_isWay {d n : Nat} {Q : Int32 → St → Prop} {σ : St} {a1 : Int32} (h : ((a1 < 0 → Q 0 σ) ∧ (¬ a1 < 0 → (((6 : Int32) ≤ a1 → Q 0 σ) ∧ (¬ (6 : Int32) ≤ a1 → Q 1 σ))))) : Cn d n M_X11_isWay md_X11_isWay [.int a1] σ (liI Q) := by
  refine Cn.of (k0 := 0) (by decide) rfl ?_
  show Ev (d, n, md_X11_isWay, σ, liI Q) M_X11_isWay 0 [some (.int a1)] [] σ
  refine e_iload_n dX11_isWay_0 rfl rfl ?_
  refine e_if_lt (tgt := 14) dX11_isWay_1 (by decide) (fun c1 => ?_) (fun c1 => ?_)
  · replace h := h.1 c1
    refine e_iconst dX11_isWay_14 ci_0 ?_
    exact e_zret dX11_isWay_15 rfl (nar_z (Or.inl rfl)) ⟨_, rfl, h⟩
  · replace h := h.2 c1
    refine e_iload_n dX11_isWay_4 rfl rfl ?_
    refine e_bipush dX11_isWay_5 cb_6 ?_
    refine e_icmp_ge (tgt := 14) dX11_isWay_7 (by decide) (fun c2 => ?_) (fun c2 => ?_)
    · replace h := h.1 c2
      refine e_iconst dX11_isWay_14 ci_0 ?_
      exact e_zret dX11_isWay_15 rfl (nar_z (Or.inl rfl)) ⟨_, rfl, h⟩
    · replace h := h.2 c2
      refine e_iconst dX11_isWay_10 ci_1 ?_
      refine e_goto (tgt := 15) dX11_isWay_11 (by decide) ?_
      exact e_zret dX11_isWay_15 rfl (nar_z (Or.inr rfl)) ⟨_, rfl, h⟩
def fn_X11_isWay (a1 : Int32) : Int32 := (if a1 < 0 then 0 else (if (6 : Int32) ≤ a1 then 0 else 1))
theorem sp_X11_isWay {d n : Nat} {σ : St} {a1 : Int32} : Cn d n M_X11_isWay ([], [], [], []) [.int a1] σ (liI (fun v σ' => v = fn_X11_isWay a1 ∧ σ = σ')) := by
  refine S_X11_isWay ?_
  refine ⟨fun c1 => ?_, fun c1 => ?_⟩
  · exact ⟨by unfold fn_X11_isWay; rw [if_pos c1], rfl⟩
  · refine ⟨fun c2 => ?_, fun c2 => ?_⟩
    · exact ⟨by unfold fn_X11_isWay; rw [if_neg c1, if_pos c2], rfl⟩
    · exact ⟨by unfold fn_X11_isWay; rw [if_neg c1, if_neg c2], rfl⟩
theorem fn_X11_isWay_01 (a1 : Int32) : fn_X11_isWay a1 = 0 ∨ fn_X11_isWay a1 = 1 := by
  unfold fn_X11_isWay
  repeat' split
  all_goals first | exact Or.inl rfl | exact Or.inr rfl | simp
theorem S_X12_isIn {d n : Nat} {Q : Int32 → St → Prop} {σ : St} {a1 : Int32} {a2 : Int32} {a3 : Int32} (h : ((a1 < a2 → Q 0 σ) ∧ (¬ a1 < a2 → ((a3 < a1 → Q 0 σ) ∧ (¬ a3 < a1 → Q 1 σ))))) : Cn d n M_X12_isIn md_X12_isIn [.int a1, .int a2, .int a3] σ (liI Q) := by
  refine Cn.of (k0 := 0) (by decide) rfl ?_
  show Ev (d, n, md_X12_isIn, σ, liI Q) M_X12_isIn 0 [some (.int a1), some (.int a2), some (.int a3)] [] σ
  refine e_iload_n dX12_isIn_0 rfl rfl ?_
  refine e_iload_n dX12_isIn_1 rfl rfl ?_
  refine e_icmp_lt (tgt := 14) dX12_isIn_2 (by decide) (fun c1 => ?_) (fun c1 => ?_)
  · replace h := h.1 c1
    refine e_iconst dX12_isIn_14 ci_0 ?_
    exact e_zret dX12_isIn_15 rfl (nar_z (Or.inl rfl)) ⟨_, rfl, h⟩
  · replace h := h.2 c1
    refine e_iload_n dX12_isIn_5 rfl rfl ?_
    refine e_iload_n dX12_isIn_6 rfl rfl ?_
    refine e_icmp_gt (tgt := 14) dX12_isIn_7 (by decide) (fun c2 => ?_) (fun c2 => ?_)
    · replace h := h.1 c2
      refine e_iconst dX12_isIn_14 ci_0 ?_
      exact e_zret dX12_isIn_15 rfl (nar_z (Or.inl rfl)) ⟨_, rfl, h⟩
    · replace h := h.2 c2
      refine e_iconst dX12_isIn_10 ci_1 ?_
      refine e_goto (tgt := 15) dX12_isIn_11 (by decide) ?_
      exact e_zret dX12_isIn_15 rfl (nar_z (Or.inr rfl)) ⟨_, rfl, h⟩
def fn_X12_isIn (a1 : Int32) (a2 : Int32) (a3 : Int32) : Int32 := (if a1 < a2 then 0 else (if a3 < a1 then 0 else 1))
theorem sp_X12_isIn {d n : Nat} {σ : St} {a1 : Int32} {a2 : Int32} {a3 : Int32} : Cn d n M_X12_isIn ([], [], [], []) [.int a1, .int a2, .int a3] σ (liI (fun v σ' => v = fn_X12_isIn a1 a2 a3 ∧ σ = σ')) := by
  refine S_X12_isIn ?_
  refine ⟨fun c1 => ?_, fun c1 => ?_⟩
  · exact ⟨by unfold fn_X12_isIn; rw [if_pos c1], rfl⟩
  · refine ⟨fun c2 => ?_, fun c2 => ?_⟩
    · exact ⟨by unfold fn_X12_isIn; rw [if_neg c1, if_pos c2], rfl⟩
    · exact ⟨by unfold fn_X12_isIn; rw [if_neg c1, if_neg c2], rfl⟩
theorem fn_X12_isIn_01 (a1 : Int32) (a2 : Int32) (a3 : Int32) : fn_X12_isIn a1 a2 a3 = 0 ∨ fn_X12_isIn a1 a2 a3 = 1 := by
  unfold fn_X12_isIn
  repeat' split
  all_goals first | exact Or.inl rfl | exact Or.inr rfl | simp
theorem S_X12_one {d n : Nat} {Q : Int32 → St → Prop} {σ : St} {a1 : Int32} (h : ((a1 = 0 → Q 0 σ) ∧ (¬ a1 = 0 → Q 1 σ))) : Cn d n M_X12_one md_X12_one [.int a1] σ (liI Q) := by
  refine Cn.of (k0 := 0) (by decide) rfl ?_
  show Ev (d, n, md_X12_one, σ, liI Q) M_X12_one 0 [some (.int a1)] [] σ
  refine e_iload_n dX12_one_0 rfl rfl ?_
  refine e_if_eq (tgt := 8) dX12_one_1 (by decide) (fun c1 => ?_) (fun c1 => ?_)
  · replace h := h.1 c1
    refine e_iconst dX12_one_8 ci_0 ?_
    exact e_iret dX12_one_9 rfl ⟨_, rfl, h⟩
  · replace h := h.2 c1
    refine e_iconst dX12_one_4 ci_1 ?_
    refine e_goto (tgt := 9) dX12_one_5 (by decide) ?_
    exact e_iret dX12_one_9 rfl ⟨_, rfl, h⟩
def fn_X12_one (a1 : Int32) : Int32 := (if a1 = 0 then 0 else 1)
theorem sp_X12_one {d n : Nat} {σ : St} {a1 : Int32} : Cn d n M_X12_one ([], [], [], []) [.int a1] σ (liI (fun v σ' => v = fn_X12_one a1 ∧ σ = σ')) := by
  refine S_X12_one ?_
  refine ⟨fun c1 => ?_, fun c1 => ?_⟩
  · exact ⟨by unfold fn_X12_one; rw [if_pos c1], rfl⟩
  · exact ⟨by unfold fn_X12_one; rw [if_neg c1], rfl⟩
theorem S_X12_holds {d n : Nat} {Q : Int32 → St → Prop} {σ : St} {a1 : Int32} {a2 : Int32} (h : ((((a1 >>> (a2 &&& 31)) &&& 1) ≠ 1 → Q 0 σ) ∧ (((a1 >>> (a2 &&& 31)) &&& 1) = 1 → Q 1 σ))) : Cn d n M_X12_holds md_X12_holds [.int a1, .int a2] σ (liI Q) := by
  refine Cn.of (k0 := 0) (by decide) rfl ?_
  show Ev (d, n, md_X12_holds, σ, liI Q) M_X12_holds 0 [some (.int a1), some (.int a2)] [] σ
  refine e_iload_n dX12_holds_0 rfl rfl ?_
  refine e_iload_n dX12_holds_1 rfl rfl ?_
  refine e_ishr dX12_holds_2 ?_
  refine e_iconst dX12_holds_3 ci_1 ?_
  refine e_iand dX12_holds_4 ?_
  refine e_iconst dX12_holds_5 ci_1 ?_
  refine e_icmp_ne (tgt := 13) dX12_holds_6 (by decide) (fun c1 => ?_) (fun c1 => ?_)
  · replace h := h.1 c1
    refine e_iconst dX12_holds_13 ci_0 ?_
    exact e_zret dX12_holds_14 rfl (nar_z (Or.inl rfl)) ⟨_, rfl, h⟩
  · replace h := h.2 c1
    refine e_iconst dX12_holds_9 ci_1 ?_
    refine e_goto (tgt := 14) dX12_holds_10 (by decide) ?_
    exact e_zret dX12_holds_14 rfl (nar_z (Or.inr rfl)) ⟨_, rfl, h⟩
def fn_X12_holds (a1 : Int32) (a2 : Int32) : Int32 := (if ((a1 >>> (a2 &&& 31)) &&& 1) = 1 then 1 else 0)
theorem sp_X12_holds {d n : Nat} {σ : St} {a1 : Int32} {a2 : Int32} : Cn d n M_X12_holds ([], [], [], []) [.int a1, .int a2] σ (liI (fun v σ' => v = fn_X12_holds a1 a2 ∧ σ = σ')) := by
  refine S_X12_holds ?_
  refine ⟨fun c1 => ?_, fun c1 => ?_⟩
  · exact ⟨by unfold fn_X12_holds; rw [if_neg c1], rfl⟩
  · exact ⟨by unfold fn_X12_holds; rw [if_pos c1], rfl⟩
theorem fn_X12_holds_01 (a1 : Int32) (a2 : Int32) : fn_X12_holds a1 a2 = 0 ∨ fn_X12_holds a1 a2 = 1 := by
  unfold fn_X12_holds
  repeat' split
  all_goals first | exact Or.inl rfl | exact Or.inr rfl | simp
theorem S_X12_isLesson {d n : Nat} {Q : Int32 → St → Prop} {σ : St} {a1 : Int32} (hn : FIX ≤ n) (hd : 1 ≤ d) (h : Q (fn_X12_isIn a1 0 ((gI σ 11 0) - 1)) σ) : Cn d n M_X12_isLesson md_X12_isLesson [.ref 11, .int a1] σ (liI Q) := by
  refine Cn.of (k0 := 0) (by decide) rfl ?_
  show Ev (d, n, md_X12_isLesson, σ, liI Q) M_X12_isLesson 0 [some (.ref 11), some (.int a1)] [] σ
  refine e_iload_n dX12_isLesson_0 rfl rfl ?_
  refine e_iconst dX12_isLesson_1 ci_0 ?_
  refine e_aload_n dX12_isLesson_2 rfl rfl ?_
  refine e_getI dX12_isLesson_3 fl_X12_131 (ob_11 hn) rfl ?_
  refine e_iconst dX12_isLesson_6 ci_1 ?_
  refine e_isub dX12_isLesson_7 ?_
  refine e_callS (M' := M_X12_isIn) (as := [.int a1, .int 0, .int ((gI σ 11 0) - 1)]) (rest := []) dX12_isLesson_8 ml_X12_134 mk_X12_isIn rfl (Nat.le_of_ble_eq_true rfl) (show 0 < d by omega) (sp_X12_isIn) Md_nil (fun v σv hq hf => ?_)
  obtain ⟨v, rfl, rfl, rfl⟩ := hq
  exact e_zret dX12_isLesson_11 rfl (nar_z (fn_X12_isIn_01 _ _ _)) ⟨_, rfl, h⟩
def fn_X12_isLesson (σ : St) (a1 : Int32) : Int32 := (fn_X12_isIn a1 0 ((gI σ 11 0) - 1))
theorem sp_X12_isLesson {d n : Nat} {σ : St} {a1 : Int32} (hn : FIX ≤ n) (hd : 1 ≤ d) : Cn d n M_X12_isLesson ([], [], [], []) [.ref 11, .int a1] σ (liI (fun v σ' => v = fn_X12_isLesson σ a1 ∧ σ = σ')) := by
  refine S_X12_isLesson hn hd ?_
  exact ⟨by unfold fn_X12_isLesson; rfl, rfl⟩
theorem fn_X12_isLesson_01 (σ : St) (a1 : Int32) : fn_X12_isLesson σ a1 = 0 ∨ fn_X12_isLesson σ a1 = 1 := by
  unfold fn_X12_isLesson
  repeat' split
  all_goals first | exact Or.inl rfl | exact Or.inr rfl | exact fn_X12_isIn_01 _ _ _ | simp
theorem S_X12_isPerson {d n : Nat} {Q : Int32 → St → Prop} {σ : St} {a1 : Int32} (hn : FIX ≤ n) (hd : 1 ≤ d) (h : Q (fn_X12_isIn a1 0 ((gI σ 11 1) - 1)) σ) : Cn d n M_X12_isPerson md_X12_isPerson [.ref 11, .int a1] σ (liI Q) := by
  refine Cn.of (k0 := 0) (by decide) rfl ?_
  show Ev (d, n, md_X12_isPerson, σ, liI Q) M_X12_isPerson 0 [some (.ref 11), some (.int a1)] [] σ
  refine e_iload_n dX12_isPerson_0 rfl rfl ?_
  refine e_iconst dX12_isPerson_1 ci_0 ?_
  refine e_aload_n dX12_isPerson_2 rfl rfl ?_
  refine e_getI dX12_isPerson_3 fl_X12_138 (ob_11 hn) rfl ?_
  refine e_iconst dX12_isPerson_6 ci_1 ?_
  refine e_isub dX12_isPerson_7 ?_
  refine e_callS (M' := M_X12_isIn) (as := [.int a1, .int 0, .int ((gI σ 11 1) - 1)]) (rest := []) dX12_isPerson_8 ml_X12_134 mk_X12_isIn rfl (Nat.le_of_ble_eq_true rfl) (show 0 < d by omega) (sp_X12_isIn) Md_nil (fun v σv hq hf => ?_)
  obtain ⟨v, rfl, rfl, rfl⟩ := hq
  exact e_zret dX12_isPerson_11 rfl (nar_z (fn_X12_isIn_01 _ _ _)) ⟨_, rfl, h⟩
def fn_X12_isPerson (σ : St) (a1 : Int32) : Int32 := (fn_X12_isIn a1 0 ((gI σ 11 1) - 1))
theorem sp_X12_isPerson {d n : Nat} {σ : St} {a1 : Int32} (hn : FIX ≤ n) (hd : 1 ≤ d) : Cn d n M_X12_isPerson ([], [], [], []) [.ref 11, .int a1] σ (liI (fun v σ' => v = fn_X12_isPerson σ a1 ∧ σ = σ')) := by
  refine S_X12_isPerson hn hd ?_
  exact ⟨by unfold fn_X12_isPerson; rfl, rfl⟩
theorem fn_X12_isPerson_01 (σ : St) (a1 : Int32) : fn_X12_isPerson σ a1 = 0 ∨ fn_X12_isPerson σ a1 = 1 := by
  unfold fn_X12_isPerson
  repeat' split
  all_goals first | exact Or.inl rfl | exact Or.inr rfl | exact fn_X12_isIn_01 _ _ _ | simp
theorem S_X12_isBundle {d n : Nat} {Q : Int32 → St → Prop} {σ : St} {a1 : Int32} (hd : 1 ≤ d) (h : Q (fn_X12_isIn a1 0 1023) σ) : Cn d n M_X12_isBundle md_X12_isBundle [.int a1] σ (liI Q) := by
  refine Cn.of (k0 := 0) (by decide) rfl ?_
  show Ev (d, n, md_X12_isBundle, σ, liI Q) M_X12_isBundle 0 [some (.int a1)] [] σ
  refine e_iload_n dX12_isBundle_0 rfl rfl ?_
  refine e_iconst dX12_isBundle_1 ci_0 ?_
  refine e_sipush dX12_isBundle_2 cs_1023 ?_
  refine e_callS (M' := M_X12_isIn) (as := [.int a1, .int 0, .int 1023]) (rest := []) dX12_isBundle_5 ml_X12_134 mk_X12_isIn rfl (Nat.le_of_ble_eq_true rfl) (show 0 < d by omega) (sp_X12_isIn) Md_nil (fun v σv hq hf => ?_)
  obtain ⟨v, rfl, rfl, rfl⟩ := hq
  exact e_zret dX12_isBundle_8 rfl (nar_z (fn_X12_isIn_01 _ _ _)) ⟨_, rfl, h⟩
def fn_X12_isBundle (a1 : Int32) : Int32 := (fn_X12_isIn a1 0 1023)
theorem sp_X12_isBundle {d n : Nat} {σ : St} {a1 : Int32} (hd : 1 ≤ d) : Cn d n M_X12_isBundle ([], [], [], []) [.int a1] σ (liI (fun v σ' => v = fn_X12_isBundle a1 ∧ σ = σ')) := by
  refine S_X12_isBundle hd ?_
  exact ⟨by unfold fn_X12_isBundle; rfl, rfl⟩
theorem fn_X12_isBundle_01 (a1 : Int32) : fn_X12_isBundle a1 = 0 ∨ fn_X12_isBundle a1 = 1 := by
  unfold fn_X12_isBundle
  repeat' split
  all_goals first | exact Or.inl rfl | exact Or.inr rfl | exact fn_X12_isIn_01 _ _ _ | simp
theorem S_X12_asked {d n : Nat} {Q : Int32 → St → Prop} {σ : St} {a1 : Int64} (h : (((lg_cmp a1 427071729268) ≠ 0 → (((lg_cmp a1 448546566771) ≠ 0 → (((lg_cmp a1 439855772532) ≠ 0 → (((lg_cmp a1 1818325876) ≠ 0 → (((lg_cmp a1 1734439027) ≠ 0 → (((lg_cmp a1 483006772069) ≠ 0 → Q (-1) σ) ∧ ((lg_cmp a1 483006772069) = 0 → Q 5 σ))) ∧ ((lg_cmp a1 1734439027) = 0 → Q 4 σ))) ∧ ((lg_cmp a1 1818325876) = 0 → Q 3 σ))) ∧ ((lg_cmp a1 439855772532) = 0 → Q 2 σ))) ∧ ((lg_cmp a1 448546566771) = 0 → Q 1 σ))) ∧ ((lg_cmp a1 427071729268) = 0 → Q 0 σ))) : Cn d n M_X12_asked md_X12_asked [.long a1] σ (liI Q) := by
  refine Cn.of (k0 := 0) (by decide) rfl ?_
  show Ev (d, n, md_X12_asked, σ, liI Q) M_X12_asked 0 [some (.long a1), none] [] σ
  refine e_lload_n dX12_asked_0 rfl rfl ?_
  refine e_ldc2 dX12_asked_1 ck_X12_180 ?_
  refine e_lcmp dX12_asked_4 ?_
  refine e_if_ne (tgt := 12) dX12_asked_5 (by decide) (fun c1 => ?_) (fun c1 => ?_)
  · replace h := h.1 c1
    refine e_lload_n dX12_asked_12 rfl rfl ?_
    refine e_ldc2 dX12_asked_13 ck_X12_182 ?_
    refine e_lcmp dX12_asked_16 ?_
    refine e_if_ne (tgt := 24) dX12_asked_17 (by decide) (fun c2 => ?_) (fun c2 => ?_)
    · replace h := h.1 c2
      refine e_lload_n dX12_asked_24 rfl rfl ?_
      refine e_ldc2 dX12_asked_25 ck_X12_184 ?_
      refine e_lcmp dX12_asked_28 ?_
      refine e_if_ne (tgt := 36) dX12_asked_29 (by decide) (fun c3 => ?_) (fun c3 => ?_)
      · replace h := h.1 c3
        refine e_lload_n dX12_asked_36 rfl rfl ?_
        refine e_ldc2 dX12_asked_37 ck_X12_186 ?_
        refine e_lcmp dX12_asked_40 ?_
        refine e_if_ne (tgt := 48) dX12_asked_41 (by decide) (fun c4 => ?_) (fun c4 => ?_)
        · replace h := h.1 c4
          refine e_lload_n dX12_asked_48 rfl rfl ?_
          refine e_ldc2 dX12_asked_49 ck_X12_188 ?_
          refine e_lcmp dX12_asked_52 ?_
          refine e_if_ne (tgt := 60) dX12_asked_53 (by decide) (fun c5 => ?_) (fun c5 => ?_)
          · replace h := h.1 c5
            refine e_lload_n dX12_asked_60 rfl rfl ?_
            refine e_ldc2 dX12_asked_61 ck_X12_190 ?_
            refine e_lcmp dX12_asked_64 ?_
            refine e_if_ne (tgt := 72) dX12_asked_65 (by decide) (fun c6 => ?_) (fun c6 => ?_)
            · replace h := h.1 c6
              refine e_iconst dX12_asked_72 ci_m1 ?_
              exact e_iret dX12_asked_73 rfl ⟨_, rfl, h⟩
            · replace h := h.2 c6
              refine e_iconst dX12_asked_68 ci_5 ?_
              refine e_goto (tgt := 73) dX12_asked_69 (by decide) ?_
              exact e_iret dX12_asked_73 rfl ⟨_, rfl, h⟩
          · replace h := h.2 c5
            refine e_iconst dX12_asked_56 ci_4 ?_
            refine e_goto (tgt := 73) dX12_asked_57 (by decide) ?_
            exact e_iret dX12_asked_73 rfl ⟨_, rfl, h⟩
        · replace h := h.2 c4
          refine e_iconst dX12_asked_44 ci_3 ?_
          refine e_goto (tgt := 73) dX12_asked_45 (by decide) ?_
          exact e_iret dX12_asked_73 rfl ⟨_, rfl, h⟩
      · replace h := h.2 c3
        refine e_iconst dX12_asked_32 ci_2 ?_
        refine e_goto (tgt := 73) dX12_asked_33 (by decide) ?_
        exact e_iret dX12_asked_73 rfl ⟨_, rfl, h⟩
    · replace h := h.2 c2
      refine e_iconst dX12_asked_20 ci_1 ?_
      refine e_goto (tgt := 73) dX12_asked_21 (by decide) ?_
      exact e_iret dX12_asked_73 rfl ⟨_, rfl, h⟩
  · replace h := h.2 c1
    refine e_iconst dX12_asked_8 ci_0 ?_
    refine e_goto (tgt := 73) dX12_asked_9 (by decide) ?_
    exact e_iret dX12_asked_73 rfl ⟨_, rfl, h⟩
def fn_X12_asked (a1 : Int64) : Int32 := (if (lg_cmp a1 427071729268) = 0 then 0 else (if (lg_cmp a1 448546566771) = 0 then 1 else (if (lg_cmp a1 439855772532) = 0 then 2 else (if (lg_cmp a1 1818325876) = 0 then 3 else (if (lg_cmp a1 1734439027) = 0 then 4 else (if (lg_cmp a1 483006772069) = 0 then 5 else (-1)))))))
theorem sp_X12_asked {d n : Nat} {σ : St} {a1 : Int64} : Cn d n M_X12_asked ([], [], [], []) [.long a1] σ (liI (fun v σ' => v = fn_X12_asked a1 ∧ σ = σ')) := by
  refine S_X12_asked ?_
  refine ⟨fun c1 => ?_, fun c1 => ?_⟩
  · refine ⟨fun c2 => ?_, fun c2 => ?_⟩
    · refine ⟨fun c3 => ?_, fun c3 => ?_⟩
      · refine ⟨fun c4 => ?_, fun c4 => ?_⟩
        · refine ⟨fun c5 => ?_, fun c5 => ?_⟩
          · refine ⟨fun c6 => ?_, fun c6 => ?_⟩
            · exact ⟨by unfold fn_X12_asked; rw [if_neg c1, if_neg c2, if_neg c3, if_neg c4, if_neg c5, if_neg c6], rfl⟩
            · exact ⟨by unfold fn_X12_asked; rw [if_neg c1, if_neg c2, if_neg c3, if_neg c4, if_neg c5, if_pos c6], rfl⟩
          · exact ⟨by unfold fn_X12_asked; rw [if_neg c1, if_neg c2, if_neg c3, if_neg c4, if_pos c5], rfl⟩
        · exact ⟨by unfold fn_X12_asked; rw [if_neg c1, if_neg c2, if_neg c3, if_pos c4], rfl⟩
      · exact ⟨by unfold fn_X12_asked; rw [if_neg c1, if_neg c2, if_pos c3], rfl⟩
    · exact ⟨by unfold fn_X12_asked; rw [if_neg c1, if_pos c2], rfl⟩
  · exact ⟨by unfold fn_X12_asked; rw [if_pos c1], rfl⟩
theorem S_X12_fault {d n : Nat} {Q : Int32 → St → Prop} {σ : St}  (hn : FIX ≤ n) (h : Q (gI σ 11 19) σ) : Cn d n M_X12_fault md_X12_fault [.ref 11] σ (liI Q) := by
  refine Cn.of (k0 := 0) (by decide) rfl ?_
  show Ev (d, n, md_X12_fault, σ, liI Q) M_X12_fault 0 [some (.ref 11)] [] σ
  refine e_aload_n dX12_fault_0 rfl rfl ?_
  refine e_getI dX12_fault_1 fl_X12_44 (ob_11 hn) rfl ?_
  exact e_iret dX12_fault_4 rfl ⟨_, rfl, h⟩
def fn_X12_fault (σ : St) : Int32 := (gI σ 11 19)
theorem sp_X12_fault {d n : Nat} {σ : St}  (hn : FIX ≤ n) : Cn d n M_X12_fault ([], [], [], []) [.ref 11] σ (liI (fun v σ' => v = fn_X12_fault σ ∧ σ = σ')) := by
  refine S_X12_fault hn ?_
  exact ⟨by unfold fn_X12_fault; rfl, rfl⟩
theorem S_X12_held {d n : Nat} {Q : Int64 → St → Prop} {σ : St} {a1 : Int64} (hd : 1 ≤ d) (h : Q (mxL (-1000000000) (mnL 1000000000 a1)) σ) : Cn d n M_X12_held md_X12_held [.long a1] σ (liL Q) := by
  refine Cn.of (k0 := 0) (by decide) rfl ?_
  show Ev (d, n, md_X12_held, σ, liL Q) M_X12_held 0 [some (.long a1), none] [] σ
  refine e_ldc2 dX12_held_0 ck_X12_266 ?_
  refine e_ldc2 dX12_held_3 ck_X12_268 ?_
  refine e_lload_n dX12_held_6 rfl rfl ?_
  refine e_mminL (st := [.long (-1000000000)]) dX12_held_7 ml_X12_270 (Nat.le_of_ble_eq_true rfl) (show 0 < d by omega) ?_
  refine e_mmaxL (st := []) dX12_held_10 ml_X12_276 (Nat.le_of_ble_eq_true rfl) (show 0 < d by omega) ?_
  exact e_lret dX12_held_13 rfl ⟨_, rfl, h⟩
def fn_X12_held (a1 : Int64) : Int64 := (mxL (-1000000000) (mnL 1000000000 a1))
theorem sp_X12_held {d n : Nat} {σ : St} {a1 : Int64} (hd : 1 ≤ d) : Cn d n M_X12_held ([], [], [], []) [.long a1] σ (liL (fun v σ' => v = fn_X12_held a1 ∧ σ = σ')) := by
  refine S_X12_held hd ?_
  exact ⟨by unfold fn_X12_held; rfl, rfl⟩
theorem S_X12_bit {d n : Nat} {Q : Int64 → St → Prop} {σ : St} {a1 : Int32} (h : ((a1 = 0 → Q 0 σ) ∧ (¬ a1 = 0 → Q 1 σ))) : Cn d n M_X12_bit md_X12_bit [.int a1] σ (liL Q) := by
  refine Cn.of (k0 := 0) (by decide) rfl ?_
  show Ev (d, n, md_X12_bit, σ, liL Q) M_X12_bit 0 [some (.int a1)] [] σ
  refine e_iload_n dX12_bit_0 rfl rfl ?_
  refine e_if_eq (tgt := 8) dX12_bit_1 (by decide) (fun c1 => ?_) (fun c1 => ?_)
  · replace h := h.1 c1
    refine e_lconst dX12_bit_8 (v := 0) rfl ?_
    exact e_lret dX12_bit_9 rfl ⟨_, rfl, h⟩
  · replace h := h.2 c1
    refine e_lconst dX12_bit_4 (v := 1) rfl ?_
    refine e_goto (tgt := 9) dX12_bit_5 (by decide) ?_
    exact e_lret dX12_bit_9 rfl ⟨_, rfl, h⟩
def fn_X12_bit (a1 : Int32) : Int64 := (if a1 = 0 then 0 else 1)
theorem sp_X12_bit {d n : Nat} {σ : St} {a1 : Int32} : Cn d n M_X12_bit ([], [], [], []) [.int a1] σ (liL (fun v σ' => v = fn_X12_bit a1 ∧ σ = σ')) := by
  refine S_X12_bit ?_
  refine ⟨fun c1 => ?_, fun c1 => ?_⟩
  · exact ⟨by unfold fn_X12_bit; rw [if_pos c1], rfl⟩
  · exact ⟨by unfold fn_X12_bit; rw [if_neg c1], rfl⟩
theorem S_X12_isLawful {d n : Nat} {Q : Int32 → St → Prop} {σ : St} {a1 : Int32} {a2 : Int32} (hn : FIX ≤ n) (h : vp_in ((1024 * a1) + a2) 9216 ∧ ((gI σ 61 ((1024 * a1) + a2).toNatClampNeg) = 0 ∨ (gI σ 61 ((1024 * a1) + a2).toNatClampNeg) = 1) ∧ Q (gI σ 61 ((1024 * a1) + a2).toNatClampNeg) σ) : Cn d n M_X12_isLawful md_X12_isLawful [.ref 11, .int a1, .int a2] σ (liI Q) := by
  refine Cn.of (k0 := 0) (by decide) rfl ?_
  show Ev (d, n, md_X12_isLawful, σ, liI Q) M_X12_isLawful 0 [some (.ref 11), some (.int a1), some (.int a2)] [] σ
  refine e_aload_n dX12_isLawful_0 rfl rfl ?_
  refine e_getR (y := 61) dX12_isLawful_1 fl_X12_85 (ob_11 hn) rfl rfl ?_
  refine e_sipush dX12_isLawful_4 cs_1024 ?_
  refine e_iload_n dX12_isLawful_7 rfl rfl ?_
  refine e_imul dX12_isLawful_8 ?_
  refine e_iload_n dX12_isLawful_9 rfl rfl ?_
  refine e_iadd dX12_isLawful_10 ?_
  refine e_zald dX12_isLawful_11 (ar_61 hn) h.1 ?_
  replace h := h.2
  exact e_zret dX12_isLawful_12 rfl (nar_z h.1) ⟨_, rfl, h.2⟩
def fn_X12_isLawful (σ : St) (a1 : Int32) (a2 : Int32) : Int32 := (gI σ 61 ((1024 * a1) + a2).toNatClampNeg)
def pre_X12_isLawful (σ : St) (a1 : Int32) (a2 : Int32) : Prop := vp_in ((1024 * a1) + a2) 9216 ∧ ((gI σ 61 ((1024 * a1) + a2).toNatClampNeg) = 0 ∨ (gI σ 61 ((1024 * a1) + a2).toNatClampNeg) = 1) ∧ True
theorem sp_X12_isLawful {d n : Nat} {σ : St} {a1 : Int32} {a2 : Int32} (hn : FIX ≤ n) (hpre : pre_X12_isLawful σ a1 a2) : Cn d n M_X12_isLawful ([], [], [], []) [.ref 11, .int a1, .int a2] σ (liI (fun v σ' => v = fn_X12_isLawful σ a1 a2 ∧ σ = σ')) := by
  refine S_X12_isLawful hn ?_
  unfold pre_X12_isLawful at hpre
  refine ⟨hpre.1, ?_⟩
  replace hpre := hpre.2
  exact ⟨hpre.1, by unfold fn_X12_isLawful; rfl, rfl⟩
theorem S_X12_worthOf {d n : Nat} {Q : Int32 → St → Prop} {σ : St} {a1 : Int32} {a2 : Int32} (hn : FIX ≤ n) (h : vp_in ((1024 * a1) + a2) 9216 ∧ Q (gI σ 62 ((1024 * a1) + a2).toNatClampNeg) σ) : Cn d n M_X12_worthOf md_X12_worthOf [.ref 11, .int a1, .int a2] σ (liI Q) := by
  refine Cn.of (k0 := 0) (by decide) rfl ?_
  show Ev (d, n, md_X12_worthOf, σ, liI Q) M_X12_worthOf 0 [some (.ref 11), some (.int a1), some (.int a2)] [] σ
  refine e_aload_n dX12_worthOf_0 rfl rfl ?_
  refine e_getR (y := 62) dX12_worthOf_1 fl_X12_89 (ob_11 hn) rfl rfl ?_
  refine e_sipush dX12_worthOf_4 cs_1024 ?_
  refine e_iload_n dX12_worthOf_7 rfl rfl ?_
  refine e_imul dX12_worthOf_8 ?_
  refine e_iload_n dX12_worthOf_9 rfl rfl ?_
  refine e_iadd dX12_worthOf_10 ?_
  refine e_iald dX12_worthOf_11 (ar_62 hn) h.1 ?_
  replace h := h.2
  exact e_iret dX12_worthOf_12 rfl ⟨_, rfl, h⟩
def fn_X12_worthOf (σ : St) (a1 : Int32) (a2 : Int32) : Int32 := (gI σ 62 ((1024 * a1) + a2).toNatClampNeg)
def pre_X12_worthOf (σ : St) (a1 : Int32) (a2 : Int32) : Prop := vp_in ((1024 * a1) + a2) 9216 ∧ True
theorem sp_X12_worthOf {d n : Nat} {σ : St} {a1 : Int32} {a2 : Int32} (hn : FIX ≤ n) (hpre : pre_X12_worthOf σ a1 a2) : Cn d n M_X12_worthOf ([], [], [], []) [.ref 11, .int a1, .int a2] σ (liI (fun v σ' => v = fn_X12_worthOf σ a1 a2 ∧ σ = σ')) := by
  refine S_X12_worthOf hn ?_
  unfold pre_X12_worthOf at hpre
  refine ⟨hpre.1, ?_⟩
  replace hpre := hpre.2
  exact ⟨by unfold fn_X12_worthOf; rfl, rfl⟩
theorem S_X12_rowOf {d n : Nat} {Q : Int32 → St → Prop} {σ : St} {a1 : Int32} (hn : FIX ≤ n) (h : ((a1 ≠ (gI σ 11 38) → Q a1 σ) ∧ (a1 = (gI σ 11 38) → Q 8 σ))) : Cn d n M_X12_rowOf md_X12_rowOf [.ref 11, .int a1] σ (liI Q) := by
  refine Cn.of (k0 := 0) (by decide) rfl ?_
  show Ev (d, n, md_X12_rowOf, σ, liI Q) M_X12_rowOf 0 [some (.ref 11), some (.int a1)] [] σ
  refine e_iload_n dX12_rowOf_0 rfl rfl ?_
  refine e_aload_n dX12_rowOf_1 rfl rfl ?_
  refine e_getI dX12_rowOf_2 fl_X12_92 (ob_11 hn) rfl ?_
  refine e_icmp_ne (tgt := 13) dX12_rowOf_5 (by decide) (fun c1 => ?_) (fun c1 => ?_)
  · replace h := h.1 c1
    refine e_iload_n dX12_rowOf_13 rfl rfl ?_
    exact e_iret dX12_rowOf_14 rfl ⟨_, rfl, h⟩
  · replace h := h.2 c1
    refine e_bipush dX12_rowOf_8 cb_8 ?_
    refine e_goto (tgt := 14) dX12_rowOf_10 (by decide) ?_
    exact e_iret dX12_rowOf_14 rfl ⟨_, rfl, h⟩
def fn_X12_rowOf (σ : St) (a1 : Int32) : Int32 := (if a1 = (gI σ 11 38) then 8 else a1)
theorem sp_X12_rowOf {d n : Nat} {σ : St} {a1 : Int32} (hn : FIX ≤ n) : Cn d n M_X12_rowOf ([], [], [], []) [.ref 11, .int a1] σ (liI (fun v σ' => v = fn_X12_rowOf σ a1 ∧ σ = σ')) := by
  refine S_X12_rowOf hn ?_
  refine ⟨fun c1 => ?_, fun c1 => ?_⟩
  · exact ⟨by unfold fn_X12_rowOf; rw [if_neg c1], rfl⟩
  · exact ⟨by unfold fn_X12_rowOf; rw [if_pos c1], rfl⟩
theorem S_X12_held_ {d n : Nat} {Q : Int32 → St → Prop} {σ : St} {a1 : Int32} (hd : 1 ≤ d) (h : Q (mxI 0 (mnI 250 a1)) σ) : Cn d n M_X12_held_ md_X12_held_ [.int a1] σ (liI Q) := by
  refine Cn.of (k0 := 0) (by decide) rfl ?_
  show Ev (d, n, md_X12_held_, σ, liI Q) M_X12_held_ 0 [some (.int a1)] [] σ
  refine e_iconst dX12_held__0 ci_0 ?_
  refine e_sipush dX12_held__1 cs_250 ?_
  refine e_iload_n dX12_held__4 rfl rfl ?_
  refine e_mmin (st := [.int 0]) dX12_held__5 ml_X12_301 (Nat.le_of_ble_eq_true rfl) (show 0 < d by omega) ?_
  refine e_mmax (st := []) dX12_held__8 ml_X12_304 (Nat.le_of_ble_eq_true rfl) (show 0 < d by omega) ?_
  exact e_iret dX12_held__11 rfl ⟨_, rfl, h⟩
def fn_X12_held_ (a1 : Int32) : Int32 := (mxI 0 (mnI 250 a1))
theorem sp_X12_held_ {d n : Nat} {σ : St} {a1 : Int32} (hd : 1 ≤ d) : Cn d n M_X12_held_ ([], [], [], []) [.int a1] σ (liI (fun v σ' => v = fn_X12_held_ a1 ∧ σ = σ')) := by
  refine S_X12_held_ hd ?_
  exact ⟨by unfold fn_X12_held_; rfl, rfl⟩
theorem S_X12_isWay {d n : Nat} {Q : Int32 → St → Prop} {σ : St} {a1 : Int32} (hd : 1 ≤ d) (h : Q (fn_X12_isIn a1 0 5) σ) : Cn d n M_X12_isWay md_X12_isWay [.int a1] σ (liI Q) := by
  refine Cn.of (k0 := 0) (by decide) rfl ?_
  show Ev (d, n, md_X12_isWay, σ, liI Q) M_X12_isWay 0 [some (.int a1)] [] σ
  refine e_iload_n dX12_isWay_0 rfl rfl ?_
  refine e_iconst dX12_isWay_1 ci_0 ?_
  refine e_iconst dX12_isWay_2 ci_5 ?_
  refine e_callS (M' := M_X12_isIn) (as := [.int a1, .int 0, .int 5]) (rest := []) dX12_isWay_3 ml_X12_134 mk_X12_isIn rfl (Nat.le_of_ble_eq_true rfl) (show 0 < d by omega) (sp_X12_isIn) Md_nil (fun v σv hq hf => ?_)
  obtain ⟨v, rfl, rfl, rfl⟩ := hq
  exact e_zret dX12_isWay_6 rfl (nar_z (fn_X12_isIn_01 _ _ _)) ⟨_, rfl, h⟩
def fn_X12_isWay (a1 : Int32) : Int32 := (fn_X12_isIn a1 0 5)
theorem sp_X12_isWay {d n : Nat} {σ : St} {a1 : Int32} (hd : 1 ≤ d) : Cn d n M_X12_isWay ([], [], [], []) [.int a1] σ (liI (fun v σ' => v = fn_X12_isWay a1 ∧ σ = σ')) := by
  refine S_X12_isWay hd ?_
  exact ⟨by unfold fn_X12_isWay; rfl, rfl⟩
theorem fn_X12_isWay_01 (a1 : Int32) : fn_X12_isWay a1 = 0 ∨ fn_X12_isWay a1 = 1 := by
  unfold fn_X12_isWay
  repeat' split
  all_goals first | exact Or.inl rfl | exact Or.inr rfl | exact fn_X12_isIn_01 _ _ _ | simp
theorem S_X12_bidOf {d n : Nat} {Q : Int32 → St → Prop} {σ : St} {a1 : Int32} {a2 : Int32} (hn : FIX ≤ n) (hd : 1 ≤ d) (h : pre_X12_worthOf σ (fn_X12_rowOf σ a1) ((1 : Int32) <<< (a2 &&& 31)) ∧ pre_X12_worthOf σ (fn_X12_rowOf σ a1) 0 ∧ Q ((fn_X12_worthOf σ (fn_X12_rowOf σ a1) ((1 : Int32) <<< (a2 &&& 31))) - (fn_X12_worthOf σ (fn_X12_rowOf σ a1) 0)) σ) : Cn d n M_X12_bidOf md_X12_bidOf [.ref 11, .int a1, .int a2] σ (liI Q) := by
  refine Cn.of (k0 := 0) (by decide) rfl ?_
  show Ev (d, n, md_X12_bidOf, σ, liI Q) M_X12_bidOf 0 [some (.ref 11), some (.int a1), some (.int a2)] [] σ
  refine e_aload_n dX12_bidOf_0 rfl rfl ?_
  refine e_aload_n dX12_bidOf_1 rfl rfl ?_
  refine e_iload_n dX12_bidOf_2 rfl rfl ?_
  refine e_callV (M' := M_X12_rowOf) (as := [.int a1]) (rest := [.ref 11]) dX12_bidOf_3 ml_X12_339 mk_X12_rowOf (ob_11 hn) rfl rfl rfl (Nat.le_of_ble_eq_true rfl) (show 0 < d by omega) (sp_X12_rowOf hn) Md_nil (fun v σv hq hf => ?_)
  obtain ⟨v, rfl, rfl, rfl⟩ := hq
  refine e_iconst dX12_bidOf_6 ci_1 ?_
  refine e_iload_n dX12_bidOf_7 rfl rfl ?_
  refine e_ishl dX12_bidOf_8 ?_
  refine e_callV (M' := M_X12_worthOf) (as := [.int (fn_X12_rowOf σ a1), .int ((1 : Int32) <<< (a2 &&& 31))]) (rest := []) dX12_bidOf_9 ml_X12_354 mk_X12_worthOf (ob_11 hn) rfl rfl rfl (Nat.le_of_ble_eq_true rfl) (show 0 < d by omega) (sp_X12_worthOf hn h.1) Md_nil (fun v σv hq hf => ?_)
  obtain ⟨v, rfl, rfl, rfl⟩ := hq
  replace h := h.2
  refine e_aload_n dX12_bidOf_12 rfl rfl ?_
  refine e_aload_n dX12_bidOf_13 rfl rfl ?_
  refine e_iload_n dX12_bidOf_14 rfl rfl ?_
  refine e_callV (M' := M_X12_rowOf) (as := [.int a1]) (rest := [.ref 11, .int (fn_X12_worthOf σ (fn_X12_rowOf σ a1) ((1 : Int32) <<< (a2 &&& 31)))]) dX12_bidOf_15 ml_X12_339 mk_X12_rowOf (ob_11 hn) rfl rfl rfl (Nat.le_of_ble_eq_true rfl) (show 0 < d by omega) (sp_X12_rowOf hn) Md_nil (fun v σv hq hf => ?_)
  obtain ⟨v, rfl, rfl, rfl⟩ := hq
  refine e_iconst dX12_bidOf_18 ci_0 ?_
  refine e_callV (M' := M_X12_worthOf) (as := [.int (fn_X12_rowOf σ a1), .int 0]) (rest := [.int (fn_X12_worthOf σ (fn_X12_rowOf σ a1) ((1 : Int32) <<< (a2 &&& 31)))]) dX12_bidOf_19 ml_X12_354 mk_X12_worthOf (ob_11 hn) rfl rfl rfl (Nat.le_of_ble_eq_true rfl) (show 0 < d by omega) (sp_X12_worthOf hn h.1) Md_nil (fun v σv hq hf => ?_)
  obtain ⟨v, rfl, rfl, rfl⟩ := hq
  replace h := h.2
  refine e_isub dX12_bidOf_22 ?_
  exact e_iret dX12_bidOf_23 rfl ⟨_, rfl, h⟩
def fn_X12_bidOf (σ : St) (a1 : Int32) (a2 : Int32) : Int32 := ((fn_X12_worthOf σ (fn_X12_rowOf σ a1) ((1 : Int32) <<< (a2 &&& 31))) - (fn_X12_worthOf σ (fn_X12_rowOf σ a1) 0))
def pre_X12_bidOf (σ : St) (a1 : Int32) (a2 : Int32) : Prop := pre_X12_worthOf σ (fn_X12_rowOf σ a1) ((1 : Int32) <<< (a2 &&& 31)) ∧ pre_X12_worthOf σ (fn_X12_rowOf σ a1) 0 ∧ True
theorem sp_X12_bidOf {d n : Nat} {σ : St} {a1 : Int32} {a2 : Int32} (hn : FIX ≤ n) (hd : 1 ≤ d) (hpre : pre_X12_bidOf σ a1 a2) : Cn d n M_X12_bidOf ([], [], [], []) [.ref 11, .int a1, .int a2] σ (liI (fun v σ' => v = fn_X12_bidOf σ a1 a2 ∧ σ = σ')) := by
  refine S_X12_bidOf hn hd ?_
  unfold pre_X12_bidOf at hpre
  refine ⟨hpre.1, ?_⟩
  replace hpre := hpre.2
  refine ⟨hpre.1, ?_⟩
  replace hpre := hpre.2
  exact ⟨by unfold fn_X12_bidOf; rfl, rfl⟩
theorem S_X12_isBetter {d n : Nat} {Q : Int32 → St → Prop} {σ : St} {a1 : Int32} {a2 : Int32} {a3 : Int32} (hn : FIX ≤ n) (hd : 1 ≤ d) (h : pre_X12_isLawful σ a1 a2 ∧ (((fn_X12_isLawful σ a1 a2) = 0 → Q 0 σ) ∧ (¬ (fn_X12_isLawful σ a1 a2) = 0 → pre_X12_worthOf σ a1 a2 ∧ pre_X12_worthOf σ a1 a3 ∧ (((fn_X12_worthOf σ a1 a2) ≤ (fn_X12_worthOf σ a1 a3) → Q 0 σ) ∧ (¬ (fn_X12_worthOf σ a1 a2) ≤ (fn_X12_worthOf σ a1 a3) → Q 1 σ))))) : Cn d n M_X12_isBetter md_X12_isBetter [.ref 11, .int a1, .int a2, .int a3] σ (liI Q) := by
  refine Cn.of (k0 := 0) (by decide) rfl ?_
  show Ev (d, n, md_X12_isBetter, σ, liI Q) M_X12_isBetter 0 [some (.ref 11), some (.int a1), some (.int a2), some (.int a3)] [] σ
  refine e_aload_n dX12_isBetter_0 rfl rfl ?_
  refine e_iload_n dX12_isBetter_1 rfl rfl ?_
  refine e_iload_n dX12_isBetter_2 rfl rfl ?_
  refine e_callV (M' := M_X12_isLawful) (as := [.int a1, .int a2]) (rest := []) dX12_isBetter_3 ml_X12_348 mk_X12_isLawful (ob_11 hn) rfl rfl rfl (Nat.le_of_ble_eq_true rfl) (show 0 < d by omega) (sp_X12_isLawful hn h.1) Md_nil (fun v σv hq hf => ?_)
  obtain ⟨v, rfl, rfl, rfl⟩ := hq
  replace h := h.2
  refine e_if_eq (tgt := 28) dX12_isBetter_6 (by decide) (fun c1 => ?_) (fun c1 => ?_)
  · replace h := h.1 c1
    refine e_iconst dX12_isBetter_28 ci_0 ?_
    exact e_zret dX12_isBetter_29 rfl (nar_z (Or.inl rfl)) ⟨_, rfl, h⟩
  · replace h := h.2 c1
    refine e_aload_n dX12_isBetter_9 rfl rfl ?_
    refine e_iload_n dX12_isBetter_10 rfl rfl ?_
    refine e_iload_n dX12_isBetter_11 rfl rfl ?_
    refine e_callV (M' := M_X12_worthOf) (as := [.int a1, .int a2]) (rest := []) dX12_isBetter_12 ml_X12_354 mk_X12_worthOf (ob_11 hn) rfl rfl rfl (Nat.le_of_ble_eq_true rfl) (show 0 < d by omega) (sp_X12_worthOf hn h.1) Md_nil (fun v σv hq hf => ?_)
    obtain ⟨v, rfl, rfl, rfl⟩ := hq
    replace h := h.2
    refine e_aload_n dX12_isBetter_15 rfl rfl ?_
    refine e_iload_n dX12_isBetter_16 rfl rfl ?_
    refine e_iload_n dX12_isBetter_17 rfl rfl ?_
    refine e_callV (M' := M_X12_worthOf) (as := [.int a1, .int a3]) (rest := [.int (fn_X12_worthOf σ a1 a2)]) dX12_isBetter_18 ml_X12_354 mk_X12_worthOf (ob_11 hn) rfl rfl rfl (Nat.le_of_ble_eq_true rfl) (show 0 < d by omega) (sp_X12_worthOf hn h.1) Md_nil (fun v σv hq hf => ?_)
    obtain ⟨v, rfl, rfl, rfl⟩ := hq
    replace h := h.2
    refine e_icmp_le (tgt := 28) dX12_isBetter_21 (by decide) (fun c2 => ?_) (fun c2 => ?_)
    · replace h := h.1 c2
      refine e_iconst dX12_isBetter_28 ci_0 ?_
      exact e_zret dX12_isBetter_29 rfl (nar_z (Or.inl rfl)) ⟨_, rfl, h⟩
    · replace h := h.2 c2
      refine e_iconst dX12_isBetter_24 ci_1 ?_
      refine e_goto (tgt := 29) dX12_isBetter_25 (by decide) ?_
      exact e_zret dX12_isBetter_29 rfl (nar_z (Or.inr rfl)) ⟨_, rfl, h⟩
def fn_X12_isBetter (σ : St) (a1 : Int32) (a2 : Int32) (a3 : Int32) : Int32 := (if (fn_X12_isLawful σ a1 a2) = 0 then 0 else (if (fn_X12_worthOf σ a1 a2) ≤ (fn_X12_worthOf σ a1 a3) then 0 else 1))
def pre_X12_isBetter (σ : St) (a1 : Int32) (a2 : Int32) (a3 : Int32) : Prop := pre_X12_isLawful σ a1 a2 ∧ (((fn_X12_isLawful σ a1 a2) = 0 → True) ∧ (¬ (fn_X12_isLawful σ a1 a2) = 0 → pre_X12_worthOf σ a1 a2 ∧ pre_X12_worthOf σ a1 a3 ∧ (((fn_X12_worthOf σ a1 a2) ≤ (fn_X12_worthOf σ a1 a3) → True) ∧ (¬ (fn_X12_worthOf σ a1 a2) ≤ (fn_X12_worthOf σ a1 a3) → True))))
theorem sp_X12_isBetter {d n : Nat} {σ : St} {a1 : Int32} {a2 : Int32} {a3 : Int32} (hn : FIX ≤ n) (hd : 1 ≤ d) (hpre : pre_X12_isBetter σ a1 a2 a3) : Cn d n M_X12_isBetter ([], [], [], []) [.ref 11, .int a1, .int a2, .int a3] σ (liI (fun v σ' => v = fn_X12_isBetter σ a1 a2 a3 ∧ σ = σ')) := by
  refine S_X12_isBetter hn hd ?_
  unfold pre_X12_isBetter at hpre
  refine ⟨hpre.1, ?_⟩
  replace hpre := hpre.2
  refine ⟨fun c1 => ?_, fun c1 => ?_⟩
  · replace hpre := hpre.1 c1
    exact ⟨by unfold fn_X12_isBetter; rw [if_pos c1], rfl⟩
  · replace hpre := hpre.2 c1
    refine ⟨hpre.1, ?_⟩
    replace hpre := hpre.2
    refine ⟨hpre.1, ?_⟩
    replace hpre := hpre.2
    refine ⟨fun c2 => ?_, fun c2 => ?_⟩
    · replace hpre := hpre.1 c2
      exact ⟨by unfold fn_X12_isBetter; rw [if_neg c1, if_pos c2], rfl⟩
    · replace hpre := hpre.2 c2
      exact ⟨by unfold fn_X12_isBetter; rw [if_neg c1, if_neg c2], rfl⟩
theorem fn_X12_isBetter_01 (σ : St) (a1 : Int32) (a2 : Int32) (a3 : Int32) : fn_X12_isBetter σ a1 a2 a3 = 0 ∨ fn_X12_isBetter σ a1 a2 a3 = 1 := by
  unfold fn_X12_isBetter
  repeat' split
  all_goals first | exact Or.inl rfl | exact Or.inr rfl | simp
