/-! written by wip/whole/gen_all.py: the methods, the shape behind the two constructors -/
def hd_i0 : hd_I := (yX8_isIn, cX8_isIn, 0, none, 0, 0, 0, 0)
def SH : hd_S := [(17, 0, [1, 0, 0, 0, 2, 9, 16, 53, 62, 78, 81, 87, 93, 0]), (1, 300, []), (11, 0, [3, 0, 0, 0, 0, 0, 4, 5, 0, 6, 7, 0, 8, 0]), (0, 6, []), (0, 30, []), (0, 30, []), (0, 12, []), (0, 12, []), (0, 10, []), (11, 0, [10, 0, 0, 0, 0, 0, 11, 12, 0, 13, 14, 0, 15, 0]), (0, 6, []), (0, 30, []), (0, 30, []), (0, 12, []), (0, 12, []), (0, 10, []), (4, 4, [17, 26, 35, 44]), (12, 0, [18, 0, 19, 20, 21, 22, 23, 0, 24, 25, 0]), (0, 300, []), (0, 9, []), (0, 9, []), (0, 24, []), (0, 24, []), (0, 24, []), (0, 24, []), (0, 24, []), (12, 0, [27, 0, 28, 29, 30, 31, 32, 0, 33, 34, 0]), (0, 300, []), (0, 9, []), (0, 9, []), (0, 24, []), (0, 24, []), (0, 24, []), (0, 24, []), (0, 24, []), (12, 0, [36, 0, 37, 38, 39, 40, 41, 0, 42, 43, 0]), (0, 300, []), (0, 9, []), (0, 9, []), (0, 24, []), (0, 24, []), (0, 24, []), (0, 24, []), (0, 24, []), (12, 0, [45, 0, 46, 47, 48, 49, 50, 0, 51, 52, 0]), (0, 300, []), (0, 9, []), (0, 9, []), (0, 24, []), (0, 24, []), (0, 24, []), (0, 24, []), (0, 24, []), (12, 0, [54, 0, 55, 56, 57, 58, 59, 0, 60, 61, 0]), (0, 300, []), (0, 9, []), (0, 9, []), (0, 24, []), (0, 24, []), (0, 24, []), (0, 24, []), (0, 24, []), (13, 0, [63, 0, 0, 0, 77, 0, 0, 0, 0, 0, 0, 0]), (16, 0, [64, 65, 66, 0, 0, 0, 0, 0, 0, 0, 0]), (0, 301, []), (0, 301, []), (0, 301, []), (1, 0, []), (12, 0, [69, 0, 70, 71, 72, 73, 74, 0, 75, 76, 0]), (0, 300, []), (0, 9, []), (0, 9, []), (0, 24, []), (0, 24, []), (0, 24, []), (0, 24, []), (0, 24, []), (0, 300, []), (14, 0, [3, 79, 0, 80]), (0, 10, []), (0, 64, []), (15, 0, [78, 82, 83, 84, 85, 86, 0, 0, 0, 0, 0]), (0, 3000, []), (0, 3000, []), (0, 3000, []), (0, 3000, []), (0, 8192, []), (10, 0, [78, 88, 0, 89, 0, 90, 91, 92]), (0, 2187, []), (0, 2187, []), (0, 2187, []), (0, 2187, []), (0, 32805, []), (0, 4, []), (18, 0, [95, 96, 97, 98, 0, 0, 0, 0, 0, 0, 0, 0, 0, 0, 0, 0, 99, 0, 0, 0, 0, 0, 100, 101, 102, 103, 104, 0, 105, 106, 107, 108, 109, 110, 0, 0, 111, 112, 113, 114, 115]), (0, 334, []), (0, 334, []), (0, 2920, []), (0, 300, []), (0, 160, []), (0, 10, []), (3, 330, []), (2, 330, []), (0, 6, []), (0, 6, []), (0, 3000, []), (0, 3000, []), (0, 3000, []), (0, 3000, []), (0, 3000, []), (0, 4096, []), (2, 2187, []), (2, 2187, []), (0, 32805, []), (0, 2187, []), (0, 11, [])]
def hd_law (q : Nat) : Prop := q = 17 ∨ q = 26 ∨ q = 35 ∨ q = 44 ∨ q = 53 ∨ q = 68
theorem pn_J6 : plainName yJ6_bitCount_0f7a4.cls = true := by decide +kernel
theorem pn_J7 : plainName yJ7_fill_53178.cls = true := by decide +kernel
theorem pn_X0 : plainName yX0_actsInto.cls = true := by decide +kernel
theorem pn_X1 : plainName yX1_addStep.cls = true := by decide +kernel
theorem pn_X2 : plainName yX2_addCode.cls = true := by decide +kernel
theorem pn_X3 : plainName yX3_addOne.cls = true := by decide +kernel
theorem pn_X4 : plainName yX4_ballAfter.cls = true := by decide +kernel
theorem pn_X5 : plainName yX5_actsUntil.cls = true := by decide +kernel
theorem pn_X6 : plainName yX6_add.cls = true := by decide +kernel
theorem pn_X7 : plainName yX7_about.cls = true := by decide +kernel
theorem pn_X8 : plainName yX8_about.cls = true := by decide +kernel
def mJ6_bitCount_0f7a4 : hd_I := (yJ6_bitCount_0f7a4, cJ6_bitCount_0f7a4, 1, (some .int), 0, 0, 0, 0)
def mJ7_fill_53178 : hd_I := (yJ7_fill_53178, cJ7_fill_53178, 4, none, 0, 0, 0, 0)
def mX0_actsInto : hd_I := (yX0_actsInto, cX0_actsInto, 5, (some .int), 6, 146, 0, 0)
def mX0_follow : hd_I := (yX0_follow, cX0_follow, 6, none, 5, 121, 0, 0)
def mX0_hope : hd_I := (yX0_hope, cX0_hope, 2, none, 0, 0, 0, 0)
def mX0_hopeWhereItCameFrom : hd_I := (yX0_hopeWhereItCameFrom, cX0_hopeWhereItCameFrom, 4, none, 1, 21, 0, 0)
def mX0_hopelessActs : hd_I := (yX0_hopelessActs, cX0_hopelessActs, 6, (some .int), 5, 121, 0, 0)
def mX0_reach : hd_I := (yX0_reach, cX0_reach, 3, none, 4, 96, 0, 0)
def mX1_addStep : hd_I := (yX1_addStep, cX1_addStep, 3, none, 1, 60, 0, 0)
def mX1_copyFrom : hd_I := (yX1_copyFrom, cX1_copyFrom, 2, none, 2, 81, 0, 0)
def mX1_copyRow : hd_I := (yX1_copyRow, cX1_copyRow, 2, none, 1, 60, 0, 0)
def mX1_sizeOfHollows : hd_I := (yX1_sizeOfHollows, cX1_sizeOfHollows, 4, (some .int), 0, 0, 0, 0)
def mX1_takeStepBack : hd_I := (yX1_takeStepBack, cX1_takeStepBack, 1, (some .boolean), 0, 0, 0, 0)
def mX2_addCode : hd_I := (yX2_addCode, cX2_addCode, 2, none, 0, 0, 0, 0)
def mX2_addDo : hd_I := (yX2_addDo, cX2_addDo, 3, none, 0, 0, 0, 0)
def mX2_addSet : hd_I := (yX2_addSet, cX2_addSet, 4, none, 0, 0, 0, 0)
def mX2_clear : hd_I := (yX2_clear, cX2_clear, 1, none, 1, 23, 0, 0)
def mX2_has : hd_I := (yX2_has, cX2_has, 2, (some .boolean), 0, 0, 0, 0)
def mX3_addOne : hd_I := (yX3_addOne, cX3_addOne, 3, none, 1, 21, 0, 0)
def mX3_blame : hd_I := (yX3_blame, cX3_blame, 2, none, 0, 0, 0, 0)
def mX3_closeBracket : hd_I := (yX3_closeBracket, cX3_closeBracket, 1, none, 2, 43, 0, 0)
def mX3_isNameOf : hd_I := (yX3_isNameOf, cX3_isNameOf, 2, (some .boolean), 0, 0, 0, 0)
def mX3_join : hd_I := (yX3_join, cX3_join, 2, none, 2, 43, 0, 0)
def mX3_nestIn : hd_I := (yX3_nestIn, cX3_nestIn, 2, none, 1, 21, 0, 0)
def mX3_putToWait : hd_I := (yX3_putToWait, cX3_putToWait, 2, none, 0, 0, 0, 0)
def mX3_read : hd_I := (yX3_read, cX3_read, 5, (some .int), 9, 192, 0, 0)
def mX3_readClause : hd_I := (yX3_readClause, cX3_readClause, 5, none, 5, 111, 0, 0)
def mX3_readRule : hd_I := (yX3_readRule, cX3_readRule, 3, none, 4, 87, 0, 0)
def mX3_readSet : hd_I := (yX3_readSet, cX3_readSet, 5, none, 4, 87, 0, 0)
def mX3_release : hd_I := (yX3_release, cX3_release, 3, none, 1, 21, 0, 0)
def mX3_strengthOf : hd_I := (yX3_strengthOf, cX3_strengthOf, 1, (some .int), 0, 0, 0, 0)
def mX3_takeNumber : hd_I := (yX3_takeNumber, cX3_takeNumber, 2, (some .int), 3, 66, 0, 0)
def mX3_takeOne : hd_I := (yX3_takeOne, cX3_takeOne, 3, none, 2, 43, 0, 0)
def mX3_takeOperator : hd_I := (yX3_takeOperator, cX3_takeOperator, 4, none, 3, 64, 0, 0)
def mX3_takeToken : hd_I := (yX3_takeToken, cX3_takeToken, 2, none, 2, 45, 0, 0)
def mX3_takeWhenPart : hd_I := (yX3_takeWhenPart, cX3_takeWhenPart, 2, (some .int), 4, 87, 0, 0)
def mX4_ballAfter : hd_I := (yX4_ballAfter, cX4_ballAfter, 9, (some .int), 3, 74, 0, 0)
def mX4_gather : hd_I := (yX4_gather, cX4_gather, 3, (some .int), 0, 0, 0, 0)
def mX4_heardOf : hd_I := (yX4_heardOf, cX4_heardOf, 6, (some .int), 3, 74, 0, 0)
def mX4_isOpen : hd_I := (yX4_isOpen, cX4_isOpen, 3, (some .boolean), 3, 74, 0, 0)
def mX4_isPlace : hd_I := (yX4_isPlace, cX4_isPlace, 3, (some .boolean), 0, 0, 0, 0)
def mX4_joined : hd_I := (yX4_joined, cX4_joined, 5, (some .int), 1, 24, 0, 0)
def mX4_partsMoved : hd_I := (yX4_partsMoved, cX4_partsMoved, 6, (some .int), 0, 0, 0, 0)
def mX4_pushed : hd_I := (yX4_pushed, cX4_pushed, 5, (some .int), 3, 74, 0, 0)
def mX4_setBy : hd_I := (yX4_setBy, cX4_setBy, 4, none, 1, 22, 0, 0)
def mX4_show : hd_I := (yX4_show, cX4_show, 4, none, 0, 0, 0, 0)
def mX4_standingAfter : hd_I := (yX4_standingAfter, cX4_standingAfter, 4, (some .int), 4, 98, 0, 0)
def mX4_standingOrSame : hd_I := (yX4_standingOrSame, cX4_standingOrSame, 5, (some .int), 5, 121, 0, 0)
def mX4_tilted : hd_I := (yX4_tilted, cX4_tilted, 3, (some .int), 2, 45, 0, 0)
def mX4_valueOf : hd_I := (yX4_valueOf, cX4_valueOf, 7, (some .int), 2, 48, 0, 0)
def mX5_actsUntil : hd_I := (yX5_actsUntil, cX5_actsUntil, 4, (some .int), 0, 0, 0, 0)
def mX5_answerOf : hd_I := (yX5_answerOf, cX5_answerOf, 4, (some .int), 0, 0, 0, 0)
def mX5_reach : hd_I := (yX5_reach, cX5_reach, 6, none, 4, 96, 0, 0)
def mX5_seek : hd_I := (yX5_seek, cX5_seek, 9, none, 6, 145, 0, 0)
def mX5_slotOf : hd_I := (yX5_slotOf, cX5_slotOf, 6, (some .int), 0, 0, 0, 0)
def mX6_add : hd_I := (yX6_add, cX6_add, 3, none, 0, 0, 0, 0)
def mX6_advance : hd_I := (yX6_advance, cX6_advance, 2, none, 1, 24, 0, 0)
def mX6_find : hd_I := (yX6_find, cX6_find, 4, none, 8, 169, 0, 0)
def mX6_findNumber : hd_I := (yX6_findNumber, cX6_findNumber, 3, none, 1, 24, 0, 0)
def mX6_findOne : hd_I := (yX6_findOne, cX6_findOne, 2, none, 7, 148, 0, 0)
def mX6_findSign : hd_I := (yX6_findSign, cX6_findSign, 3, none, 1, 22, 0, 0)
def mX6_isDigit : hd_I := (yX6_isDigit, cX6_isDigit, 1, (some .boolean), 0, 0, 0, 0)
def mX6_isLetter : hd_I := (yX6_isLetter, cX6_isLetter, 1, (some .boolean), 0, 0, 0, 0)
def mX6_isWord : hd_I := (yX6_isWord, cX6_isWord, 3, (some .boolean), 5, 106, 0, 0)
def mX6_kindOfLetter : hd_I := (yX6_kindOfLetter, cX6_kindOfLetter, 1, (some .int), 0, 0, 0, 0)
def mX6_kindOfSign : hd_I := (yX6_kindOfSign, cX6_kindOfSign, 1, (some .int), 0, 0, 0, 0)
def mX6_kindOfWord : hd_I := (yX6_kindOfWord, cX6_kindOfWord, 1, (some .int), 6, 128, 0, 0)
def mX7_about : hd_I := (yX7_about, cX7_about, 2, (some .int), 0, 0, 0, 0)
def mX7_act : hd_I := (yX7_act, cX7_act, 5, (some .int), 6, 145, 0, 0)
def mX7_answerTo : hd_I := (yX7_answerTo, cX7_answerTo, 5, (some .int), 5, 121, 0, 0)
def mX7_back : hd_I := (yX7_back, cX7_back, 1, (some .int), 3, 102, 0, 0)
def mX7_by : hd_I := (yX7_by, cX7_by, 2, (some .boolean), 1, 21, 0, 0)
def mX7_can : hd_I := (yX7_can, cX7_can, 2, (some .boolean), 5, 121, 0, 0)
def mX7_carts : hd_I := (yX7_carts, cX7_carts, 6, (some .int), 6, 145, 0, 0)
def mX7_causeOfPush : hd_I := (yX7_causeOfPush, cX7_causeOfPush, 2, (some .int), 0, 0, 0, 0)
def mX7_causeOfTilt : hd_I := (yX7_causeOfTilt, cX7_causeOfTilt, 1, (some .int), 0, 0, 0, 0)
def mX7_end : hd_I := (yX7_end, cX7_end, 2, (some .int), 0, 0, 0, 0)
def mX7_fault : hd_I := (yX7_fault, cX7_fault, 2, (some .int), 0, 0, 0, 0)
def mX7_feed : hd_I := (yX7_feed, cX7_feed, 6, (some .int), 1, 22, 0, 0)
def mX7_fewest : hd_I := (yX7_fewest, cX7_fewest, 3, (some .int), 7, 173, 0, 0)
def mX7_fits : hd_I := (yX7_fits, cX7_fits, 3, (some .int), 7, 169, 0, 0)
def mX7_forever : hd_I := (yX7_forever, cX7_forever, 1, (some .int), 7, 170, 0, 0)
def mX7_forget : hd_I := (yX7_forget, cX7_forget, 2, (some .int), 0, 0, 0, 0)
def mX7_hollow : hd_I := (yX7_hollow, cX7_hollow, 2, (some .int), 0, 0, 0, 0)
def mX7_image : hd_I := (yX7_image, cX7_image, 1, (some .int), 3, 102, 0, 0)
def mX7_isText : hd_I := (yX7_isText, cX7_isText, 2, (some .boolean), 0, 0, 0, 0)
def mX7_measure : hd_I := (yX7_measure, cX7_measure, 5, (some .int), 1, 23, 0, 0)
def mX7_mostAlike : hd_I := (yX7_mostAlike, cX7_mostAlike, 8, (some .int), 6, 145, 0, 0)
def mX7_move : hd_I := (yX7_move, cX7_move, 5, (some .int), 5, 121, 0, 0)
def mX7_next : hd_I := (yX7_next, cX7_next, 6, (some .int), 7, 172, 0, 0)
def mX7_now : hd_I := (yX7_now, cX7_now, 2, (some .int), 4, 96, 0, 0)
def mX7_part : hd_I := (yX7_part, cX7_part, 2, (some .int), 0, 0, 0, 0)
def mX7_place : hd_I := (yX7_place, cX7_place, 2, (some .int), 1, 23, 0, 0)
def mX7_placeIn : hd_I := (yX7_placeIn, cX7_placeIn, 4, (some .int), 0, 0, 0, 0)
def mX7_played : hd_I := (yX7_played, cX7_played, 4, (some .int), 7, 169, 0, 0)
def mX7_putFour : hd_I := (yX7_putFour, cX7_putFour, 3, none, 0, 0, 0, 0)
def mX7_rulingLaw : hd_I := (yX7_rulingLaw, cX7_rulingLaw, 1, (some (.object "HiddenDrawers$Law")), 1, 21, 0, 0)
def mX7_standingBehindTrials : hd_I := (yX7_standingBehindTrials, cX7_standingBehindTrials, 5, (some .int), 6, 145, 0, 0)
def mX7_text : hd_I := (yX7_text, cX7_text, 1, (some .int), 10, 216, 0, 0)
def mX7_tried : hd_I := (yX7_tried, cX7_tried, 3, (some .int), 0, 0, 0, 0)
def mX7_undo : hd_I := (yX7_undo, cX7_undo, 1, (some .int), 1, 20, 0, 0)
def mX7_whatever : hd_I := (yX7_whatever, cX7_whatever, 6, (some .int), 7, 173, 0, 0)
def mX8_about : hd_I := (yX8_about, cX8_about, 2, (some .int), 1, 22, 0, 0)
def mX8_act : hd_I := (yX8_act, cX8_act, 2, (some .int), 7, 172, 0, 0)
def mX8_actsTo : hd_I := (yX8_actsTo, cX8_actsTo, 6, (some .int), 0, 0, 0, 0)
def mX8_alike : hd_I := (yX8_alike, cX8_alike, 7, (some .int), 7, 171, 0, 0)
def mX8_asked : hd_I := (yX8_asked, cX8_asked, 4, (some .int), 7, 156, 0, 0)
def mX8_asks : hd_I := (yX8_asks, cX8_asks, 5, (some .int), 5, 107, 0, 0)
def mX8_back : hd_I := (yX8_back, cX8_back, 1, (some .int), 1, 22, 0, 0)
def mX8_beginOne : hd_I := (yX8_beginOne, cX8_beginOne, 2, (some .int), 3, 65, 0, 0)
def mX8_behindOne : hd_I := (yX8_behindOne, cX8_behindOne, 2, (some .int), 3, 64, 0, 0)
def mX8_by : hd_I := (yX8_by, cX8_by, 2, (some .boolean), 1, 22, 0, 0)
def mX8_byteAt : hd_I := (yX8_byteAt, cX8_byteAt, 2, (some .int), 0, 0, 0, 0)
def mX8_can : hd_I := (yX8_can, cX8_can, 2, (some .boolean), 5, 123, 0, 0)
def mX8_canBe : hd_I := (yX8_canBe, cX8_canBe, 5, (some .boolean), 4, 99, 0, 0)
def mX8_carts : hd_I := (yX8_carts, cX8_carts, 6, (some .int), 7, 172, 0, 0)
def mX8_clause : hd_I := (yX8_clause, cX8_clause, 5, (some .int), 8, 179, 0, 0)
def mX8_clausesOf : hd_I := (yX8_clausesOf, cX8_clausesOf, 2, (some .int), 0, 0, 0, 0)
def mX8_clip : hd_I := (yX8_clip, cX8_clip, 2, (some .long), 0, 0, 0, 0)
def mX8_compareOf : hd_I := (yX8_compareOf, cX8_compareOf, 1, (some .int), 0, 0, 0, 0)
def mX8_copy : hd_I := (yX8_copy, cX8_copy, 3, none, 0, 0, 0, 0)
def mX8_doNow : hd_I := (yX8_doNow, cX8_doNow, 4, (some .int), 6, 149, 0, 0)
def mX8_does : hd_I := (yX8_does, cX8_does, 7, (some .int), 5, 123, 0, 0)
def mX8_either : hd_I := (yX8_either, cX8_either, 6, (some .int), 6, 131, 0, 0)
def mX8_emit : hd_I := (yX8_emit, cX8_emit, 3, none, 0, 0, 0, 0)
def mX8_end : hd_I := (yX8_end, cX8_end, 2, (some .int), 1, 22, 0, 0)
def mX8_fault : hd_I := (yX8_fault, cX8_fault, 2, (some .int), 0, 0, 0, 0)
def mX8_feed : hd_I := (yX8_feed, cX8_feed, 6, (some .int), 1, 22, 0, 0)
def mX8_fewest : hd_I := (yX8_fewest, cX8_fewest, 2, (some .int), 8, 203, 0, 0)
def mX8_figure : hd_I := (yX8_figure, cX8_figure, 3, (some .int), 3, 64, 0, 0)
def mX8_findFree : hd_I := (yX8_findFree, cX8_findFree, 6, none, 6, 142, 0, 0)
def mX8_fits : hd_I := (yX8_fits, cX8_fits, 3, (some .int), 7, 171, 0, 0)
def mX8_forever : hd_I := (yX8_forever, cX8_forever, 4, (some .int), 8, 198, 0, 0)
def mX8_forget : hd_I := (yX8_forget, cX8_forget, 2, (some .int), 0, 0, 0, 0)
def mX8_four : hd_I := (yX8_four, cX8_four, 3, none, 0, 0, 0, 0)
def mX8_goesOn : hd_I := (yX8_goesOn, cX8_goesOn, 1, (some .boolean), 1, 21, 0, 0)
def mX8_has : hd_I := (yX8_has, cX8_has, 2, (some .boolean), 0, 0, 0, 0)
def mX8_hasParen : hd_I := (yX8_hasParen, cX8_hasParen, 2, (some .boolean), 0, 0, 0, 0)
def mX8_hasWhen : hd_I := (yX8_hasWhen, cX8_hasWhen, 3, (some .boolean), 0, 0, 0, 0)
def mX8_heard : hd_I := (yX8_heard, cX8_heard, 5, (some .int), 3, 74, 0, 0)
def mX8_hollow : hd_I := (yX8_hollow, cX8_hollow, 2, (some .int), 1, 22, 0, 0)
def mX8_image : hd_I := (yX8_image, cX8_image, 1, (some .int), 1, 22, 0, 0)
def mX8_isAct : hd_I := (yX8_isAct, cX8_isAct, 1, (some .boolean), 1, 22, 0, 0)
def mX8_isAsked : hd_I := (yX8_isAsked, cX8_isAsked, 5, (some .boolean), 0, 0, 0, 0)
def mX8_isAsking : hd_I := (yX8_isAsking, cX8_isAsking, 1, (some .boolean), 0, 0, 0, 0)
def mX8_isBarred : hd_I := (yX8_isBarred, cX8_isBarred, 2, (some .boolean), 0, 0, 0, 0)
def mX8_isDigit : hd_I := (yX8_isDigit, cX8_isDigit, 1, (some .boolean), 1, 22, 0, 0)
def mX8_isFit : hd_I := (yX8_isFit, cX8_isFit, 3, (some .boolean), 6, 149, 0, 0)
def mX8_isIn : hd_I := (yX8_isIn, cX8_isIn, 3, (some .boolean), 0, 0, 0, 0)
def mX8_isKept : hd_I := (yX8_isKept, cX8_isKept, 7, (some .boolean), 0, 0, 0, 0)
def mX8_isLetter : hd_I := (yX8_isLetter, cX8_isLetter, 1, (some .boolean), 1, 22, 0, 0)
def mX8_isOnce : hd_I := (yX8_isOnce, cX8_isOnce, 1, (some .boolean), 0, 0, 0, 0)
def mX8_isOpen : hd_I := (yX8_isOpen, cX8_isOpen, 2, (some .boolean), 4, 99, 0, 0)
def mX8_isOpenAt : hd_I := (yX8_isOpenAt, cX8_isOpenAt, 3, (some .boolean), 5, 120, 0, 0)
def mX8_isPart : hd_I := (yX8_isPart, cX8_isPart, 2, (some .boolean), 1, 22, 0, 0)
def mX8_isPlace : hd_I := (yX8_isPlace, cX8_isPlace, 3, (some .boolean), 2, 43, 0, 0)
def mX8_isSo : hd_I := (yX8_isSo, cX8_isSo, 6, (some .boolean), 3, 74, 0, 0)
def mX8_isStopped : hd_I := (yX8_isStopped, cX8_isStopped, 2, (some .boolean), 4, 99, 0, 0)
def mX8_isText : hd_I := (yX8_isText, cX8_isText, 2, (some .boolean), 1, 22, 0, 0)
def mX8_isWord : hd_I := (yX8_isWord, cX8_isWord, 3, (some .boolean), 0, 0, 0, 0)
def mX8_keep : hd_I := (yX8_keep, cX8_keep, 3, none, 0, 0, 0, 0)
def mX8_line : hd_I := (yX8_line, cX8_line, 4, (some .int), 6, 129, 0, 0)
def mX8_made : hd_I := (yX8_made, cX8_made, 5, (some .int), 6, 149, 0, 0)
def mX8_measure : hd_I := (yX8_measure, cX8_measure, 7, (some .int), 1, 22, 0, 0)
def mX8_name : hd_I := (yX8_name, cX8_name, 5, none, 0, 0, 0, 0)
def mX8_nameOf : hd_I := (yX8_nameOf, cX8_nameOf, 1, (some .int), 2, 45, 0, 0)
def mX8_next : hd_I := (yX8_next, cX8_next, 6, (some .int), 8, 197, 0, 0)
def mX8_nextToken : hd_I := (yX8_nextToken, cX8_nextToken, 3, none, 2, 42, 0, 0)
def mX8_now : hd_I := (yX8_now, cX8_now, 2, (some .int), 5, 120, 0, 0)
def mX8_part : hd_I := (yX8_part, cX8_part, 2, (some .int), 1, 22, 0, 0)
def mX8_place : hd_I := (yX8_place, cX8_place, 2, (some .int), 2, 43, 0, 0)
def mX8_placed : hd_I := (yX8_placed, cX8_placed, 3, (some .int), 4, 86, 0, 0)
def mX8_played : hd_I := (yX8_played, cX8_played, 3, (some .int), 8, 193, 0, 0)
def mX8_push : hd_I := (yX8_push, cX8_push, 2, none, 0, 0, 0, 0)
def mX8_reachAll : hd_I := (yX8_reachAll, cX8_reachAll, 6, (some .int), 7, 173, 0, 0)
def mX8_readText : hd_I := (yX8_readText, cX8_readText, 2, (some .int), 9, 203, 0, 0)
def mX8_roll : hd_I := (yX8_roll, cX8_roll, 2, none, 5, 120, 0, 0)
def mX8_search : hd_I := (yX8_search, cX8_search, 11, (some .int), 7, 173, 0, 0)
def mX8_sets : hd_I := (yX8_sets, cX8_sets, 3, none, 3, 65, 0, 0)
def mX8_setting : hd_I := (yX8_setting, cX8_setting, 2, (some .int), 5, 108, 0, 0)
def mX8_settle : hd_I := (yX8_settle, cX8_settle, 2, none, 1, 22, 0, 0)
def mX8_sortOf : hd_I := (yX8_sortOf, cX8_sortOf, 1, (some .int), 2, 46, 0, 0)
def mX8_stand : hd_I := (yX8_stand, cX8_stand, 4, none, 0, 0, 0, 0)
def mX8_standFirst : hd_I := (yX8_standFirst, cX8_standFirst, 2, none, 0, 0, 0, 0)
def mX8_standNow : hd_I := (yX8_standNow, cX8_standNow, 2, none, 2, 43, 0, 0)
def mX8_standing : hd_I := (yX8_standing, cX8_standing, 3, (some .int), 0, 0, 0, 0)
def mX8_summed : hd_I := (yX8_summed, cX8_summed, 2, (some .int), 4, 86, 0, 0)
def mX8_text : hd_I := (yX8_text, cX8_text, 1, (some .int), 10, 224, 0, 0)
def mX8_told : hd_I := (yX8_told, cX8_told, 4, (some .int), 0, 0, 0, 0)
def mX8_tried : hd_I := (yX8_tried, cX8_tried, 3, (some .int), 2, 42, 0, 0)
def mX8_two : hd_I := (yX8_two, cX8_two, 5, (some .long), 1, 21, 0, 0)
def mX8_undo : hd_I := (yX8_undo, cX8_undo, 3, (some .int), 0, 0, 0, 0)
def mX8_w3 : hd_I := (yX8_w3, cX8_w3, 3, (some .long), 0, 0, 0, 0)
def mX8_w4 : hd_I := (yX8_w4, cX8_w4, 4, (some .long), 1, 22, 0, 0)
def mX8_w5 : hd_I := (yX8_w5, cX8_w5, 5, (some .long), 1, 22, 0, 0)
def mX8_whatever : hd_I := (yX8_whatever, cX8_whatever, 6, (some .int), 8, 203, 0, 0)
def mX8_whole : hd_I := (yX8_whole, cX8_whole, 1, none, 1, 22, 0, 0)
def mX8_work : hd_I := (yX8_work, cX8_work, 10, none, 2, 45, 0, 0)
def mJ0_length_8abf5 : hd_I := (yJ0_length_8abf5, cJ0_length_8abf5, 1, (some .int), 1, 20, 0, 0)
def mJ0_charAt_5068e : hd_I := (yJ0_charAt_5068e, cJ0_charAt_5068e, 2, (some .char), 4, 85, 0, 0)
def mX0_init : hd_I := (yX0_init, cX0_init, 2, none, 1, 20, 0, 0)
def mX1_init : hd_I := (yX1_init, cX1_init, 1, none, 1, 20, 0, 0)
def mX2_init : hd_I := (yX2_init, cX2_init, 1, none, 1, 23, 0, 0)
def mX3_init : hd_I := (yX3_init, cX3_init, 1, none, 2, 43, 0, 0)
def mX4_init : hd_I := (yX4_init, cX4_init, 2, none, 1, 20, 0, 0)
def mX5_init : hd_I := (yX5_init, cX5_init, 3, none, 1, 20, 0, 0)
def mX6_init : hd_I := (yX6_init, cX6_init, 1, none, 1, 20, 0, 0)
def mX7_init : hd_I := (yX7_init, cX7_init, 2, none, 3, 63, 0, 0)
def mX8_init : hd_I := (yX8_init, cX8_init, 1, none, 1, 22, 0, 0)
set_option maxRecDepth 100000 in
theorem zJ6_bitCount_0f7a4 : hd_cdc mJ6_bitCount_0f7a4 := List.mem_filter.mpr ⟨hd_tb_sub (c := 4) (List.mem_of_getElem? (i := 104) rfl), rfl⟩
set_option maxRecDepth 100000 in
theorem zJ7_fill_53178 : hd_cdc mJ7_fill_53178 := List.mem_filter.mpr ⟨hd_tb_sub (c := 1) (List.mem_of_getElem? (i := 98) rfl), rfl⟩
set_option maxRecDepth 100000 in
theorem zX0_actsInto : hd_cdc mX0_actsInto := List.mem_filter.mpr ⟨hd_tb_sub (c := 4) (List.mem_of_getElem? (i := 44) rfl), rfl⟩
set_option maxRecDepth 100000 in
theorem zX0_follow : hd_cdc mX0_follow := List.mem_filter.mpr ⟨hd_tb_sub (c := 4) (List.mem_of_getElem? (i := 58) rfl), rfl⟩
set_option maxRecDepth 100000 in
theorem zX0_hope : hd_cdc mX0_hope := List.mem_filter.mpr ⟨hd_tb_sub (c := 4) (List.mem_of_getElem? (i := 54) rfl), rfl⟩
set_option maxRecDepth 100000 in
theorem zX0_hopeWhereItCameFrom : hd_cdc mX0_hopeWhereItCameFrom := List.mem_filter.mpr ⟨hd_tb_sub (c := 4) (List.mem_of_getElem? (i := 63) rfl), rfl⟩
set_option maxRecDepth 100000 in
theorem zX0_hopelessActs : hd_cdc mX0_hopelessActs := List.mem_filter.mpr ⟨hd_tb_sub (c := 4) (List.mem_of_getElem? (i := 67) rfl), rfl⟩
set_option maxRecDepth 100000 in
theorem zX0_reach : hd_cdc mX0_reach := List.mem_filter.mpr ⟨hd_tb_sub (c := 4) (List.mem_of_getElem? (i := 49) rfl), rfl⟩
set_option maxRecDepth 100000 in
theorem zX1_addStep : hd_cdc mX1_addStep := List.mem_filter.mpr ⟨hd_tb_sub (c := 3) (List.mem_of_getElem? (i := 208) rfl), rfl⟩
set_option maxRecDepth 100000 in
theorem zX1_copyFrom : hd_cdc mX1_copyFrom := List.mem_filter.mpr ⟨hd_tb_sub (c := 4) (List.mem_of_getElem? (i := 128) rfl), rfl⟩
set_option maxRecDepth 100000 in
theorem zX1_copyRow : hd_cdc mX1_copyRow := List.mem_filter.mpr ⟨hd_tb_sub (c := 4) (List.mem_of_getElem? (i := 131) rfl), rfl⟩
set_option maxRecDepth 100000 in
theorem zX1_sizeOfHollows : hd_cdc mX1_sizeOfHollows := List.mem_filter.mpr ⟨hd_tb_sub (c := 4) (List.mem_of_getElem? (i := 120) rfl), rfl⟩
set_option maxRecDepth 100000 in
theorem zX1_takeStepBack : hd_cdc mX1_takeStepBack := List.mem_filter.mpr ⟨hd_tb_sub (c := 3) (List.mem_of_getElem? (i := 228) rfl), rfl⟩
set_option maxRecDepth 100000 in
theorem zX2_addCode : hd_cdc mX2_addCode := List.mem_filter.mpr ⟨hd_tb_sub (c := 3) (List.mem_of_getElem? (i := 54) rfl), rfl⟩
set_option maxRecDepth 100000 in
theorem zX2_addDo : hd_cdc mX2_addDo := List.mem_filter.mpr ⟨hd_tb_sub (c := 3) (List.mem_of_getElem? (i := 103) rfl), rfl⟩
set_option maxRecDepth 100000 in
theorem zX2_addSet : hd_cdc mX2_addSet := List.mem_filter.mpr ⟨hd_tb_sub (c := 3) (List.mem_of_getElem? (i := 117) rfl), rfl⟩
set_option maxRecDepth 100000 in
theorem zX2_clear : hd_cdc mX2_clear := List.mem_filter.mpr ⟨hd_tb_sub (c := 2) (List.mem_of_getElem? (i := 156) rfl), rfl⟩
set_option maxRecDepth 100000 in
theorem zX2_has : hd_cdc mX2_has := List.mem_filter.mpr ⟨hd_tb_sub (c := 3) (List.mem_of_getElem? (i := 38) rfl), rfl⟩
set_option maxRecDepth 100000 in
theorem zX3_addOne : hd_cdc mX3_addOne := List.mem_filter.mpr ⟨hd_tb_sub (c := 3) (List.mem_of_getElem? (i := 50) rfl), rfl⟩
set_option maxRecDepth 100000 in
theorem zX3_blame : hd_cdc mX3_blame := List.mem_filter.mpr ⟨hd_tb_sub (c := 3) (List.mem_of_getElem? (i := 34) rfl), rfl⟩
set_option maxRecDepth 100000 in
theorem zX3_closeBracket : hd_cdc mX3_closeBracket := List.mem_filter.mpr ⟨hd_tb_sub (c := 3) (List.mem_of_getElem? (i := 84) rfl), rfl⟩
set_option maxRecDepth 100000 in
theorem zX3_isNameOf : hd_cdc mX3_isNameOf := List.mem_filter.mpr ⟨hd_tb_sub (c := 3) (List.mem_of_getElem? (i := 57) rfl), rfl⟩
set_option maxRecDepth 100000 in
theorem zX3_join : hd_cdc mX3_join := List.mem_filter.mpr ⟨hd_tb_sub (c := 3) (List.mem_of_getElem? (i := 73) rfl), rfl⟩
set_option maxRecDepth 100000 in
theorem zX3_nestIn : hd_cdc mX3_nestIn := List.mem_filter.mpr ⟨hd_tb_sub (c := 3) (List.mem_of_getElem? (i := 61) rfl), rfl⟩
set_option maxRecDepth 100000 in
theorem zX3_putToWait : hd_cdc mX3_putToWait := List.mem_filter.mpr ⟨hd_tb_sub (c := 3) (List.mem_of_getElem? (i := 65) rfl), rfl⟩
set_option maxRecDepth 100000 in
theorem zX3_read : hd_cdc mX3_read := List.mem_filter.mpr ⟨hd_tb_sub (c := 2) (List.mem_of_getElem? (i := 152) rfl), rfl⟩
set_option maxRecDepth 100000 in
theorem zX3_readClause : hd_cdc mX3_readClause := List.mem_filter.mpr ⟨hd_tb_sub (c := 3) (List.mem_of_getElem? (i := 30) rfl), rfl⟩
set_option maxRecDepth 100000 in
theorem zX3_readRule : hd_cdc mX3_readRule := List.mem_filter.mpr ⟨hd_tb_sub (c := 3) (List.mem_of_getElem? (i := 42) rfl), rfl⟩
set_option maxRecDepth 100000 in
theorem zX3_readSet : hd_cdc mX3_readSet := List.mem_filter.mpr ⟨hd_tb_sub (c := 3) (List.mem_of_getElem? (i := 107) rfl), rfl⟩
set_option maxRecDepth 100000 in
theorem zX3_release : hd_cdc mX3_release := List.mem_filter.mpr ⟨hd_tb_sub (c := 3) (List.mem_of_getElem? (i := 80) rfl), rfl⟩
set_option maxRecDepth 100000 in
theorem zX3_strengthOf : hd_cdc mX3_strengthOf := List.mem_filter.mpr ⟨hd_tb_sub (c := 3) (List.mem_of_getElem? (i := 76) rfl), rfl⟩
set_option maxRecDepth 100000 in
theorem zX3_takeNumber : hd_cdc mX3_takeNumber := List.mem_filter.mpr ⟨hd_tb_sub (c := 3) (List.mem_of_getElem? (i := 95) rfl), rfl⟩
set_option maxRecDepth 100000 in
theorem zX3_takeOne : hd_cdc mX3_takeOne := List.mem_filter.mpr ⟨hd_tb_sub (c := 3) (List.mem_of_getElem? (i := 46) rfl), rfl⟩
set_option maxRecDepth 100000 in
theorem zX3_takeOperator : hd_cdc mX3_takeOperator := List.mem_filter.mpr ⟨hd_tb_sub (c := 3) (List.mem_of_getElem? (i := 69) rfl), rfl⟩
set_option maxRecDepth 100000 in
theorem zX3_takeToken : hd_cdc mX3_takeToken := List.mem_filter.mpr ⟨hd_tb_sub (c := 3) (List.mem_of_getElem? (i := 99) rfl), rfl⟩
set_option maxRecDepth 100000 in
theorem zX3_takeWhenPart : hd_cdc mX3_takeWhenPart := List.mem_filter.mpr ⟨hd_tb_sub (c := 3) (List.mem_of_getElem? (i := 91) rfl), rfl⟩
set_option maxRecDepth 100000 in
theorem zX4_ballAfter : hd_cdc mX4_ballAfter := List.mem_filter.mpr ⟨hd_tb_sub (c := 3) (List.mem_of_getElem? (i := 204) rfl), rfl⟩
set_option maxRecDepth 100000 in
theorem zX4_gather : hd_cdc mX4_gather := List.mem_filter.mpr ⟨hd_tb_sub (c := 3) (List.mem_of_getElem? (i := 162) rfl), rfl⟩
set_option maxRecDepth 100000 in
theorem zX4_heardOf : hd_cdc mX4_heardOf := List.mem_filter.mpr ⟨hd_tb_sub (c := 3) (List.mem_of_getElem? (i := 195) rfl), rfl⟩
set_option maxRecDepth 100000 in
theorem zX4_isOpen : hd_cdc mX4_isOpen := List.mem_filter.mpr ⟨hd_tb_sub (c := 4) (List.mem_of_getElem? (i := 3) rfl), rfl⟩
set_option maxRecDepth 100000 in
theorem zX4_isPlace : hd_cdc mX4_isPlace := List.mem_filter.mpr ⟨hd_tb_sub (c := 3) (List.mem_of_getElem? (i := 158) rfl), rfl⟩
set_option maxRecDepth 100000 in
theorem zX4_joined : hd_cdc mX4_joined := List.mem_filter.mpr ⟨hd_tb_sub (c := 3) (List.mem_of_getElem? (i := 174) rfl), rfl⟩
set_option maxRecDepth 100000 in
theorem zX4_partsMoved : hd_cdc mX4_partsMoved := List.mem_filter.mpr ⟨hd_tb_sub (c := 3) (List.mem_of_getElem? (i := 198) rfl), rfl⟩
set_option maxRecDepth 100000 in
theorem zX4_pushed : hd_cdc mX4_pushed := List.mem_filter.mpr ⟨hd_tb_sub (c := 3) (List.mem_of_getElem? (i := 166) rfl), rfl⟩
set_option maxRecDepth 100000 in
theorem zX4_setBy : hd_cdc mX4_setBy := List.mem_filter.mpr ⟨hd_tb_sub (c := 3) (List.mem_of_getElem? (i := 154) rfl), rfl⟩
set_option maxRecDepth 100000 in
theorem zX4_show : hd_cdc mX4_show := List.mem_filter.mpr ⟨hd_tb_sub (c := 3) (List.mem_of_getElem? (i := 145) rfl), rfl⟩
set_option maxRecDepth 100000 in
theorem zX4_standingAfter : hd_cdc mX4_standingAfter := List.mem_filter.mpr ⟨hd_tb_sub (c := 3) (List.mem_of_getElem? (i := 141) rfl), rfl⟩
set_option maxRecDepth 100000 in
theorem zX4_standingOrSame : hd_cdc mX4_standingOrSame := List.mem_filter.mpr ⟨hd_tb_sub (c := 4) (List.mem_of_getElem? (i := 31) rfl), rfl⟩
set_option maxRecDepth 100000 in
theorem zX4_tilted : hd_cdc mX4_tilted := List.mem_filter.mpr ⟨hd_tb_sub (c := 3) (List.mem_of_getElem? (i := 149) rfl), rfl⟩
set_option maxRecDepth 100000 in
theorem zX4_valueOf : hd_cdc mX4_valueOf := List.mem_filter.mpr ⟨hd_tb_sub (c := 3) (List.mem_of_getElem? (i := 171) rfl), rfl⟩
set_option maxRecDepth 100000 in
theorem zX5_actsUntil : hd_cdc mX5_actsUntil := List.mem_filter.mpr ⟨hd_tb_sub (c := 4) (List.mem_of_getElem? (i := 27) rfl), rfl⟩
set_option maxRecDepth 100000 in
theorem zX5_answerOf : hd_cdc mX5_answerOf := List.mem_filter.mpr ⟨hd_tb_sub (c := 4) (List.mem_of_getElem? (i := 36) rfl), rfl⟩
set_option maxRecDepth 100000 in
theorem zX5_reach : hd_cdc mX5_reach := List.mem_filter.mpr ⟨hd_tb_sub (c := 4) (List.mem_of_getElem? (i := 17) rfl), rfl⟩
set_option maxRecDepth 100000 in
theorem zX5_seek : hd_cdc mX5_seek := List.mem_filter.mpr ⟨hd_tb_sub (c := 4) (List.mem_of_getElem? (i := 11) rfl), rfl⟩
set_option maxRecDepth 100000 in
theorem zX5_slotOf : hd_cdc mX5_slotOf := List.mem_filter.mpr ⟨hd_tb_sub (c := 4) (List.mem_of_getElem? (i := 21) rfl), rfl⟩
set_option maxRecDepth 100000 in
theorem zX6_add : hd_cdc mX6_add := List.mem_filter.mpr ⟨hd_tb_sub (c := 3) (List.mem_of_getElem? (i := 8) rfl), rfl⟩
set_option maxRecDepth 100000 in
theorem zX6_advance : hd_cdc mX6_advance := List.mem_filter.mpr ⟨hd_tb_sub (c := 3) (List.mem_of_getElem? (i := 26) rfl), rfl⟩
set_option maxRecDepth 100000 in
theorem zX6_find : hd_cdc mX6_find := List.mem_filter.mpr ⟨hd_tb_sub (c := 2) (List.mem_of_getElem? (i := 160) rfl), rfl⟩
set_option maxRecDepth 100000 in
theorem zX6_findNumber : hd_cdc mX6_findNumber := List.mem_filter.mpr ⟨hd_tb_sub (c := 3) (List.mem_of_getElem? (i := 15) rfl), rfl⟩
set_option maxRecDepth 100000 in
theorem zX6_findOne : hd_cdc mX6_findOne := List.mem_filter.mpr ⟨hd_tb_sub (c := 2) (List.mem_of_getElem? (i := 167) rfl), rfl⟩
set_option maxRecDepth 100000 in
theorem zX6_findSign : hd_cdc mX6_findSign := List.mem_filter.mpr ⟨hd_tb_sub (c := 3) (List.mem_of_getElem? (i := 19) rfl), rfl⟩
set_option maxRecDepth 100000 in
theorem zX6_isDigit : hd_cdc mX6_isDigit := List.mem_filter.mpr ⟨hd_tb_sub (c := 3) (List.mem_of_getElem? (i := 11) rfl), rfl⟩
set_option maxRecDepth 100000 in
theorem zX6_isLetter : hd_cdc mX6_isLetter := List.mem_filter.mpr ⟨hd_tb_sub (c := 2) (List.mem_of_getElem? (i := 170) rfl), rfl⟩
set_option maxRecDepth 100000 in
theorem zX6_isWord : hd_cdc mX6_isWord := List.mem_filter.mpr ⟨hd_tb_sub (c := 2) (List.mem_of_getElem? (i := 182) rfl), rfl⟩
set_option maxRecDepth 100000 in
theorem zX6_kindOfLetter : hd_cdc mX6_kindOfLetter := List.mem_filter.mpr ⟨hd_tb_sub (c := 2) (List.mem_of_getElem? (i := 173) rfl), rfl⟩
set_option maxRecDepth 100000 in
theorem zX6_kindOfSign : hd_cdc mX6_kindOfSign := List.mem_filter.mpr ⟨hd_tb_sub (c := 3) (List.mem_of_getElem? (i := 22) rfl), rfl⟩
set_option maxRecDepth 100000 in
theorem zX6_kindOfWord : hd_cdc mX6_kindOfWord := List.mem_filter.mpr ⟨hd_tb_sub (c := 2) (List.mem_of_getElem? (i := 177) rfl), rfl⟩
set_option maxRecDepth 100000 in
theorem zX7_about : hd_cdc mX7_about := List.mem_filter.mpr ⟨hd_tb_sub (c := 4) (List.mem_of_getElem? (i := 140) rfl), rfl⟩
set_option maxRecDepth 100000 in
theorem zX7_act : hd_cdc mX7_act := List.mem_filter.mpr ⟨hd_tb_sub (c := 3) (List.mem_of_getElem? (i := 187) rfl), rfl⟩
set_option maxRecDepth 100000 in
theorem zX7_answerTo : hd_cdc mX7_answerTo := List.mem_filter.mpr ⟨hd_tb_sub (c := 4) (List.mem_of_getElem? (i := 87) rfl), rfl⟩
set_option maxRecDepth 100000 in
theorem zX7_back : hd_cdc mX7_back := List.mem_filter.mpr ⟨hd_tb_sub (c := 4) (List.mem_of_getElem? (i := 136) rfl), rfl⟩
set_option maxRecDepth 100000 in
theorem zX7_by : hd_cdc mX7_by := List.mem_filter.mpr ⟨hd_tb_sub (c := 3) (List.mem_of_getElem? (i := 125) rfl), rfl⟩
set_option maxRecDepth 100000 in
theorem zX7_can : hd_cdc mX7_can := List.mem_filter.mpr ⟨hd_tb_sub (c := 3) (List.mem_of_getElem? (i := 133) rfl), rfl⟩
set_option maxRecDepth 100000 in
theorem zX7_carts : hd_cdc mX7_carts := List.mem_filter.mpr ⟨hd_tb_sub (c := 3) (List.mem_of_getElem? (i := 220) rfl), rfl⟩
set_option maxRecDepth 100000 in
theorem zX7_causeOfPush : hd_cdc mX7_causeOfPush := List.mem_filter.mpr ⟨hd_tb_sub (c := 3) (List.mem_of_getElem? (i := 110) rfl), rfl⟩
set_option maxRecDepth 100000 in
theorem zX7_causeOfTilt : hd_cdc mX7_causeOfTilt := List.mem_filter.mpr ⟨hd_tb_sub (c := 3) (List.mem_of_getElem? (i := 113) rfl), rfl⟩
set_option maxRecDepth 100000 in
theorem zX7_end : hd_cdc mX7_end := List.mem_filter.mpr ⟨hd_tb_sub (c := 2) (List.mem_of_getElem? (i := 144) rfl), rfl⟩
set_option maxRecDepth 100000 in
theorem zX7_fault : hd_cdc mX7_fault := List.mem_filter.mpr ⟨hd_tb_sub (c := 3) (List.mem_of_getElem? (i := 121) rfl), rfl⟩
set_option maxRecDepth 100000 in
theorem zX7_feed : hd_cdc mX7_feed := List.mem_filter.mpr ⟨hd_tb_sub (c := 2) (List.mem_of_getElem? (i := 136) rfl), rfl⟩
set_option maxRecDepth 100000 in
theorem zX7_fewest : hd_cdc mX7_fewest := List.mem_filter.mpr ⟨hd_tb_sub (c := 4) (List.mem_of_getElem? (i := 7) rfl), rfl⟩
set_option maxRecDepth 100000 in
theorem zX7_fits : hd_cdc mX7_fits := List.mem_filter.mpr ⟨hd_tb_sub (c := 4) (List.mem_of_getElem? (i := 79) rfl), rfl⟩
set_option maxRecDepth 100000 in
theorem zX7_forever : hd_cdc mX7_forever := List.mem_filter.mpr ⟨hd_tb_sub (c := 4) (List.mem_of_getElem? (i := 40) rfl), rfl⟩
set_option maxRecDepth 100000 in
theorem zX7_forget : hd_cdc mX7_forget := List.mem_filter.mpr ⟨hd_tb_sub (c := 4) (List.mem_of_getElem? (i := 75) rfl), rfl⟩
set_option maxRecDepth 100000 in
theorem zX7_hollow : hd_cdc mX7_hollow := List.mem_filter.mpr ⟨hd_tb_sub (c := 4) (List.mem_of_getElem? (i := 112) rfl), rfl⟩
set_option maxRecDepth 100000 in
theorem zX7_image : hd_cdc mX7_image := List.mem_filter.mpr ⟨hd_tb_sub (c := 4) (List.mem_of_getElem? (i := 124) rfl), rfl⟩
set_option maxRecDepth 100000 in
theorem zX7_isText : hd_cdc mX7_isText := List.mem_filter.mpr ⟨hd_tb_sub (c := 3) (List.mem_of_getElem? (i := 129) rfl), rfl⟩
set_option maxRecDepth 100000 in
theorem zX7_measure : hd_cdc mX7_measure := List.mem_filter.mpr ⟨hd_tb_sub (c := 4) (List.mem_of_getElem? (i := 116) rfl), rfl⟩
set_option maxRecDepth 100000 in
theorem zX7_mostAlike : hd_cdc mX7_mostAlike := List.mem_filter.mpr ⟨hd_tb_sub (c := 4) (List.mem_of_getElem? (i := 96) rfl), rfl⟩
set_option maxRecDepth 100000 in
theorem zX7_move : hd_cdc mX7_move := List.mem_filter.mpr ⟨hd_tb_sub (c := 3) (List.mem_of_getElem? (i := 191) rfl), rfl⟩
set_option maxRecDepth 100000 in
theorem zX7_next : hd_cdc mX7_next := List.mem_filter.mpr ⟨hd_tb_sub (c := 4) (List.mem_of_getElem? (i := 92) rfl), rfl⟩
set_option maxRecDepth 100000 in
theorem zX7_now : hd_cdc mX7_now := List.mem_filter.mpr ⟨hd_tb_sub (c := 3) (List.mem_of_getElem? (i := 239) rfl), rfl⟩
set_option maxRecDepth 100000 in
theorem zX7_part : hd_cdc mX7_part := List.mem_filter.mpr ⟨hd_tb_sub (c := 2) (List.mem_of_getElem? (i := 132) rfl), rfl⟩
set_option maxRecDepth 100000 in
theorem zX7_place : hd_cdc mX7_place := List.mem_filter.mpr ⟨hd_tb_sub (c := 3) (List.mem_of_getElem? (i := 232) rfl), rfl⟩
set_option maxRecDepth 100000 in
theorem zX7_placeIn : hd_cdc mX7_placeIn := List.mem_filter.mpr ⟨hd_tb_sub (c := 3) (List.mem_of_getElem? (i := 235) rfl), rfl⟩
set_option maxRecDepth 100000 in
theorem zX7_played : hd_cdc mX7_played := List.mem_filter.mpr ⟨hd_tb_sub (c := 3) (List.mem_of_getElem? (i := 215) rfl), rfl⟩
set_option maxRecDepth 100000 in
theorem zX7_putFour : hd_cdc mX7_putFour := List.mem_filter.mpr ⟨hd_tb_sub (c := 2) (List.mem_of_getElem? (i := 140) rfl), rfl⟩
set_option maxRecDepth 100000 in
theorem zX7_rulingLaw : hd_cdc mX7_rulingLaw := List.mem_filter.mpr ⟨hd_tb_sub (c := 3) (List.mem_of_getElem? (i := 137) rfl), rfl⟩
set_option maxRecDepth 100000 in
theorem zX7_standingBehindTrials : hd_cdc mX7_standingBehindTrials := List.mem_filter.mpr ⟨hd_tb_sub (c := 4) (List.mem_of_getElem? (i := 83) rfl), rfl⟩
set_option maxRecDepth 100000 in
theorem zX7_text : hd_cdc mX7_text := List.mem_filter.mpr ⟨hd_tb_sub (c := 2) (List.mem_of_getElem? (i := 148) rfl), rfl⟩
set_option maxRecDepth 100000 in
theorem zX7_tried : hd_cdc mX7_tried := List.mem_filter.mpr ⟨hd_tb_sub (c := 4) (List.mem_of_getElem? (i := 71) rfl), rfl⟩
set_option maxRecDepth 100000 in
theorem zX7_undo : hd_cdc mX7_undo := List.mem_filter.mpr ⟨hd_tb_sub (c := 3) (List.mem_of_getElem? (i := 224) rfl), rfl⟩
set_option maxRecDepth 100000 in
theorem zX7_whatever : hd_cdc mX7_whatever := List.mem_filter.mpr ⟨hd_tb_sub (c := 4) (List.mem_of_getElem? (i := 101) rfl), rfl⟩
set_option maxRecDepth 100000 in
theorem zX8_about : hd_cdc mX8_about := List.mem_filter.mpr ⟨hd_tb_sub (c := 6) (List.mem_of_getElem? (i := 175) rfl), rfl⟩
set_option maxRecDepth 100000 in
theorem zX8_act : hd_cdc mX8_act := List.mem_filter.mpr ⟨hd_tb_sub (c := 6) (List.mem_of_getElem? (i := 16) rfl), rfl⟩
set_option maxRecDepth 100000 in
theorem zX8_actsTo : hd_cdc mX8_actsTo := List.mem_filter.mpr ⟨hd_tb_sub (c := 6) (List.mem_of_getElem? (i := 107) rfl), rfl⟩
set_option maxRecDepth 100000 in
theorem zX8_alike : hd_cdc mX8_alike := List.mem_filter.mpr ⟨hd_tb_sub (c := 6) (List.mem_of_getElem? (i := 148) rfl), rfl⟩
set_option maxRecDepth 100000 in
theorem zX8_asked : hd_cdc mX8_asked := List.mem_filter.mpr ⟨hd_tb_sub (c := 5) (List.mem_of_getElem? (i := 108) rfl), rfl⟩
set_option maxRecDepth 100000 in
theorem zX8_asks : hd_cdc mX8_asks := List.mem_filter.mpr ⟨hd_tb_sub (c := 5) (List.mem_of_getElem? (i := 172) rfl), rfl⟩
set_option maxRecDepth 100000 in
theorem zX8_back : hd_cdc mX8_back := List.mem_filter.mpr ⟨hd_tb_sub (c := 6) (List.mem_of_getElem? (i := 171) rfl), rfl⟩
set_option maxRecDepth 100000 in
theorem zX8_beginOne : hd_cdc mX8_beginOne := List.mem_filter.mpr ⟨hd_tb_sub (c := 5) (List.mem_of_getElem? (i := 152) rfl), rfl⟩
set_option maxRecDepth 100000 in
theorem zX8_behindOne : hd_cdc mX8_behindOne := List.mem_filter.mpr ⟨hd_tb_sub (c := 5) (List.mem_of_getElem? (i := 132) rfl), rfl⟩
set_option maxRecDepth 100000 in
theorem zX8_by : hd_cdc mX8_by := List.mem_filter.mpr ⟨hd_tb_sub (c := 5) (List.mem_of_getElem? (i := 198) rfl), rfl⟩
set_option maxRecDepth 100000 in
theorem zX8_byteAt : hd_cdc mX8_byteAt := List.mem_filter.mpr ⟨hd_tb_sub (c := 5) (List.mem_of_getElem? (i := 69) rfl), rfl⟩
set_option maxRecDepth 100000 in
theorem zX8_can : hd_cdc mX8_can := List.mem_filter.mpr ⟨hd_tb_sub (c := 5) (List.mem_of_getElem? (i := 202) rfl), rfl⟩
set_option maxRecDepth 100000 in
theorem zX8_canBe : hd_cdc mX8_canBe := List.mem_filter.mpr ⟨hd_tb_sub (c := 5) (List.mem_of_getElem? (i := 217) rfl), rfl⟩
set_option maxRecDepth 100000 in
theorem zX8_carts : hd_cdc mX8_carts := List.mem_filter.mpr ⟨hd_tb_sub (c := 6) (List.mem_of_getElem? (i := 59) rfl), rfl⟩
set_option maxRecDepth 100000 in
theorem zX8_clause : hd_cdc mX8_clause := List.mem_filter.mpr ⟨hd_tb_sub (c := 5) (List.mem_of_getElem? (i := 80) rfl), rfl⟩
set_option maxRecDepth 100000 in
theorem zX8_clausesOf : hd_cdc mX8_clausesOf := List.mem_filter.mpr ⟨hd_tb_sub (c := 5) (List.mem_of_getElem? (i := 233) rfl), rfl⟩
set_option maxRecDepth 100000 in
theorem zX8_clip : hd_cdc mX8_clip := List.mem_filter.mpr ⟨hd_tb_sub (c := 6) (List.mem_of_getElem? (i := 7) rfl), rfl⟩
set_option maxRecDepth 100000 in
theorem zX8_compareOf : hd_cdc mX8_compareOf := List.mem_filter.mpr ⟨hd_tb_sub (c := 5) (List.mem_of_getElem? (i := 176) rfl), rfl⟩
set_option maxRecDepth 100000 in
theorem zX8_copy : hd_cdc mX8_copy := List.mem_filter.mpr ⟨hd_tb_sub (c := 4) (List.mem_of_getElem? (i := 150) rfl), rfl⟩
set_option maxRecDepth 100000 in
theorem zX8_doNow : hd_cdc mX8_doNow := List.mem_filter.mpr ⟨hd_tb_sub (c := 6) (List.mem_of_getElem? (i := 25) rfl), rfl⟩
set_option maxRecDepth 100000 in
theorem zX8_does : hd_cdc mX8_does := List.mem_filter.mpr ⟨hd_tb_sub (c := 6) (List.mem_of_getElem? (i := 29) rfl), rfl⟩
set_option maxRecDepth 100000 in
theorem zX8_either : hd_cdc mX8_either := List.mem_filter.mpr ⟨hd_tb_sub (c := 5) (List.mem_of_getElem? (i := 168) rfl), rfl⟩
set_option maxRecDepth 100000 in
theorem zX8_emit : hd_cdc mX8_emit := List.mem_filter.mpr ⟨hd_tb_sub (c := 5) (List.mem_of_getElem? (i := 140) rfl), rfl⟩
set_option maxRecDepth 100000 in
theorem zX8_end : hd_cdc mX8_end := List.mem_filter.mpr ⟨hd_tb_sub (c := 5) (List.mem_of_getElem? (i := 53) rfl), rfl⟩
set_option maxRecDepth 100000 in
theorem zX8_fault : hd_cdc mX8_fault := List.mem_filter.mpr ⟨hd_tb_sub (c := 5) (List.mem_of_getElem? (i := 194) rfl), rfl⟩
set_option maxRecDepth 100000 in
theorem zX8_feed : hd_cdc mX8_feed := List.mem_filter.mpr ⟨hd_tb_sub (c := 5) (List.mem_of_getElem? (i := 45) rfl), rfl⟩
set_option maxRecDepth 100000 in
theorem zX8_fewest : hd_cdc mX8_fewest := List.mem_filter.mpr ⟨hd_tb_sub (c := 6) (List.mem_of_getElem? (i := 79) rfl), rfl⟩
set_option maxRecDepth 100000 in
theorem zX8_figure : hd_cdc mX8_figure := List.mem_filter.mpr ⟨hd_tb_sub (c := 5) (List.mem_of_getElem? (i := 116) rfl), rfl⟩
set_option maxRecDepth 100000 in
theorem zX8_findFree : hd_cdc mX8_findFree := List.mem_filter.mpr ⟨hd_tb_sub (c := 6) (List.mem_of_getElem? (i := 119) rfl), rfl⟩
set_option maxRecDepth 100000 in
theorem zX8_fits : hd_cdc mX8_fits := List.mem_filter.mpr ⟨hd_tb_sub (c := 6) (List.mem_of_getElem? (i := 131) rfl), rfl⟩
set_option maxRecDepth 100000 in
theorem zX8_forever : hd_cdc mX8_forever := List.mem_filter.mpr ⟨hd_tb_sub (c := 6) (List.mem_of_getElem? (i := 111) rfl), rfl⟩
set_option maxRecDepth 100000 in
theorem zX8_forget : hd_cdc mX8_forget := List.mem_filter.mpr ⟨hd_tb_sub (c := 6) (List.mem_of_getElem? (i := 127) rfl), rfl⟩
set_option maxRecDepth 100000 in
theorem zX8_four : hd_cdc mX8_four := List.mem_filter.mpr ⟨hd_tb_sub (c := 5) (List.mem_of_getElem? (i := 49) rfl), rfl⟩
set_option maxRecDepth 100000 in
theorem zX8_goesOn : hd_cdc mX8_goesOn := List.mem_filter.mpr ⟨hd_tb_sub (c := 5) (List.mem_of_getElem? (i := 124) rfl), rfl⟩
set_option maxRecDepth 100000 in
theorem zX8_has : hd_cdc mX8_has := List.mem_filter.mpr ⟨hd_tb_sub (c := 6) (List.mem_of_getElem? (i := 151) rfl), rfl⟩
set_option maxRecDepth 100000 in
theorem zX8_hasParen : hd_cdc mX8_hasParen := List.mem_filter.mpr ⟨hd_tb_sub (c := 5) (List.mem_of_getElem? (i := 128) rfl), rfl⟩
set_option maxRecDepth 100000 in
theorem zX8_hasWhen : hd_cdc mX8_hasWhen := List.mem_filter.mpr ⟨hd_tb_sub (c := 5) (List.mem_of_getElem? (i := 112) rfl), rfl⟩
set_option maxRecDepth 100000 in
theorem zX8_heard : hd_cdc mX8_heard := List.mem_filter.mpr ⟨hd_tb_sub (c := 6) (List.mem_of_getElem? (i := 37) rfl), rfl⟩
set_option maxRecDepth 100000 in
theorem zX8_hollow : hd_cdc mX8_hollow := List.mem_filter.mpr ⟨hd_tb_sub (c := 6) (List.mem_of_getElem? (i := 159) rfl), rfl⟩
set_option maxRecDepth 100000 in
theorem zX8_image : hd_cdc mX8_image := List.mem_filter.mpr ⟨hd_tb_sub (c := 6) (List.mem_of_getElem? (i := 167) rfl), rfl⟩
set_option maxRecDepth 100000 in
theorem zX8_isAct : hd_cdc mX8_isAct := List.mem_filter.mpr ⟨hd_tb_sub (c := 5) (List.mem_of_getElem? (i := 205) rfl), rfl⟩
set_option maxRecDepth 100000 in
theorem zX8_isAsked : hd_cdc mX8_isAsked := List.mem_filter.mpr ⟨hd_tb_sub (c := 6) (List.mem_of_getElem? (i := 12) rfl), rfl⟩
set_option maxRecDepth 100000 in
theorem zX8_isAsking : hd_cdc mX8_isAsking := List.mem_filter.mpr ⟨hd_tb_sub (c := 5) (List.mem_of_getElem? (i := 104) rfl), rfl⟩
set_option maxRecDepth 100000 in
theorem zX8_isBarred : hd_cdc mX8_isBarred := List.mem_filter.mpr ⟨hd_tb_sub (c := 5) (List.mem_of_getElem? (i := 164) rfl), rfl⟩
set_option maxRecDepth 100000 in
theorem zX8_isDigit : hd_cdc mX8_isDigit := List.mem_filter.mpr ⟨hd_tb_sub (c := 5) (List.mem_of_getElem? (i := 72) rfl), rfl⟩
set_option maxRecDepth 100000 in
theorem zX8_isFit : hd_cdc mX8_isFit := List.mem_filter.mpr ⟨hd_tb_sub (c := 6) (List.mem_of_getElem? (i := 135) rfl), rfl⟩
set_option maxRecDepth 100000 in
theorem zX8_isIn : hd_cdc mX8_isIn := List.mem_filter.mpr ⟨hd_tb_sub (c := 5) (List.mem_of_getElem? (i := 41) rfl), rfl⟩
set_option maxRecDepth 100000 in
theorem zX8_isKept : hd_cdc mX8_isKept := List.mem_filter.mpr ⟨hd_tb_sub (c := 6) (List.mem_of_getElem? (i := 91) rfl), rfl⟩
set_option maxRecDepth 100000 in
theorem zX8_isLetter : hd_cdc mX8_isLetter := List.mem_filter.mpr ⟨hd_tb_sub (c := 5) (List.mem_of_getElem? (i := 76) rfl), rfl⟩
set_option maxRecDepth 100000 in
theorem zX8_isOnce : hd_cdc mX8_isOnce := List.mem_filter.mpr ⟨hd_tb_sub (c := 5) (List.mem_of_getElem? (i := 101) rfl), rfl⟩
set_option maxRecDepth 100000 in
theorem zX8_isOpen : hd_cdc mX8_isOpen := List.mem_filter.mpr ⟨hd_tb_sub (c := 6) (List.mem_of_getElem? (i := 75) rfl), rfl⟩
set_option maxRecDepth 100000 in
theorem zX8_isOpenAt : hd_cdc mX8_isOpenAt := List.mem_filter.mpr ⟨hd_tb_sub (c := 6) (List.mem_of_getElem? (i := 95) rfl), rfl⟩
set_option maxRecDepth 100000 in
theorem zX8_isPart : hd_cdc mX8_isPart := List.mem_filter.mpr ⟨hd_tb_sub (c := 5) (List.mem_of_getElem? (i := 213) rfl), rfl⟩
set_option maxRecDepth 100000 in
theorem zX8_isPlace : hd_cdc mX8_isPlace := List.mem_filter.mpr ⟨hd_tb_sub (c := 5) (List.mem_of_getElem? (i := 221) rfl), rfl⟩
set_option maxRecDepth 100000 in
theorem zX8_isSo : hd_cdc mX8_isSo := List.mem_filter.mpr ⟨hd_tb_sub (c := 5) (List.mem_of_getElem? (i := 229) rfl), rfl⟩
set_option maxRecDepth 100000 in
theorem zX8_isStopped : hd_cdc mX8_isStopped := List.mem_filter.mpr ⟨hd_tb_sub (c := 6) (List.mem_of_getElem? (i := 46) rfl), rfl⟩
set_option maxRecDepth 100000 in
theorem zX8_isText : hd_cdc mX8_isText := List.mem_filter.mpr ⟨hd_tb_sub (c := 6) (List.mem_of_getElem? (i := 54) rfl), rfl⟩
set_option maxRecDepth 100000 in
theorem zX8_isWord : hd_cdc mX8_isWord := List.mem_filter.mpr ⟨hd_tb_sub (c := 5) (List.mem_of_getElem? (i := 94) rfl), rfl⟩
set_option maxRecDepth 100000 in
theorem zX8_keep : hd_cdc mX8_keep := List.mem_filter.mpr ⟨hd_tb_sub (c := 6) (List.mem_of_getElem? (i := 21) rfl), rfl⟩
set_option maxRecDepth 100000 in
theorem zX8_line : hd_cdc mX8_line := List.mem_filter.mpr ⟨hd_tb_sub (c := 5) (List.mem_of_getElem? (i := 181) rfl), rfl⟩
set_option maxRecDepth 100000 in
theorem zX8_made : hd_cdc mX8_made := List.mem_filter.mpr ⟨hd_tb_sub (c := 6) (List.mem_of_getElem? (i := 103) rfl), rfl⟩
set_option maxRecDepth 100000 in
theorem zX8_measure : hd_cdc mX8_measure := List.mem_filter.mpr ⟨hd_tb_sub (c := 6) (List.mem_of_getElem? (i := 163) rfl), rfl⟩
set_option maxRecDepth 100000 in
theorem zX8_name : hd_cdc mX8_name := List.mem_filter.mpr ⟨hd_tb_sub (c := 5) (List.mem_of_getElem? (i := 225) rfl), rfl⟩
set_option maxRecDepth 100000 in
theorem zX8_nameOf : hd_cdc mX8_nameOf := List.mem_filter.mpr ⟨hd_tb_sub (c := 5) (List.mem_of_getElem? (i := 156) rfl), rfl⟩
set_option maxRecDepth 100000 in
theorem zX8_next : hd_cdc mX8_next := List.mem_filter.mpr ⟨hd_tb_sub (c := 6) (List.mem_of_getElem? (i := 143) rfl), rfl⟩
set_option maxRecDepth 100000 in
theorem zX8_nextToken : hd_cdc mX8_nextToken := List.mem_filter.mpr ⟨hd_tb_sub (c := 5) (List.mem_of_getElem? (i := 65) rfl), rfl⟩
set_option maxRecDepth 100000 in
theorem zX8_now : hd_cdc mX8_now := List.mem_filter.mpr ⟨hd_tb_sub (c := 6) (List.mem_of_getElem? (i := 71) rfl), rfl⟩
set_option maxRecDepth 100000 in
theorem zX8_part : hd_cdc mX8_part := List.mem_filter.mpr ⟨hd_tb_sub (c := 5) (List.mem_of_getElem? (i := 38) rfl), rfl⟩
set_option maxRecDepth 100000 in
theorem zX8_place : hd_cdc mX8_place := List.mem_filter.mpr ⟨hd_tb_sub (c := 6) (List.mem_of_getElem? (i := 67) rfl), rfl⟩
set_option maxRecDepth 100000 in
theorem zX8_placed : hd_cdc mX8_placed := List.mem_filter.mpr ⟨hd_tb_sub (c := 5) (List.mem_of_getElem? (i := 185) rfl), rfl⟩
set_option maxRecDepth 100000 in
theorem zX8_played : hd_cdc mX8_played := List.mem_filter.mpr ⟨hd_tb_sub (c := 6) (List.mem_of_getElem? (i := 50) rfl), rfl⟩
set_option maxRecDepth 100000 in
theorem zX8_push : hd_cdc mX8_push := List.mem_filter.mpr ⟨hd_tb_sub (c := 5) (List.mem_of_getElem? (i := 144) rfl), rfl⟩
set_option maxRecDepth 100000 in
theorem zX8_reachAll : hd_cdc mX8_reachAll := List.mem_filter.mpr ⟨hd_tb_sub (c := 6) (List.mem_of_getElem? (i := 115) rfl), rfl⟩
set_option maxRecDepth 100000 in
theorem zX8_readText : hd_cdc mX8_readText := List.mem_filter.mpr ⟨hd_tb_sub (c := 5) (List.mem_of_getElem? (i := 61) rfl), rfl⟩
set_option maxRecDepth 100000 in
theorem zX8_roll : hd_cdc mX8_roll := List.mem_filter.mpr ⟨hd_tb_sub (c := 6) (List.mem_of_getElem? (i := 42) rfl), rfl⟩
set_option maxRecDepth 100000 in
theorem zX8_search : hd_cdc mX8_search := List.mem_filter.mpr ⟨hd_tb_sub (c := 6) (List.mem_of_getElem? (i := 87) rfl), rfl⟩
set_option maxRecDepth 100000 in
theorem zX8_sets : hd_cdc mX8_sets := List.mem_filter.mpr ⟨hd_tb_sub (c := 6) (List.mem_of_getElem? (i := 33) rfl), rfl⟩
set_option maxRecDepth 100000 in
theorem zX8_setting : hd_cdc mX8_setting := List.mem_filter.mpr ⟨hd_tb_sub (c := 5) (List.mem_of_getElem? (i := 190) rfl), rfl⟩
set_option maxRecDepth 100000 in
theorem zX8_settle : hd_cdc mX8_settle := List.mem_filter.mpr ⟨hd_tb_sub (c := 5) (List.mem_of_getElem? (i := 136) rfl), rfl⟩
set_option maxRecDepth 100000 in
theorem zX8_sortOf : hd_cdc mX8_sortOf := List.mem_filter.mpr ⟨hd_tb_sub (c := 5) (List.mem_of_getElem? (i := 84) rfl), rfl⟩
set_option maxRecDepth 100000 in
theorem zX8_stand : hd_cdc mX8_stand := List.mem_filter.mpr ⟨hd_tb_sub (c := 6) (List.mem_of_getElem? (i := 99) rfl), rfl⟩
set_option maxRecDepth 100000 in
theorem zX8_standFirst : hd_cdc mX8_standFirst := List.mem_filter.mpr ⟨hd_tb_sub (c := 6) (List.mem_of_getElem? (i := 139) rfl), rfl⟩
set_option maxRecDepth 100000 in
theorem zX8_standNow : hd_cdc mX8_standNow := List.mem_filter.mpr ⟨hd_tb_sub (c := 5) (List.mem_of_getElem? (i := 209) rfl), rfl⟩
set_option maxRecDepth 100000 in
theorem zX8_standing : hd_cdc mX8_standing := List.mem_filter.mpr ⟨hd_tb_sub (c := 6) (List.mem_of_getElem? (i := 83) rfl), rfl⟩
set_option maxRecDepth 100000 in
theorem zX8_summed : hd_cdc mX8_summed := List.mem_filter.mpr ⟨hd_tb_sub (c := 5) (List.mem_of_getElem? (i := 120) rfl), rfl⟩
set_option maxRecDepth 100000 in
theorem zX8_text : hd_cdc mX8_text := List.mem_filter.mpr ⟨hd_tb_sub (c := 5) (List.mem_of_getElem? (i := 57) rfl), rfl⟩
set_option maxRecDepth 100000 in
theorem zX8_told : hd_cdc mX8_told := List.mem_filter.mpr ⟨hd_tb_sub (c := 5) (List.mem_of_getElem? (i := 237) rfl), rfl⟩
set_option maxRecDepth 100000 in
theorem zX8_tried : hd_cdc mX8_tried := List.mem_filter.mpr ⟨hd_tb_sub (c := 6) (List.mem_of_getElem? (i := 123) rfl), rfl⟩
set_option maxRecDepth 100000 in
theorem zX8_two : hd_cdc mX8_two := List.mem_filter.mpr ⟨hd_tb_sub (c := 6) (List.mem_of_getElem? (i := 4) rfl), rfl⟩
set_option maxRecDepth 100000 in
theorem zX8_undo : hd_cdc mX8_undo := List.mem_filter.mpr ⟨hd_tb_sub (c := 6) (List.mem_of_getElem? (i := 63) rfl), rfl⟩
set_option maxRecDepth 100000 in
theorem zX8_w3 : hd_cdc mX8_w3 := List.mem_filter.mpr ⟨hd_tb_sub (c := 5) (List.mem_of_getElem? (i := 90) rfl), rfl⟩
set_option maxRecDepth 100000 in
theorem zX8_w4 : hd_cdc mX8_w4 := List.mem_filter.mpr ⟨hd_tb_sub (c := 5) (List.mem_of_getElem? (i := 87) rfl), rfl⟩
set_option maxRecDepth 100000 in
theorem zX8_w5 : hd_cdc mX8_w5 := List.mem_filter.mpr ⟨hd_tb_sub (c := 5) (List.mem_of_getElem? (i := 97) rfl), rfl⟩
set_option maxRecDepth 100000 in
theorem zX8_whatever : hd_cdc mX8_whatever := List.mem_filter.mpr ⟨hd_tb_sub (c := 6) (List.mem_of_getElem? (i := 155) rfl), rfl⟩
set_option maxRecDepth 100000 in
theorem zX8_whole : hd_cdc mX8_whole := List.mem_filter.mpr ⟨hd_tb_sub (c := 5) (List.mem_of_getElem? (i := 148) rfl), rfl⟩
set_option maxRecDepth 100000 in
theorem zX8_work : hd_cdc mX8_work := List.mem_filter.mpr ⟨hd_tb_sub (c := 6) (List.mem_of_getElem? (i := 1) rfl), rfl⟩
set_option maxRecDepth 100000 in
theorem zJ0_length_8abf5 : hd_cdc mJ0_length_8abf5 := List.mem_filter.mpr ⟨hd_tb_sub (c := 2) (List.mem_of_getElem? (i := 186) rfl), rfl⟩
set_option maxRecDepth 100000 in
theorem zJ0_charAt_5068e : hd_cdc mJ0_charAt_5068e := List.mem_filter.mpr ⟨hd_tb_sub (c := 2) (List.mem_of_getElem? (i := 196) rfl), rfl⟩
set_option maxRecDepth 100000 in
theorem zX0_init : hd_cdc mX0_init := List.mem_filter.mpr ⟨hd_tb_sub (c := 2) (List.mem_of_getElem? (i := 58) rfl), rfl⟩
set_option maxRecDepth 100000 in
theorem zX1_init : hd_cdc mX1_init := List.mem_filter.mpr ⟨hd_tb_sub (c := 1) (List.mem_of_getElem? (i := 30) rfl), rfl⟩
set_option maxRecDepth 100000 in
theorem zX2_init : hd_cdc mX2_init := List.mem_filter.mpr ⟨hd_tb_sub (c := 1) (List.mem_of_getElem? (i := 94) rfl), rfl⟩
set_option maxRecDepth 100000 in
theorem zX3_init : hd_cdc mX3_init := List.mem_filter.mpr ⟨hd_tb_sub (c := 1) (List.mem_of_getElem? (i := 150) rfl), rfl⟩
set_option maxRecDepth 100000 in
theorem zX4_init : hd_cdc mX4_init := List.mem_filter.mpr ⟨hd_tb_sub (c := 1) (List.mem_of_getElem? (i := 239) rfl), rfl⟩
set_option maxRecDepth 100000 in
theorem zX5_init : hd_cdc mX5_init := List.mem_filter.mpr ⟨hd_tb_sub (c := 2) (List.mem_of_getElem? (i := 18) rfl), rfl⟩
set_option maxRecDepth 100000 in
theorem zX6_init : hd_cdc mX6_init := List.mem_filter.mpr ⟨hd_tb_sub (c := 1) (List.mem_of_getElem? (i := 156) rfl), rfl⟩
set_option maxRecDepth 100000 in
theorem zX7_init : hd_cdc mX7_init := List.mem_filter.mpr ⟨hd_tb_sub (c := 1) (List.mem_of_getElem? (i := 22) rfl), rfl⟩
set_option maxRecDepth 100000 in
theorem zX8_init : hd_cdc mX8_init := List.mem_filter.mpr ⟨hd_tb_sub (c := 4) (List.mem_of_getElem? (i := 145) rfl), rfl⟩
