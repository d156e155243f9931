/-! methods, links and places: by program -/
abbrev mX0_init : zMt := (yX0_init, cX0_init, 1, none)
abbrev mX0_learn : zMt := (yX0_learn, cX0_learn, 4, none)
abbrev mX0_lengthOf : zMt := (yX0_lengthOf, cX0_lengthOf, 3, some .int)
abbrev mX0_firstOf : zMt := (yX0_firstOf, cX0_firstOf, 3, some .int)
abbrev mX0_findSpan : zMt := (yX0_findSpan, cX0_findSpan, 8, none)
abbrev mX1_init : zMt := (yX1_init, cX1_init, 1, none)
abbrev mX1_copyFrom : zMt := (yX1_copyFrom, cX1_copyFrom, 2, none)
abbrev mX1_append : zMt := (yX1_append, cX1_append, 7, none)
abbrev mX1_canShift : zMt := (yX1_canShift, cX1_canShift, 5, some .boolean)
abbrev mX1_shift : zMt := (yX1_shift, cX1_shift, 5, none)
abbrev mX1_drop : zMt := (yX1_drop, cX1_drop, 3, none)
abbrev mX1_isFreeAt : zMt := (yX1_isFreeAt, cX1_isFreeAt, 3, some .boolean)
abbrev mX1_freeCells : zMt := (yX1_freeCells, cX1_freeCells, 3, some .int)
abbrev mX1_freeColumns : zMt := (yX1_freeColumns, cX1_freeColumns, 6, some .long)
abbrev mX1_toggle : zMt := (yX1_toggle, cX1_toggle, 3, none)
abbrev mX1_columnsOf : zMt := (yX1_columnsOf, cX1_columnsOf, 12, some .long)
abbrev mX1_belongs : zMt := (yX1_belongs, cX1_belongs, 6, some .boolean)
abbrev mX2_init : zMt := (yX2_init, cX2_init, 3, none)
abbrev mX2_putTotals : zMt := (yX2_putTotals, cX2_putTotals, 5, none)
abbrev mX3_init : zMt := (yX3_init, cX3_init, 1, none)
abbrev mX3_measure : zMt := (yX3_measure, cX3_measure, 6, some .boolean)
abbrev mX3_widthOf : zMt := (yX3_widthOf, cX3_widthOf, 3, some .int)
abbrev mX3_heightOf : zMt := (yX3_heightOf, cX3_heightOf, 3, some .int)
abbrev mX3_findLastEnds : zMt := (yX3_findLastEnds, cX3_findLastEnds, 4, none)
abbrev mX3_measureLines : zMt := (yX3_measureLines, cX3_measureLines, 5, none)
abbrev mX4_init : zMt := (yX4_init, cX4_init, 1, none)
abbrev mX4_hasLayout : zMt := (yX4_hasLayout, cX4_hasLayout, 5, some .boolean)
abbrev mX4_countLayouts : zMt := (yX4_countLayouts, cX4_countLayouts, 3, some .int)
abbrev mX4_findBest : zMt := (yX4_findBest, cX4_findBest, 3, some .int)
abbrev mX4_prepare : zMt := (yX4_prepare, cX4_prepare, 6, some .boolean)
abbrev mX4_run : zMt := (yX4_run, cX4_run, 3, none)
abbrev mX4_findLeastCosts : zMt := (yX4_findLeastCosts, cX4_findLeastCosts, 3, none)
abbrev mX4_findLeastCost : zMt := (yX4_findLeastCost, cX4_findLeastCost, 8, some .int)
abbrev mX4_leastCostFrom : zMt := (yX4_leastCostFrom, cX4_leastCostFrom, 3, some .int)
abbrev mX4_rowBehind : zMt := (yX4_rowBehind, cX4_rowBehind, 4, some .int)
abbrev mX4_slackOf : zMt := (yX4_slackOf, cX4_slackOf, 6, some .int)
abbrev mX4_layFrom : zMt := (yX4_layFrom, cX4_layFrom, 7, none)
abbrev mX4_tryLine : zMt := (yX4_tryLine, cX4_tryLine, 9, none)
abbrev mX4_keep : zMt := (yX4_keep, cX4_keep, 3, none)
abbrev mX4_placeWords : zMt := (yX4_placeWords, cX4_placeWords, 7, none)
abbrev mX4_chainFromAbove : zMt := (yX4_chainFromAbove, cX4_chainFromAbove, 6, some .int)
abbrev mX4_chainFromBelow : zMt := (yX4_chainFromBelow, cX4_chainFromBelow, 6, none)
abbrev mX4_longestTouching : zMt := (yX4_longestTouching, cX4_longestTouching, 7, some .int)
abbrev mX4_describeBest : zMt := (yX4_describeBest, cX4_describeBest, 6, some (.object "PosterFitter$Layout"))
abbrev mX4_describeLine : zMt := (yX4_describeLine, cX4_describeLine, 9, none)
abbrev mX4_describeWords : zMt := (yX4_describeWords, cX4_describeWords, 5, none)
abbrev mX5_init : zMt := (yX5_init, cX5_init, 1, none)
abbrev mX5_copyFrom : zMt := (yX5_copyFrom, cX5_copyFrom, 2, none)
abbrev mX5_partOfWord : zMt := (yX5_partOfWord, cX5_partOfWord, 3, some .int)
abbrev mX5_putWord : zMt := (yX5_putWord, cX5_putWord, 5, none)
abbrev mX6_init : zMt := (yX6_init, cX6_init, 1, none)
abbrev mX6_read : zMt := (yX6_read, cX6_read, 4, some .int)
abbrev mX6_accepts : zMt := (yX6_accepts, cX6_accepts, 2, some .boolean)
abbrev mX6_isLetter : zMt := (yX6_isLetter, cX6_isLetter, 1, some .boolean)
abbrev mX6_goTo : zMt := (yX6_goTo, cX6_goTo, 2, some .boolean)
abbrev mX6_beginWord : zMt := (yX6_beginWord, cX6_beginWord, 2, some .boolean)
abbrev mX6_addLetter : zMt := (yX6_addLetter, cX6_addLetter, 1, some .boolean)
abbrev mX6_addShout : zMt := (yX6_addShout, cX6_addShout, 1, some .boolean)
abbrev mX6_addUpTo : zMt := (yX6_addUpTo, cX6_addUpTo, 4, some .boolean)
abbrev mX7_init : zMt := (yX7_init, cX7_init, 2, none)
abbrev mX7_addShape : zMt := (yX7_addShape, cX7_addShape, 6, some .int)
abbrev mX7_moveShape : zMt := (yX7_moveShape, cX7_moveShape, 4, some .int)
abbrev mX7_removeShape : zMt := (yX7_removeShape, cX7_removeShape, 2, some .int)
abbrev mX7_isFree : zMt := (yX7_isFree, cX7_isFree, 3, some .int)
abbrev mX7_span : zMt := (yX7_span, cX7_span, 4, some .int)
abbrev mX7_addWord : zMt := (yX7_addWord, cX7_addWord, 3, some .int)
abbrev mX7_setWord : zMt := (yX7_setWord, cX7_setWord, 6, some .int)
abbrev mX7_clearWords : zMt := (yX7_clearWords, cX7_clearWords, 2, some .int)
abbrev mX7_setSizes : zMt := (yX7_setSizes, cX7_setSizes, 6, some .int)
abbrev mX7_setLines : zMt := (yX7_setLines, cX7_setLines, 6, some .int)
abbrev mX7_count : zMt := (yX7_count, cX7_count, 2, some .int)
abbrev mX7_word : zMt := (yX7_word, cX7_word, 3, some .int)
abbrev mX7_cost : zMt := (yX7_cost, cX7_cost, 2, some .int)
abbrev mX7_fit : zMt := (yX7_fit, cX7_fit, 1, some .int)
abbrev mX7_allowed : zMt := (yX7_allowed, cX7_allowed, 2, some .int)
abbrev mX7_take : zMt := (yX7_take, cX7_take, 4, some .int)
abbrev mX7_widestStep : zMt := (yX7_widestStep, cX7_widestStep, 3, some .int)
abbrev mX7_tightestLimit : zMt := (yX7_tightestLimit, cX7_tightestLimit, 3, some .int)
abbrev mX7_layout : zMt := (yX7_layout, cX7_layout, 2, some .int)
abbrev mX7_line : zMt := (yX7_line, cX7_line, 3, some .int)
abbrev mX7_placed : zMt := (yX7_placed, cX7_placed, 3, some .int)
abbrev mX7_type : zMt := (yX7_type, cX7_type, 2, some .int)
abbrev mX7_clearText : zMt := (yX7_clearText, cX7_clearText, 2, some .int)
abbrev mX7_textFault : zMt := (yX7_textFault, cX7_textFault, 1, some .int)
abbrev mX7_load : zMt := (yX7_load, cX7_load, 1, some .int)
abbrev mX7_undo : zMt := (yX7_undo, cX7_undo, 1, some .int)
abbrev mX7_digest : zMt := (yX7_digest, cX7_digest, 4, some .long)
abbrev mX7_isIn : zMt := (yX7_isIn, cX7_isIn, 3, some .boolean)
abbrev mX7_isBox : zMt := (yX7_isBox, cX7_isBox, 4, some .boolean)
abbrev mX7_isBand : zMt := (yX7_isBand, cX7_isBand, 2, some .boolean)
abbrev mX7_addAll : zMt := (yX7_addAll, cX7_addAll, 7, some .long)
abbrev mX7_remember : zMt := (yX7_remember, cX7_remember, 1, none)
abbrev mX7_dropOldest : zMt := (yX7_dropOldest, cX7_dropOldest, 3, none)
abbrev mX7_greatestBase : zMt := (yX7_greatestBase, cX7_greatestBase, 3, some .int)
abbrev mX8_init : zMt := (yX8_init, cX8_init, 1, none)
abbrev mX8_in : zMt := (yX8_in, cX8_in, 3, some .boolean)
abbrev mX8_copies : zMt := (yX8_copies, cX8_copies, 4, none)
abbrev mX8_records : zMt := (yX8_records, cX8_records, 2, none)
abbrev mX8_shapeOf : zMt := (yX8_shapeOf, cX8_shapeOf, 3, some .int)
abbrev mX8_size : zMt := (yX8_size, cX8_size, 1, some .int)
abbrev mX8_belongs : zMt := (yX8_belongs, cX8_belongs, 13, some .boolean)
abbrev mX8_free : zMt := (yX8_free, cX8_free, 5, some .boolean)
abbrev mX8_freeCells : zMt := (yX8_freeCells, cX8_freeCells, 4, some .int)
abbrev mX8_isShape : zMt := (yX8_isShape, cX8_isShape, 2, some .boolean)
abbrev mX8_addShape : zMt := (yX8_addShape, cX8_addShape, 7, some .int)
abbrev mX8_moveShape : zMt := (yX8_moveShape, cX8_moveShape, 5, some .int)
abbrev mX8_removeShape : zMt := (yX8_removeShape, cX8_removeShape, 3, some .int)
abbrev mX8_isFree : zMt := (yX8_isFree, cX8_isFree, 3, some .int)
abbrev mX8_findsSpans : zMt := (yX8_findsSpans, cX8_findsSpans, 5, none)
abbrev mX8_notesSpan : zMt := (yX8_notesSpan, cX8_notesSpan, 6, none)
abbrev mX8_span : zMt := (yX8_span, cX8_span, 4, some .int)
abbrev mX8_of : zMt := (yX8_of, cX8_of, 3, some .int)
abbrev mX8_isWord : zMt := (yX8_isWord, cX8_isWord, 2, some .boolean)
abbrev mX8_becomes : zMt := (yX8_becomes, cX8_becomes, 5, none)
abbrev mX8_addWord : zMt := (yX8_addWord, cX8_addWord, 3, some .int)
abbrev mX8_setWord : zMt := (yX8_setWord, cX8_setWord, 6, some .int)
abbrev mX8_clearWords : zMt := (yX8_clearWords, cX8_clearWords, 2, some .int)
abbrev mX8_setSizes : zMt := (yX8_setSizes, cX8_setSizes, 6, some .int)
abbrev mX8_setLines : zMt := (yX8_setLines, cX8_setLines, 6, some .int)
abbrev mX8_count : zMt := (yX8_count, cX8_count, 2, some .int)
abbrev mX8_word : zMt := (yX8_word, cX8_word, 3, some .int)
abbrev mX8_sizeOf : zMt := (yX8_sizeOf, cX8_sizeOf, 3, some .int)
abbrev mX8_isLeast : zMt := (yX8_isLeast, cX8_isLeast, 4, some .boolean)
abbrev mX8_breaks : zMt := (yX8_breaks, cX8_breaks, 3, some .boolean)
abbrev mX8_least : zMt := (yX8_least, cX8_least, 2, some .int)
abbrev mX8_lays : zMt := (yX8_lays, cX8_lays, 12, some .int)
abbrev mX8_places : zMt := (yX8_places, cX8_places, 8, none)
abbrev mX8_hasGap : zMt := (yX8_hasGap, cX8_hasGap, 2, some .boolean)
abbrev mX8_gapFrom : zMt := (yX8_gapFrom, cX8_gapFrom, 2, some .int)
abbrev mX8_touch : zMt := (yX8_touch, cX8_touch, 3, some .boolean)
abbrev mX8_chainsUp : zMt := (yX8_chainsUp, cX8_chainsUp, 6, none)
abbrev mX8_chains : zMt := (yX8_chains, cX8_chains, 4, none)
abbrev mX8_finds : zMt := (yX8_finds, cX8_finds, 6, some .int)
abbrev mX8_fits : zMt := (yX8_fits, cX8_fits, 2, some .int)
abbrev mX8_cost : zMt := (yX8_cost, cX8_cost, 2, some .int)
abbrev mX8_fit : zMt := (yX8_fit, cX8_fit, 1, some .int)
abbrev mX8_allowed : zMt := (yX8_allowed, cX8_allowed, 3, some .int)
abbrev mX8_take : zMt := (yX8_take, cX8_take, 5, some .int)
abbrev mX8_widestStep : zMt := (yX8_widestStep, cX8_widestStep, 5, some .int)
abbrev mX8_tightestLimit : zMt := (yX8_tightestLimit, cX8_tightestLimit, 5, some .int)
abbrev mX8_layout : zMt := (yX8_layout, cX8_layout, 2, some .int)
abbrev mX8_line : zMt := (yX8_line, cX8_line, 3, some .int)
abbrev mX8_placed : zMt := (yX8_placed, cX8_placed, 3, some .int)
abbrev mX8_type : zMt := (yX8_type, cX8_type, 2, some .int)
abbrev mX8_clearText : zMt := (yX8_clearText, cX8_clearText, 2, some .int)
abbrev mX8_isLetter : zMt := (yX8_isLetter, cX8_isLetter, 1, some .boolean)
abbrev mX8_isSign : zMt := (yX8_isSign, cX8_isSign, 2, some .boolean)
abbrev mX8_blanks : zMt := (yX8_blanks, cX8_blanks, 2, some .boolean)
abbrev mX8_readsText : zMt := (yX8_readsText, cX8_readsText, 7, some .boolean)
abbrev mX8_textFault : zMt := (yX8_textFault, cX8_textFault, 1, some .int)
abbrev mX8_load : zMt := (yX8_load, cX8_load, 2, some .int)
abbrev mX8_undo : zMt := (yX8_undo, cX8_undo, 1, some .int)
abbrev mX8_note : zMt := (yX8_note, cX8_note, 3, none)
abbrev mX8_digest : zMt := (yX8_digest, cX8_digest, 2, some .long)
abbrev mJ13_bitCount_95d88 : zMt := (yJ13_bitCount_95d88, cJ13_bitCount_95d88, 2, some .int)
abbrev mJ7_fill_53178 : zMt := (yJ7_fill_53178, cJ7_fill_53178, 4, none)
abbrev mL_law : zMt := (yL_law, cL_law, 4, some .boolean)
set_option maxRecDepth 20000 in
theorem iX0_init : zIi mX0_init 0 := ⟨rfl, rfl, by decide, List.mem_of_getElem? (i := 166) (by decide +kernel), List.mem_of_getElem? (i := 66) (by decide +kernel), List.mem_of_getElem? (i := 167) rfl, ⟨by decide, by decide, by decide +kernel⟩⟩
set_option maxRecDepth 20000 in
theorem vX0_learn : zVi mX0_learn 0 2 := ⟨by decide, rfl, by decide, List.mem_of_getElem? (i := 385) (by decide +kernel), List.mem_of_getElem? (i := 386) (by decide +kernel), List.mem_of_getElem? (i := 66) (by decide +kernel), List.mem_of_getElem? (i := 387) rfl, ⟨by decide, by decide, by decide +kernel⟩⟩
set_option maxRecDepth 20000 in
theorem vX0_lengthOf : zVi mX0_lengthOf 0 2 := ⟨by decide, rfl, by decide, List.mem_of_getElem? (i := 397) (by decide +kernel), List.mem_of_getElem? (i := 398) (by decide +kernel), List.mem_of_getElem? (i := 66) (by decide +kernel), List.mem_of_getElem? (i := 399) rfl, ⟨by decide, by decide, by decide +kernel⟩⟩
set_option maxRecDepth 20000 in
theorem vX0_firstOf : zVi mX0_firstOf 0 2 := ⟨by decide, rfl, by decide, List.mem_of_getElem? (i := 401) (by decide +kernel), List.mem_of_getElem? (i := 402) (by decide +kernel), List.mem_of_getElem? (i := 66) (by decide +kernel), List.mem_of_getElem? (i := 403) rfl, ⟨by decide, by decide, by decide +kernel⟩⟩
set_option maxRecDepth 20000 in
theorem vX0_findSpan : zVi mX0_findSpan 0 2 := ⟨by decide, rfl, by decide, List.mem_of_getElem? (i := 394) (by decide +kernel), List.mem_of_getElem? (i := 4) (by decide +kernel), List.mem_of_getElem? (i := 66) (by decide +kernel), List.mem_of_getElem? (i := 395) rfl, ⟨by decide, by decide, by decide +kernel⟩⟩
set_option maxRecDepth 20000 in
theorem iX1_init : zIi mX1_init 0 := ⟨rfl, rfl, by decide, List.mem_of_getElem? (i := 90) (by decide +kernel), List.mem_of_getElem? (i := 62) (by decide +kernel), List.mem_of_getElem? (i := 91) rfl, ⟨by decide, by decide, by decide +kernel⟩⟩
set_option maxRecDepth 20000 in
theorem vX1_copyFrom : zVi mX1_copyFrom 1 1 := ⟨by decide, rfl, by decide, List.mem_of_getElem? (i := 313) (by decide +kernel), List.mem_of_getElem? (i := 314) (by decide +kernel), List.mem_of_getElem? (i := 62) (by decide +kernel), List.mem_of_getElem? (i := 315) rfl, ⟨by decide, by decide, by decide +kernel⟩⟩
set_option maxRecDepth 20000 in
theorem vX1_append : zVi mX1_append 1 5 := ⟨by decide, rfl, by decide, List.mem_of_getElem? (i := 321) (by decide +kernel), List.mem_of_getElem? (i := 322) (by decide +kernel), List.mem_of_getElem? (i := 62) (by decide +kernel), List.mem_of_getElem? (i := 323) rfl, ⟨by decide, by decide, by decide +kernel⟩⟩
set_option maxRecDepth 20000 in
theorem vX1_canShift : zVi mX1_canShift 1 3 := ⟨by decide, rfl, by decide, List.mem_of_getElem? (i := 343) (by decide +kernel), List.mem_of_getElem? (i := 344) (by decide +kernel), List.mem_of_getElem? (i := 62) (by decide +kernel), List.mem_of_getElem? (i := 345) rfl, ⟨by decide, by decide, by decide +kernel⟩⟩
set_option maxRecDepth 20000 in
theorem vX1_shift : zVi mX1_shift 1 3 := ⟨by decide, rfl, by decide, List.mem_of_getElem? (i := 348) (by decide +kernel), List.mem_of_getElem? (i := 349) (by decide +kernel), List.mem_of_getElem? (i := 62) (by decide +kernel), List.mem_of_getElem? (i := 350) rfl, ⟨by decide, by decide, by decide +kernel⟩⟩
set_option maxRecDepth 20000 in
theorem vX1_drop : zVi mX1_drop 1 1 := ⟨by decide, rfl, by decide, List.mem_of_getElem? (i := 366) (by decide +kernel), List.mem_of_getElem? (i := 367) (by decide +kernel), List.mem_of_getElem? (i := 62) (by decide +kernel), List.mem_of_getElem? (i := 368) rfl, ⟨by decide, by decide, by decide +kernel⟩⟩
set_option maxRecDepth 20000 in
theorem vX1_isFreeAt : zVi mX1_isFreeAt 1 2 := ⟨by decide, rfl, by decide, List.mem_of_getElem? (i := 374) (by decide +kernel), List.mem_of_getElem? (i := 375) (by decide +kernel), List.mem_of_getElem? (i := 62) (by decide +kernel), List.mem_of_getElem? (i := 376) rfl, ⟨by decide, by decide, by decide +kernel⟩⟩
set_option maxRecDepth 20000 in
theorem vX1_freeCells : zVi mX1_freeCells 1 0 := ⟨by decide, rfl, by decide, List.mem_of_getElem? (i := 352) (by decide +kernel), List.mem_of_getElem? (i := 353) (by decide +kernel), List.mem_of_getElem? (i := 62) (by decide +kernel), List.mem_of_getElem? (i := 354) rfl, ⟨by decide, by decide, by decide +kernel⟩⟩
set_option maxRecDepth 20000 in
theorem vX1_freeColumns : zVi mX1_freeColumns 1 2 := ⟨by decide, rfl, by decide, List.mem_of_getElem? (i := 389) (by decide +kernel), List.mem_of_getElem? (i := 390) (by decide +kernel), List.mem_of_getElem? (i := 62) (by decide +kernel), List.mem_of_getElem? (i := 391) rfl, ⟨by decide, by decide, by decide +kernel⟩⟩
set_option maxRecDepth 20000 in
theorem vX1_toggle : zVi mX1_toggle 1 1 := ⟨by decide, rfl, by decide, List.mem_of_getElem? (i := 326) (by decide +kernel), List.mem_of_getElem? (i := 2) (by decide +kernel), List.mem_of_getElem? (i := 62) (by decide +kernel), List.mem_of_getElem? (i := 327) rfl, ⟨by decide, by decide, by decide +kernel⟩⟩
set_option maxRecDepth 20000 in
theorem vX1_columnsOf : zVi mX1_columnsOf 1 2 := ⟨by decide, rfl, by decide, List.mem_of_getElem? (i := 330) (by decide +kernel), List.mem_of_getElem? (i := 3) (by decide +kernel), List.mem_of_getElem? (i := 62) (by decide +kernel), List.mem_of_getElem? (i := 331) rfl, ⟨by decide, by decide, by decide +kernel⟩⟩
set_option maxRecDepth 20000 in
theorem sX1_belongs : zSt mX1_belongs 6 := ⟨by decide, List.mem_of_getElem? (i := 336) (by decide +kernel), List.mem_of_getElem? (i := 62) (by decide +kernel), List.mem_of_getElem? (i := 337) rfl, ⟨by decide, by decide, by decide +kernel⟩⟩
set_option maxRecDepth 20000 in
theorem iX2_init : zIi mX2_init 2 := ⟨rfl, rfl, by decide, List.mem_of_getElem? (i := 564) (by decide +kernel), List.mem_of_getElem? (i := 72) (by decide +kernel), List.mem_of_getElem? (i := 565) rfl, ⟨by decide, by decide, by decide +kernel⟩⟩
set_option maxRecDepth 20000 in
theorem vX2_putTotals : zVi mX2_putTotals 2 4 := ⟨by decide, rfl, by decide, List.mem_of_getElem? (i := 603) (by decide +kernel), List.mem_of_getElem? (i := 604) (by decide +kernel), List.mem_of_getElem? (i := 72) (by decide +kernel), List.mem_of_getElem? (i := 605) rfl, ⟨by decide, by decide, by decide +kernel⟩⟩
set_option maxRecDepth 20000 in
theorem iX3_init : zIi mX3_init 0 := ⟨rfl, rfl, by decide, List.mem_of_getElem? (i := 182) (by decide +kernel), List.mem_of_getElem? (i := 67) (by decide +kernel), List.mem_of_getElem? (i := 183) rfl, ⟨by decide, by decide, by decide +kernel⟩⟩
set_option maxRecDepth 20000 in
theorem vX3_measure : zVi mX3_measure 3 3 := ⟨by decide, rfl, by decide, List.mem_of_getElem? (i := 453) (by decide +kernel), List.mem_of_getElem? (i := 454) (by decide +kernel), List.mem_of_getElem? (i := 67) (by decide +kernel), List.mem_of_getElem? (i := 455) rfl, ⟨by decide, by decide, by decide +kernel⟩⟩
set_option maxRecDepth 20000 in
theorem vX3_widthOf : zVi mX3_widthOf 3 2 := ⟨by decide, rfl, by decide, List.mem_of_getElem? (i := 490) (by decide +kernel), List.mem_of_getElem? (i := 491) (by decide +kernel), List.mem_of_getElem? (i := 67) (by decide +kernel), List.mem_of_getElem? (i := 492) rfl, ⟨by decide, by decide, by decide +kernel⟩⟩
set_option maxRecDepth 20000 in
theorem vX3_heightOf : zVi mX3_heightOf 3 2 := ⟨by decide, rfl, by decide, List.mem_of_getElem? (i := 485) (by decide +kernel), List.mem_of_getElem? (i := 486) (by decide +kernel), List.mem_of_getElem? (i := 67) (by decide +kernel), List.mem_of_getElem? (i := 487) rfl, ⟨by decide, by decide, by decide +kernel⟩⟩
set_option maxRecDepth 20000 in
theorem vX3_findLastEnds : zVi mX3_findLastEnds 3 1 := ⟨by decide, rfl, by decide, List.mem_of_getElem? (i := 462) (by decide +kernel), List.mem_of_getElem? (i := 6) (by decide +kernel), List.mem_of_getElem? (i := 67) (by decide +kernel), List.mem_of_getElem? (i := 463) rfl, ⟨by decide, by decide, by decide +kernel⟩⟩
set_option maxRecDepth 20000 in
theorem vX3_measureLines : zVi mX3_measureLines 3 0 := ⟨by decide, rfl, by decide, List.mem_of_getElem? (i := 466) (by decide +kernel), List.mem_of_getElem? (i := 7) (by decide +kernel), List.mem_of_getElem? (i := 67) (by decide +kernel), List.mem_of_getElem? (i := 467) rfl, ⟨by decide, by decide, by decide +kernel⟩⟩
set_option maxRecDepth 20000 in
theorem iX4_init : zIi mX4_init 0 := ⟨rfl, rfl, by decide, List.mem_of_getElem? (i := 160) (by decide +kernel), List.mem_of_getElem? (i := 65) (by decide +kernel), List.mem_of_getElem? (i := 161) rfl, ⟨by decide, by decide, by decide +kernel⟩⟩
set_option maxRecDepth 20000 in
theorem vX4_hasLayout : zVi mX4_hasLayout 4 4 := ⟨by decide, rfl, by decide, List.mem_of_getElem? (i := 542) (by decide +kernel), List.mem_of_getElem? (i := 543) (by decide +kernel), List.mem_of_getElem? (i := 65) (by decide +kernel), List.mem_of_getElem? (i := 544) rfl, ⟨by decide, by decide, by decide +kernel⟩⟩
set_option maxRecDepth 20000 in
theorem vX4_countLayouts : zVi mX4_countLayouts 4 2 := ⟨by decide, rfl, by decide, List.mem_of_getElem? (i := 550) (by decide +kernel), List.mem_of_getElem? (i := 551) (by decide +kernel), List.mem_of_getElem? (i := 65) (by decide +kernel), List.mem_of_getElem? (i := 552) rfl, ⟨by decide, by decide, by decide +kernel⟩⟩
set_option maxRecDepth 20000 in
theorem vX4_findBest : zVi mX4_findBest 4 2 := ⟨by decide, rfl, by decide, List.mem_of_getElem? (i := 445) (by decide +kernel), List.mem_of_getElem? (i := 446) (by decide +kernel), List.mem_of_getElem? (i := 65) (by decide +kernel), List.mem_of_getElem? (i := 447) rfl, ⟨by decide, by decide, by decide +kernel⟩⟩
set_option maxRecDepth 20000 in
theorem vX4_prepare : zVi mX4_prepare 4 4 := ⟨by decide, rfl, by decide, List.mem_of_getElem? (i := 450) (by decide +kernel), List.mem_of_getElem? (i := 5) (by decide +kernel), List.mem_of_getElem? (i := 65) (by decide +kernel), List.mem_of_getElem? (i := 451) rfl, ⟨by decide, by decide, by decide +kernel⟩⟩
set_option maxRecDepth 20000 in
theorem vX4_run : zVi mX4_run 4 2 := ⟨by decide, rfl, by decide, List.mem_of_getElem? (i := 504) (by decide +kernel), List.mem_of_getElem? (i := 13) (by decide +kernel), List.mem_of_getElem? (i := 65) (by decide +kernel), List.mem_of_getElem? (i := 505) rfl, ⟨by decide, by decide, by decide +kernel⟩⟩
set_option maxRecDepth 20000 in
theorem vX4_findLeastCosts : zVi mX4_findLeastCosts 4 0 := ⟨by decide, rfl, by decide, List.mem_of_getElem? (i := 474) (by decide +kernel), List.mem_of_getElem? (i := 8) (by decide +kernel), List.mem_of_getElem? (i := 65) (by decide +kernel), List.mem_of_getElem? (i := 475) rfl, ⟨by decide, by decide, by decide +kernel⟩⟩
set_option maxRecDepth 20000 in
theorem vX4_findLeastCost : zVi mX4_findLeastCost 4 2 := ⟨by decide, rfl, by decide, List.mem_of_getElem? (i := 478) (by decide +kernel), List.mem_of_getElem? (i := 9) (by decide +kernel), List.mem_of_getElem? (i := 65) (by decide +kernel), List.mem_of_getElem? (i := 479) rfl, ⟨by decide, by decide, by decide +kernel⟩⟩
set_option maxRecDepth 20000 in
theorem vX4_leastCostFrom : zVi mX4_leastCostFrom 4 2 := ⟨by decide, rfl, by decide, List.mem_of_getElem? (i := 499) (by decide +kernel), List.mem_of_getElem? (i := 12) (by decide +kernel), List.mem_of_getElem? (i := 65) (by decide +kernel), List.mem_of_getElem? (i := 500) rfl, ⟨by decide, by decide, by decide +kernel⟩⟩
set_option maxRecDepth 20000 in
theorem vX4_rowBehind : zVi mX4_rowBehind 4 3 := ⟨by decide, rfl, by decide, List.mem_of_getElem? (i := 495) (by decide +kernel), List.mem_of_getElem? (i := 11) (by decide +kernel), List.mem_of_getElem? (i := 65) (by decide +kernel), List.mem_of_getElem? (i := 496) rfl, ⟨by decide, by decide, by decide +kernel⟩⟩
set_option maxRecDepth 20000 in
theorem vX4_slackOf : zVi mX4_slackOf 4 3 := ⟨by decide, rfl, by decide, List.mem_of_getElem? (i := 482) (by decide +kernel), List.mem_of_getElem? (i := 10) (by decide +kernel), List.mem_of_getElem? (i := 65) (by decide +kernel), List.mem_of_getElem? (i := 483) rfl, ⟨by decide, by decide, by decide +kernel⟩⟩
set_option maxRecDepth 20000 in
theorem vX4_layFrom : zVi mX4_layFrom 4 3 := ⟨by decide, rfl, by decide, List.mem_of_getElem? (i := 508) (by decide +kernel), List.mem_of_getElem? (i := 14) (by decide +kernel), List.mem_of_getElem? (i := 65) (by decide +kernel), List.mem_of_getElem? (i := 509) rfl, ⟨by decide, by decide, by decide +kernel⟩⟩
set_option maxRecDepth 20000 in
theorem vX4_tryLine : zVi mX4_tryLine 4 4 := ⟨by decide, rfl, by decide, List.mem_of_getElem? (i := 517) (by decide +kernel), List.mem_of_getElem? (i := 16) (by decide +kernel), List.mem_of_getElem? (i := 65) (by decide +kernel), List.mem_of_getElem? (i := 518) rfl, ⟨by decide, by decide, by decide +kernel⟩⟩
set_option maxRecDepth 20000 in
theorem vX4_keep : zVi mX4_keep 4 2 := ⟨by decide, rfl, by decide, List.mem_of_getElem? (i := 512) (by decide +kernel), List.mem_of_getElem? (i := 15) (by decide +kernel), List.mem_of_getElem? (i := 65) (by decide +kernel), List.mem_of_getElem? (i := 513) rfl, ⟨by decide, by decide, by decide +kernel⟩⟩
set_option maxRecDepth 20000 in
theorem vX4_placeWords : zVi mX4_placeWords 4 4 := ⟨by decide, rfl, by decide, List.mem_of_getElem? (i := 521) (by decide +kernel), List.mem_of_getElem? (i := 17) (by decide +kernel), List.mem_of_getElem? (i := 65) (by decide +kernel), List.mem_of_getElem? (i := 522) rfl, ⟨by decide, by decide, by decide +kernel⟩⟩
set_option maxRecDepth 20000 in
theorem vX4_chainFromAbove : zVi mX4_chainFromAbove 4 1 := ⟨by decide, rfl, by decide, List.mem_of_getElem? (i := 526) (by decide +kernel), List.mem_of_getElem? (i := 18) (by decide +kernel), List.mem_of_getElem? (i := 65) (by decide +kernel), List.mem_of_getElem? (i := 527) rfl, ⟨by decide, by decide, by decide +kernel⟩⟩
set_option maxRecDepth 20000 in
theorem vX4_chainFromBelow : zVi mX4_chainFromBelow 4 2 := ⟨by decide, rfl, by decide, List.mem_of_getElem? (i := 596) (by decide +kernel), List.mem_of_getElem? (i := 22) (by decide +kernel), List.mem_of_getElem? (i := 65) (by decide +kernel), List.mem_of_getElem? (i := 597) rfl, ⟨by decide, by decide, by decide +kernel⟩⟩
set_option maxRecDepth 20000 in
theorem vX4_longestTouching : zVi mX4_longestTouching 4 4 := ⟨by decide, rfl, by decide, List.mem_of_getElem? (i := 530) (by decide +kernel), List.mem_of_getElem? (i := 19) (by decide +kernel), List.mem_of_getElem? (i := 65) (by decide +kernel), List.mem_of_getElem? (i := 531) rfl, ⟨by decide, by decide, by decide +kernel⟩⟩
set_option maxRecDepth 20000 in
theorem vX4_describeBest : zVi mX4_describeBest 4 1 := ⟨by decide, rfl, by decide, List.mem_of_getElem? (i := 558) (by decide +kernel), List.mem_of_getElem? (i := 559) (by decide +kernel), List.mem_of_getElem? (i := 65) (by decide +kernel), List.mem_of_getElem? (i := 560) rfl, ⟨by decide, by decide, by decide +kernel⟩⟩
set_option maxRecDepth 20000 in
theorem vX4_describeLine : zVi mX4_describeLine 4 3 := ⟨by decide, rfl, by decide, List.mem_of_getElem? (i := 592) (by decide +kernel), List.mem_of_getElem? (i := 21) (by decide +kernel), List.mem_of_getElem? (i := 65) (by decide +kernel), List.mem_of_getElem? (i := 593) rfl, ⟨by decide, by decide, by decide +kernel⟩⟩
set_option maxRecDepth 20000 in
theorem vX4_describeWords : zVi mX4_describeWords 4 2 := ⟨by decide, rfl, by decide, List.mem_of_getElem? (i := 600) (by decide +kernel), List.mem_of_getElem? (i := 23) (by decide +kernel), List.mem_of_getElem? (i := 65) (by decide +kernel), List.mem_of_getElem? (i := 601) rfl, ⟨by decide, by decide, by decide +kernel⟩⟩
set_option maxRecDepth 20000 in
theorem iX5_init : zIi mX5_init 0 := ⟨rfl, rfl, by decide, List.mem_of_getElem? (i := 84) (by decide +kernel), List.mem_of_getElem? (i := 61) (by decide +kernel), List.mem_of_getElem? (i := 85) rfl, ⟨by decide, by decide, by decide +kernel⟩⟩
set_option maxRecDepth 20000 in
theorem vX5_copyFrom : zVi mX5_copyFrom 5 1 := ⟨by decide, rfl, by decide, List.mem_of_getElem? (i := 309) (by decide +kernel), List.mem_of_getElem? (i := 310) (by decide +kernel), List.mem_of_getElem? (i := 61) (by decide +kernel), List.mem_of_getElem? (i := 311) rfl, ⟨by decide, by decide, by decide +kernel⟩⟩
set_option maxRecDepth 20000 in
theorem vX5_partOfWord : zVi mX5_partOfWord 5 2 := ⟨by decide, rfl, by decide, List.mem_of_getElem? (i := 417) (by decide +kernel), List.mem_of_getElem? (i := 418) (by decide +kernel), List.mem_of_getElem? (i := 61) (by decide +kernel), List.mem_of_getElem? (i := 419) rfl, ⟨by decide, by decide, by decide +kernel⟩⟩
set_option maxRecDepth 20000 in
theorem vX5_putWord : zVi mX5_putWord 5 4 := ⟨by decide, rfl, by decide, List.mem_of_getElem? (i := 409) (by decide +kernel), List.mem_of_getElem? (i := 410) (by decide +kernel), List.mem_of_getElem? (i := 61) (by decide +kernel), List.mem_of_getElem? (i := 411) rfl, ⟨by decide, by decide, by decide +kernel⟩⟩
set_option maxRecDepth 20000 in
theorem iX6_init : zIi mX6_init 0 := ⟨rfl, rfl, by decide, List.mem_of_getElem? (i := 142) (by decide +kernel), List.mem_of_getElem? (i := 64) (by decide +kernel), List.mem_of_getElem? (i := 143) rfl, ⟨by decide, by decide, by decide +kernel⟩⟩
set_option maxRecDepth 20000 in
theorem vX6_read : zVi mX6_read 6 2 := ⟨by decide, rfl, by decide, List.mem_of_getElem? (i := 639) (by decide +kernel), List.mem_of_getElem? (i := 640) (by decide +kernel), List.mem_of_getElem? (i := 64) (by decide +kernel), List.mem_of_getElem? (i := 641) rfl, ⟨by decide, by decide, by decide +kernel⟩⟩
set_option maxRecDepth 20000 in
theorem vX6_accepts : zVi mX6_accepts 6 1 := ⟨by decide, rfl, by decide, List.mem_of_getElem? (i := 644) (by decide +kernel), List.mem_of_getElem? (i := 24) (by decide +kernel), List.mem_of_getElem? (i := 64) (by decide +kernel), List.mem_of_getElem? (i := 645) rfl, ⟨by decide, by decide, by decide +kernel⟩⟩
set_option maxRecDepth 20000 in
theorem sX6_isLetter : zSt mX6_isLetter 1 := ⟨by decide, List.mem_of_getElem? (i := 647) (by decide +kernel), List.mem_of_getElem? (i := 64) (by decide +kernel), List.mem_of_getElem? (i := 648) rfl, ⟨by decide, by decide, by decide +kernel⟩⟩
set_option maxRecDepth 20000 in
theorem vX6_goTo : zVi mX6_goTo 6 1 := ⟨by decide, rfl, by decide, List.mem_of_getElem? (i := 660) (by decide +kernel), List.mem_of_getElem? (i := 27) (by decide +kernel), List.mem_of_getElem? (i := 64) (by decide +kernel), List.mem_of_getElem? (i := 661) rfl, ⟨by decide, by decide, by decide +kernel⟩⟩
set_option maxRecDepth 20000 in
theorem vX6_beginWord : zVi mX6_beginWord 6 0 := ⟨by decide, rfl, by decide, List.mem_of_getElem? (i := 664) (by decide +kernel), List.mem_of_getElem? (i := 28) (by decide +kernel), List.mem_of_getElem? (i := 64) (by decide +kernel), List.mem_of_getElem? (i := 665) rfl, ⟨by decide, by decide, by decide +kernel⟩⟩
set_option maxRecDepth 20000 in
theorem vX6_addLetter : zVi mX6_addLetter 6 0 := ⟨by decide, rfl, by decide, List.mem_of_getElem? (i := 652) (by decide +kernel), List.mem_of_getElem? (i := 25) (by decide +kernel), List.mem_of_getElem? (i := 64) (by decide +kernel), List.mem_of_getElem? (i := 653) rfl, ⟨by decide, by decide, by decide +kernel⟩⟩
set_option maxRecDepth 20000 in
theorem vX6_addShout : zVi mX6_addShout 6 0 := ⟨by decide, rfl, by decide, List.mem_of_getElem? (i := 668) (by decide +kernel), List.mem_of_getElem? (i := 29) (by decide +kernel), List.mem_of_getElem? (i := 64) (by decide +kernel), List.mem_of_getElem? (i := 669) rfl, ⟨by decide, by decide, by decide +kernel⟩⟩
set_option maxRecDepth 20000 in
theorem vX6_addUpTo : zVi mX6_addUpTo 6 2 := ⟨by decide, rfl, by decide, List.mem_of_getElem? (i := 656) (by decide +kernel), List.mem_of_getElem? (i := 26) (by decide +kernel), List.mem_of_getElem? (i := 64) (by decide +kernel), List.mem_of_getElem? (i := 657) rfl, ⟨by decide, by decide, by decide +kernel⟩⟩
set_option maxRecDepth 20000 in
theorem iX7_init : zIi mX7_init 0 := ⟨rfl, rfl, by decide, List.mem_of_getElem? (i := 76) (by decide +kernel), List.mem_of_getElem? (i := 60) (by decide +kernel), List.mem_of_getElem? (i := 77) rfl, ⟨by decide, by decide, by decide +kernel⟩⟩
set_option maxRecDepth 20000 in
theorem vX7_addShape : zVi mX7_addShape 7 5 := ⟨by decide, rfl, by decide, List.mem_of_getElem? (i := 291) (by decide +kernel), List.mem_of_getElem? (i := 292) (by decide +kernel), List.mem_of_getElem? (i := 60) (by decide +kernel), List.mem_of_getElem? (i := 293) rfl, ⟨by decide, by decide, by decide +kernel⟩⟩
set_option maxRecDepth 20000 in
theorem vX7_moveShape : zVi mX7_moveShape 7 3 := ⟨by decide, rfl, by decide, List.mem_of_getElem? (i := 339) (by decide +kernel), List.mem_of_getElem? (i := 340) (by decide +kernel), List.mem_of_getElem? (i := 60) (by decide +kernel), List.mem_of_getElem? (i := 341) rfl, ⟨by decide, by decide, by decide +kernel⟩⟩
set_option maxRecDepth 20000 in
theorem vX7_removeShape : zVi mX7_removeShape 7 1 := ⟨by decide, rfl, by decide, List.mem_of_getElem? (i := 362) (by decide +kernel), List.mem_of_getElem? (i := 363) (by decide +kernel), List.mem_of_getElem? (i := 60) (by decide +kernel), List.mem_of_getElem? (i := 364) rfl, ⟨by decide, by decide, by decide +kernel⟩⟩
set_option maxRecDepth 20000 in
theorem vX7_isFree : zVi mX7_isFree 7 2 := ⟨by decide, rfl, by decide, List.mem_of_getElem? (i := 370) (by decide +kernel), List.mem_of_getElem? (i := 371) (by decide +kernel), List.mem_of_getElem? (i := 60) (by decide +kernel), List.mem_of_getElem? (i := 372) rfl, ⟨by decide, by decide, by decide +kernel⟩⟩
set_option maxRecDepth 20000 in
theorem vX7_span : zVi mX7_span 7 3 := ⟨by decide, rfl, by decide, List.mem_of_getElem? (i := 378) (by decide +kernel), List.mem_of_getElem? (i := 379) (by decide +kernel), List.mem_of_getElem? (i := 60) (by decide +kernel), List.mem_of_getElem? (i := 380) rfl, ⟨by decide, by decide, by decide +kernel⟩⟩
set_option maxRecDepth 20000 in
theorem vX7_addWord : zVi mX7_addWord 7 2 := ⟨by decide, rfl, by decide, List.mem_of_getElem? (i := 405) (by decide +kernel), List.mem_of_getElem? (i := 406) (by decide +kernel), List.mem_of_getElem? (i := 60) (by decide +kernel), List.mem_of_getElem? (i := 407) rfl, ⟨by decide, by decide, by decide +kernel⟩⟩
set_option maxRecDepth 20000 in
theorem vX7_setWord : zVi mX7_setWord 7 4 := ⟨by decide, rfl, by decide, List.mem_of_getElem? (i := 413) (by decide +kernel), List.mem_of_getElem? (i := 414) (by decide +kernel), List.mem_of_getElem? (i := 60) (by decide +kernel), List.mem_of_getElem? (i := 415) rfl, ⟨by decide, by decide, by decide +kernel⟩⟩
set_option maxRecDepth 20000 in
theorem vX7_clearWords : zVi mX7_clearWords 7 0 := ⟨by decide, rfl, by decide, List.mem_of_getElem? (i := 421) (by decide +kernel), List.mem_of_getElem? (i := 422) (by decide +kernel), List.mem_of_getElem? (i := 60) (by decide +kernel), List.mem_of_getElem? (i := 423) rfl, ⟨by decide, by decide, by decide +kernel⟩⟩
set_option maxRecDepth 20000 in
theorem vX7_setSizes : zVi mX7_setSizes 7 4 := ⟨by decide, rfl, by decide, List.mem_of_getElem? (i := 425) (by decide +kernel), List.mem_of_getElem? (i := 426) (by decide +kernel), List.mem_of_getElem? (i := 60) (by decide +kernel), List.mem_of_getElem? (i := 427) rfl, ⟨by decide, by decide, by decide +kernel⟩⟩
set_option maxRecDepth 20000 in
theorem vX7_setLines : zVi mX7_setLines 7 4 := ⟨by decide, rfl, by decide, List.mem_of_getElem? (i := 429) (by decide +kernel), List.mem_of_getElem? (i := 430) (by decide +kernel), List.mem_of_getElem? (i := 60) (by decide +kernel), List.mem_of_getElem? (i := 431) rfl, ⟨by decide, by decide, by decide +kernel⟩⟩
set_option maxRecDepth 20000 in
theorem vX7_count : zVi mX7_count 7 1 := ⟨by decide, rfl, by decide, List.mem_of_getElem? (i := 433) (by decide +kernel), List.mem_of_getElem? (i := 434) (by decide +kernel), List.mem_of_getElem? (i := 60) (by decide +kernel), List.mem_of_getElem? (i := 435) rfl, ⟨by decide, by decide, by decide +kernel⟩⟩
set_option maxRecDepth 20000 in
theorem vX7_word : zVi mX7_word 7 2 := ⟨by decide, rfl, by decide, List.mem_of_getElem? (i := 437) (by decide +kernel), List.mem_of_getElem? (i := 438) (by decide +kernel), List.mem_of_getElem? (i := 60) (by decide +kernel), List.mem_of_getElem? (i := 439) rfl, ⟨by decide, by decide, by decide +kernel⟩⟩
set_option maxRecDepth 20000 in
theorem vX7_cost : zVi mX7_cost 7 1 := ⟨by decide, rfl, by decide, List.mem_of_getElem? (i := 441) (by decide +kernel), List.mem_of_getElem? (i := 442) (by decide +kernel), List.mem_of_getElem? (i := 60) (by decide +kernel), List.mem_of_getElem? (i := 443) rfl, ⟨by decide, by decide, by decide +kernel⟩⟩
set_option maxRecDepth 20000 in
theorem vX7_fit : zVi mX7_fit 7 0 := ⟨by decide, rfl, by decide, List.mem_of_getElem? (i := 534) (by decide +kernel), List.mem_of_getElem? (i := 535) (by decide +kernel), List.mem_of_getElem? (i := 60) (by decide +kernel), List.mem_of_getElem? (i := 536) rfl, ⟨by decide, by decide, by decide +kernel⟩⟩
set_option maxRecDepth 20000 in
theorem vX7_allowed : zVi mX7_allowed 7 1 := ⟨by decide, rfl, by decide, List.mem_of_getElem? (i := 546) (by decide +kernel), List.mem_of_getElem? (i := 547) (by decide +kernel), List.mem_of_getElem? (i := 60) (by decide +kernel), List.mem_of_getElem? (i := 548) rfl, ⟨by decide, by decide, by decide +kernel⟩⟩
set_option maxRecDepth 20000 in
theorem vX7_take : zVi mX7_take 7 1 := ⟨by decide, rfl, by decide, List.mem_of_getElem? (i := 554) (by decide +kernel), List.mem_of_getElem? (i := 555) (by decide +kernel), List.mem_of_getElem? (i := 60) (by decide +kernel), List.mem_of_getElem? (i := 556) rfl, ⟨by decide, by decide, by decide +kernel⟩⟩
set_option maxRecDepth 20000 in
theorem vX7_widestStep : zVi mX7_widestStep 7 1 := ⟨by decide, rfl, by decide, List.mem_of_getElem? (i := 607) (by decide +kernel), List.mem_of_getElem? (i := 608) (by decide +kernel), List.mem_of_getElem? (i := 60) (by decide +kernel), List.mem_of_getElem? (i := 609) rfl, ⟨by decide, by decide, by decide +kernel⟩⟩
set_option maxRecDepth 20000 in
theorem vX7_tightestLimit : zVi mX7_tightestLimit 7 0 := ⟨by decide, rfl, by decide, List.mem_of_getElem? (i := 611) (by decide +kernel), List.mem_of_getElem? (i := 612) (by decide +kernel), List.mem_of_getElem? (i := 60) (by decide +kernel), List.mem_of_getElem? (i := 613) rfl, ⟨by decide, by decide, by decide +kernel⟩⟩
set_option maxRecDepth 20000 in
theorem vX7_layout : zVi mX7_layout 7 1 := ⟨by decide, rfl, by decide, List.mem_of_getElem? (i := 615) (by decide +kernel), List.mem_of_getElem? (i := 616) (by decide +kernel), List.mem_of_getElem? (i := 60) (by decide +kernel), List.mem_of_getElem? (i := 617) rfl, ⟨by decide, by decide, by decide +kernel⟩⟩
set_option maxRecDepth 20000 in
theorem vX7_line : zVi mX7_line 7 2 := ⟨by decide, rfl, by decide, List.mem_of_getElem? (i := 619) (by decide +kernel), List.mem_of_getElem? (i := 620) (by decide +kernel), List.mem_of_getElem? (i := 60) (by decide +kernel), List.mem_of_getElem? (i := 621) rfl, ⟨by decide, by decide, by decide +kernel⟩⟩
set_option maxRecDepth 20000 in
theorem vX7_placed : zVi mX7_placed 7 2 := ⟨by decide, rfl, by decide, List.mem_of_getElem? (i := 623) (by decide +kernel), List.mem_of_getElem? (i := 624) (by decide +kernel), List.mem_of_getElem? (i := 60) (by decide +kernel), List.mem_of_getElem? (i := 625) rfl, ⟨by decide, by decide, by decide +kernel⟩⟩
set_option maxRecDepth 20000 in
theorem vX7_type : zVi mX7_type 7 1 := ⟨by decide, rfl, by decide, List.mem_of_getElem? (i := 627) (by decide +kernel), List.mem_of_getElem? (i := 628) (by decide +kernel), List.mem_of_getElem? (i := 60) (by decide +kernel), List.mem_of_getElem? (i := 629) rfl, ⟨by decide, by decide, by decide +kernel⟩⟩
set_option maxRecDepth 20000 in
theorem vX7_clearText : zVi mX7_clearText 7 0 := ⟨by decide, rfl, by decide, List.mem_of_getElem? (i := 631) (by decide +kernel), List.mem_of_getElem? (i := 632) (by decide +kernel), List.mem_of_getElem? (i := 60) (by decide +kernel), List.mem_of_getElem? (i := 633) rfl, ⟨by decide, by decide, by decide +kernel⟩⟩
set_option maxRecDepth 20000 in
theorem vX7_textFault : zVi mX7_textFault 7 0 := ⟨by decide, rfl, by decide, List.mem_of_getElem? (i := 635) (by decide +kernel), List.mem_of_getElem? (i := 636) (by decide +kernel), List.mem_of_getElem? (i := 60) (by decide +kernel), List.mem_of_getElem? (i := 637) rfl, ⟨by decide, by decide, by decide +kernel⟩⟩
set_option maxRecDepth 20000 in
theorem vX7_load : zVi mX7_load 7 0 := ⟨by decide, rfl, by decide, List.mem_of_getElem? (i := 671) (by decide +kernel), List.mem_of_getElem? (i := 672) (by decide +kernel), List.mem_of_getElem? (i := 60) (by decide +kernel), List.mem_of_getElem? (i := 673) rfl, ⟨by decide, by decide, by decide +kernel⟩⟩
set_option maxRecDepth 20000 in
theorem vX7_undo : zVi mX7_undo 7 0 := ⟨by decide, rfl, by decide, List.mem_of_getElem? (i := 676) (by decide +kernel), List.mem_of_getElem? (i := 677) (by decide +kernel), List.mem_of_getElem? (i := 60) (by decide +kernel), List.mem_of_getElem? (i := 678) rfl, ⟨by decide, by decide, by decide +kernel⟩⟩
set_option maxRecDepth 20000 in
theorem vX7_digest : zVi mX7_digest 7 0 := ⟨by decide, rfl, by decide, List.mem_of_getElem? (i := 680) (by decide +kernel), List.mem_of_getElem? (i := 681) (by decide +kernel), List.mem_of_getElem? (i := 60) (by decide +kernel), List.mem_of_getElem? (i := 682) rfl, ⟨by decide, by decide, by decide +kernel⟩⟩
set_option maxRecDepth 20000 in
theorem sX7_isIn : zSt mX7_isIn 3 := ⟨by decide, List.mem_of_getElem? (i := 295) (by decide +kernel), List.mem_of_getElem? (i := 60) (by decide +kernel), List.mem_of_getElem? (i := 296) rfl, ⟨by decide, by decide, by decide +kernel⟩⟩
set_option maxRecDepth 20000 in
theorem sX7_isBox : zSt mX7_isBox 4 := ⟨by decide, List.mem_of_getElem? (i := 298) (by decide +kernel), List.mem_of_getElem? (i := 60) (by decide +kernel), List.mem_of_getElem? (i := 299) rfl, ⟨by decide, by decide, by decide +kernel⟩⟩
set_option maxRecDepth 20000 in
theorem sX7_isBand : zSt mX7_isBand 2 := ⟨by decide, List.mem_of_getElem? (i := 382) (by decide +kernel), List.mem_of_getElem? (i := 60) (by decide +kernel), List.mem_of_getElem? (i := 383) rfl, ⟨by decide, by decide, by decide +kernel⟩⟩
set_option maxRecDepth 20000 in
theorem sX7_addAll : zSt mX7_addAll 3 := ⟨by decide, List.mem_of_getElem? (i := 688) (by decide +kernel), List.mem_of_getElem? (i := 60) (by decide +kernel), List.mem_of_getElem? (i := 689) rfl, ⟨by decide, by decide, by decide +kernel⟩⟩
set_option maxRecDepth 20000 in
theorem vX7_remember : zVi mX7_remember 7 0 := ⟨by decide, rfl, by decide, List.mem_of_getElem? (i := 302) (by decide +kernel), List.mem_of_getElem? (i := 0) (by decide +kernel), List.mem_of_getElem? (i := 60) (by decide +kernel), List.mem_of_getElem? (i := 303) rfl, ⟨by decide, by decide, by decide +kernel⟩⟩
set_option maxRecDepth 20000 in
theorem vX7_dropOldest : zVi mX7_dropOldest 7 0 := ⟨by decide, rfl, by decide, List.mem_of_getElem? (i := 306) (by decide +kernel), List.mem_of_getElem? (i := 1) (by decide +kernel), List.mem_of_getElem? (i := 60) (by decide +kernel), List.mem_of_getElem? (i := 307) rfl, ⟨by decide, by decide, by decide +kernel⟩⟩
set_option maxRecDepth 20000 in
theorem vX7_greatestBase : zVi mX7_greatestBase 7 1 := ⟨by decide, rfl, by decide, List.mem_of_getElem? (i := 539) (by decide +kernel), List.mem_of_getElem? (i := 20) (by decide +kernel), List.mem_of_getElem? (i := 60) (by decide +kernel), List.mem_of_getElem? (i := 540) rfl, ⟨by decide, by decide, by decide +kernel⟩⟩
set_option maxRecDepth 20000 in
theorem iX8_init : zIi mX8_init 0 := ⟨rfl, rfl, by decide, List.mem_of_getElem? (i := 693) (by decide +kernel), List.mem_of_getElem? (i := 68) (by decide +kernel), List.mem_of_getElem? (i := 694) rfl, ⟨by decide, by decide, by decide +kernel⟩⟩
set_option maxRecDepth 20000 in
theorem sX8_in : zSt mX8_in 3 := ⟨by decide, List.mem_of_getElem? (i := 762) (by decide +kernel), List.mem_of_getElem? (i := 68) (by decide +kernel), List.mem_of_getElem? (i := 763) rfl, ⟨by decide, by decide, by decide +kernel⟩⟩
set_option maxRecDepth 20000 in
theorem vX8_copies : zVi mX8_copies 8 2 := ⟨by decide, rfl, by decide, List.mem_of_getElem? (i := 770) (by decide +kernel), List.mem_of_getElem? (i := 31) (by decide +kernel), List.mem_of_getElem? (i := 68) (by decide +kernel), List.mem_of_getElem? (i := 771) rfl, ⟨by decide, by decide, by decide +kernel⟩⟩
set_option maxRecDepth 20000 in
theorem vX8_records : zVi mX8_records 8 0 := ⟨by decide, rfl, by decide, List.mem_of_getElem? (i := 766) (by decide +kernel), List.mem_of_getElem? (i := 30) (by decide +kernel), List.mem_of_getElem? (i := 68) (by decide +kernel), List.mem_of_getElem? (i := 767) rfl, ⟨by decide, by decide, by decide +kernel⟩⟩
set_option maxRecDepth 20000 in
theorem vX8_shapeOf : zVi mX8_shapeOf 8 2 := ⟨by decide, rfl, by decide, List.mem_of_getElem? (i := 782) (by decide +kernel), List.mem_of_getElem? (i := 33) (by decide +kernel), List.mem_of_getElem? (i := 68) (by decide +kernel), List.mem_of_getElem? (i := 783) rfl, ⟨by decide, by decide, by decide +kernel⟩⟩
set_option maxRecDepth 20000 in
theorem sX8_size : zSt mX8_size 1 := ⟨by decide, List.mem_of_getElem? (i := 797) (by decide +kernel), List.mem_of_getElem? (i := 68) (by decide +kernel), List.mem_of_getElem? (i := 798) rfl, ⟨by decide, by decide, by decide +kernel⟩⟩
set_option maxRecDepth 20000 in
theorem vX8_belongs : zVi mX8_belongs 8 3 := ⟨by decide, rfl, by decide, List.mem_of_getElem? (i := 794) (by decide +kernel), List.mem_of_getElem? (i := 36) (by decide +kernel), List.mem_of_getElem? (i := 68) (by decide +kernel), List.mem_of_getElem? (i := 795) rfl, ⟨by decide, by decide, by decide +kernel⟩⟩
set_option maxRecDepth 20000 in
theorem vX8_free : zVi mX8_free 8 2 := ⟨by decide, rfl, by decide, List.mem_of_getElem? (i := 790) (by decide +kernel), List.mem_of_getElem? (i := 35) (by decide +kernel), List.mem_of_getElem? (i := 68) (by decide +kernel), List.mem_of_getElem? (i := 791) rfl, ⟨by decide, by decide, by decide +kernel⟩⟩
set_option maxRecDepth 20000 in
theorem vX8_freeCells : zVi mX8_freeCells 8 0 := ⟨by decide, rfl, by decide, List.mem_of_getElem? (i := 786) (by decide +kernel), List.mem_of_getElem? (i := 34) (by decide +kernel), List.mem_of_getElem? (i := 68) (by decide +kernel), List.mem_of_getElem? (i := 787) rfl, ⟨by decide, by decide, by decide +kernel⟩⟩
set_option maxRecDepth 20000 in
theorem vX8_isShape : zVi mX8_isShape 8 1 := ⟨by decide, rfl, by decide, List.mem_of_getElem? (i := 778) (by decide +kernel), List.mem_of_getElem? (i := 32) (by decide +kernel), List.mem_of_getElem? (i := 68) (by decide +kernel), List.mem_of_getElem? (i := 779) rfl, ⟨by decide, by decide, by decide +kernel⟩⟩
set_option maxRecDepth 20000 in
theorem vX8_addShape : zVi mX8_addShape 8 5 := ⟨by decide, rfl, by decide, List.mem_of_getElem? (i := 758) (by decide +kernel), List.mem_of_getElem? (i := 759) (by decide +kernel), List.mem_of_getElem? (i := 68) (by decide +kernel), List.mem_of_getElem? (i := 760) rfl, ⟨by decide, by decide, by decide +kernel⟩⟩
set_option maxRecDepth 20000 in
theorem vX8_moveShape : zVi mX8_moveShape 8 3 := ⟨by decide, rfl, by decide, List.mem_of_getElem? (i := 773) (by decide +kernel), List.mem_of_getElem? (i := 774) (by decide +kernel), List.mem_of_getElem? (i := 68) (by decide +kernel), List.mem_of_getElem? (i := 775) rfl, ⟨by decide, by decide, by decide +kernel⟩⟩
set_option maxRecDepth 20000 in
theorem vX8_removeShape : zVi mX8_removeShape 8 1 := ⟨by decide, rfl, by decide, List.mem_of_getElem? (i := 800) (by decide +kernel), List.mem_of_getElem? (i := 801) (by decide +kernel), List.mem_of_getElem? (i := 68) (by decide +kernel), List.mem_of_getElem? (i := 802) rfl, ⟨by decide, by decide, by decide +kernel⟩⟩
set_option maxRecDepth 20000 in
theorem vX8_isFree : zVi mX8_isFree 8 2 := ⟨by decide, rfl, by decide, List.mem_of_getElem? (i := 804) (by decide +kernel), List.mem_of_getElem? (i := 805) (by decide +kernel), List.mem_of_getElem? (i := 68) (by decide +kernel), List.mem_of_getElem? (i := 806) rfl, ⟨by decide, by decide, by decide +kernel⟩⟩
set_option maxRecDepth 20000 in
theorem vX8_findsSpans : zVi mX8_findsSpans 8 0 := ⟨by decide, rfl, by decide, List.mem_of_getElem? (i := 813) (by decide +kernel), List.mem_of_getElem? (i := 37) (by decide +kernel), List.mem_of_getElem? (i := 68) (by decide +kernel), List.mem_of_getElem? (i := 814) rfl, ⟨by decide, by decide, by decide +kernel⟩⟩
set_option maxRecDepth 20000 in
theorem vX8_notesSpan : zVi mX8_notesSpan 8 2 := ⟨by decide, rfl, by decide, List.mem_of_getElem? (i := 817) (by decide +kernel), List.mem_of_getElem? (i := 38) (by decide +kernel), List.mem_of_getElem? (i := 68) (by decide +kernel), List.mem_of_getElem? (i := 818) rfl, ⟨by decide, by decide, by decide +kernel⟩⟩
set_option maxRecDepth 20000 in
theorem vX8_span : zVi mX8_span 8 3 := ⟨by decide, rfl, by decide, List.mem_of_getElem? (i := 808) (by decide +kernel), List.mem_of_getElem? (i := 809) (by decide +kernel), List.mem_of_getElem? (i := 68) (by decide +kernel), List.mem_of_getElem? (i := 810) rfl, ⟨by decide, by decide, by decide +kernel⟩⟩
set_option maxRecDepth 20000 in
theorem vX8_of : zVi mX8_of 8 2 := ⟨by decide, rfl, by decide, List.mem_of_getElem? (i := 837) (by decide +kernel), List.mem_of_getElem? (i := 41) (by decide +kernel), List.mem_of_getElem? (i := 68) (by decide +kernel), List.mem_of_getElem? (i := 838) rfl, ⟨by decide, by decide, by decide +kernel⟩⟩
set_option maxRecDepth 20000 in
theorem vX8_isWord : zVi mX8_isWord 8 1 := ⟨by decide, rfl, by decide, List.mem_of_getElem? (i := 833) (by decide +kernel), List.mem_of_getElem? (i := 40) (by decide +kernel), List.mem_of_getElem? (i := 68) (by decide +kernel), List.mem_of_getElem? (i := 834) rfl, ⟨by decide, by decide, by decide +kernel⟩⟩
set_option maxRecDepth 20000 in
theorem vX8_becomes : zVi mX8_becomes 8 4 := ⟨by decide, rfl, by decide, List.mem_of_getElem? (i := 825) (by decide +kernel), List.mem_of_getElem? (i := 39) (by decide +kernel), List.mem_of_getElem? (i := 68) (by decide +kernel), List.mem_of_getElem? (i := 826) rfl, ⟨by decide, by decide, by decide +kernel⟩⟩
set_option maxRecDepth 20000 in
theorem vX8_addWord : zVi mX8_addWord 8 2 := ⟨by decide, rfl, by decide, List.mem_of_getElem? (i := 820) (by decide +kernel), List.mem_of_getElem? (i := 821) (by decide +kernel), List.mem_of_getElem? (i := 68) (by decide +kernel), List.mem_of_getElem? (i := 822) rfl, ⟨by decide, by decide, by decide +kernel⟩⟩
set_option maxRecDepth 20000 in
theorem vX8_setWord : zVi mX8_setWord 8 4 := ⟨by decide, rfl, by decide, List.mem_of_getElem? (i := 828) (by decide +kernel), List.mem_of_getElem? (i := 829) (by decide +kernel), List.mem_of_getElem? (i := 68) (by decide +kernel), List.mem_of_getElem? (i := 830) rfl, ⟨by decide, by decide, by decide +kernel⟩⟩
set_option maxRecDepth 20000 in
theorem vX8_clearWords : zVi mX8_clearWords 8 0 := ⟨by decide, rfl, by decide, List.mem_of_getElem? (i := 840) (by decide +kernel), List.mem_of_getElem? (i := 841) (by decide +kernel), List.mem_of_getElem? (i := 68) (by decide +kernel), List.mem_of_getElem? (i := 842) rfl, ⟨by decide, by decide, by decide +kernel⟩⟩
set_option maxRecDepth 20000 in
theorem vX8_setSizes : zVi mX8_setSizes 8 4 := ⟨by decide, rfl, by decide, List.mem_of_getElem? (i := 844) (by decide +kernel), List.mem_of_getElem? (i := 845) (by decide +kernel), List.mem_of_getElem? (i := 68) (by decide +kernel), List.mem_of_getElem? (i := 846) rfl, ⟨by decide, by decide, by decide +kernel⟩⟩
set_option maxRecDepth 20000 in
theorem vX8_setLines : zVi mX8_setLines 8 4 := ⟨by decide, rfl, by decide, List.mem_of_getElem? (i := 848) (by decide +kernel), List.mem_of_getElem? (i := 849) (by decide +kernel), List.mem_of_getElem? (i := 68) (by decide +kernel), List.mem_of_getElem? (i := 850) rfl, ⟨by decide, by decide, by decide +kernel⟩⟩
set_option maxRecDepth 20000 in
theorem vX8_count : zVi mX8_count 8 1 := ⟨by decide, rfl, by decide, List.mem_of_getElem? (i := 852) (by decide +kernel), List.mem_of_getElem? (i := 853) (by decide +kernel), List.mem_of_getElem? (i := 68) (by decide +kernel), List.mem_of_getElem? (i := 854) rfl, ⟨by decide, by decide, by decide +kernel⟩⟩
set_option maxRecDepth 20000 in
theorem vX8_word : zVi mX8_word 8 2 := ⟨by decide, rfl, by decide, List.mem_of_getElem? (i := 856) (by decide +kernel), List.mem_of_getElem? (i := 857) (by decide +kernel), List.mem_of_getElem? (i := 68) (by decide +kernel), List.mem_of_getElem? (i := 858) rfl, ⟨by decide, by decide, by decide +kernel⟩⟩
set_option maxRecDepth 20000 in
theorem vX8_sizeOf : zVi mX8_sizeOf 8 2 := ⟨by decide, rfl, by decide, List.mem_of_getElem? (i := 873) (by decide +kernel), List.mem_of_getElem? (i := 44) (by decide +kernel), List.mem_of_getElem? (i := 68) (by decide +kernel), List.mem_of_getElem? (i := 874) rfl, ⟨by decide, by decide, by decide +kernel⟩⟩
set_option maxRecDepth 20000 in
theorem vX8_isLeast : zVi mX8_isLeast 8 1 := ⟨by decide, rfl, by decide, List.mem_of_getElem? (i := 869) (by decide +kernel), List.mem_of_getElem? (i := 43) (by decide +kernel), List.mem_of_getElem? (i := 68) (by decide +kernel), List.mem_of_getElem? (i := 870) rfl, ⟨by decide, by decide, by decide +kernel⟩⟩
set_option maxRecDepth 20000 in
theorem vX8_breaks : zVi mX8_breaks 8 2 := ⟨by decide, rfl, by decide, List.mem_of_getElem? (i := 884) (by decide +kernel), List.mem_of_getElem? (i := 46) (by decide +kernel), List.mem_of_getElem? (i := 68) (by decide +kernel), List.mem_of_getElem? (i := 885) rfl, ⟨by decide, by decide, by decide +kernel⟩⟩
set_option maxRecDepth 20000 in
theorem sX8_least : zSt mX8_least 2 := ⟨by decide, List.mem_of_getElem? (i := 880) (by decide +kernel), List.mem_of_getElem? (i := 68) (by decide +kernel), List.mem_of_getElem? (i := 881) rfl, ⟨by decide, by decide, by decide +kernel⟩⟩
set_option maxRecDepth 20000 in
theorem vX8_lays : zVi mX8_lays 8 2 := ⟨by decide, rfl, by decide, List.mem_of_getElem? (i := 877) (by decide +kernel), List.mem_of_getElem? (i := 45) (by decide +kernel), List.mem_of_getElem? (i := 68) (by decide +kernel), List.mem_of_getElem? (i := 878) rfl, ⟨by decide, by decide, by decide +kernel⟩⟩
set_option maxRecDepth 20000 in
theorem vX8_places : zVi mX8_places 8 2 := ⟨by decide, rfl, by decide, List.mem_of_getElem? (i := 888) (by decide +kernel), List.mem_of_getElem? (i := 47) (by decide +kernel), List.mem_of_getElem? (i := 68) (by decide +kernel), List.mem_of_getElem? (i := 889) rfl, ⟨by decide, by decide, by decide +kernel⟩⟩
set_option maxRecDepth 20000 in
theorem vX8_hasGap : zVi mX8_hasGap 8 1 := ⟨by decide, rfl, by decide, List.mem_of_getElem? (i := 896) (by decide +kernel), List.mem_of_getElem? (i := 49) (by decide +kernel), List.mem_of_getElem? (i := 68) (by decide +kernel), List.mem_of_getElem? (i := 897) rfl, ⟨by decide, by decide, by decide +kernel⟩⟩
set_option maxRecDepth 20000 in
theorem vX8_gapFrom : zVi mX8_gapFrom 8 1 := ⟨by decide, rfl, by decide, List.mem_of_getElem? (i := 904) (by decide +kernel), List.mem_of_getElem? (i := 51) (by decide +kernel), List.mem_of_getElem? (i := 68) (by decide +kernel), List.mem_of_getElem? (i := 905) rfl, ⟨by decide, by decide, by decide +kernel⟩⟩
set_option maxRecDepth 20000 in
theorem vX8_touch : zVi mX8_touch 8 2 := ⟨by decide, rfl, by decide, List.mem_of_getElem? (i := 900) (by decide +kernel), List.mem_of_getElem? (i := 50) (by decide +kernel), List.mem_of_getElem? (i := 68) (by decide +kernel), List.mem_of_getElem? (i := 901) rfl, ⟨by decide, by decide, by decide +kernel⟩⟩
set_option maxRecDepth 20000 in
theorem vX8_chainsUp : zVi mX8_chainsUp 8 2 := ⟨by decide, rfl, by decide, List.mem_of_getElem? (i := 892) (by decide +kernel), List.mem_of_getElem? (i := 48) (by decide +kernel), List.mem_of_getElem? (i := 68) (by decide +kernel), List.mem_of_getElem? (i := 893) rfl, ⟨by decide, by decide, by decide +kernel⟩⟩
set_option maxRecDepth 20000 in
theorem vX8_chains : zVi mX8_chains 8 0 := ⟨by decide, rfl, by decide, List.mem_of_getElem? (i := 924) (by decide +kernel), List.mem_of_getElem? (i := 53) (by decide +kernel), List.mem_of_getElem? (i := 68) (by decide +kernel), List.mem_of_getElem? (i := 925) rfl, ⟨by decide, by decide, by decide +kernel⟩⟩
set_option maxRecDepth 20000 in
theorem vX8_finds : zVi mX8_finds 8 1 := ⟨by decide, rfl, by decide, List.mem_of_getElem? (i := 865) (by decide +kernel), List.mem_of_getElem? (i := 42) (by decide +kernel), List.mem_of_getElem? (i := 68) (by decide +kernel), List.mem_of_getElem? (i := 866) rfl, ⟨by decide, by decide, by decide +kernel⟩⟩
set_option maxRecDepth 20000 in
theorem vX8_fits : zVi mX8_fits 8 0 := ⟨by decide, rfl, by decide, List.mem_of_getElem? (i := 912) (by decide +kernel), List.mem_of_getElem? (i := 52) (by decide +kernel), List.mem_of_getElem? (i := 68) (by decide +kernel), List.mem_of_getElem? (i := 913) rfl, ⟨by decide, by decide, by decide +kernel⟩⟩
set_option maxRecDepth 20000 in
theorem vX8_cost : zVi mX8_cost 8 1 := ⟨by decide, rfl, by decide, List.mem_of_getElem? (i := 860) (by decide +kernel), List.mem_of_getElem? (i := 861) (by decide +kernel), List.mem_of_getElem? (i := 68) (by decide +kernel), List.mem_of_getElem? (i := 862) rfl, ⟨by decide, by decide, by decide +kernel⟩⟩
set_option maxRecDepth 20000 in
theorem vX8_fit : zVi mX8_fit 8 0 := ⟨by decide, rfl, by decide, List.mem_of_getElem? (i := 907) (by decide +kernel), List.mem_of_getElem? (i := 908) (by decide +kernel), List.mem_of_getElem? (i := 68) (by decide +kernel), List.mem_of_getElem? (i := 909) rfl, ⟨by decide, by decide, by decide +kernel⟩⟩
set_option maxRecDepth 20000 in
theorem vX8_allowed : zVi mX8_allowed 8 1 := ⟨by decide, rfl, by decide, List.mem_of_getElem? (i := 915) (by decide +kernel), List.mem_of_getElem? (i := 916) (by decide +kernel), List.mem_of_getElem? (i := 68) (by decide +kernel), List.mem_of_getElem? (i := 917) rfl, ⟨by decide, by decide, by decide +kernel⟩⟩
set_option maxRecDepth 20000 in
theorem vX8_take : zVi mX8_take 8 1 := ⟨by decide, rfl, by decide, List.mem_of_getElem? (i := 919) (by decide +kernel), List.mem_of_getElem? (i := 920) (by decide +kernel), List.mem_of_getElem? (i := 68) (by decide +kernel), List.mem_of_getElem? (i := 921) rfl, ⟨by decide, by decide, by decide +kernel⟩⟩
set_option maxRecDepth 20000 in
theorem vX8_widestStep : zVi mX8_widestStep 8 1 := ⟨by decide, rfl, by decide, List.mem_of_getElem? (i := 927) (by decide +kernel), List.mem_of_getElem? (i := 928) (by decide +kernel), List.mem_of_getElem? (i := 68) (by decide +kernel), List.mem_of_getElem? (i := 929) rfl, ⟨by decide, by decide, by decide +kernel⟩⟩
set_option maxRecDepth 20000 in
theorem vX8_tightestLimit : zVi mX8_tightestLimit 8 0 := ⟨by decide, rfl, by decide, List.mem_of_getElem? (i := 931) (by decide +kernel), List.mem_of_getElem? (i := 932) (by decide +kernel), List.mem_of_getElem? (i := 68) (by decide +kernel), List.mem_of_getElem? (i := 933) rfl, ⟨by decide, by decide, by decide +kernel⟩⟩
set_option maxRecDepth 20000 in
theorem vX8_layout : zVi mX8_layout 8 1 := ⟨by decide, rfl, by decide, List.mem_of_getElem? (i := 935) (by decide +kernel), List.mem_of_getElem? (i := 936) (by decide +kernel), List.mem_of_getElem? (i := 68) (by decide +kernel), List.mem_of_getElem? (i := 937) rfl, ⟨by decide, by decide, by decide +kernel⟩⟩
set_option maxRecDepth 20000 in
theorem vX8_line : zVi mX8_line 8 2 := ⟨by decide, rfl, by decide, List.mem_of_getElem? (i := 939) (by decide +kernel), List.mem_of_getElem? (i := 940) (by decide +kernel), List.mem_of_getElem? (i := 68) (by decide +kernel), List.mem_of_getElem? (i := 941) rfl, ⟨by decide, by decide, by decide +kernel⟩⟩
set_option maxRecDepth 20000 in
theorem vX8_placed : zVi mX8_placed 8 2 := ⟨by decide, rfl, by decide, List.mem_of_getElem? (i := 943) (by decide +kernel), List.mem_of_getElem? (i := 944) (by decide +kernel), List.mem_of_getElem? (i := 68) (by decide +kernel), List.mem_of_getElem? (i := 945) rfl, ⟨by decide, by decide, by decide +kernel⟩⟩
set_option maxRecDepth 20000 in
theorem vX8_type : zVi mX8_type 8 1 := ⟨by decide, rfl, by decide, List.mem_of_getElem? (i := 947) (by decide +kernel), List.mem_of_getElem? (i := 948) (by decide +kernel), List.mem_of_getElem? (i := 68) (by decide +kernel), List.mem_of_getElem? (i := 949) rfl, ⟨by decide, by decide, by decide +kernel⟩⟩
set_option maxRecDepth 20000 in
theorem vX8_clearText : zVi mX8_clearText 8 0 := ⟨by decide, rfl, by decide, List.mem_of_getElem? (i := 951) (by decide +kernel), List.mem_of_getElem? (i := 952) (by decide +kernel), List.mem_of_getElem? (i := 68) (by decide +kernel), List.mem_of_getElem? (i := 953) rfl, ⟨by decide, by decide, by decide +kernel⟩⟩
set_option maxRecDepth 20000 in
theorem vX8_isLetter : zVi mX8_isLetter 8 0 := ⟨by decide, rfl, by decide, List.mem_of_getElem? (i := 972) (by decide +kernel), List.mem_of_getElem? (i := 57) (by decide +kernel), List.mem_of_getElem? (i := 68) (by decide +kernel), List.mem_of_getElem? (i := 973) rfl, ⟨by decide, by decide, by decide +kernel⟩⟩
set_option maxRecDepth 20000 in
theorem vX8_isSign : zVi mX8_isSign 8 1 := ⟨by decide, rfl, by decide, List.mem_of_getElem? (i := 968) (by decide +kernel), List.mem_of_getElem? (i := 56) (by decide +kernel), List.mem_of_getElem? (i := 68) (by decide +kernel), List.mem_of_getElem? (i := 969) rfl, ⟨by decide, by decide, by decide +kernel⟩⟩
set_option maxRecDepth 20000 in
theorem vX8_blanks : zVi mX8_blanks 8 0 := ⟨by decide, rfl, by decide, List.mem_of_getElem? (i := 964) (by decide +kernel), List.mem_of_getElem? (i := 55) (by decide +kernel), List.mem_of_getElem? (i := 68) (by decide +kernel), List.mem_of_getElem? (i := 965) rfl, ⟨by decide, by decide, by decide +kernel⟩⟩
set_option maxRecDepth 20000 in
theorem vX8_readsText : zVi mX8_readsText 8 0 := ⟨by decide, rfl, by decide, List.mem_of_getElem? (i := 960) (by decide +kernel), List.mem_of_getElem? (i := 54) (by decide +kernel), List.mem_of_getElem? (i := 68) (by decide +kernel), List.mem_of_getElem? (i := 961) rfl, ⟨by decide, by decide, by decide +kernel⟩⟩
set_option maxRecDepth 20000 in
theorem vX8_textFault : zVi mX8_textFault 8 0 := ⟨by decide, rfl, by decide, List.mem_of_getElem? (i := 955) (by decide +kernel), List.mem_of_getElem? (i := 956) (by decide +kernel), List.mem_of_getElem? (i := 68) (by decide +kernel), List.mem_of_getElem? (i := 957) rfl, ⟨by decide, by decide, by decide +kernel⟩⟩
set_option maxRecDepth 20000 in
theorem vX8_load : zVi mX8_load 8 0 := ⟨by decide, rfl, by decide, List.mem_of_getElem? (i := 975) (by decide +kernel), List.mem_of_getElem? (i := 976) (by decide +kernel), List.mem_of_getElem? (i := 68) (by decide +kernel), List.mem_of_getElem? (i := 977) rfl, ⟨by decide, by decide, by decide +kernel⟩⟩
set_option maxRecDepth 20000 in
theorem vX8_undo : zVi mX8_undo 8 0 := ⟨by decide, rfl, by decide, List.mem_of_getElem? (i := 979) (by decide +kernel), List.mem_of_getElem? (i := 980) (by decide +kernel), List.mem_of_getElem? (i := 68) (by decide +kernel), List.mem_of_getElem? (i := 981) rfl, ⟨by decide, by decide, by decide +kernel⟩⟩
set_option maxRecDepth 20000 in
theorem vX8_note : zVi mX8_note 8 1 := ⟨by decide, rfl, by decide, List.mem_of_getElem? (i := 990) (by decide +kernel), List.mem_of_getElem? (i := 58) (by decide +kernel), List.mem_of_getElem? (i := 68) (by decide +kernel), List.mem_of_getElem? (i := 991) rfl, ⟨by decide, by decide, by decide +kernel⟩⟩
set_option maxRecDepth 20000 in
theorem vX8_digest : zVi mX8_digest 8 0 := ⟨by decide, rfl, by decide, List.mem_of_getElem? (i := 983) (by decide +kernel), List.mem_of_getElem? (i := 984) (by decide +kernel), List.mem_of_getElem? (i := 68) (by decide +kernel), List.mem_of_getElem? (i := 985) rfl, ⟨by decide, by decide, by decide +kernel⟩⟩
set_option maxRecDepth 20000 in
theorem sJ13_bitCount_95d88 : zSt mJ13_bitCount_95d88 1 := ⟨by decide, List.mem_of_getElem? (i := 356) (by decide +kernel), List.mem_of_getElem? (i := 71) (by decide +kernel), List.mem_of_getElem? (i := 357) rfl, ⟨by decide, by decide, by decide +kernel⟩⟩
set_option maxRecDepth 20000 in
theorem sJ7_fill_53178 : zSt mJ7_fill_53178 2 := ⟨by decide, List.mem_of_getElem? (i := 111) (by decide +kernel), List.mem_of_getElem? (i := 63) (by decide +kernel), List.mem_of_getElem? (i := 112) rfl, ⟨by decide, by decide, by decide +kernel⟩⟩
theorem lL_9 : Cond.methodLink RL 9 yX7_init ∈ lw_tbl := List.mem_of_getElem? (i := 75) (by decide +kernel)
theorem lX7_1 : Cond.methodLink RX7 1 objectInit ∈ lw_tbl := List.mem_of_getElem? (i := 78) (by decide +kernel)
theorem lX7_9 : Cond.methodLink RX7 9 yX5_init ∈ lw_tbl := List.mem_of_getElem? (i := 83) (by decide +kernel)
theorem lX5_3 : Cond.methodLink RX5 3 objectInit ∈ lw_tbl := List.mem_of_getElem? (i := 86) (by decide +kernel)
theorem lX1_3 : Cond.methodLink RX1 3 objectInit ∈ lw_tbl := List.mem_of_getElem? (i := 92) (by decide +kernel)
theorem lX5_33 : Cond.methodLink RX5 33 yJ7_fill_53178 ∈ lw_tbl := List.mem_of_getElem? (i := 110) (by decide +kernel)
theorem lX6_3 : Cond.methodLink RX6 3 objectInit ∈ lw_tbl := List.mem_of_getElem? (i := 144) (by decide +kernel)
theorem lX4_3 : Cond.methodLink RX4 3 objectInit ∈ lw_tbl := List.mem_of_getElem? (i := 162) (by decide +kernel)
theorem lX0_3 : Cond.methodLink RX0 3 objectInit ∈ lw_tbl := List.mem_of_getElem? (i := 168) (by decide +kernel)
theorem lX3_3 : Cond.methodLink RX3 3 objectInit ∈ lw_tbl := List.mem_of_getElem? (i := 184) (by decide +kernel)
theorem lL_13 : Cond.methodLink RL 13 yX7_addShape ∈ lw_tbl := List.mem_of_getElem? (i := 290) (by decide +kernel)
theorem lX7_45 : Cond.methodLink RX7 45 yX7_isIn ∈ lw_tbl := List.mem_of_getElem? (i := 294) (by decide +kernel)
theorem lX7_49 : Cond.methodLink RX7 49 yX7_isBox ∈ lw_tbl := List.mem_of_getElem? (i := 297) (by decide +kernel)
theorem lX7_62 : Cond.methodLink RX7 62 yX7_remember ∈ lw_tbl := List.mem_of_getElem? (i := 300) (by decide +kernel)
theorem lX7_191 : Cond.methodLink RX7 191 yX7_dropOldest ∈ lw_tbl := List.mem_of_getElem? (i := 304) (by decide +kernel)
theorem lX7_172 : Cond.methodLink RX7 172 yX5_copyFrom ∈ lw_tbl := List.mem_of_getElem? (i := 308) (by decide +kernel)
theorem lX5_39 : Cond.methodLink RX5 39 yX1_copyFrom ∈ lw_tbl := List.mem_of_getElem? (i := 312) (by decide +kernel)
theorem lX1_26 : zAc RX1 26 := ⟨List.mem_of_getElem? (i := 316) (by decide +kernel), List.mem_of_getElem? (i := 318) (by decide +kernel), List.mem_of_getElem? (i := 317) (by decide +kernel), List.mem_of_getElem? (i := 69) (by decide +kernel)⟩
theorem lX5_43 : zAc RX5 43 := ⟨List.mem_of_getElem? (i := 319) (by decide +kernel), List.mem_of_getElem? (i := 318) (by decide +kernel), List.mem_of_getElem? (i := 317) (by decide +kernel), List.mem_of_getElem? (i := 69) (by decide +kernel)⟩
theorem lX7_65 : Cond.methodLink RX7 65 yX1_append ∈ lw_tbl := List.mem_of_getElem? (i := 320) (by decide +kernel)
theorem lX1_32 : Cond.methodLink RX1 32 yX1_toggle ∈ lw_tbl := List.mem_of_getElem? (i := 324) (by decide +kernel)
theorem lX1_46 : Cond.methodLink RX1 46 yX1_columnsOf ∈ lw_tbl := List.mem_of_getElem? (i := 328) (by decide +kernel)
theorem lX1_50 : zMath Lib.Math.abs.name Lib.Math.abs.code 1 RX1 50 := ⟨List.mem_of_getElem? (i := 332) (by decide +kernel), List.mem_of_getElem? (i := 333) (by decide +kernel), List.mem_of_getElem? (i := 70) (by decide +kernel), List.mem_of_getElem? (i := 334) (by decide +kernel)⟩
theorem lX1_56 : Cond.methodLink RX1 56 yX1_belongs ∈ lw_tbl := List.mem_of_getElem? (i := 335) (by decide +kernel)
theorem lL_18 : Cond.methodLink RL 18 yX7_moveShape ∈ lw_tbl := List.mem_of_getElem? (i := 338) (by decide +kernel)
theorem lX7_69 : Cond.methodLink RX7 69 yX1_canShift ∈ lw_tbl := List.mem_of_getElem? (i := 342) (by decide +kernel)
theorem lX7_72 : Cond.methodLink RX7 72 yX1_shift ∈ lw_tbl := List.mem_of_getElem? (i := 347) (by decide +kernel)
theorem lX7_76 : Cond.methodLink RX7 76 yX1_freeCells ∈ lw_tbl := List.mem_of_getElem? (i := 351) (by decide +kernel)
theorem lX1_40 : Cond.methodLink RX1 40 yJ13_bitCount_95d88 ∈ lw_tbl := List.mem_of_getElem? (i := 355) (by decide +kernel)
theorem lL_23 : Cond.methodLink RL 23 yX7_removeShape ∈ lw_tbl := List.mem_of_getElem? (i := 361) (by decide +kernel)
theorem lX7_80 : Cond.methodLink RX7 80 yX1_drop ∈ lw_tbl := List.mem_of_getElem? (i := 365) (by decide +kernel)
theorem lL_28 : Cond.methodLink RL 28 yX7_isFree ∈ lw_tbl := List.mem_of_getElem? (i := 369) (by decide +kernel)
theorem lX7_84 : Cond.methodLink RX7 84 yX1_isFreeAt ∈ lw_tbl := List.mem_of_getElem? (i := 373) (by decide +kernel)
theorem lL_33 : Cond.methodLink RL 33 yX7_span ∈ lw_tbl := List.mem_of_getElem? (i := 377) (by decide +kernel)
theorem lX7_88 : Cond.methodLink RX7 88 yX7_isBand ∈ lw_tbl := List.mem_of_getElem? (i := 381) (by decide +kernel)
theorem lX7_95 : Cond.methodLink RX7 95 yX0_learn ∈ lw_tbl := List.mem_of_getElem? (i := 384) (by decide +kernel)
theorem lX0_27 : Cond.methodLink RX0 27 yX1_freeColumns ∈ lw_tbl := List.mem_of_getElem? (i := 388) (by decide +kernel)
theorem lX0_31 : Cond.methodLink RX0 31 yX0_findSpan ∈ lw_tbl := List.mem_of_getElem? (i := 392) (by decide +kernel)
theorem lX7_101 : Cond.methodLink RX7 101 yX0_lengthOf ∈ lw_tbl := List.mem_of_getElem? (i := 396) (by decide +kernel)
theorem lX7_105 : Cond.methodLink RX7 105 yX0_firstOf ∈ lw_tbl := List.mem_of_getElem? (i := 400) (by decide +kernel)
theorem lL_37 : Cond.methodLink RL 37 yX7_addWord ∈ lw_tbl := List.mem_of_getElem? (i := 404) (by decide +kernel)
theorem lX7_111 : Cond.methodLink RX7 111 yX5_putWord ∈ lw_tbl := List.mem_of_getElem? (i := 408) (by decide +kernel)
theorem lL_41 : Cond.methodLink RL 41 yX7_setWord ∈ lw_tbl := List.mem_of_getElem? (i := 412) (by decide +kernel)
theorem lX7_115 : Cond.methodLink RX7 115 yX5_partOfWord ∈ lw_tbl := List.mem_of_getElem? (i := 416) (by decide +kernel)
theorem lL_46 : Cond.methodLink RL 46 yX7_clearWords ∈ lw_tbl := List.mem_of_getElem? (i := 420) (by decide +kernel)
theorem lL_51 : Cond.methodLink RL 51 yX7_setSizes ∈ lw_tbl := List.mem_of_getElem? (i := 424) (by decide +kernel)
theorem lL_56 : Cond.methodLink RL 56 yX7_setLines ∈ lw_tbl := List.mem_of_getElem? (i := 428) (by decide +kernel)
theorem lL_60 : Cond.methodLink RL 60 yX7_count ∈ lw_tbl := List.mem_of_getElem? (i := 432) (by decide +kernel)
theorem lL_64 : Cond.methodLink RL 64 yX7_word ∈ lw_tbl := List.mem_of_getElem? (i := 436) (by decide +kernel)
theorem lL_68 : Cond.methodLink RL 68 yX7_cost ∈ lw_tbl := List.mem_of_getElem? (i := 440) (by decide +kernel)
theorem lX7_125 : Cond.methodLink RX7 125 yX4_findBest ∈ lw_tbl := List.mem_of_getElem? (i := 444) (by decide +kernel)
theorem lX4_47 : Cond.methodLink RX4 47 yX4_prepare ∈ lw_tbl := List.mem_of_getElem? (i := 448) (by decide +kernel)
theorem lX4_70 : Cond.methodLink RX4 70 yX3_measure ∈ lw_tbl := List.mem_of_getElem? (i := 452) (by decide +kernel)
theorem lX3_37 : Cond.methodLink RX3 37 yX5_partOfWord ∈ lw_tbl := List.mem_of_getElem? (i := 456) (by decide +kernel)
theorem lX3_44 : zMath Lib.Math.min.name Lib.Math.min.code 2 RX3 44 := ⟨List.mem_of_getElem? (i := 457) (by decide +kernel), List.mem_of_getElem? (i := 458) (by decide +kernel), List.mem_of_getElem? (i := 70) (by decide +kernel), List.mem_of_getElem? (i := 459) (by decide +kernel)⟩
theorem lX3_49 : Cond.methodLink RX3 49 yX3_findLastEnds ∈ lw_tbl := List.mem_of_getElem? (i := 460) (by decide +kernel)
theorem lX3_53 : Cond.methodLink RX3 53 yX3_measureLines ∈ lw_tbl := List.mem_of_getElem? (i := 464) (by decide +kernel)
theorem lX3_56 : zMath Lib.Math.max.name Lib.Math.max.code 2 RX3 56 := ⟨List.mem_of_getElem? (i := 468) (by decide +kernel), List.mem_of_getElem? (i := 469) (by decide +kernel), List.mem_of_getElem? (i := 70) (by decide +kernel), List.mem_of_getElem? (i := 470) (by decide +kernel)⟩
theorem lX4_96 : Cond.methodLink RX4 96 yX0_learn ∈ lw_tbl := List.mem_of_getElem? (i := 471) (by decide +kernel)
theorem lX4_100 : Cond.methodLink RX4 100 yX4_findLeastCosts ∈ lw_tbl := List.mem_of_getElem? (i := 472) (by decide +kernel)
theorem lX4_118 : Cond.methodLink RX4 118 yX4_findLeastCost ∈ lw_tbl := List.mem_of_getElem? (i := 476) (by decide +kernel)
theorem lX4_124 : Cond.methodLink RX4 124 yX4_slackOf ∈ lw_tbl := List.mem_of_getElem? (i := 480) (by decide +kernel)
theorem lX4_131 : Cond.methodLink RX4 131 yX3_heightOf ∈ lw_tbl := List.mem_of_getElem? (i := 484) (by decide +kernel)
theorem lX4_134 : Cond.methodLink RX4 134 yX0_lengthOf ∈ lw_tbl := List.mem_of_getElem? (i := 488) (by decide +kernel)
theorem lX4_137 : Cond.methodLink RX4 137 yX3_widthOf ∈ lw_tbl := List.mem_of_getElem? (i := 489) (by decide +kernel)
theorem lX4_128 : Cond.methodLink RX4 128 yX4_rowBehind ∈ lw_tbl := List.mem_of_getElem? (i := 493) (by decide +kernel)
theorem lX4_110 : Cond.methodLink RX4 110 yX4_leastCostFrom ∈ lw_tbl := List.mem_of_getElem? (i := 497) (by decide +kernel)
theorem lX4_51 : Cond.methodLink RX4 51 yX4_run ∈ lw_tbl := List.mem_of_getElem? (i := 502) (by decide +kernel)
theorem lX4_114 : Cond.methodLink RX4 114 yX4_layFrom ∈ lw_tbl := List.mem_of_getElem? (i := 506) (by decide +kernel)
theorem lX4_140 : Cond.methodLink RX4 140 yX4_keep ∈ lw_tbl := List.mem_of_getElem? (i := 510) (by decide +kernel)
theorem lX4_158 : zAc RX4 158 := ⟨List.mem_of_getElem? (i := 514) (by decide +kernel), List.mem_of_getElem? (i := 318) (by decide +kernel), List.mem_of_getElem? (i := 317) (by decide +kernel), List.mem_of_getElem? (i := 69) (by decide +kernel)⟩
theorem lX4_144 : Cond.methodLink RX4 144 yX4_tryLine ∈ lw_tbl := List.mem_of_getElem? (i := 515) (by decide +kernel)
theorem lX4_148 : Cond.methodLink RX4 148 yX4_placeWords ∈ lw_tbl := List.mem_of_getElem? (i := 519) (by decide +kernel)
theorem lX4_164 : Cond.methodLink RX4 164 yX0_firstOf ∈ lw_tbl := List.mem_of_getElem? (i := 523) (by decide +kernel)
theorem lX4_151 : Cond.methodLink RX4 151 yX4_chainFromAbove ∈ lw_tbl := List.mem_of_getElem? (i := 524) (by decide +kernel)
theorem lX4_173 : Cond.methodLink RX4 173 yX4_longestTouching ∈ lw_tbl := List.mem_of_getElem? (i := 528) (by decide +kernel)
theorem lX4_177 : zMath Lib.Math.max.name Lib.Math.max.code 2 RX4 177 := ⟨List.mem_of_getElem? (i := 532) (by decide +kernel), List.mem_of_getElem? (i := 469) (by decide +kernel), List.mem_of_getElem? (i := 70) (by decide +kernel), List.mem_of_getElem? (i := 470) (by decide +kernel)⟩
theorem lL_72 : Cond.methodLink RL 72 yX7_fit ∈ lw_tbl := List.mem_of_getElem? (i := 533) (by decide +kernel)
theorem lX7_129 : Cond.methodLink RX7 129 yX7_greatestBase ∈ lw_tbl := List.mem_of_getElem? (i := 537) (by decide +kernel)
theorem lX7_140 : Cond.methodLink RX7 140 yX4_hasLayout ∈ lw_tbl := List.mem_of_getElem? (i := 541) (by decide +kernel)
theorem lL_76 : Cond.methodLink RL 76 yX7_allowed ∈ lw_tbl := List.mem_of_getElem? (i := 545) (by decide +kernel)
theorem lX7_133 : Cond.methodLink RX7 133 yX4_countLayouts ∈ lw_tbl := List.mem_of_getElem? (i := 549) (by decide +kernel)
theorem lL_80 : Cond.methodLink RL 80 yX7_take ∈ lw_tbl := List.mem_of_getElem? (i := 553) (by decide +kernel)
theorem lX7_136 : Cond.methodLink RX7 136 yX4_describeBest ∈ lw_tbl := List.mem_of_getElem? (i := 557) (by decide +kernel)
theorem lX4_184 : Cond.methodLink RX4 184 yX2_init ∈ lw_tbl := List.mem_of_getElem? (i := 563) (by decide +kernel)
theorem lX2_3 : Cond.methodLink RX2 3 objectInit ∈ lw_tbl := List.mem_of_getElem? (i := 566) (by decide +kernel)
theorem lX4_186 : Cond.methodLink RX4 186 yX4_describeLine ∈ lw_tbl := List.mem_of_getElem? (i := 590) (by decide +kernel)
theorem lX4_190 : Cond.methodLink RX4 190 yX4_chainFromBelow ∈ lw_tbl := List.mem_of_getElem? (i := 594) (by decide +kernel)
theorem lX4_193 : Cond.methodLink RX4 193 yX4_describeWords ∈ lw_tbl := List.mem_of_getElem? (i := 598) (by decide +kernel)
theorem lX4_197 : Cond.methodLink RX4 197 yX2_putTotals ∈ lw_tbl := List.mem_of_getElem? (i := 602) (by decide +kernel)
theorem lL_84 : Cond.methodLink RL 84 yX7_widestStep ∈ lw_tbl := List.mem_of_getElem? (i := 606) (by decide +kernel)
theorem lL_88 : Cond.methodLink RL 88 yX7_tightestLimit ∈ lw_tbl := List.mem_of_getElem? (i := 610) (by decide +kernel)
theorem lL_92 : Cond.methodLink RL 92 yX7_layout ∈ lw_tbl := List.mem_of_getElem? (i := 614) (by decide +kernel)
theorem lL_96 : Cond.methodLink RL 96 yX7_line ∈ lw_tbl := List.mem_of_getElem? (i := 618) (by decide +kernel)
theorem lL_100 : Cond.methodLink RL 100 yX7_placed ∈ lw_tbl := List.mem_of_getElem? (i := 622) (by decide +kernel)
theorem lL_104 : Cond.methodLink RL 104 yX7_type ∈ lw_tbl := List.mem_of_getElem? (i := 626) (by decide +kernel)
theorem lL_108 : Cond.methodLink RL 108 yX7_clearText ∈ lw_tbl := List.mem_of_getElem? (i := 630) (by decide +kernel)
theorem lL_112 : Cond.methodLink RL 112 yX7_textFault ∈ lw_tbl := List.mem_of_getElem? (i := 634) (by decide +kernel)
theorem lX7_159 : Cond.methodLink RX7 159 yX6_read ∈ lw_tbl := List.mem_of_getElem? (i := 638) (by decide +kernel)
theorem lX6_22 : Cond.methodLink RX6 22 yX6_accepts ∈ lw_tbl := List.mem_of_getElem? (i := 642) (by decide +kernel)
theorem lX6_26 : Cond.methodLink RX6 26 yX6_isLetter ∈ lw_tbl := List.mem_of_getElem? (i := 646) (by decide +kernel)
theorem lX6_29 : Cond.methodLink RX6 29 yX6_addLetter ∈ lw_tbl := List.mem_of_getElem? (i := 650) (by decide +kernel)
theorem lX6_46 : Cond.methodLink RX6 46 yX6_addUpTo ∈ lw_tbl := List.mem_of_getElem? (i := 654) (by decide +kernel)
theorem lX6_39 : Cond.methodLink RX6 39 yX6_goTo ∈ lw_tbl := List.mem_of_getElem? (i := 658) (by decide +kernel)
theorem lX6_33 : Cond.methodLink RX6 33 yX6_beginWord ∈ lw_tbl := List.mem_of_getElem? (i := 662) (by decide +kernel)
theorem lX6_36 : Cond.methodLink RX6 36 yX6_addShout ∈ lw_tbl := List.mem_of_getElem? (i := 666) (by decide +kernel)
theorem lL_116 : Cond.methodLink RL 116 yX7_load ∈ lw_tbl := List.mem_of_getElem? (i := 670) (by decide +kernel)
theorem lX7_166 : zAc RX7 166 := ⟨List.mem_of_getElem? (i := 674) (by decide +kernel), List.mem_of_getElem? (i := 318) (by decide +kernel), List.mem_of_getElem? (i := 317) (by decide +kernel), List.mem_of_getElem? (i := 69) (by decide +kernel)⟩
theorem lL_120 : Cond.methodLink RL 120 yX7_undo ∈ lw_tbl := List.mem_of_getElem? (i := 675) (by decide +kernel)
theorem lL_124 : Cond.methodLink RL 124 yX7_digest ∈ lw_tbl := List.mem_of_getElem? (i := 679) (by decide +kernel)
theorem lX7_180 : Cond.methodLink RX7 180 yX7_count ∈ lw_tbl := List.mem_of_getElem? (i := 685) (by decide +kernel)
theorem lX7_183 : Cond.methodLink RX7 183 yX7_span ∈ lw_tbl := List.mem_of_getElem? (i := 686) (by decide +kernel)
theorem lX7_187 : Cond.methodLink RX7 187 yX7_addAll ∈ lw_tbl := List.mem_of_getElem? (i := 687) (by decide +kernel)
theorem lL_12 : Cond.methodLink RL 12 yX8_init ∈ lw_tbl := List.mem_of_getElem? (i := 692) (by decide +kernel)
theorem lX8_1 : Cond.methodLink RX8 1 objectInit ∈ lw_tbl := List.mem_of_getElem? (i := 695) (by decide +kernel)
theorem lL_17 : Cond.methodLink RL 17 yX8_addShape ∈ lw_tbl := List.mem_of_getElem? (i := 757) (by decide +kernel)
theorem lX8_53 : Cond.methodLink RX8 53 yX8_in ∈ lw_tbl := List.mem_of_getElem? (i := 761) (by decide +kernel)
theorem lX8_68 : Cond.methodLink RX8 68 yX8_records ∈ lw_tbl := List.mem_of_getElem? (i := 764) (by decide +kernel)
theorem lX8_45 : Cond.methodLink RX8 45 yX8_copies ∈ lw_tbl := List.mem_of_getElem? (i := 768) (by decide +kernel)
theorem lL_22 : Cond.methodLink RL 22 yX8_moveShape ∈ lw_tbl := List.mem_of_getElem? (i := 772) (by decide +kernel)
theorem lX8_71 : Cond.methodLink RX8 71 yX8_isShape ∈ lw_tbl := List.mem_of_getElem? (i := 776) (by decide +kernel)
theorem lX8_49 : Cond.methodLink RX8 49 yX8_shapeOf ∈ lw_tbl := List.mem_of_getElem? (i := 780) (by decide +kernel)
theorem lX8_75 : Cond.methodLink RX8 75 yX8_freeCells ∈ lw_tbl := List.mem_of_getElem? (i := 784) (by decide +kernel)
theorem lX8_64 : Cond.methodLink RX8 64 yX8_free ∈ lw_tbl := List.mem_of_getElem? (i := 788) (by decide +kernel)
theorem lX8_61 : Cond.methodLink RX8 61 yX8_belongs ∈ lw_tbl := List.mem_of_getElem? (i := 792) (by decide +kernel)
theorem lX8_57 : Cond.methodLink RX8 57 yX8_size ∈ lw_tbl := List.mem_of_getElem? (i := 796) (by decide +kernel)
theorem lL_27 : Cond.methodLink RL 27 yX8_removeShape ∈ lw_tbl := List.mem_of_getElem? (i := 799) (by decide +kernel)
theorem lL_32 : Cond.methodLink RL 32 yX8_isFree ∈ lw_tbl := List.mem_of_getElem? (i := 803) (by decide +kernel)
theorem lL_36 : Cond.methodLink RL 36 yX8_span ∈ lw_tbl := List.mem_of_getElem? (i := 807) (by decide +kernel)
theorem lX8_83 : Cond.methodLink RX8 83 yX8_findsSpans ∈ lw_tbl := List.mem_of_getElem? (i := 811) (by decide +kernel)
theorem lX8_79 : Cond.methodLink RX8 79 yX8_notesSpan ∈ lw_tbl := List.mem_of_getElem? (i := 815) (by decide +kernel)
theorem lL_40 : Cond.methodLink RL 40 yX8_addWord ∈ lw_tbl := List.mem_of_getElem? (i := 819) (by decide +kernel)
theorem lX8_86 : Cond.methodLink RX8 86 yX8_becomes ∈ lw_tbl := List.mem_of_getElem? (i := 823) (by decide +kernel)
theorem lL_45 : Cond.methodLink RL 45 yX8_setWord ∈ lw_tbl := List.mem_of_getElem? (i := 827) (by decide +kernel)
theorem lX8_90 : Cond.methodLink RX8 90 yX8_isWord ∈ lw_tbl := List.mem_of_getElem? (i := 831) (by decide +kernel)
theorem lX8_93 : Cond.methodLink RX8 93 yX8_of ∈ lw_tbl := List.mem_of_getElem? (i := 835) (by decide +kernel)
theorem lL_50 : Cond.methodLink RL 50 yX8_clearWords ∈ lw_tbl := List.mem_of_getElem? (i := 839) (by decide +kernel)
theorem lL_55 : Cond.methodLink RL 55 yX8_setSizes ∈ lw_tbl := List.mem_of_getElem? (i := 843) (by decide +kernel)
theorem lL_59 : Cond.methodLink RL 59 yX8_setLines ∈ lw_tbl := List.mem_of_getElem? (i := 847) (by decide +kernel)
theorem lL_63 : Cond.methodLink RL 63 yX8_count ∈ lw_tbl := List.mem_of_getElem? (i := 851) (by decide +kernel)
theorem lL_67 : Cond.methodLink RL 67 yX8_word ∈ lw_tbl := List.mem_of_getElem? (i := 855) (by decide +kernel)
theorem lL_71 : Cond.methodLink RL 71 yX8_cost ∈ lw_tbl := List.mem_of_getElem? (i := 859) (by decide +kernel)
theorem lX8_141 : Cond.methodLink RX8 141 yX8_finds ∈ lw_tbl := List.mem_of_getElem? (i := 863) (by decide +kernel)
theorem lX8_135 : Cond.methodLink RX8 135 yX8_isLeast ∈ lw_tbl := List.mem_of_getElem? (i := 867) (by decide +kernel)
theorem lX8_96 : Cond.methodLink RX8 96 yX8_sizeOf ∈ lw_tbl := List.mem_of_getElem? (i := 871) (by decide +kernel)
theorem lX8_138 : Cond.methodLink RX8 138 yX8_lays ∈ lw_tbl := List.mem_of_getElem? (i := 875) (by decide +kernel)
theorem lX8_105 : Cond.methodLink RX8 105 yX8_least ∈ lw_tbl := List.mem_of_getElem? (i := 879) (by decide +kernel)
theorem lX8_108 : Cond.methodLink RX8 108 yX8_breaks ∈ lw_tbl := List.mem_of_getElem? (i := 882) (by decide +kernel)
theorem lX8_114 : Cond.methodLink RX8 114 yX8_places ∈ lw_tbl := List.mem_of_getElem? (i := 886) (by decide +kernel)
theorem lX8_117 : Cond.methodLink RX8 117 yX8_chainsUp ∈ lw_tbl := List.mem_of_getElem? (i := 890) (by decide +kernel)
theorem lX8_120 : Cond.methodLink RX8 120 yX8_hasGap ∈ lw_tbl := List.mem_of_getElem? (i := 894) (by decide +kernel)
theorem lX8_126 : Cond.methodLink RX8 126 yX8_touch ∈ lw_tbl := List.mem_of_getElem? (i := 898) (by decide +kernel)
theorem lX8_123 : Cond.methodLink RX8 123 yX8_gapFrom ∈ lw_tbl := List.mem_of_getElem? (i := 902) (by decide +kernel)
theorem lL_75 : Cond.methodLink RL 75 yX8_fit ∈ lw_tbl := List.mem_of_getElem? (i := 906) (by decide +kernel)
theorem lX8_144 : Cond.methodLink RX8 144 yX8_fits ∈ lw_tbl := List.mem_of_getElem? (i := 910) (by decide +kernel)
theorem lL_79 : Cond.methodLink RL 79 yX8_allowed ∈ lw_tbl := List.mem_of_getElem? (i := 914) (by decide +kernel)
theorem lL_83 : Cond.methodLink RL 83 yX8_take ∈ lw_tbl := List.mem_of_getElem? (i := 918) (by decide +kernel)
theorem lX8_147 : Cond.methodLink RX8 147 yX8_chains ∈ lw_tbl := List.mem_of_getElem? (i := 922) (by decide +kernel)
theorem lL_87 : Cond.methodLink RL 87 yX8_widestStep ∈ lw_tbl := List.mem_of_getElem? (i := 926) (by decide +kernel)
theorem lL_91 : Cond.methodLink RL 91 yX8_tightestLimit ∈ lw_tbl := List.mem_of_getElem? (i := 930) (by decide +kernel)
theorem lL_95 : Cond.methodLink RL 95 yX8_layout ∈ lw_tbl := List.mem_of_getElem? (i := 934) (by decide +kernel)
theorem lL_99 : Cond.methodLink RL 99 yX8_line ∈ lw_tbl := List.mem_of_getElem? (i := 938) (by decide +kernel)
theorem lL_103 : Cond.methodLink RL 103 yX8_placed ∈ lw_tbl := List.mem_of_getElem? (i := 942) (by decide +kernel)
theorem lL_107 : Cond.methodLink RL 107 yX8_type ∈ lw_tbl := List.mem_of_getElem? (i := 946) (by decide +kernel)
theorem lL_111 : Cond.methodLink RL 111 yX8_clearText ∈ lw_tbl := List.mem_of_getElem? (i := 950) (by decide +kernel)
theorem lL_115 : Cond.methodLink RL 115 yX8_textFault ∈ lw_tbl := List.mem_of_getElem? (i := 954) (by decide +kernel)
theorem lX8_169 : Cond.methodLink RX8 169 yX8_readsText ∈ lw_tbl := List.mem_of_getElem? (i := 958) (by decide +kernel)
theorem lX8_162 : Cond.methodLink RX8 162 yX8_blanks ∈ lw_tbl := List.mem_of_getElem? (i := 962) (by decide +kernel)
theorem lX8_156 : Cond.methodLink RX8 156 yX8_isSign ∈ lw_tbl := List.mem_of_getElem? (i := 966) (by decide +kernel)
theorem lX8_166 : Cond.methodLink RX8 166 yX8_isLetter ∈ lw_tbl := List.mem_of_getElem? (i := 970) (by decide +kernel)
theorem lL_119 : Cond.methodLink RL 119 yX8_load ∈ lw_tbl := List.mem_of_getElem? (i := 974) (by decide +kernel)
theorem lL_123 : Cond.methodLink RL 123 yX8_undo ∈ lw_tbl := List.mem_of_getElem? (i := 978) (by decide +kernel)
theorem lL_128 : Cond.methodLink RL 128 yX8_digest ∈ lw_tbl := List.mem_of_getElem? (i := 982) (by decide +kernel)
theorem lX8_180 : Cond.methodLink RX8 180 yX8_count ∈ lw_tbl := List.mem_of_getElem? (i := 987) (by decide +kernel)
theorem lX8_183 : Cond.methodLink RX8 183 yX8_note ∈ lw_tbl := List.mem_of_getElem? (i := 988) (by decide +kernel)
theorem lX5_11 : Cond.methodLinkNest RX5 11 yX1_init "PosterFitter" ∈ lw_n := List.mem_of_getElem? (i := 0) rfl
theorem lX7_33 : Cond.methodLinkNest RX7 33 yX6_init "PosterFitter" ∈ lw_n := List.mem_of_getElem? (i := 1) rfl
theorem lX7_40 : Cond.methodLinkNest RX7 40 yX4_init "PosterFitter" ∈ lw_n := List.mem_of_getElem? (i := 2) rfl
theorem lX4_11 : Cond.methodLinkNest RX4 11 yX0_init "PosterFitter" ∈ lw_n := List.mem_of_getElem? (i := 3) rfl
theorem lX4_20 : Cond.methodLinkNest RX4 20 yX3_init "PosterFitter" ∈ lw_n := List.mem_of_getElem? (i := 4) rfl
theorem lX1_36 : Cond.methodLinkNest RX1 36 yX7_isBox "PosterFitter" ∈ lw_n := List.mem_of_getElem? (i := 5) rfl
theorem lX6_42 : Cond.methodLinkNest RX6 42 yX7_isIn "PosterFitter" ∈ lw_n := List.mem_of_getElem? (i := 6) rfl
theorem l_oi : Cond.instanceMethod objectInit ∈ lw_tbl := List.mem_of_getElem? (i := 79) (by decide +kernel)
theorem l_oc : Cond.code objectInit ⟨#[0xb1]⟩ 1 none ∈ lw_tbl := List.mem_of_getElem? (i := 80) (by decide +kernel)
theorem l_ai : Cond.arrayClass .int ∈ lw_tbl := List.mem_of_getElem? (i := 108) (by decide +kernel)
theorem l_al : Cond.arrayClass .long ∈ lw_tbl := List.mem_of_getElem? (i := 109) (by decide +kernel)
theorem cL_7 : Cond.classLink RL 7 (zRn 7) ∈ lw_tbl := List.mem_of_getElem? (i := 73) (by decide +kernel)
theorem cX7_7 : Cond.classLink RX7 7 (zRn 5) ∈ lw_tbl := List.mem_of_getElem? (i := 81) (by decide +kernel)
theorem cX5_9 : Cond.classLink RX5 9 (zRn 1) ∈ lw_tbl := List.mem_of_getElem? (i := 87) (by decide +kernel)
theorem cX7_31 : Cond.classLink RX7 31 (zRn 6) ∈ lw_tbl := List.mem_of_getElem? (i := 139) (by decide +kernel)
theorem cX7_38 : Cond.classLink RX7 38 (zRn 4) ∈ lw_tbl := List.mem_of_getElem? (i := 157) (by decide +kernel)
theorem cX4_9 : Cond.classLink RX4 9 (zRn 0) ∈ lw_tbl := List.mem_of_getElem? (i := 163) (by decide +kernel)
theorem cX4_18 : Cond.classLink RX4 18 (zRn 3) ∈ lw_tbl := List.mem_of_getElem? (i := 179) (by decide +kernel)
theorem cX4_182 : Cond.classLink RX4 182 (zRn 2) ∈ lw_tbl := List.mem_of_getElem? (i := 561) (by decide +kernel)
theorem cL_10 : Cond.classLink RL 10 (zRn 8) ∈ lw_tbl := List.mem_of_getElem? (i := 690) (by decide +kernel)
theorem n_7 : Cond.instantiable (zRn 7) (zN 7) ∈ lw_tbl := List.mem_of_getElem? (i := 74) (by decide +kernel)
theorem u_7 : Cond.initialized (zRn 7) ∈ lw_tbl := List.mem_of_getElem? (i := 60) (by decide +kernel)
theorem n_5 : Cond.instantiable (zRn 5) (zN 5) ∈ lw_tbl := List.mem_of_getElem? (i := 82) (by decide +kernel)
theorem u_5 : Cond.initialized (zRn 5) ∈ lw_tbl := List.mem_of_getElem? (i := 61) (by decide +kernel)
theorem n_1 : Cond.instantiable (zRn 1) (zN 1) ∈ lw_tbl := List.mem_of_getElem? (i := 88) (by decide +kernel)
theorem u_1 : Cond.initialized (zRn 1) ∈ lw_tbl := List.mem_of_getElem? (i := 62) (by decide +kernel)
theorem n_6 : Cond.instantiable (zRn 6) (zN 6) ∈ lw_tbl := List.mem_of_getElem? (i := 140) (by decide +kernel)
theorem u_6 : Cond.initialized (zRn 6) ∈ lw_tbl := List.mem_of_getElem? (i := 64) (by decide +kernel)
theorem n_4 : Cond.instantiable (zRn 4) (zN 4) ∈ lw_tbl := List.mem_of_getElem? (i := 158) (by decide +kernel)
theorem u_4 : Cond.initialized (zRn 4) ∈ lw_tbl := List.mem_of_getElem? (i := 65) (by decide +kernel)
theorem n_0 : Cond.instantiable (zRn 0) (zN 0) ∈ lw_tbl := List.mem_of_getElem? (i := 164) (by decide +kernel)
theorem u_0 : Cond.initialized (zRn 0) ∈ lw_tbl := List.mem_of_getElem? (i := 66) (by decide +kernel)
theorem n_3 : Cond.instantiable (zRn 3) (zN 3) ∈ lw_tbl := List.mem_of_getElem? (i := 180) (by decide +kernel)
theorem u_3 : Cond.initialized (zRn 3) ∈ lw_tbl := List.mem_of_getElem? (i := 67) (by decide +kernel)
theorem n_2 : Cond.instantiable (zRn 2) (zN 2) ∈ lw_tbl := List.mem_of_getElem? (i := 562) (by decide +kernel)
theorem u_2 : Cond.initialized (zRn 2) ∈ lw_tbl := List.mem_of_getElem? (i := 72) (by decide +kernel)
theorem n_8 : Cond.instantiable (zRn 8) (zN 8) ∈ lw_tbl := List.mem_of_getElem? (i := 691) (by decide +kernel)
theorem u_8 : Cond.initialized (zRn 8) ∈ lw_tbl := List.mem_of_getElem? (i := 68) (by decide +kernel)
theorem kX4_66 : Cond.constant RX4 66 (2147483647) ∈ lw_tbl := List.mem_of_getElem? (i := 501) (by decide +kernel)
theorem kJ13_314 : Cond.constantLong RJ13 314 (6148914691236517205) ∈ lw_tbl := List.mem_of_getElem? (i := 358) (by decide +kernel)
theorem kJ13_316 : Cond.constantLong RJ13 316 (3689348814741910323) ∈ lw_tbl := List.mem_of_getElem? (i := 359) (by decide +kernel)
theorem kJ13_318 : Cond.constantLong RJ13 318 (1085102592571150095) ∈ lw_tbl := List.mem_of_getElem? (i := 360) (by decide +kernel)
theorem kX7_176 : Cond.constantLong RX7 176 (23) ∈ lw_tbl := List.mem_of_getElem? (i := 683) (by decide +kernel)
theorem kX7_178 : Cond.constantLong RX7 178 (31) ∈ lw_tbl := List.mem_of_getElem? (i := 684) (by decide +kernel)
theorem kX8_178 : Cond.constantLong RX8 178 (23) ∈ lw_tbl := List.mem_of_getElem? (i := 986) (by decide +kernel)
theorem kX8_172 : Cond.constantLong RX8 172 (31) ∈ lw_tbl := List.mem_of_getElem? (i := 992) (by decide +kernel)
theorem fX1_9 : zFl RX1 9 1 0 := ⟨by decide, by decide, List.mem_of_getElem? (i := 93) (by decide +kernel)⟩
theorem fX7_57 : zFl RX7 57 1 0 := ⟨by decide, by decide, List.mem_of_getElem? (i := 94) (by decide +kernel)⟩
theorem fX1_15 : zFl RX1 15 1 1 := ⟨by decide, by decide, List.mem_of_getElem? (i := 95) (by decide +kernel)⟩
theorem fX0_21 : zFl RX0 21 1 1 := ⟨by decide, by decide, List.mem_of_getElem? (i := 96) (by decide +kernel)⟩
theorem fX1_18 : zFl RX1 18 1 2 := ⟨by decide, by decide, List.mem_of_getElem? (i := 97) (by decide +kernel)⟩
theorem fX1_22 : zFl RX1 22 1 3 := ⟨by decide, by decide, List.mem_of_getElem? (i := 98) (by decide +kernel)⟩
theorem fX5_12 : zFl RX5 12 5 0 := ⟨by decide, by decide, List.mem_of_getElem? (i := 113) (by decide +kernel)⟩
theorem fX7_53 : zFl RX7 53 5 0 := ⟨by decide, by decide, List.mem_of_getElem? (i := 114) (by decide +kernel)⟩
theorem fX4_89 : zFl RX4 89 5 0 := ⟨by decide, by decide, List.mem_of_getElem? (i := 115) (by decide +kernel)⟩
theorem fX5_18 : zFl RX5 18 5 1 := ⟨by decide, by decide, List.mem_of_getElem? (i := 116) (by decide +kernel)⟩
theorem fX3_34 : zFl RX3 34 5 1 := ⟨by decide, by decide, List.mem_of_getElem? (i := 117) (by decide +kernel)⟩
theorem fX7_108 : zFl RX7 108 5 1 := ⟨by decide, by decide, List.mem_of_getElem? (i := 118) (by decide +kernel)⟩
theorem fX5_22 : zFl RX5 22 5 2 := ⟨by decide, by decide, List.mem_of_getElem? (i := 119) (by decide +kernel)⟩
theorem fX7_165 : zFl RX7 165 5 2 := ⟨by decide, by decide, List.mem_of_getElem? (i := 120) (by decide +kernel)⟩
theorem fX5_26 : zFl RX5 26 5 3 := ⟨by decide, by decide, List.mem_of_getElem? (i := 121) (by decide +kernel)⟩
theorem fX3_41 : zFl RX3 41 5 3 := ⟨by decide, by decide, List.mem_of_getElem? (i := 122) (by decide +kernel)⟩
theorem fX4_59 : zFl RX4 59 5 3 := ⟨by decide, by decide, List.mem_of_getElem? (i := 123) (by decide +kernel)⟩
theorem fX7_118 : zFl RX7 118 5 3 := ⟨by decide, by decide, List.mem_of_getElem? (i := 124) (by decide +kernel)⟩
theorem fX5_29 : zFl RX5 29 5 4 := ⟨by decide, by decide, List.mem_of_getElem? (i := 125) (by decide +kernel)⟩
theorem fX7_121 : zFl RX7 121 5 4 := ⟨by decide, by decide, List.mem_of_getElem? (i := 126) (by decide +kernel)⟩
theorem fX6_9 : zFl RX6 9 6 0 := ⟨by decide, by decide, List.mem_of_getElem? (i := 145) (by decide +kernel)⟩
theorem fX7_163 : zFl RX7 163 6 0 := ⟨by decide, by decide, List.mem_of_getElem? (i := 146) (by decide +kernel)⟩
theorem fX6_15 : zFl RX6 15 6 1 := ⟨by decide, by decide, List.mem_of_getElem? (i := 147) (by decide +kernel)⟩
theorem fX7_164 : zFl RX7 164 6 1 := ⟨by decide, by decide, List.mem_of_getElem? (i := 148) (by decide +kernel)⟩
theorem fX6_19 : zFl RX6 19 6 2 := ⟨by decide, by decide, List.mem_of_getElem? (i := 149) (by decide +kernel)⟩
theorem fX0_9 : zFl RX0 9 0 0 := ⟨by decide, by decide, List.mem_of_getElem? (i := 169) (by decide +kernel)⟩
theorem fX0_15 : zFl RX0 15 0 1 := ⟨by decide, by decide, List.mem_of_getElem? (i := 170) (by decide +kernel)⟩
theorem fX0_18 : zFl RX0 18 0 2 := ⟨by decide, by decide, List.mem_of_getElem? (i := 171) (by decide +kernel)⟩
theorem fX3_9 : zFl RX3 9 3 0 := ⟨by decide, by decide, List.mem_of_getElem? (i := 185) (by decide +kernel)⟩
theorem fX4_86 : zFl RX4 86 3 0 := ⟨by decide, by decide, List.mem_of_getElem? (i := 186) (by decide +kernel)⟩
theorem fX3_15 : zFl RX3 15 3 1 := ⟨by decide, by decide, List.mem_of_getElem? (i := 187) (by decide +kernel)⟩
theorem fX4_93 : zFl RX4 93 3 1 := ⟨by decide, by decide, List.mem_of_getElem? (i := 188) (by decide +kernel)⟩
theorem fX3_19 : zFl RX3 19 3 2 := ⟨by decide, by decide, List.mem_of_getElem? (i := 189) (by decide +kernel)⟩
theorem fX4_167 : zFl RX4 167 3 2 := ⟨by decide, by decide, List.mem_of_getElem? (i := 190) (by decide +kernel)⟩
theorem fX3_22 : zFl RX3 22 3 3 := ⟨by decide, by decide, List.mem_of_getElem? (i := 191) (by decide +kernel)⟩
theorem fX4_170 : zFl RX4 170 3 3 := ⟨by decide, by decide, List.mem_of_getElem? (i := 192) (by decide +kernel)⟩
theorem fX3_25 : zFl RX3 25 3 4 := ⟨by decide, by decide, List.mem_of_getElem? (i := 193) (by decide +kernel)⟩
theorem fX4_121 : zFl RX4 121 3 4 := ⟨by decide, by decide, List.mem_of_getElem? (i := 194) (by decide +kernel)⟩
theorem fX3_28 : zFl RX3 28 3 5 := ⟨by decide, by decide, List.mem_of_getElem? (i := 195) (by decide +kernel)⟩
theorem fX3_31 : zFl RX3 31 3 6 := ⟨by decide, by decide, List.mem_of_getElem? (i := 196) (by decide +kernel)⟩
theorem fX4_12 : zFl RX4 12 4 0 := ⟨by decide, by decide, List.mem_of_getElem? (i := 212) (by decide +kernel)⟩
theorem fX7_91 : zFl RX7 91 4 0 := ⟨by decide, by decide, List.mem_of_getElem? (i := 213) (by decide +kernel)⟩
theorem fX4_21 : zFl RX4 21 4 1 := ⟨by decide, by decide, List.mem_of_getElem? (i := 214) (by decide +kernel)⟩
theorem fX4_74 : zFl RX4 74 4 2 := ⟨by decide, by decide, List.mem_of_getElem? (i := 215) (by decide +kernel)⟩
theorem fX4_77 : zFl RX4 77 4 3 := ⟨by decide, by decide, List.mem_of_getElem? (i := 216) (by decide +kernel)⟩
theorem fX4_80 : zFl RX4 80 4 4 := ⟨by decide, by decide, List.mem_of_getElem? (i := 217) (by decide +kernel)⟩
theorem fX4_83 : zFl RX4 83 4 5 := ⟨by decide, by decide, List.mem_of_getElem? (i := 218) (by decide +kernel)⟩
theorem fX4_25 : zFl RX4 25 4 6 := ⟨by decide, by decide, List.mem_of_getElem? (i := 219) (by decide +kernel)⟩
theorem fX4_29 : zFl RX4 29 4 7 := ⟨by decide, by decide, List.mem_of_getElem? (i := 220) (by decide +kernel)⟩
theorem fX4_32 : zFl RX4 32 4 8 := ⟨by decide, by decide, List.mem_of_getElem? (i := 221) (by decide +kernel)⟩
theorem fX4_35 : zFl RX4 35 4 9 := ⟨by decide, by decide, List.mem_of_getElem? (i := 222) (by decide +kernel)⟩
theorem fX4_38 : zFl RX4 38 4 10 := ⟨by decide, by decide, List.mem_of_getElem? (i := 223) (by decide +kernel)⟩
theorem fX4_41 : zFl RX4 41 4 11 := ⟨by decide, by decide, List.mem_of_getElem? (i := 224) (by decide +kernel)⟩
theorem fX4_55 : zFl RX4 55 4 12 := ⟨by decide, by decide, List.mem_of_getElem? (i := 225) (by decide +kernel)⟩
theorem fX4_103 : zFl RX4 103 4 13 := ⟨by decide, by decide, List.mem_of_getElem? (i := 226) (by decide +kernel)⟩
theorem fX4_106 : zFl RX4 106 4 14 := ⟨by decide, by decide, List.mem_of_getElem? (i := 227) (by decide +kernel)⟩
theorem fX4_44 : zFl RX4 44 4 15 := ⟨by decide, by decide, List.mem_of_getElem? (i := 228) (by decide +kernel)⟩
theorem fX4_155 : zFl RX4 155 4 16 := ⟨by decide, by decide, List.mem_of_getElem? (i := 229) (by decide +kernel)⟩
theorem fX4_67 : zFl RX4 67 4 17 := ⟨by decide, by decide, List.mem_of_getElem? (i := 230) (by decide +kernel)⟩
theorem fX7_10 : zFl RX7 10 7 0 := ⟨by decide, by decide, List.mem_of_getElem? (i := 268) (by decide +kernel)⟩
theorem fX7_16 : zFl RX7 16 7 1 := ⟨by decide, by decide, List.mem_of_getElem? (i := 269) (by decide +kernel)⟩
theorem fX7_20 : zFl RX7 20 7 2 := ⟨by decide, by decide, List.mem_of_getElem? (i := 270) (by decide +kernel)⟩
theorem fX7_24 : zFl RX7 24 7 3 := ⟨by decide, by decide, List.mem_of_getElem? (i := 271) (by decide +kernel)⟩
theorem fX7_28 : zFl RX7 28 7 4 := ⟨by decide, by decide, List.mem_of_getElem? (i := 272) (by decide +kernel)⟩
theorem fX7_34 : zFl RX7 34 7 5 := ⟨by decide, by decide, List.mem_of_getElem? (i := 273) (by decide +kernel)⟩
theorem fX7_41 : zFl RX7 41 7 6 := ⟨by decide, by decide, List.mem_of_getElem? (i := 274) (by decide +kernel)⟩
theorem fX2_21 : zFl RX2 21 2 0 := ⟨by decide, by decide, List.mem_of_getElem? (i := 567) (by decide +kernel)⟩
theorem fX7_149 : zFl RX7 149 2 0 := ⟨by decide, by decide, List.mem_of_getElem? (i := 568) (by decide +kernel)⟩
theorem fX2_25 : zFl RX2 25 2 1 := ⟨by decide, by decide, List.mem_of_getElem? (i := 569) (by decide +kernel)⟩
theorem fX7_155 : zFl RX7 155 2 1 := ⟨by decide, by decide, List.mem_of_getElem? (i := 570) (by decide +kernel)⟩
theorem fX2_9 : zFl RX2 9 2 2 := ⟨by decide, by decide, List.mem_of_getElem? (i := 571) (by decide +kernel)⟩
theorem fX7_144 : zFl RX7 144 2 2 := ⟨by decide, by decide, List.mem_of_getElem? (i := 572) (by decide +kernel)⟩
theorem fX2_15 : zFl RX2 15 2 3 := ⟨by decide, by decide, List.mem_of_getElem? (i := 573) (by decide +kernel)⟩
theorem fX4_200 : zFl RX4 200 2 3 := ⟨by decide, by decide, List.mem_of_getElem? (i := 574) (by decide +kernel)⟩
theorem fX7_152 : zFl RX7 152 2 3 := ⟨by decide, by decide, List.mem_of_getElem? (i := 575) (by decide +kernel)⟩
theorem fX2_18 : zFl RX2 18 2 4 := ⟨by decide, by decide, List.mem_of_getElem? (i := 576) (by decide +kernel)⟩
theorem fX4_203 : zFl RX4 203 2 4 := ⟨by decide, by decide, List.mem_of_getElem? (i := 577) (by decide +kernel)⟩
theorem fX7_156 : zFl RX7 156 2 4 := ⟨by decide, by decide, List.mem_of_getElem? (i := 578) (by decide +kernel)⟩
theorem fX8_7 : zFl RX8 7 8 0 := ⟨by decide, by decide, List.mem_of_getElem? (i := 696) (by decide +kernel)⟩
theorem fX8_41 : zFl RX8 41 8 1 := ⟨by decide, by decide, List.mem_of_getElem? (i := 697) (by decide +kernel)⟩
theorem fX8_13 : zFl RX8 13 8 2 := ⟨by decide, by decide, List.mem_of_getElem? (i := 698) (by decide +kernel)⟩
theorem fX8_16 : zFl RX8 16 8 3 := ⟨by decide, by decide, List.mem_of_getElem? (i := 699) (by decide +kernel)⟩
theorem fX8_19 : zFl RX8 19 8 4 := ⟨by decide, by decide, List.mem_of_getElem? (i := 700) (by decide +kernel)⟩
theorem fX8_23 : zFl RX8 23 8 5 := ⟨by decide, by decide, List.mem_of_getElem? (i := 701) (by decide +kernel)⟩
theorem fX8_26 : zFl RX8 26 8 6 := ⟨by decide, by decide, List.mem_of_getElem? (i := 702) (by decide +kernel)⟩
theorem fX8_99 : zFl RX8 99 8 7 := ⟨by decide, by decide, List.mem_of_getElem? (i := 703) (by decide +kernel)⟩
theorem fX8_29 : zFl RX8 29 8 8 := ⟨by decide, by decide, List.mem_of_getElem? (i := 704) (by decide +kernel)⟩
theorem fX8_32 : zFl RX8 32 8 9 := ⟨by decide, by decide, List.mem_of_getElem? (i := 705) (by decide +kernel)⟩
theorem fX8_102 : zFl RX8 102 8 10 := ⟨by decide, by decide, List.mem_of_getElem? (i := 706) (by decide +kernel)⟩
theorem fX8_111 : zFl RX8 111 8 11 := ⟨by decide, by decide, List.mem_of_getElem? (i := 707) (by decide +kernel)⟩
theorem fX8_129 : zFl RX8 129 8 12 := ⟨by decide, by decide, List.mem_of_getElem? (i := 708) (by decide +kernel)⟩
theorem fX8_132 : zFl RX8 132 8 13 := ⟨by decide, by decide, List.mem_of_getElem? (i := 709) (by decide +kernel)⟩
theorem fX8_35 : zFl RX8 35 8 14 := ⟨by decide, by decide, List.mem_of_getElem? (i := 710) (by decide +kernel)⟩
theorem fX8_150 : zFl RX8 150 8 15 := ⟨by decide, by decide, List.mem_of_getElem? (i := 711) (by decide +kernel)⟩
theorem fX8_153 : zFl RX8 153 8 16 := ⟨by decide, by decide, List.mem_of_getElem? (i := 712) (by decide +kernel)⟩
theorem fX8_38 : zFl RX8 38 8 17 := ⟨by decide, by decide, List.mem_of_getElem? (i := 713) (by decide +kernel)⟩
theorem fX8_159 : zFl RX8 159 8 18 := ⟨by decide, by decide, List.mem_of_getElem? (i := 714) (by decide +kernel)⟩
theorem fX8_174 : zFl RX8 174 8 19 := ⟨by decide, by decide, List.mem_of_getElem? (i := 715) (by decide +kernel)⟩
def ssD : List (Nat × Nat) := [(7, 0), (5, 0), (1, 0), (9, 30), (10, 36), (9, 42), (9, 8), (11, 4), (9, 80), (6, 0), (9, 42), (4, 0), (0, 0), (9, 1296), (9, 1296), (9, 37), (3, 0), (9, 14), (9, 14), (9, 14), (9, 14), (9, 196), (9, 196), (9, 504), (9, 15), (9, 14), (9, 14), (9, 14), (9, 14), (9, 15), (5, 0), (1, 0), (9, 30), (10, 36), (9, 42), (9, 8), (5, 0), (1, 0), (9, 30), (10, 36), (9, 42), (9, 8), (5, 0), (1, 0), (9, 30), (10, 36), (9, 42), (9, 8), (5, 0), (1, 0), (9, 30), (10, 36), (9, 42), (9, 8), (8, 0), (9, 1285), (9, 1296), (9, 1296), (10, 36), (9, 98), (9, 70), (9, 14), (9, 14), (9, 80), (9, 42)]
def ssT : List (Nat × Nat × Nat) := [(0, 0, 1), (0, 1, 7), (0, 3, 8), (0, 5, 9), (0, 6, 11), (1, 0, 2), (1, 2, 5), (1, 3, 6), (2, 2, 3), (2, 3, 4), (9, 1, 10), (11, 0, 12), (11, 1, 16), (11, 6, 23), (11, 7, 24), (11, 8, 25), (11, 9, 26), (11, 10, 27), (11, 11, 28), (11, 15, 29), (12, 0, 13), (12, 1, 14), (12, 2, 15), (16, 1, 17), (16, 2, 18), (16, 3, 19), (16, 4, 20), (16, 5, 21), (16, 6, 22), (30, 0, 31), (30, 2, 34), (30, 3, 35), (31, 2, 32), (31, 3, 33), (36, 0, 37), (36, 2, 40), (36, 3, 41), (37, 2, 38), (37, 3, 39), (42, 0, 43), (42, 2, 46), (42, 3, 47), (43, 2, 44), (43, 3, 45), (48, 0, 49), (48, 2, 52), (48, 3, 53), (49, 2, 50), (49, 3, 51), (54, 0, 55), (54, 2, 56), (54, 3, 57), (54, 4, 58), (54, 5, 59), (54, 6, 60), (54, 8, 61), (54, 9, 62), (54, 14, 63), (54, 17, 64)]
def ssR (p k : Nat) : Option Nat := (ssT.find? (fun t => t.1 == p && t.2.1 == k)).map (fun t => t.2.2)
def SS : zS := (ssR, ssD)
theorem dd_0 : SS.2[0]? = some (7, 0) := rfl
theorem dd_1 : SS.2[1]? = some (5, 0) := rfl
theorem dd_2 : SS.2[2]? = some (1, 0) := rfl
theorem dd_3 : SS.2[3]? = some (9, 30) := rfl
theorem dd_4 : SS.2[4]? = some (10, 36) := rfl
theorem dd_5 : SS.2[5]? = some (9, 42) := rfl
theorem dd_6 : SS.2[6]? = some (9, 8) := rfl
theorem dd_7 : SS.2[7]? = some (11, 4) := rfl
theorem dd_8 : SS.2[8]? = some (9, 80) := rfl
theorem dd_9 : SS.2[9]? = some (6, 0) := rfl
theorem dd_10 : SS.2[10]? = some (9, 42) := rfl
theorem dd_11 : SS.2[11]? = some (4, 0) := rfl
theorem dd_12 : SS.2[12]? = some (0, 0) := rfl
theorem dd_13 : SS.2[13]? = some (9, 1296) := rfl
theorem dd_14 : SS.2[14]? = some (9, 1296) := rfl
theorem dd_15 : SS.2[15]? = some (9, 37) := rfl
theorem dd_16 : SS.2[16]? = some (3, 0) := rfl
theorem dd_17 : SS.2[17]? = some (9, 14) := rfl
theorem dd_18 : SS.2[18]? = some (9, 14) := rfl
theorem dd_19 : SS.2[19]? = some (9, 14) := rfl
theorem dd_20 : SS.2[20]? = some (9, 14) := rfl
theorem dd_21 : SS.2[21]? = some (9, 196) := rfl
theorem dd_22 : SS.2[22]? = some (9, 196) := rfl
theorem dd_23 : SS.2[23]? = some (9, 504) := rfl
theorem dd_24 : SS.2[24]? = some (9, 15) := rfl
theorem dd_25 : SS.2[25]? = some (9, 14) := rfl
theorem dd_26 : SS.2[26]? = some (9, 14) := rfl
theorem dd_27 : SS.2[27]? = some (9, 14) := rfl
theorem dd_28 : SS.2[28]? = some (9, 14) := rfl
theorem dd_29 : SS.2[29]? = some (9, 15) := rfl
theorem dd_30 : SS.2[30]? = some (5, 0) := rfl
theorem dd_31 : SS.2[31]? = some (1, 0) := rfl
theorem dd_32 : SS.2[32]? = some (9, 30) := rfl
theorem dd_33 : SS.2[33]? = some (10, 36) := rfl
theorem dd_34 : SS.2[34]? = some (9, 42) := rfl
theorem dd_35 : SS.2[35]? = some (9, 8) := rfl
theorem dd_36 : SS.2[36]? = some (5, 0) := rfl
theorem dd_37 : SS.2[37]? = some (1, 0) := rfl
theorem dd_38 : SS.2[38]? = some (9, 30) := rfl
theorem dd_39 : SS.2[39]? = some (10, 36) := rfl
theorem dd_40 : SS.2[40]? = some (9, 42) := rfl
theorem dd_41 : SS.2[41]? = some (9, 8) := rfl
theorem dd_42 : SS.2[42]? = some (5, 0) := rfl
theorem dd_43 : SS.2[43]? = some (1, 0) := rfl
theorem dd_44 : SS.2[44]? = some (9, 30) := rfl
theorem dd_45 : SS.2[45]? = some (10, 36) := rfl
theorem dd_46 : SS.2[46]? = some (9, 42) := rfl
theorem dd_47 : SS.2[47]? = some (9, 8) := rfl
theorem dd_48 : SS.2[48]? = some (5, 0) := rfl
theorem dd_49 : SS.2[49]? = some (1, 0) := rfl
theorem dd_50 : SS.2[50]? = some (9, 30) := rfl
theorem dd_51 : SS.2[51]? = some (10, 36) := rfl
theorem dd_52 : SS.2[52]? = some (9, 42) := rfl
theorem dd_53 : SS.2[53]? = some (9, 8) := rfl
theorem dd_54 : SS.2[54]? = some (8, 0) := rfl
theorem dd_55 : SS.2[55]? = some (9, 1285) := rfl
theorem dd_56 : SS.2[56]? = some (9, 1296) := rfl
theorem dd_57 : SS.2[57]? = some (9, 1296) := rfl
theorem dd_58 : SS.2[58]? = some (10, 36) := rfl
theorem dd_59 : SS.2[59]? = some (9, 98) := rfl
theorem dd_60 : SS.2[60]? = some (9, 70) := rfl
theorem dd_61 : SS.2[61]? = some (9, 14) := rfl
theorem dd_62 : SS.2[62]? = some (9, 14) := rfl
theorem dd_63 : SS.2[63]? = some (9, 80) := rfl
theorem dd_64 : SS.2[64]? = some (9, 42) := rfl
theorem rr_0_0 : SS.1 0 0 = some 1 := by decide +kernel
theorem rr_0_1 : SS.1 0 1 = some 7 := by decide +kernel
theorem rr_0_3 : SS.1 0 3 = some 8 := by decide +kernel
theorem rr_0_5 : SS.1 0 5 = some 9 := by decide +kernel
theorem rr_0_6 : SS.1 0 6 = some 11 := by decide +kernel
theorem rr_1_0 : SS.1 1 0 = some 2 := by decide +kernel
theorem rr_1_2 : SS.1 1 2 = some 5 := by decide +kernel
theorem rr_1_3 : SS.1 1 3 = some 6 := by decide +kernel
theorem rr_2_2 : SS.1 2 2 = some 3 := by decide +kernel
theorem rr_2_3 : SS.1 2 3 = some 4 := by decide +kernel
theorem rr_9_1 : SS.1 9 1 = some 10 := by decide +kernel
theorem rr_11_0 : SS.1 11 0 = some 12 := by decide +kernel
theorem rr_11_1 : SS.1 11 1 = some 16 := by decide +kernel
theorem rr_11_6 : SS.1 11 6 = some 23 := by decide +kernel
theorem rr_11_7 : SS.1 11 7 = some 24 := by decide +kernel
theorem rr_11_8 : SS.1 11 8 = some 25 := by decide +kernel
theorem rr_11_9 : SS.1 11 9 = some 26 := by decide +kernel
theorem rr_11_10 : SS.1 11 10 = some 27 := by decide +kernel
theorem rr_11_11 : SS.1 11 11 = some 28 := by decide +kernel
theorem rr_11_15 : SS.1 11 15 = some 29 := by decide +kernel
theorem rr_12_0 : SS.1 12 0 = some 13 := by decide +kernel
theorem rr_12_1 : SS.1 12 1 = some 14 := by decide +kernel
theorem rr_12_2 : SS.1 12 2 = some 15 := by decide +kernel
theorem rr_16_1 : SS.1 16 1 = some 17 := by decide +kernel
theorem rr_16_2 : SS.1 16 2 = some 18 := by decide +kernel
theorem rr_16_3 : SS.1 16 3 = some 19 := by decide +kernel
theorem rr_16_4 : SS.1 16 4 = some 20 := by decide +kernel
theorem rr_16_5 : SS.1 16 5 = some 21 := by decide +kernel
theorem rr_16_6 : SS.1 16 6 = some 22 := by decide +kernel
theorem rr_30_0 : SS.1 30 0 = some 31 := by decide +kernel
theorem rr_30_2 : SS.1 30 2 = some 34 := by decide +kernel
theorem rr_30_3 : SS.1 30 3 = some 35 := by decide +kernel
theorem rr_31_2 : SS.1 31 2 = some 32 := by decide +kernel
theorem rr_31_3 : SS.1 31 3 = some 33 := by decide +kernel
theorem rr_36_0 : SS.1 36 0 = some 37 := by decide +kernel
theorem rr_36_2 : SS.1 36 2 = some 40 := by decide +kernel
theorem rr_36_3 : SS.1 36 3 = some 41 := by decide +kernel
theorem rr_37_2 : SS.1 37 2 = some 38 := by decide +kernel
theorem rr_37_3 : SS.1 37 3 = some 39 := by decide +kernel
theorem rr_42_0 : SS.1 42 0 = some 43 := by decide +kernel
theorem rr_42_2 : SS.1 42 2 = some 46 := by decide +kernel
theorem rr_42_3 : SS.1 42 3 = some 47 := by decide +kernel
theorem rr_43_2 : SS.1 43 2 = some 44 := by decide +kernel
theorem rr_43_3 : SS.1 43 3 = some 45 := by decide +kernel
theorem rr_48_0 : SS.1 48 0 = some 49 := by decide +kernel
theorem rr_48_2 : SS.1 48 2 = some 52 := by decide +kernel
theorem rr_48_3 : SS.1 48 3 = some 53 := by decide +kernel
theorem rr_49_2 : SS.1 49 2 = some 50 := by decide +kernel
theorem rr_49_3 : SS.1 49 3 = some 51 := by decide +kernel
theorem rr_54_0 : SS.1 54 0 = some 55 := by decide +kernel
theorem rr_54_2 : SS.1 54 2 = some 56 := by decide +kernel
theorem rr_54_3 : SS.1 54 3 = some 57 := by decide +kernel
theorem rr_54_4 : SS.1 54 4 = some 58 := by decide +kernel
theorem rr_54_5 : SS.1 54 5 = some 59 := by decide +kernel
theorem rr_54_6 : SS.1 54 6 = some 60 := by decide +kernel
theorem rr_54_8 : SS.1 54 8 = some 61 := by decide +kernel
theorem rr_54_9 : SS.1 54 9 = some 62 := by decide +kernel
theorem rr_54_14 : SS.1 54 14 = some 63 := by decide +kernel
theorem rr_54_17 : SS.1 54 17 = some 64 := by decide +kernel
def isSt (p : Nat) : Prop := p = 1 ∨ p = 30 ∨ p = 36 ∨ p = 42 ∨ p = 48
theorem st_d {p : Nat} (h : isSt p) : SS.2[p]? = some (5, 0) := by rcases h with rfl | rfl | rfl | rfl | rfl <;> rfl
theorem st_d1 {p : Nat} (h : isSt p) : SS.2[p + 1]? = some (1, 0) := by rcases h with rfl | rfl | rfl | rfl | rfl <;> rfl
theorem st_d2 {p : Nat} (h : isSt p) : SS.2[p + 2]? = some (9, 30) := by rcases h with rfl | rfl | rfl | rfl | rfl <;> rfl
theorem st_d3 {p : Nat} (h : isSt p) : SS.2[p + 3]? = some (10, 36) := by rcases h with rfl | rfl | rfl | rfl | rfl <;> rfl
theorem st_d4 {p : Nat} (h : isSt p) : SS.2[p + 4]? = some (9, 42) := by rcases h with rfl | rfl | rfl | rfl | rfl <;> rfl
theorem st_d5 {p : Nat} (h : isSt p) : SS.2[p + 5]? = some (9, 8) := by rcases h with rfl | rfl | rfl | rfl | rfl <;> rfl
theorem st_r0 {p : Nat} (h : isSt p) : SS.1 p 0 = some (p + 1) := by rcases h with rfl | rfl | rfl | rfl | rfl <;> decide +kernel
theorem st_r2 {p : Nat} (h : isSt p) : SS.1 p 2 = some (p + 4) := by rcases h with rfl | rfl | rfl | rfl | rfl <;> decide +kernel
theorem st_r3 {p : Nat} (h : isSt p) : SS.1 p 3 = some (p + 5) := by rcases h with rfl | rfl | rfl | rfl | rfl <;> decide +kernel
theorem st_r4 {p : Nat} (h : isSt p) : SS.1 p 4 = none := by rcases h with rfl | rfl | rfl | rfl | rfl <;> decide +kernel
theorem st_c2 {p : Nat} (h : isSt p) : SS.1 (p + 1) 2 = some (p + 2) := by rcases h with rfl | rfl | rfl | rfl | rfl <;> decide +kernel
theorem st_c3 {p : Nat} (h : isSt p) : SS.1 (p + 1) 3 = some (p + 3) := by rcases h with rfl | rfl | rfl | rfl | rfl <;> decide +kernel
theorem hi_r (i : Nat) : SS.1 7 i = none := by
  unfold SS ssR
  have : ssT.find? (fun t => t.1 == 7 && t.2.1 == i) = none := List.find?_eq_none.mpr (fun t ht => by
    have h7 : t.1 ≠ 7 := by revert t; decide +kernel
    simp [h7])
  simp only [this]
  rfl
theorem isSt_1 : isSt 1 := Or.inl rfl
theorem z_lit {z : Int} (h : (decide (-2147483648 ≤ z) && decide (z < 2147483648)) = true) : zIn z := by
  simp only [Bool.and_eq_true, decide_eq_true_eq] at h
  exact h
theorem Cl_mono {S : zS} {M : zMt} {d mc ms : Nat} {as : List Value} {μ : zMem} {Q Q' : Option Value → zMem → Prop} (h : Cl S M d mc ms as μ Q) (hq : ∀ v μ', Q v μ' → Q' v μ') : Cl S M d mc ms as μ Q' := fun l b bs G =>
  MetFree.mono (h l b bs G) (fun _ _ q => q) (fun _ _ _ _ _ q => q) (fun _ _ _ _ _ q => ⟨⟨q.1.1.elim (fun v r => r.elim (fun μ' w => ⟨v, μ', w.1, hq v μ' w.2.1, w.2.2⟩)), q.1.2⟩, q.2⟩)
/-- the formula of a call may use that what stands stands -/
theorem Cl_sh {S : zS} {M : zMt} {d mc ms : Nat} {as : List Value} {μ : zMem} {Q : Option Value → zMem → Prop} (h : zSh S μ → Cl S M d mc ms as μ Q) : Cl S M d mc ms as μ Q := fun l b bs G => by
  intro p e ha hc hk s m args below hf happ hP hK
  exact h hP.2.2.2 l b bs G p e ha hc hk s m args below hf happ hP hK
/-- a row that isn't among those that stand: its kind, and the index in it -/
def zA (μ : zMem) (p : Nat) (i : Int) : Prop := ∃ n0 : Nat, μ.1[p]? = some (9, n0) ∧ n0 ≤ 2147483647 ∧ 0 ≤ i ∧ i < n0
section ZA
variable {S : zS} {X : zX} {M : zMt} {d mc ms : Nat} {Q : Option Value → zMem → Prop} {pc pc' : Nat} {lo : List (Option Value)} {st : List Value} {μ : zMem} {k n : Nat}
theorem Z_ialoadA {p0 : Nat} {i : Int} (hd : decode M.2.1 pc = .ok (.iaload, 1)) (hp : pc + 1 = pc') (h : zA μ p0 i) (K : Z S X M d mc ms Q pc' lo (vi (gI μ p0 i) :: st) μ k n) : Z S X M d mc ms Q pc lo (vi i :: .ref p0 :: st) μ k n := by
  obtain ⟨n0, h1, h2, h3, h4⟩ := h
  exact Z_iaload hd hp (Or.inr h1) h2 h3 h4 K
theorem Z_iastoreA {p0 : Nat} {i z : Int} (hd : decode M.2.1 pc = .ok (.iastore, 1)) (hp : pc + 1 = pc') (h : zA μ p0 i) (K : Z S X M d mc ms Q pc' lo st (sI μ p0 i z) k n) : Z S X M d mc ms Q pc lo (vi z :: vi i :: .ref p0 :: st) μ k n := by
  obtain ⟨n0, h1, h2, h3, h4⟩ := h
  exact Z_iastore hd hp (Or.inr h1) h2 h3 h4 K
end ZA
