theorem inT {w : Cond} {i : Nat} (h : tables_1[i]? = some w) (hg : goodWord w = true) : w ∈ lG := inG (List.mem_append_right _ (List.mem_of_getElem? h)) hg
theorem inP {w : Cond} {i : Nat} (h : (k2_sels lw_privs)[i]? = some w) (hg : goodWord w = true) : w ∈ lG := inG (List.mem_append_left _ (List.mem_of_getElem? h)) hg
abbrev mX0_init : aM := (yX0_init, cX0_init, 1, none)
abbrev mX0_has : aM := (yX0_has, cX0_has, 2, (some .boolean))
abbrev mX0_add : aM := (yX0_add, cX0_add, 2, (some .int))
abbrev mX0_kindOf : aM := (yX0_kindOf, cX0_kindOf, 2, (some .int))
abbrev mX0_isOrUnder : aM := (yX0_isOrUnder, cX0_isOrUnder, 4, (some .boolean))
abbrev mX0_forgetTrace : aM := (yX0_forgetTrace, cX0_forgetTrace, 1, none)
abbrev mX0_traced : aM := (yX0_traced, cX0_traced, 2, (some .int))
abbrev mX0_start : aM := (yX0_start, cX0_start, 4, (some .int))
abbrev mX0_own : aM := (yX0_own, cX0_own, 4, (some .int))
abbrev mX0_run : aM := (yX0_run, cX0_run, 7, (some .int))
abbrev mX0_holderOf : aM := (yX0_holderOf, cX0_holderOf, 4, (some .int))
abbrev mX0_first : aM := (yX0_first, cX0_first, 4, (some .int))
abbrev mX0_inherited : aM := (yX0_inherited, cX0_inherited, 5, (some .int))
abbrev mX1_init : aM := (yX1_init, cX1_init, 3, none)
abbrev mX1_fewestReins : aM := (yX1_fewestReins, cX1_fewestReins, 9, (some .int))
abbrev mX1_goOn : aM := (yX1_goOn, cX1_goOn, 8, none)
abbrev mX1_leastNear : aM := (yX1_leastNear, cX1_leastNear, 5, (some .int))
abbrev mX1_shiftOf : aM := (yX1_shiftOf, cX1_shiftOf, 1, (some .int))
abbrev mX1_reinsIn : aM := (yX1_reinsIn, cX1_reinsIn, 1, (some .int))
abbrev mX1_reinAt : aM := (yX1_reinAt, cX1_reinAt, 3, (some .int))
abbrev mX1_weight : aM := (yX1_weight, cX1_weight, 15, (some .long))
abbrev mX1_fraction : aM := (yX1_fraction, cX1_fraction, 9, (some .long))
abbrev mX1_commonDivisor : aM := (yX1_commonDivisor, cX1_commonDivisor, 11, (some .long))
abbrev mX1_herBest : aM := (yX1_herBest, cX1_herBest, 10, (some .int))
abbrev mX1_farAtLast : aM := (yX1_farAtLast, cX1_farAtLast, 9, (some .int))
abbrev mX1_byDraws : aM := (yX1_byDraws, cX1_byDraws, 8, (some .int))
abbrev mX1_drawYear : aM := (yX1_drawYear, cX1_drawYear, 6, (some .int))
abbrev mX1_carriagesAt : aM := (yX1_carriagesAt, cX1_carriagesAt, 4, (some .int))
abbrev mX1_placesReached : aM := (yX1_placesReached, cX1_placesReached, 3, (some .int))
abbrev mX2_init : aM := (yX2_init, cX2_init, 2, none)
abbrev mX2_note : aM := (yX2_note, cX2_note, 6, none)
abbrev mX2_takeBack : aM := (yX2_takeBack, cX2_takeBack, 2, (some .int))
abbrev mX2_doAgain : aM := (yX2_doAgain, cX2_doAgain, 2, (some .int))
abbrev mX3_init : aM := (yX3_init, cX3_init, 4, none)
abbrev mX3_start : aM := (yX3_start, cX3_start, 2, none)
abbrev mX3_standNow : aM := (yX3_standNow, cX3_standNow, 1, (some .int))
abbrev mX3_lawBehind : aM := (yX3_lawBehind, cX3_lawBehind, 6, (some .int))
abbrev mX3_next : aM := (yX3_next, cX3_next, 8, (some .int))
abbrev mX3_onLand : aM := (yX3_onLand, cX3_onLand, 2, (some .boolean))
abbrev mX4_init : aM := (yX4_init, cX4_init, 3, none)
abbrev mX4_passHour : aM := (yX4_passHour, cX4_passHour, 4, none)
abbrev mX4_pullRein : aM := (yX4_pullRein, cX4_pullRein, 3, (some .int))
abbrev mX4_putShoe : aM := (yX4_putShoe, cX4_putShoe, 3, (some .int))
abbrev mX4_keepImage : aM := (yX4_keepImage, cX4_keepImage, 1, (some .int))
abbrev mX4_layBack : aM := (yX4_layBack, cX4_layBack, 1, (some .int))
abbrev mX5_init : aM := (yX5_init, cX5_init, 4, none)
abbrev mX5_firstWrongNow : aM := (yX5_firstWrongNow, cX5_firstWrongNow, 3, (some .int))
abbrev mX5_waysThatFit : aM := (yX5_waysThatFit, cX5_waysThatFit, 6, (some .int))
abbrev mX5_cellsThatFit : aM := (yX5_cellsThatFit, cX5_cellsThatFit, 7, (some .int))
abbrev mX5_pacesThatFit : aM := (yX5_pacesThatFit, cX5_pacesThatFit, 6, (some .int))
abbrev mX5_firstWrong : aM := (yX5_firstWrong, cX5_firstWrong, 5, (some .int))
abbrev mX5_twosOf : aM := (yX5_twosOf, cX5_twosOf, 1, (some .int))
abbrev mX5_isSo : aM := (yX5_isSo, cX5_isSo, 6, (some .boolean))
abbrev mX5_lastHour : aM := (yX5_lastHour, cX5_lastHour, 5, (some .int))
abbrev mX6_init : aM := (yX6_init, cX6_init, 3, none)
abbrev mX6_follow : aM := (yX6_follow, cX6_follow, 3, none)
abbrev mX6_followFrom : aM := (yX6_followFrom, cX6_followFrom, 6, none)
abbrev mX6_followAll : aM := (yX6_followAll, cX6_followAll, 3, none)
abbrev mX6_cellBehind : aM := (yX6_cellBehind, cX6_cellBehind, 3, (some .int))
abbrev mX6_wayBehind : aM := (yX6_wayBehind, cX6_wayBehind, 3, (some .int))
abbrev mX6_firstNearest : aM := (yX6_firstNearest, cX6_firstNearest, 6, (some .int))
abbrev mX6_placesPassed : aM := (yX6_placesPassed, cX6_placesPassed, 5, (some .int))
abbrev mX6_together : aM := (yX6_together, cX6_together, 4, (some .boolean))
abbrev mX6_firstMeeting : aM := (yX6_firstMeeting, cX6_firstMeeting, 4, (some .int))
abbrev mX6_meetings : aM := (yX6_meetings, cX6_meetings, 6, (some .int))
abbrev mX6_carriagesNear : aM := (yX6_carriagesNear, cX6_carriagesNear, 5, (some .int))
abbrev mX6_soonestBetween : aM := (yX6_soonestBetween, cX6_soonestBetween, 6, (some .int))
abbrev mX6_withChanges : aM := (yX6_withChanges, cX6_withChanges, 7, (some .int))
abbrev mX6_bestHouses : aM := (yX6_bestHouses, cX6_bestHouses, 5, (some .int))
abbrev mX6_findPassers : aM := (yX6_findPassers, cX6_findPassers, 5, none)
abbrev mX6_betterHouses : aM := (yX6_betterHouses, cX6_betterHouses, 4, (some .boolean))
abbrev mX6_passersOf : aM := (yX6_passersOf, cX6_passersOf, 4, (some .int))
abbrev mX7_init : aM := (yX7_init, cX7_init, 1, none)
abbrev mX7_mayBe : aM := (yX7_mayBe, cX7_mayBe, 2, (some .boolean))
abbrev mX7_apart : aM := (yX7_apart, cX7_apart, 2, (some .int))
abbrev mX7_near : aM := (yX7_near, cX7_near, 3, (some .boolean))
abbrev mX7_hasCarriage : aM := (yX7_hasCarriage, cX7_hasCarriage, 2, (some .boolean))
abbrev mX7_hasPlace : aM := (yX7_hasPlace, cX7_hasPlace, 2, (some .boolean))
abbrev mX7_addCarriage : aM := (yX7_addCarriage, cX7_addCarriage, 4, (some .int))
abbrev mX7_addPlace : aM := (yX7_addPlace, cX7_addPlace, 2, (some .int))
abbrev mX7_has : aM := (yX7_has, cX7_has, 3, (some .boolean))
abbrev mX7_read : aM := (yX7_read, cX7_read, 3, (some .int))
abbrev mX7_write : aM := (yX7_write, cX7_write, 4, none)
abbrev mX7_placesNear : aM := (yX7_placesNear, cX7_placesNear, 4, (some .int))
abbrev mX7_worthOf : aM := (yX7_worthOf, cX7_worthOf, 4, (some .int))
abbrev mX8_init : aM := (yX8_init, cX8_init, 1, none)
abbrev mX8_become : aM := (yX8_become, cX8_become, 2, none)
abbrev mX8_gives : aM := (yX8_gives, cX8_gives, 11, (some .int))
abbrev mX8_valueAt : aM := (yX8_valueAt, cX8_valueAt, 2, (some .int))
abbrev mX8_work : aM := (yX8_work, cX8_work, 4, (some .int))
abbrev mX8_isName : aM := (yX8_isName, cX8_isName, 1, (some .boolean))
abbrev mX8_named : aM := (yX8_named, cX8_named, 2, (some .int))
abbrev mX8_joined : aM := (yX8_joined, cX8_joined, 3, (some .int))
abbrev mX9_init : aM := (yX9_init, cX9_init, 1, none)
abbrev mX9_faultOf : aM := (yX9_faultOf, cX9_faultOf, 5, (some .int))
abbrev mX9_operand : aM := (yX9_operand, cX9_operand, 5, (some .int))
abbrev mX9_number : aM := (yX9_number, cX9_number, 6, (some .int))
abbrev mX9_sign : aM := (yX9_sign, cX9_sign, 3, (some .int))
abbrev mX9_closeBracket : aM := (yX9_closeBracket, cX9_closeBracket, 1, (some .int))
abbrev mX9_endPart : aM := (yX9_endPart, cX9_endPart, 2, (some .int))
abbrev mX9_endOperand : aM := (yX9_endOperand, cX9_endOperand, 1, none)
abbrev mX9_writeWaiting : aM := (yX9_writeWaiting, cX9_writeWaiting, 2, none)
abbrev mX9_lastWaiting : aM := (yX9_lastWaiting, cX9_lastWaiting, 1, (some .int))
abbrev mX9_await : aM := (yX9_await, cX9_await, 2, none)
abbrev mX9_write : aM := (yX9_write, cX9_write, 2, none)
abbrev mX9_isDigit : aM := (yX9_isDigit, cX9_isDigit, 1, (some .boolean))
abbrev mX9_rankOf : aM := (yX9_rankOf, cX9_rankOf, 1, (some .int))
abbrev mX10_init : aM := (yX10_init, cX10_init, 1, none)
abbrev mX10_clear : aM := (yX10_clear, cX10_clear, 1, none)
abbrev mX10_holdBody : aM := (yX10_holdBody, cX10_holdBody, 2, none)
abbrev mX10_holdRow : aM := (yX10_holdRow, cX10_holdRow, 3, none)
abbrev mX10_store : aM := (yX10_store, cX10_store, 4, none)
abbrev mX10_hasRange : aM := (yX10_hasRange, cX10_hasRange, 3, (some .boolean))
abbrev mX10_refusalAsBytes : aM := (yX10_refusalAsBytes, cX10_refusalAsBytes, 1, (some .int))
abbrev mX11_init : aM := (yX11_init, cX11_init, 2, none)
abbrev mX11_carriage : aM := (yX11_carriage, cX11_carriage, 3, (some .int))
abbrev mX11_carriages : aM := (yX11_carriages, cX11_carriages, 7, (some .int))
abbrev mX11_place : aM := (yX11_place, cX11_place, 2, (some .int))
abbrev mX11_mend : aM := (yX11_mend, cX11_mend, 5, (some .int))
abbrev mX11_of : aM := (yX11_of, cX11_of, 3, (some .int))
abbrev mX11_feed : aM := (yX11_feed, cX11_feed, 2, (some .int))
abbrev mX11_law : aM := (yX11_law, cX11_law, 2, (some .int))
abbrev mX11_turn : aM := (yX11_turn, cX11_turn, 3, (some .int))
abbrev mX11_later : aM := (yX11_later, cX11_later, 4, (some .int))
abbrev mX11_nears : aM := (yX11_nears, cX11_nears, 5, (some .int))
abbrev mX11_passes : aM := (yX11_passes, cX11_passes, 5, (some .int))
abbrev mX11_meet : aM := (yX11_meet, cX11_meet, 2, (some .int))
abbrev mX11_often : aM := (yX11_often, cX11_often, 3, (some .int))
abbrev mX11_who : aM := (yX11_who, cX11_who, 3, (some .int))
abbrev mX11_soonest : aM := (yX11_soonest, cX11_soonest, 3, (some .int))
abbrev mX11_buy : aM := (yX11_buy, cX11_buy, 5, (some .int))
abbrev mX11_judge : aM := (yX11_judge, cX11_judge, 4, (some .int))
abbrev mX11_dined : aM := (yX11_dined, cX11_dined, 6, (some .int))
abbrev mX11_reins : aM := (yX11_reins, cX11_reins, 5, (some .int))
abbrev mX11_chance : aM := (yX11_chance, cX11_chance, 5, (some .long))
abbrev mX11_mean : aM := (yX11_mean, cX11_mean, 5, (some .long))
abbrev mX11_byTurns : aM := (yX11_byTurns, cX11_byTurns, 4, (some .int))
abbrev mX11_drawn : aM := (yX11_drawn, cX11_drawn, 4, (some .int))
abbrev mX11_hour : aM := (yX11_hour, cX11_hour, 1, (some .int))
abbrev mX11_rein : aM := (yX11_rein, cX11_rein, 3, (some .int))
abbrev mX11_shoe : aM := (yX11_shoe, cX11_shoe, 2, (some .int))
abbrev mX11_buys : aM := (yX11_buys, cX11_buys, 3, (some .int))
abbrev mX11_led : aM := (yX11_led, cX11_led, 2, (some .int))
abbrev mX11_image : aM := (yX11_image, cX11_image, 1, (some .int))
abbrev mX11_back : aM := (yX11_back, cX11_back, 1, (some .int))
abbrev mX11_undo : aM := (yX11_undo, cX11_undo, 1, (some .int))
abbrev mX11_redo : aM := (yX11_redo, cX11_redo, 1, (some .int))
abbrev mX11_body : aM := (yX11_body, cX11_body, 2, (some .int))
abbrev mX11_act : aM := (yX11_act, cX11_act, 4, (some .int))
abbrev mX11_trace : aM := (yX11_trace, cX11_trace, 2, (some .int))
abbrev mX11_keep : aM := (yX11_keep, cX11_keep, 3, (some .int))
abbrev mX11_row : aM := (yX11_row, cX11_row, 4, (some .int))
abbrev mX11_put : aM := (yX11_put, cX11_put, 6, (some .int))
abbrev mX11_element : aM := (yX11_element, cX11_element, 3, (some .long))
abbrev mX11_shift : aM := (yX11_shift, cX11_shift, 8, (some .int))
abbrev mX11_taken : aM := (yX11_taken, cX11_taken, 5, (some .int))
abbrev mX11_count : aM := (yX11_count, cX11_count, 2, (some .int))
abbrev mX11_within : aM := (yX11_within, cX11_within, 3, (some .boolean))
abbrev mX11_isShelf : aM := (yX11_isShelf, cX11_isShelf, 1, (some .boolean))
abbrev mX11_isPair : aM := (yX11_isPair, cX11_isPair, 2, (some .boolean))
abbrev mX11_areTwoCarriages : aM := (yX11_areTwoCarriages, cX11_areTwoCarriages, 2, (some .boolean))
abbrev mX11_areTwoPlaces : aM := (yX11_areTwoPlaces, cX11_areTwoPlaces, 2, (some .boolean))
abbrev mX11_comesFrom : aM := (yX11_comesFrom, cX11_comesFrom, 6, (some .boolean))
abbrev mX11_refusalOfElement : aM := (yX11_refusalOfElement, cX11_refusalOfElement, 4, (some .int))
abbrev mX12_init : aM := (yX12_init, cX12_init, 1, none)
abbrev mX12_in : aM := (yX12_in, cX12_in, 3, (some .boolean))
abbrev mX12_has : aM := (yX12_has, cX12_has, 2, (some .boolean))
abbrev mX12_bitsOf : aM := (yX12_bitsOf, cX12_bitsOf, 3, (some .int))
abbrev mX12_gap : aM := (yX12_gap, cX12_gap, 2, (some .int))
abbrev mX12_apart : aM := (yX12_apart, cX12_apart, 4, (some .int))
abbrev mX12_isCarriage : aM := (yX12_isCarriage, cX12_isCarriage, 2, (some .boolean))
abbrev mX12_isPlace : aM := (yX12_isPlace, cX12_isPlace, 2, (some .boolean))
abbrev mX12_isCell : aM := (yX12_isCell, cX12_isCell, 1, (some .boolean))
abbrev mX12_areNear : aM := (yX12_areNear, cX12_areNear, 2, (some .boolean))
abbrev mX12_areTwo : aM := (yX12_areTwo, cX12_areTwo, 2, (some .boolean))
abbrev mX12_addCarriage : aM := (yX12_addCarriage, cX12_addCarriage, 4, (some .int))
abbrev mX12_carriage : aM := (yX12_carriage, cX12_carriage, 3, (some .int))
abbrev mX12_carriages : aM := (yX12_carriages, cX12_carriages, 8, (some .int))
abbrev mX12_place : aM := (yX12_place, cX12_place, 2, (some .int))
abbrev mX12_valueAt : aM := (yX12_valueAt, cX12_valueAt, 3, (some .int))
abbrev mX12_lays : aM := (yX12_lays, cX12_lays, 4, none)
abbrev mX12_changes : aM := (yX12_changes, cX12_changes, 6, (some .int))
abbrev mX12_undo : aM := (yX12_undo, cX12_undo, 1, (some .int))
abbrev mX12_redo : aM := (yX12_redo, cX12_redo, 1, (some .int))
abbrev mX12_isOne : aM := (yX12_isOne, cX12_isOne, 3, (some .boolean))
abbrev mX12_mayHave : aM := (yX12_mayHave, cX12_mayHave, 2, (some .boolean))
abbrev mX12_mend : aM := (yX12_mend, cX12_mend, 4, (some .int))
abbrev mX12_of : aM := (yX12_of, cX12_of, 3, (some .int))
abbrev mX12_feed : aM := (yX12_feed, cX12_feed, 2, (some .int))
abbrev mX12_look : aM := (yX12_look, cX12_look, 1, (some .int))
abbrev mX12_wrong : aM := (yX12_wrong, cX12_wrong, 1, none)
abbrev mX12_addStep : aM := (yX12_addStep, cX12_addStep, 3, none)
abbrev mX12_nameOf : aM := (yX12_nameOf, cX12_nameOf, 1, (some .int))
abbrev mX12_opens : aM := (yX12_opens, cX12_opens, 1, (some .boolean))
abbrev mX12_figure : aM := (yX12_figure, cX12_figure, 3, none)
abbrev mX12_operand : aM := (yX12_operand, cX12_operand, 2, none)
abbrev mX12_product : aM := (yX12_product, cX12_product, 2, none)
abbrev mX12_sum : aM := (yX12_sum, cX12_sum, 2, none)
abbrev mX12_compared : aM := (yX12_compared, cX12_compared, 2, none)
abbrev mX12_both : aM := (yX12_both, cX12_both, 1, none)
abbrev mX12_either : aM := (yX12_either, cX12_either, 1, none)
abbrev mX12_line : aM := (yX12_line, cX12_line, 2, none)
abbrev mX12_readText : aM := (yX12_readText, cX12_readText, 3, (some .int))
abbrev mX12_twoOf : aM := (yX12_twoOf, cX12_twoOf, 3, (some .int))
abbrev mX12_worked : aM := (yX12_worked, cX12_worked, 7, (some .int))
abbrev mX12_gives : aM := (yX12_gives, cX12_gives, 4, (some .int))
abbrev mX12_law : aM := (yX12_law, cX12_law, 2, (some .int))
abbrev mX12_turnBy : aM := (yX12_turnBy, cX12_turnBy, 6, (some .int))
abbrev mX12_turn : aM := (yX12_turn, cX12_turn, 2, (some .int))
abbrev mX12_alongX : aM := (yX12_alongX, cX12_alongX, 1, (some .int))
abbrev mX12_alongY : aM := (yX12_alongY, cX12_alongY, 1, (some .int))
abbrev mX12_leaves : aM := (yX12_leaves, cX12_leaves, 2, (some .boolean))
abbrev mX12_goStep : aM := (yX12_goStep, cX12_goStep, 1, none)
abbrev mX12_shoeAt : aM := (yX12_shoeAt, cX12_shoeAt, 2, (some .int))
abbrev mX12_hourAt : aM := (yX12_hourAt, cX12_hourAt, 2, (some .int))
abbrev mX12_goHour : aM := (yX12_goHour, cX12_goHour, 5, none)
abbrev mX12_layNow : aM := (yX12_layNow, cX12_layNow, 2, none)
abbrev mX12_goTo : aM := (yX12_goTo, cX12_goTo, 4, none)
abbrev mX12_areHours : aM := (yX12_areHours, cX12_areHours, 1, (some .boolean))
abbrev mX12_later : aM := (yX12_later, cX12_later, 4, (some .int))
abbrev mX12_layAll : aM := (yX12_layAll, cX12_layAll, 3, none)
abbrev mX12_nearTo : aM := (yX12_nearTo, cX12_nearTo, 3, (some .boolean))
abbrev mX12_nears : aM := (yX12_nears, cX12_nears, 7, (some .int))
abbrev mX12_passedBy : aM := (yX12_passedBy, cX12_passedBy, 6, (some .int))
abbrev mX12_passes : aM := (yX12_passes, cX12_passes, 7, (some .int))
abbrev mX12_meetAt : aM := (yX12_meetAt, cX12_meetAt, 4, (some .boolean))
abbrev mX12_meet : aM := (yX12_meet, cX12_meet, 3, (some .int))
abbrev mX12_often : aM := (yX12_often, cX12_often, 5, (some .int))
abbrev mX12_whoNear : aM := (yX12_whoNear, cX12_whoNear, 5, (some .int))
abbrev mX12_who : aM := (yX12_who, cX12_who, 3, (some .int))
abbrev mX12_changed : aM := (yX12_changed, cX12_changed, 7, (some .int))
abbrev mX12_soonest : aM := (yX12_soonest, cX12_soonest, 5, (some .int))
abbrev mX12_buy : aM := (yX12_buy, cX12_buy, 9, (some .int))
abbrev mX12_rowFault : aM := (yX12_rowFault, cX12_rowFault, 2, (some .int))
abbrev mX12_at : aM := (yX12_at, cX12_at, 3, (some .int))
abbrev mX12_wrongTwo : aM := (yX12_wrongTwo, cX12_wrongTwo, 4, (some .int))
abbrev mX12_judge : aM := (yX12_judge, cX12_judge, 3, (some .int))
abbrev mX12_dinedWays : aM := (yX12_dinedWays, cX12_dinedWays, 6, (some .int))
abbrev mX12_dinedFrom : aM := (yX12_dinedFrom, cX12_dinedFrom, 8, (some .int))
abbrev mX12_dinedPaces : aM := (yX12_dinedPaces, cX12_dinedPaces, 6, (some .int))
abbrev mX12_dined : aM := (yX12_dined, cX12_dined, 4, (some .int))
abbrev mX12_stateOf : aM := (yX12_stateOf, cX12_stateOf, 2, (some .int))
abbrev mX12_fewAt : aM := (yX12_fewAt, cX12_fewAt, 3, (some .int))
abbrev mX12_layFew : aM := (yX12_layFew, cX12_layFew, 6, none)
abbrev mX12_fewBy : aM := (yX12_fewBy, cX12_fewBy, 8, (some .int))
abbrev mX12_findFew : aM := (yX12_findFew, cX12_findFew, 10, none)
abbrev mX12_reins : aM := (yX12_reins, cX12_reins, 10, (some .int))
abbrev mX12_goChance : aM := (yX12_goChance, cX12_goChance, 11, none)
abbrev mX12_lowest : aM := (yX12_lowest, cX12_lowest, 11, (some .long))
abbrev mX12_areChance : aM := (yX12_areChance, cX12_areChance, 5, (some .boolean))
abbrev mX12_findChance : aM := (yX12_findChance, cX12_findChance, 7, (some .long))
abbrev mX12_chance : aM := (yX12_chance, cX12_chance, 7, (some .long))
abbrev mX12_mean : aM := (yX12_mean, cX12_mean, 7, (some .long))
abbrev mX12_endsBy : aM := (yX12_endsBy, cX12_endsBy, 8, (some .int))
abbrev mX12_endsAt : aM := (yX12_endsAt, cX12_endsAt, 10, (some .int))
abbrev mX12_byTurns : aM := (yX12_byTurns, cX12_byTurns, 8, (some .int))
abbrev mX12_placesNear : aM := (yX12_placesNear, cX12_placesNear, 3, (some .int))
abbrev mX12_manyNear : aM := (yX12_manyNear, cX12_manyNear, 4, (some .int))
abbrev mX12_drawn : aM := (yX12_drawn, cX12_drawn, 9, (some .int))
abbrev mX12_hour : aM := (yX12_hour, cX12_hour, 3, (some .int))
abbrev mX12_rein : aM := (yX12_rein, cX12_rein, 3, (some .int))
abbrev mX12_shoe : aM := (yX12_shoe, cX12_shoe, 3, (some .int))
abbrev mX12_buys : aM := (yX12_buys, cX12_buys, 3, (some .int))
abbrev mX12_led : aM := (yX12_led, cX12_led, 2, (some .int))
abbrev mX12_image : aM := (yX12_image, cX12_image, 2, (some .int))
abbrev mX12_back : aM := (yX12_back, cX12_back, 2, (some .int))
abbrev mX12_isBody : aM := (yX12_isBody, cX12_isBody, 2, (some .boolean))
abbrev mX12_ran : aM := (yX12_ran, cX12_ran, 2, none)
abbrev mX12_trace : aM := (yX12_trace, cX12_trace, 2, (some .int))
abbrev mX12_body : aM := (yX12_body, cX12_body, 2, (some .int))
abbrev mX12_isUnder : aM := (yX12_isUnder, cX12_isUnder, 2, (some .boolean))
abbrev mX12_plainFaces : aM := (yX12_plainFaces, cX12_plainFaces, 3, (some .int))
abbrev mX12_ludlowFaces : aM := (yX12_ludlowFaces, cX12_ludlowFaces, 3, (some .int))
abbrev mX12_facing : aM := (yX12_facing, cX12_facing, 3, (some .int))
abbrev mX12_plainDrives : aM := (yX12_plainDrives, cX12_plainDrives, 3, (some .int))
abbrev mX12_buddDrives : aM := (yX12_buddDrives, cX12_buddDrives, 3, (some .int))
abbrev mX12_driving : aM := (yX12_driving, cX12_driving, 4, (some .int))
abbrev mX12_plainWeeps : aM := (yX12_plainWeeps, cX12_plainWeeps, 3, (some .int))
abbrev mX12_farmWeeps : aM := (yX12_farmWeeps, cX12_farmWeeps, 3, (some .int))
abbrev mX12_weeping : aM := (yX12_weeping, cX12_weeping, 4, (some .int))
abbrev mX12_plainTells : aM := (yX12_plainTells, cX12_plainTells, 4, (some .int))
abbrev mX12_telling : aM := (yX12_telling, cX12_telling, 3, (some .int))
abbrev mX12_act : aM := (yX12_act, cX12_act, 4, (some .int))
abbrev mX12_count : aM := (yX12_count, cX12_count, 2, (some .int))
abbrev mX12_isShelf : aM := (yX12_isShelf, cX12_isShelf, 1, (some .boolean))
abbrev mX12_keep : aM := (yX12_keep, cX12_keep, 3, (some .int))
abbrev mX12_row : aM := (yX12_row, cX12_row, 5, (some .int))
abbrev mX12_whyNoPlace : aM := (yX12_whyNoPlace, cX12_whyNoPlace, 3, (some .int))
abbrev mX12_put : aM := (yX12_put, cX12_put, 7, (some .int))
abbrev mX12_element : aM := (yX12_element, cX12_element, 3, (some .long))
abbrev mX12_shift : aM := (yX12_shift, cX12_shift, 7, (some .int))
abbrev mX12_taken : aM := (yX12_taken, cX12_taken, 3, (some .int))
abbrev mJ6_bitCount_0f7a4 : aM := (yJ6_bitCount_0f7a4, cJ6_bitCount_0f7a4, 1, (some .int))
abbrev mJ9_abs_0f7a4 : aM := (yJ9_abs_0f7a4, cJ9_abs_0f7a4, 1, (some .int))
abbrev mJ9_max_7cf53 : aM := (yJ9_max_7cf53, cJ9_max_7cf53, 2, (some .int))
abbrev mJ9_max_f86c9 : aM := (yJ9_max_f86c9, cJ9_max_f86c9, 4, (some .long))
abbrev mJ9_min_7cf53 : aM := (yJ9_min_7cf53, cJ9_min_7cf53, 2, (some .int))
abbrev mJ7_fill_d0a16 : aM := (yJ7_fill_d0a16, cJ7_fill_d0a16, 5, none)
abbrev mJ7_fill_53178 : aM := (yJ7_fill_53178, cJ7_fill_53178, 4, none)
abbrev mL_law : aM := (yL_law, cL_law, 4, some .boolean)
theorem ck_X0 : CK 0 RX0 TX0 5 tyX0 := ⟨rfl, by decide +kernel, tyX0_ok, nmX0⟩
theorem ck_X1 : CK 1 RX1 TX1 5 tyX1 := ⟨rfl, by decide +kernel, tyX1_ok, nmX1⟩
theorem ck_X2 : CK 2 RX2 TX2 4 tyX2 := ⟨rfl, by decide +kernel, tyX2_ok, nmX2⟩
theorem ck_X3 : CK 3 RX3 TX3 7 tyX3 := ⟨rfl, by decide +kernel, tyX3_ok, nmX3⟩
theorem ck_X4 : CK 4 RX4 TX4 9 tyX4 := ⟨rfl, by decide +kernel, tyX4_ok, nmX4⟩
theorem ck_X5 : CK 5 RX5 TX5 3 tyX5 := ⟨rfl, by decide +kernel, tyX5_ok, nmX5⟩
theorem ck_X6 : CK 6 RX6 TX6 4 tyX6 := ⟨rfl, by decide +kernel, tyX6_ok, nmX6⟩
theorem ck_X7 : CK 7 RX7 TX7 11 tyX7 := ⟨rfl, by decide +kernel, tyX7_ok, nmX7⟩
theorem ck_X8 : CK 8 RX8 TX8 9 tyX8 := ⟨rfl, by decide +kernel, tyX8_ok, nmX8⟩
theorem ck_X9 : CK 9 RX9 TX9 8 tyX9 := ⟨rfl, by decide +kernel, tyX9_ok, nmX9⟩
theorem ck_X10 : CK 10 RX10 TX10 4 tyX10 := ⟨rfl, by decide +kernel, tyX10_ok, nmX10⟩
theorem ck_X11 : CK 11 RX11 TX11 13 tyX11 := ⟨rfl, by decide +kernel, tyX11_ok, nmX11⟩
theorem ck_X12 : CK 12 RX12 TX12 55 tyX12 := ⟨rfl, by decide +kernel, tyX12_ok, nmX12⟩
theorem cpw : Cond.native arraycopyName ∈ lG ∧ Cond.static arraycopyName ∈ lG ∧ Cond.initialized "java/lang/System" ∈ lG := ⟨inT (i := 462) (by decide +kernel) rfl, inT (i := 461) (by decide +kernel) rfl, inT (i := 14) (by decide +kernel) rfl⟩
theorem c_X0_init : CS mX0_init 0 := ⟨inT (i := 337) (by decide +kernel) rfl, inT (i := 12) (by decide +kernel) rfl, ⟨by decide +kernel, by decide +kernel, by decide +kernel⟩, by decide⟩
theorem n_X0_init : Cond.instanceMethod yX0_init ∈ lG := inT (i := 336) (by decide +kernel) rfl
theorem c_X0_has : CS mX0_has 1 := ⟨inT (i := 984) (by decide +kernel) rfl, inT (i := 12) (by decide +kernel) rfl, ⟨by decide +kernel, by decide +kernel, by decide +kernel⟩, by decide⟩
theorem v_X0_has : Cond.instanceMethod yX0_has ∈ lG ∧ Cond.selects yX0_has.cls yX0_has yX0_has ∈ lG := ⟨inT (i := 982) (by decide +kernel) rfl, inT (i := 983) (by decide +kernel) rfl⟩
theorem c_X0_add : CS mX0_add 1 := ⟨inT (i := 972) (by decide +kernel) rfl, inT (i := 12) (by decide +kernel) rfl, ⟨by decide +kernel, by decide +kernel, by decide +kernel⟩, by decide⟩
theorem v_X0_add : Cond.instanceMethod yX0_add ∈ lG ∧ Cond.selects yX0_add.cls yX0_add yX0_add ∈ lG := ⟨inT (i := 970) (by decide +kernel) rfl, inT (i := 971) (by decide +kernel) rfl⟩
theorem c_X0_kindOf : CS mX0_kindOf 1 := ⟨inT (i := 996) (by decide +kernel) rfl, inT (i := 12) (by decide +kernel) rfl, ⟨by decide +kernel, by decide +kernel, by decide +kernel⟩, by decide⟩
theorem v_X0_kindOf : Cond.instanceMethod yX0_kindOf ∈ lG ∧ Cond.selects yX0_kindOf.cls yX0_kindOf yX0_kindOf ∈ lG := ⟨inT (i := 994) (by decide +kernel) rfl, inT (i := 995) (by decide +kernel) rfl⟩
theorem c_X0_isOrUnder : CS mX0_isOrUnder 2 := ⟨inT (i := 1081) (by decide +kernel) rfl, inT (i := 12) (by decide +kernel) rfl, ⟨by decide +kernel, by decide +kernel, by decide +kernel⟩, by decide⟩
theorem t_X0_isOrUnder : Cond.static yX0_isOrUnder ∈ lG := inT (i := 1080) (by decide +kernel) rfl
theorem c_X0_forgetTrace : CS mX0_forgetTrace 0 := ⟨inT (i := 980) (by decide +kernel) rfl, inT (i := 12) (by decide +kernel) rfl, ⟨by decide +kernel, by decide +kernel, by decide +kernel⟩, by decide⟩
theorem v_X0_forgetTrace : Cond.instanceMethod yX0_forgetTrace ∈ lG ∧ Cond.selects yX0_forgetTrace.cls yX0_forgetTrace yX0_forgetTrace ∈ lG := ⟨inT (i := 978) (by decide +kernel) rfl, inT (i := 979) (by decide +kernel) rfl⟩
theorem c_X0_traced : CS mX0_traced 1 := ⟨inT (i := 1025) (by decide +kernel) rfl, inT (i := 12) (by decide +kernel) rfl, ⟨by decide +kernel, by decide +kernel, by decide +kernel⟩, by decide⟩
theorem v_X0_traced : Cond.instanceMethod yX0_traced ∈ lG ∧ Cond.selects yX0_traced.cls yX0_traced yX0_traced ∈ lG := ⟨inT (i := 1023) (by decide +kernel) rfl, inT (i := 1024) (by decide +kernel) rfl⟩
theorem c_X0_start : CS mX0_start 3 := ⟨inT (i := 988) (by decide +kernel) rfl, inT (i := 12) (by decide +kernel) rfl, ⟨by decide +kernel, by decide +kernel, by decide +kernel⟩, by decide⟩
theorem v_X0_start : Cond.instanceMethod yX0_start ∈ lG ∧ Cond.selects yX0_start.cls yX0_start yX0_start ∈ lG := ⟨inT (i := 986) (by decide +kernel) rfl, inT (i := 987) (by decide +kernel) rfl⟩
theorem c_X0_own : CS mX0_own 3 := ⟨inT (i := 992) (by decide +kernel) rfl, inT (i := 12) (by decide +kernel) rfl, ⟨by decide +kernel, by decide +kernel, by decide +kernel⟩, by decide⟩
theorem v_X0_own : Cond.instanceMethod yX0_own ∈ lG ∧ Cond.selects yX0_own.cls yX0_own yX0_own ∈ lG := ⟨inT (i := 991) (by decide +kernel) rfl, inP (i := 27) (by decide +kernel) rfl⟩
theorem c_X0_run : CS mX0_run 4 := ⟨inT (i := 1001) (by decide +kernel) rfl, inT (i := 12) (by decide +kernel) rfl, ⟨by decide +kernel, by decide +kernel, by decide +kernel⟩, by decide⟩
theorem v_X0_run : Cond.instanceMethod yX0_run ∈ lG ∧ Cond.selects yX0_run.cls yX0_run yX0_run ∈ lG := ⟨inT (i := 1000) (by decide +kernel) rfl, inP (i := 28) (by decide +kernel) rfl⟩
theorem c_X0_holderOf : CS mX0_holderOf 2 := ⟨inT (i := 1004) (by decide +kernel) rfl, inT (i := 12) (by decide +kernel) rfl, ⟨by decide +kernel, by decide +kernel, by decide +kernel⟩, by decide⟩
theorem t_X0_holderOf : Cond.static yX0_holderOf ∈ lG := inT (i := 1003) (by decide +kernel) rfl
theorem c_X0_first : CS mX0_first 3 := ⟨inT (i := 1013) (by decide +kernel) rfl, inT (i := 12) (by decide +kernel) rfl, ⟨by decide +kernel, by decide +kernel, by decide +kernel⟩, by decide⟩
theorem v_X0_first : Cond.instanceMethod yX0_first ∈ lG ∧ Cond.selects yX0_first.cls yX0_first yX0_first ∈ lG := ⟨inT (i := 1012) (by decide +kernel) rfl, inP (i := 29) (by decide +kernel) rfl⟩
theorem c_X0_inherited : CS mX0_inherited 4 := ⟨inT (i := 1017) (by decide +kernel) rfl, inT (i := 12) (by decide +kernel) rfl, ⟨by decide +kernel, by decide +kernel, by decide +kernel⟩, by decide⟩
theorem v_X0_inherited : Cond.instanceMethod yX0_inherited ∈ lG ∧ Cond.selects yX0_inherited.cls yX0_inherited yX0_inherited ∈ lG := ⟨inT (i := 1016) (by decide +kernel) rfl, inP (i := 30) (by decide +kernel) rfl⟩
theorem c_X1_init : CS mX1_init 2 := ⟨inT (i := 233) (by decide +kernel) rfl, inT (i := 8) (by decide +kernel) rfl, ⟨by decide +kernel, by decide +kernel, by decide +kernel⟩, by decide⟩
theorem n_X1_init : Cond.instanceMethod yX1_init ∈ lG := inT (i := 232) (by decide +kernel) rfl
theorem c_X1_fewestReins : CS mX1_fewestReins 3 := ⟨inT (i := 804) (by decide +kernel) rfl, inT (i := 8) (by decide +kernel) rfl, ⟨by decide +kernel, by decide +kernel, by decide +kernel⟩, by decide⟩
theorem v_X1_fewestReins : Cond.instanceMethod yX1_fewestReins ∈ lG ∧ Cond.selects yX1_fewestReins.cls yX1_fewestReins yX1_fewestReins ∈ lG := ⟨inT (i := 802) (by decide +kernel) rfl, inT (i := 803) (by decide +kernel) rfl⟩
theorem c_X1_goOn : CS mX1_goOn 4 := ⟨inT (i := 811) (by decide +kernel) rfl, inT (i := 8) (by decide +kernel) rfl, ⟨by decide +kernel, by decide +kernel, by decide +kernel⟩, by decide⟩
theorem t_X1_goOn : Cond.static yX1_goOn ∈ lG := inT (i := 810) (by decide +kernel) rfl
theorem c_X1_leastNear : CS mX1_leastNear 2 := ⟨inT (i := 823) (by decide +kernel) rfl, inT (i := 8) (by decide +kernel) rfl, ⟨by decide +kernel, by decide +kernel, by decide +kernel⟩, by decide⟩
theorem v_X1_leastNear : Cond.instanceMethod yX1_leastNear ∈ lG ∧ Cond.selects yX1_leastNear.cls yX1_leastNear yX1_leastNear ∈ lG := ⟨inT (i := 822) (by decide +kernel) rfl, inP (i := 23) (by decide +kernel) rfl⟩
theorem c_X1_shiftOf : CS mX1_shiftOf 1 := ⟨inT (i := 815) (by decide +kernel) rfl, inT (i := 8) (by decide +kernel) rfl, ⟨by decide +kernel, by decide +kernel, by decide +kernel⟩, by decide⟩
theorem t_X1_shiftOf : Cond.static yX1_shiftOf ∈ lG := inT (i := 814) (by decide +kernel) rfl
theorem c_X1_reinsIn : CS mX1_reinsIn 1 := ⟨inT (i := 828) (by decide +kernel) rfl, inT (i := 8) (by decide +kernel) rfl, ⟨by decide +kernel, by decide +kernel, by decide +kernel⟩, by decide⟩
theorem t_X1_reinsIn : Cond.static yX1_reinsIn ∈ lG := inT (i := 827) (by decide +kernel) rfl
theorem c_X1_reinAt : CS mX1_reinAt 2 := ⟨inT (i := 831) (by decide +kernel) rfl, inT (i := 8) (by decide +kernel) rfl, ⟨by decide +kernel, by decide +kernel, by decide +kernel⟩, by decide⟩
theorem t_X1_reinAt : Cond.static yX1_reinAt ∈ lG := inT (i := 830) (by decide +kernel) rfl
theorem c_X1_weight : CS mX1_weight 4 := ⟨inT (i := 840) (by decide +kernel) rfl, inT (i := 8) (by decide +kernel) rfl, ⟨by decide +kernel, by decide +kernel, by decide +kernel⟩, by decide⟩
theorem v_X1_weight : Cond.instanceMethod yX1_weight ∈ lG ∧ Cond.selects yX1_weight.cls yX1_weight yX1_weight ∈ lG := ⟨inT (i := 838) (by decide +kernel) rfl, inT (i := 839) (by decide +kernel) rfl⟩
theorem c_X1_fraction : CS mX1_fraction 3 := ⟨inT (i := 845) (by decide +kernel) rfl, inT (i := 8) (by decide +kernel) rfl, ⟨by decide +kernel, by decide +kernel, by decide +kernel⟩, by decide⟩
theorem v_X1_fraction : Cond.instanceMethod yX1_fraction ∈ lG ∧ Cond.selects yX1_fraction.cls yX1_fraction yX1_fraction ∈ lG := ⟨inT (i := 843) (by decide +kernel) rfl, inT (i := 844) (by decide +kernel) rfl⟩
theorem c_X1_commonDivisor : CS mX1_commonDivisor 2 := ⟨inT (i := 849) (by decide +kernel) rfl, inT (i := 8) (by decide +kernel) rfl, ⟨by decide +kernel, by decide +kernel, by decide +kernel⟩, by decide⟩
theorem t_X1_commonDivisor : Cond.static yX1_commonDivisor ∈ lG := inT (i := 848) (by decide +kernel) rfl
theorem c_X1_herBest : CS mX1_herBest 4 := ⟨inT (i := 864) (by decide +kernel) rfl, inT (i := 8) (by decide +kernel) rfl, ⟨by decide +kernel, by decide +kernel, by decide +kernel⟩, by decide⟩
theorem v_X1_herBest : Cond.instanceMethod yX1_herBest ∈ lG ∧ Cond.selects yX1_herBest.cls yX1_herBest yX1_herBest ∈ lG := ⟨inT (i := 862) (by decide +kernel) rfl, inT (i := 863) (by decide +kernel) rfl⟩
theorem c_X1_farAtLast : CS mX1_farAtLast 5 := ⟨inT (i := 867) (by decide +kernel) rfl, inT (i := 8) (by decide +kernel) rfl, ⟨by decide +kernel, by decide +kernel, by decide +kernel⟩, by decide⟩
theorem t_X1_farAtLast : Cond.static yX1_farAtLast ∈ lG := inT (i := 866) (by decide +kernel) rfl
theorem c_X1_byDraws : CS mX1_byDraws 4 := ⟨inT (i := 876) (by decide +kernel) rfl, inT (i := 8) (by decide +kernel) rfl, ⟨by decide +kernel, by decide +kernel, by decide +kernel⟩, by decide⟩
theorem v_X1_byDraws : Cond.instanceMethod yX1_byDraws ∈ lG ∧ Cond.selects yX1_byDraws.cls yX1_byDraws yX1_byDraws ∈ lG := ⟨inT (i := 874) (by decide +kernel) rfl, inT (i := 875) (by decide +kernel) rfl⟩
theorem c_X1_drawYear : CS mX1_drawYear 2 := ⟨inT (i := 880) (by decide +kernel) rfl, inT (i := 8) (by decide +kernel) rfl, ⟨by decide +kernel, by decide +kernel, by decide +kernel⟩, by decide⟩
theorem v_X1_drawYear : Cond.instanceMethod yX1_drawYear ∈ lG ∧ Cond.selects yX1_drawYear.cls yX1_drawYear yX1_drawYear ∈ lG := ⟨inT (i := 879) (by decide +kernel) rfl, inP (i := 24) (by decide +kernel) rfl⟩
theorem c_X1_carriagesAt : CS mX1_carriagesAt 1 := ⟨inT (i := 891) (by decide +kernel) rfl, inT (i := 8) (by decide +kernel) rfl, ⟨by decide +kernel, by decide +kernel, by decide +kernel⟩, by decide⟩
theorem v_X1_carriagesAt : Cond.instanceMethod yX1_carriagesAt ∈ lG ∧ Cond.selects yX1_carriagesAt.cls yX1_carriagesAt yX1_carriagesAt ∈ lG := ⟨inT (i := 890) (by decide +kernel) rfl, inP (i := 26) (by decide +kernel) rfl⟩
theorem c_X1_placesReached : CS mX1_placesReached 0 := ⟨inT (i := 885) (by decide +kernel) rfl, inT (i := 8) (by decide +kernel) rfl, ⟨by decide +kernel, by decide +kernel, by decide +kernel⟩, by decide⟩
theorem v_X1_placesReached : Cond.instanceMethod yX1_placesReached ∈ lG ∧ Cond.selects yX1_placesReached.cls yX1_placesReached yX1_placesReached ∈ lG := ⟨inT (i := 884) (by decide +kernel) rfl, inP (i := 25) (by decide +kernel) rfl⟩
theorem c_X2_init : CS mX2_init 1 := ⟨inT (i := 255) (by decide +kernel) rfl, inT (i := 9) (by decide +kernel) rfl, ⟨by decide +kernel, by decide +kernel, by decide +kernel⟩, by decide⟩
theorem n_X2_init : Cond.instanceMethod yX2_init ∈ lG := inT (i := 254) (by decide +kernel) rfl
theorem c_X2_note : CS mX2_note 4 := ⟨inT (i := 459) (by decide +kernel) rfl, inT (i := 9) (by decide +kernel) rfl, ⟨by decide +kernel, by decide +kernel, by decide +kernel⟩, by decide⟩
theorem v_X2_note : Cond.instanceMethod yX2_note ∈ lG ∧ Cond.selects yX2_note.cls yX2_note yX2_note ∈ lG := ⟨inT (i := 457) (by decide +kernel) rfl, inT (i := 458) (by decide +kernel) rfl⟩
theorem c_X2_takeBack : CS mX2_takeBack 0 := ⟨inT (i := 955) (by decide +kernel) rfl, inT (i := 9) (by decide +kernel) rfl, ⟨by decide +kernel, by decide +kernel, by decide +kernel⟩, by decide⟩
theorem v_X2_takeBack : Cond.instanceMethod yX2_takeBack ∈ lG ∧ Cond.selects yX2_takeBack.cls yX2_takeBack yX2_takeBack ∈ lG := ⟨inT (i := 953) (by decide +kernel) rfl, inT (i := 954) (by decide +kernel) rfl⟩
theorem c_X2_doAgain : CS mX2_doAgain 0 := ⟨inT (i := 964) (by decide +kernel) rfl, inT (i := 9) (by decide +kernel) rfl, ⟨by decide +kernel, by decide +kernel, by decide +kernel⟩, by decide⟩
theorem v_X2_doAgain : Cond.instanceMethod yX2_doAgain ∈ lG ∧ Cond.selects yX2_doAgain.cls yX2_doAgain yX2_doAgain ∈ lG := ⟨inT (i := 962) (by decide +kernel) rfl, inT (i := 963) (by decide +kernel) rfl⟩
theorem c_X3_init : CS mX3_init 3 := ⟨inT (i := 169) (by decide +kernel) rfl, inT (i := 5) (by decide +kernel) rfl, ⟨by decide +kernel, by decide +kernel, by decide +kernel⟩, by decide⟩
theorem n_X3_init : Cond.instanceMethod yX3_init ∈ lG := inT (i := 168) (by decide +kernel) rfl
theorem c_X3_start : CS mX3_start 1 := ⟨inT (i := 546) (by decide +kernel) rfl, inT (i := 5) (by decide +kernel) rfl, ⟨by decide +kernel, by decide +kernel, by decide +kernel⟩, by decide⟩
theorem v_X3_start : Cond.instanceMethod yX3_start ∈ lG ∧ Cond.selects yX3_start.cls yX3_start yX3_start ∈ lG := ⟨inT (i := 544) (by decide +kernel) rfl, inT (i := 545) (by decide +kernel) rfl⟩
theorem c_X3_standNow : CS mX3_standNow 0 := ⟨inT (i := 593) (by decide +kernel) rfl, inT (i := 5) (by decide +kernel) rfl, ⟨by decide +kernel, by decide +kernel, by decide +kernel⟩, by decide⟩
theorem v_X3_standNow : Cond.instanceMethod yX3_standNow ∈ lG ∧ Cond.selects yX3_standNow.cls yX3_standNow yX3_standNow ∈ lG := ⟨inT (i := 591) (by decide +kernel) rfl, inT (i := 592) (by decide +kernel) rfl⟩
theorem c_X3_lawBehind : CS mX3_lawBehind 2 := ⟨inT (i := 550) (by decide +kernel) rfl, inT (i := 5) (by decide +kernel) rfl, ⟨by decide +kernel, by decide +kernel, by decide +kernel⟩, by decide⟩
theorem v_X3_lawBehind : Cond.instanceMethod yX3_lawBehind ∈ lG ∧ Cond.selects yX3_lawBehind.cls yX3_lawBehind yX3_lawBehind ∈ lG := ⟨inT (i := 548) (by decide +kernel) rfl, inT (i := 549) (by decide +kernel) rfl⟩
theorem c_X3_next : CS mX3_next 3 := ⟨inT (i := 601) (by decide +kernel) rfl, inT (i := 5) (by decide +kernel) rfl, ⟨by decide +kernel, by decide +kernel, by decide +kernel⟩, by decide⟩
theorem v_X3_next : Cond.instanceMethod yX3_next ∈ lG ∧ Cond.selects yX3_next.cls yX3_next yX3_next ∈ lG := ⟨inT (i := 599) (by decide +kernel) rfl, inT (i := 600) (by decide +kernel) rfl⟩
theorem c_X3_onLand : CS mX3_onLand 2 := ⟨inT (i := 609) (by decide +kernel) rfl, inT (i := 5) (by decide +kernel) rfl, ⟨by decide +kernel, by decide +kernel, by decide +kernel⟩, by decide⟩
theorem t_X3_onLand : Cond.static yX3_onLand ∈ lG := inT (i := 608) (by decide +kernel) rfl
theorem c_X4_init : CS mX4_init 2 := ⟨inT (i := 275) (by decide +kernel) rfl, inT (i := 10) (by decide +kernel) rfl, ⟨by decide +kernel, by decide +kernel, by decide +kernel⟩, by decide⟩
theorem n_X4_init : Cond.instanceMethod yX4_init ∈ lG := inT (i := 274) (by decide +kernel) rfl
theorem c_X4_passHour : CS mX4_passHour 0 := ⟨inT (i := 899) (by decide +kernel) rfl, inT (i := 10) (by decide +kernel) rfl, ⟨by decide +kernel, by decide +kernel, by decide +kernel⟩, by decide⟩
theorem v_X4_passHour : Cond.instanceMethod yX4_passHour ∈ lG ∧ Cond.selects yX4_passHour.cls yX4_passHour yX4_passHour ∈ lG := ⟨inT (i := 897) (by decide +kernel) rfl, inT (i := 898) (by decide +kernel) rfl⟩
theorem c_X4_pullRein : CS mX4_pullRein 2 := ⟨inT (i := 914) (by decide +kernel) rfl, inT (i := 10) (by decide +kernel) rfl, ⟨by decide +kernel, by decide +kernel, by decide +kernel⟩, by decide⟩
theorem v_X4_pullRein : Cond.instanceMethod yX4_pullRein ∈ lG ∧ Cond.selects yX4_pullRein.cls yX4_pullRein yX4_pullRein ∈ lG := ⟨inT (i := 912) (by decide +kernel) rfl, inT (i := 913) (by decide +kernel) rfl⟩
theorem c_X4_putShoe : CS mX4_putShoe 1 := ⟨inT (i := 922) (by decide +kernel) rfl, inT (i := 10) (by decide +kernel) rfl, ⟨by decide +kernel, by decide +kernel, by decide +kernel⟩, by decide⟩
theorem v_X4_putShoe : Cond.instanceMethod yX4_putShoe ∈ lG ∧ Cond.selects yX4_putShoe.cls yX4_putShoe yX4_putShoe ∈ lG := ⟨inT (i := 920) (by decide +kernel) rfl, inT (i := 921) (by decide +kernel) rfl⟩
theorem c_X4_keepImage : CS mX4_keepImage 0 := ⟨inT (i := 938) (by decide +kernel) rfl, inT (i := 10) (by decide +kernel) rfl, ⟨by decide +kernel, by decide +kernel, by decide +kernel⟩, by decide⟩
theorem v_X4_keepImage : Cond.instanceMethod yX4_keepImage ∈ lG ∧ Cond.selects yX4_keepImage.cls yX4_keepImage yX4_keepImage ∈ lG := ⟨inT (i := 936) (by decide +kernel) rfl, inT (i := 937) (by decide +kernel) rfl⟩
theorem c_X4_layBack : CS mX4_layBack 0 := ⟨inT (i := 947) (by decide +kernel) rfl, inT (i := 10) (by decide +kernel) rfl, ⟨by decide +kernel, by decide +kernel, by decide +kernel⟩, by decide⟩
theorem v_X4_layBack : Cond.instanceMethod yX4_layBack ∈ lG ∧ Cond.selects yX4_layBack.cls yX4_layBack yX4_layBack ∈ lG := ⟨inT (i := 945) (by decide +kernel) rfl, inT (i := 946) (by decide +kernel) rfl⟩
theorem c_X5_init : CS mX5_init 3 := ⟨inT (i := 217) (by decide +kernel) rfl, inT (i := 7) (by decide +kernel) rfl, ⟨by decide +kernel, by decide +kernel, by decide +kernel⟩, by decide⟩
theorem n_X5_init : Cond.instanceMethod yX5_init ∈ lG := inT (i := 216) (by decide +kernel) rfl
theorem c_X5_firstWrongNow : CS mX5_firstWrongNow 2 := ⟨inT (i := 758) (by decide +kernel) rfl, inT (i := 7) (by decide +kernel) rfl, ⟨by decide +kernel, by decide +kernel, by decide +kernel⟩, by decide⟩
theorem v_X5_firstWrongNow : Cond.instanceMethod yX5_firstWrongNow ∈ lG ∧ Cond.selects yX5_firstWrongNow.cls yX5_firstWrongNow yX5_firstWrongNow ∈ lG := ⟨inT (i := 756) (by decide +kernel) rfl, inT (i := 757) (by decide +kernel) rfl⟩
theorem c_X5_waysThatFit : CS mX5_waysThatFit 2 := ⟨inT (i := 788) (by decide +kernel) rfl, inT (i := 7) (by decide +kernel) rfl, ⟨by decide +kernel, by decide +kernel, by decide +kernel⟩, by decide⟩
theorem v_X5_waysThatFit : Cond.instanceMethod yX5_waysThatFit ∈ lG ∧ Cond.selects yX5_waysThatFit.cls yX5_waysThatFit yX5_waysThatFit ∈ lG := ⟨inT (i := 786) (by decide +kernel) rfl, inT (i := 787) (by decide +kernel) rfl⟩
theorem c_X5_cellsThatFit : CS mX5_cellsThatFit 3 := ⟨inT (i := 796) (by decide +kernel) rfl, inT (i := 7) (by decide +kernel) rfl, ⟨by decide +kernel, by decide +kernel, by decide +kernel⟩, by decide⟩
theorem v_X5_cellsThatFit : Cond.instanceMethod yX5_cellsThatFit ∈ lG ∧ Cond.selects yX5_cellsThatFit.cls yX5_cellsThatFit yX5_cellsThatFit ∈ lG := ⟨inT (i := 794) (by decide +kernel) rfl, inT (i := 795) (by decide +kernel) rfl⟩
theorem c_X5_pacesThatFit : CS mX5_pacesThatFit 2 := ⟨inT (i := 792) (by decide +kernel) rfl, inT (i := 7) (by decide +kernel) rfl, ⟨by decide +kernel, by decide +kernel, by decide +kernel⟩, by decide⟩
theorem v_X5_pacesThatFit : Cond.instanceMethod yX5_pacesThatFit ∈ lG ∧ Cond.selects yX5_pacesThatFit.cls yX5_pacesThatFit yX5_pacesThatFit ∈ lG := ⟨inT (i := 790) (by decide +kernel) rfl, inT (i := 791) (by decide +kernel) rfl⟩
theorem c_X5_firstWrong : CS mX5_firstWrong 2 := ⟨inT (i := 772) (by decide +kernel) rfl, inT (i := 7) (by decide +kernel) rfl, ⟨by decide +kernel, by decide +kernel, by decide +kernel⟩, by decide⟩
theorem v_X5_firstWrong : Cond.instanceMethod yX5_firstWrong ∈ lG ∧ Cond.selects yX5_firstWrong.cls yX5_firstWrong yX5_firstWrong ∈ lG := ⟨inT (i := 771) (by decide +kernel) rfl, inP (i := 21) (by decide +kernel) rfl⟩
theorem c_X5_twosOf : CS mX5_twosOf 1 := ⟨inT (i := 766) (by decide +kernel) rfl, inT (i := 7) (by decide +kernel) rfl, ⟨by decide +kernel, by decide +kernel, by decide +kernel⟩, by decide⟩
theorem t_X5_twosOf : Cond.static yX5_twosOf ∈ lG := inT (i := 765) (by decide +kernel) rfl
theorem c_X5_isSo : CS mX5_isSo 3 := ⟨inT (i := 776) (by decide +kernel) rfl, inT (i := 7) (by decide +kernel) rfl, ⟨by decide +kernel, by decide +kernel, by decide +kernel⟩, by decide⟩
theorem v_X5_isSo : Cond.instanceMethod yX5_isSo ∈ lG ∧ Cond.selects yX5_isSo.cls yX5_isSo yX5_isSo ∈ lG := ⟨inT (i := 775) (by decide +kernel) rfl, inP (i := 22) (by decide +kernel) rfl⟩
theorem c_X5_lastHour : CS mX5_lastHour 1 := ⟨inT (i := 763) (by decide +kernel) rfl, inT (i := 7) (by decide +kernel) rfl, ⟨by decide +kernel, by decide +kernel, by decide +kernel⟩, by decide⟩
theorem t_X5_lastHour : Cond.static yX5_lastHour ∈ lG := inT (i := 762) (by decide +kernel) rfl
theorem c_X6_init : CS mX6_init 2 := ⟨inT (i := 198) (by decide +kernel) rfl, inT (i := 6) (by decide +kernel) rfl, ⟨by decide +kernel, by decide +kernel, by decide +kernel⟩, by decide⟩
theorem n_X6_init : Cond.instanceMethod yX6_init ∈ lG := inT (i := 197) (by decide +kernel) rfl
theorem c_X6_follow : CS mX6_follow 2 := ⟨inT (i := 588) (by decide +kernel) rfl, inT (i := 6) (by decide +kernel) rfl, ⟨by decide +kernel, by decide +kernel, by decide +kernel⟩, by decide⟩
theorem v_X6_follow : Cond.instanceMethod yX6_follow ∈ lG ∧ Cond.selects yX6_follow.cls yX6_follow yX6_follow ∈ lG := ⟨inT (i := 586) (by decide +kernel) rfl, inT (i := 587) (by decide +kernel) rfl⟩
theorem c_X6_followFrom : CS mX6_followFrom 3 := ⟨inT (i := 597) (by decide +kernel) rfl, inT (i := 6) (by decide +kernel) rfl, ⟨by decide +kernel, by decide +kernel, by decide +kernel⟩, by decide⟩
theorem v_X6_followFrom : Cond.instanceMethod yX6_followFrom ∈ lG ∧ Cond.selects yX6_followFrom.cls yX6_followFrom yX6_followFrom ∈ lG := ⟨inT (i := 595) (by decide +kernel) rfl, inT (i := 596) (by decide +kernel) rfl⟩
theorem c_X6_followAll : CS mX6_followAll 1 := ⟨inT (i := 693) (by decide +kernel) rfl, inT (i := 6) (by decide +kernel) rfl, ⟨by decide +kernel, by decide +kernel, by decide +kernel⟩, by decide⟩
theorem v_X6_followAll : Cond.instanceMethod yX6_followAll ∈ lG ∧ Cond.selects yX6_followAll.cls yX6_followAll yX6_followAll ∈ lG := ⟨inT (i := 691) (by decide +kernel) rfl, inT (i := 692) (by decide +kernel) rfl⟩
theorem c_X6_cellBehind : CS mX6_cellBehind 2 := ⟨inT (i := 613) (by decide +kernel) rfl, inT (i := 6) (by decide +kernel) rfl, ⟨by decide +kernel, by decide +kernel, by decide +kernel⟩, by decide⟩
theorem v_X6_cellBehind : Cond.instanceMethod yX6_cellBehind ∈ lG ∧ Cond.selects yX6_cellBehind.cls yX6_cellBehind yX6_cellBehind ∈ lG := ⟨inT (i := 611) (by decide +kernel) rfl, inT (i := 612) (by decide +kernel) rfl⟩
theorem c_X6_wayBehind : CS mX6_wayBehind 2 := ⟨inT (i := 617) (by decide +kernel) rfl, inT (i := 6) (by decide +kernel) rfl, ⟨by decide +kernel, by decide +kernel, by decide +kernel⟩, by decide⟩
theorem v_X6_wayBehind : Cond.instanceMethod yX6_wayBehind ∈ lG ∧ Cond.selects yX6_wayBehind.cls yX6_wayBehind yX6_wayBehind ∈ lG := ⟨inT (i := 615) (by decide +kernel) rfl, inT (i := 616) (by decide +kernel) rfl⟩
theorem c_X6_firstNearest : CS mX6_firstNearest 3 := ⟨inT (i := 630) (by decide +kernel) rfl, inT (i := 6) (by decide +kernel) rfl, ⟨by decide +kernel, by decide +kernel, by decide +kernel⟩, by decide⟩
theorem v_X6_firstNearest : Cond.instanceMethod yX6_firstNearest ∈ lG ∧ Cond.selects yX6_firstNearest.cls yX6_firstNearest yX6_firstNearest ∈ lG := ⟨inT (i := 628) (by decide +kernel) rfl, inT (i := 629) (by decide +kernel) rfl⟩
theorem c_X6_placesPassed : CS mX6_placesPassed 2 := ⟨inT (i := 647) (by decide +kernel) rfl, inT (i := 6) (by decide +kernel) rfl, ⟨by decide +kernel, by decide +kernel, by decide +kernel⟩, by decide⟩
theorem v_X6_placesPassed : Cond.instanceMethod yX6_placesPassed ∈ lG ∧ Cond.selects yX6_placesPassed.cls yX6_placesPassed yX6_placesPassed ∈ lG := ⟨inT (i := 645) (by decide +kernel) rfl, inT (i := 646) (by decide +kernel) rfl⟩
theorem c_X6_together : CS mX6_together 3 := ⟨inT (i := 676) (by decide +kernel) rfl, inT (i := 6) (by decide +kernel) rfl, ⟨by decide +kernel, by decide +kernel, by decide +kernel⟩, by decide⟩
theorem v_X6_together : Cond.instanceMethod yX6_together ∈ lG ∧ Cond.selects yX6_together.cls yX6_together yX6_together ∈ lG := ⟨inT (i := 675) (by decide +kernel) rfl, inP (i := 16) (by decide +kernel) rfl⟩
theorem c_X6_firstMeeting : CS mX6_firstMeeting 2 := ⟨inT (i := 672) (by decide +kernel) rfl, inT (i := 6) (by decide +kernel) rfl, ⟨by decide +kernel, by decide +kernel, by decide +kernel⟩, by decide⟩
theorem v_X6_firstMeeting : Cond.instanceMethod yX6_firstMeeting ∈ lG ∧ Cond.selects yX6_firstMeeting.cls yX6_firstMeeting yX6_firstMeeting ∈ lG := ⟨inT (i := 670) (by decide +kernel) rfl, inT (i := 671) (by decide +kernel) rfl⟩
theorem c_X6_meetings : CS mX6_meetings 3 := ⟨inT (i := 685) (by decide +kernel) rfl, inT (i := 6) (by decide +kernel) rfl, ⟨by decide +kernel, by decide +kernel, by decide +kernel⟩, by decide⟩
theorem v_X6_meetings : Cond.instanceMethod yX6_meetings ∈ lG ∧ Cond.selects yX6_meetings.cls yX6_meetings yX6_meetings ∈ lG := ⟨inT (i := 683) (by decide +kernel) rfl, inT (i := 684) (by decide +kernel) rfl⟩
theorem c_X6_carriagesNear : CS mX6_carriagesNear 2 := ⟨inT (i := 697) (by decide +kernel) rfl, inT (i := 6) (by decide +kernel) rfl, ⟨by decide +kernel, by decide +kernel, by decide +kernel⟩, by decide⟩
theorem v_X6_carriagesNear : Cond.instanceMethod yX6_carriagesNear ∈ lG ∧ Cond.selects yX6_carriagesNear.cls yX6_carriagesNear yX6_carriagesNear ∈ lG := ⟨inT (i := 695) (by decide +kernel) rfl, inT (i := 696) (by decide +kernel) rfl⟩
theorem c_X6_soonestBetween : CS mX6_soonestBetween 3 := ⟨inT (i := 709) (by decide +kernel) rfl, inT (i := 6) (by decide +kernel) rfl, ⟨by decide +kernel, by decide +kernel, by decide +kernel⟩, by decide⟩
theorem v_X6_soonestBetween : Cond.instanceMethod yX6_soonestBetween ∈ lG ∧ Cond.selects yX6_soonestBetween.cls yX6_soonestBetween yX6_soonestBetween ∈ lG := ⟨inT (i := 707) (by decide +kernel) rfl, inT (i := 708) (by decide +kernel) rfl⟩
theorem c_X6_withChanges : CS mX6_withChanges 2 := ⟨inT (i := 714) (by decide +kernel) rfl, inT (i := 6) (by decide +kernel) rfl, ⟨by decide +kernel, by decide +kernel, by decide +kernel⟩, by decide⟩
theorem v_X6_withChanges : Cond.instanceMethod yX6_withChanges ∈ lG ∧ Cond.selects yX6_withChanges.cls yX6_withChanges yX6_withChanges ∈ lG := ⟨inT (i := 713) (by decide +kernel) rfl, inP (i := 18) (by decide +kernel) rfl⟩
theorem c_X6_bestHouses : CS mX6_bestHouses 2 := ⟨inT (i := 722) (by decide +kernel) rfl, inT (i := 6) (by decide +kernel) rfl, ⟨by decide +kernel, by decide +kernel, by decide +kernel⟩, by decide⟩
theorem v_X6_bestHouses : Cond.instanceMethod yX6_bestHouses ∈ lG ∧ Cond.selects yX6_bestHouses.cls yX6_bestHouses yX6_bestHouses ∈ lG := ⟨inT (i := 720) (by decide +kernel) rfl, inT (i := 721) (by decide +kernel) rfl⟩
theorem c_X6_findPassers : CS mX6_findPassers 1 := ⟨inT (i := 726) (by decide +kernel) rfl, inT (i := 6) (by decide +kernel) rfl, ⟨by decide +kernel, by decide +kernel, by decide +kernel⟩, by decide⟩
theorem v_X6_findPassers : Cond.instanceMethod yX6_findPassers ∈ lG ∧ Cond.selects yX6_findPassers.cls yX6_findPassers yX6_findPassers ∈ lG := ⟨inT (i := 725) (by decide +kernel) rfl, inP (i := 19) (by decide +kernel) rfl⟩
theorem c_X6_betterHouses : CS mX6_betterHouses 2 := ⟨inT (i := 740) (by decide +kernel) rfl, inT (i := 6) (by decide +kernel) rfl, ⟨by decide +kernel, by decide +kernel, by decide +kernel⟩, by decide⟩
theorem v_X6_betterHouses : Cond.instanceMethod yX6_betterHouses ∈ lG ∧ Cond.selects yX6_betterHouses.cls yX6_betterHouses yX6_betterHouses ∈ lG := ⟨inT (i := 739) (by decide +kernel) rfl, inP (i := 20) (by decide +kernel) rfl⟩
theorem c_X6_passersOf : CS mX6_passersOf 1 := ⟨inT (i := 744) (by decide +kernel) rfl, inT (i := 6) (by decide +kernel) rfl, ⟨by decide +kernel, by decide +kernel, by decide +kernel⟩, by decide⟩
theorem v_X6_passersOf : Cond.instanceMethod yX6_passersOf ∈ lG ∧ Cond.selects yX6_passersOf.cls yX6_passersOf yX6_passersOf ∈ lG := ⟨inT (i := 742) (by decide +kernel) rfl, inT (i := 743) (by decide +kernel) rfl⟩
theorem c_X7_init : CS mX7_init 0 := ⟨inT (i := 30) (by decide +kernel) rfl, inT (i := 2) (by decide +kernel) rfl, ⟨by decide +kernel, by decide +kernel, by decide +kernel⟩, by decide⟩
theorem n_X7_init : Cond.instanceMethod yX7_init ∈ lG := inT (i := 29) (by decide +kernel) rfl
theorem c_X7_mayBe : CS mX7_mayBe 2 := ⟨inT (i := 403) (by decide +kernel) rfl, inT (i := 2) (by decide +kernel) rfl, ⟨by decide +kernel, by decide +kernel, by decide +kernel⟩, by decide⟩
theorem t_X7_mayBe : Cond.static yX7_mayBe ∈ lG := inT (i := 402) (by decide +kernel) rfl
theorem c_X7_apart : CS mX7_apart 2 := ⟨inT (i := 634) (by decide +kernel) rfl, inT (i := 2) (by decide +kernel) rfl, ⟨by decide +kernel, by decide +kernel, by decide +kernel⟩, by decide⟩
theorem t_X7_apart : Cond.static yX7_apart ∈ lG := inT (i := 633) (by decide +kernel) rfl
theorem c_X7_near : CS mX7_near 2 := ⟨inT (i := 655) (by decide +kernel) rfl, inT (i := 2) (by decide +kernel) rfl, ⟨by decide +kernel, by decide +kernel, by decide +kernel⟩, by decide⟩
theorem v_X7_near : Cond.instanceMethod yX7_near ∈ lG ∧ Cond.selects yX7_near.cls yX7_near yX7_near ∈ lG := ⟨inT (i := 653) (by decide +kernel) rfl, inT (i := 654) (by decide +kernel) rfl⟩
theorem c_X7_hasCarriage : CS mX7_hasCarriage 1 := ⟨inT (i := 446) (by decide +kernel) rfl, inT (i := 2) (by decide +kernel) rfl, ⟨by decide +kernel, by decide +kernel, by decide +kernel⟩, by decide⟩
theorem v_X7_hasCarriage : Cond.instanceMethod yX7_hasCarriage ∈ lG ∧ Cond.selects yX7_hasCarriage.cls yX7_hasCarriage yX7_hasCarriage ∈ lG := ⟨inT (i := 444) (by decide +kernel) rfl, inT (i := 445) (by decide +kernel) rfl⟩
theorem c_X7_hasPlace : CS mX7_hasPlace 1 := ⟨inT (i := 450) (by decide +kernel) rfl, inT (i := 2) (by decide +kernel) rfl, ⟨by decide +kernel, by decide +kernel, by decide +kernel⟩, by decide⟩
theorem v_X7_hasPlace : Cond.instanceMethod yX7_hasPlace ∈ lG ∧ Cond.selects yX7_hasPlace.cls yX7_hasPlace yX7_hasPlace ∈ lG := ⟨inT (i := 448) (by decide +kernel) rfl, inT (i := 449) (by decide +kernel) rfl⟩
theorem c_X7_addCarriage : CS mX7_addCarriage 3 := ⟨inT (i := 414) (by decide +kernel) rfl, inT (i := 2) (by decide +kernel) rfl, ⟨by decide +kernel, by decide +kernel, by decide +kernel⟩, by decide⟩
theorem v_X7_addCarriage : Cond.instanceMethod yX7_addCarriage ∈ lG ∧ Cond.selects yX7_addCarriage.cls yX7_addCarriage yX7_addCarriage ∈ lG := ⟨inT (i := 412) (by decide +kernel) rfl, inT (i := 413) (by decide +kernel) rfl⟩
theorem c_X7_addPlace : CS mX7_addPlace 1 := ⟨inT (i := 434) (by decide +kernel) rfl, inT (i := 2) (by decide +kernel) rfl, ⟨by decide +kernel, by decide +kernel, by decide +kernel⟩, by decide⟩
theorem v_X7_addPlace : Cond.instanceMethod yX7_addPlace ∈ lG ∧ Cond.selects yX7_addPlace.cls yX7_addPlace yX7_addPlace ∈ lG := ⟨inT (i := 432) (by decide +kernel) rfl, inT (i := 433) (by decide +kernel) rfl⟩
theorem c_X7_has : CS mX7_has 2 := ⟨inT (i := 442) (by decide +kernel) rfl, inT (i := 2) (by decide +kernel) rfl, ⟨by decide +kernel, by decide +kernel, by decide +kernel⟩, by decide⟩
theorem v_X7_has : Cond.instanceMethod yX7_has ∈ lG ∧ Cond.selects yX7_has.cls yX7_has yX7_has ∈ lG := ⟨inT (i := 440) (by decide +kernel) rfl, inT (i := 441) (by decide +kernel) rfl⟩
theorem c_X7_read : CS mX7_read 2 := ⟨inT (i := 455) (by decide +kernel) rfl, inT (i := 2) (by decide +kernel) rfl, ⟨by decide +kernel, by decide +kernel, by decide +kernel⟩, by decide⟩
theorem v_X7_read : Cond.instanceMethod yX7_read ∈ lG ∧ Cond.selects yX7_read.cls yX7_read yX7_read ∈ lG := ⟨inT (i := 453) (by decide +kernel) rfl, inT (i := 454) (by decide +kernel) rfl⟩
theorem c_X7_write : CS mX7_write 3 := ⟨inT (i := 466) (by decide +kernel) rfl, inT (i := 2) (by decide +kernel) rfl, ⟨by decide +kernel, by decide +kernel, by decide +kernel⟩, by decide⟩
theorem v_X7_write : Cond.instanceMethod yX7_write ∈ lG ∧ Cond.selects yX7_write.cls yX7_write yX7_write ∈ lG := ⟨inT (i := 464) (by decide +kernel) rfl, inT (i := 465) (by decide +kernel) rfl⟩
theorem c_X7_placesNear : CS mX7_placesNear 1 := ⟨inT (i := 651) (by decide +kernel) rfl, inT (i := 2) (by decide +kernel) rfl, ⟨by decide +kernel, by decide +kernel, by decide +kernel⟩, by decide⟩
theorem v_X7_placesNear : Cond.instanceMethod yX7_placesNear ∈ lG ∧ Cond.selects yX7_placesNear.cls yX7_placesNear yX7_placesNear ∈ lG := ⟨inT (i := 649) (by decide +kernel) rfl, inT (i := 650) (by decide +kernel) rfl⟩
theorem c_X7_worthOf : CS mX7_worthOf 1 := ⟨inT (i := 660) (by decide +kernel) rfl, inT (i := 2) (by decide +kernel) rfl, ⟨by decide +kernel, by decide +kernel, by decide +kernel⟩, by decide⟩
theorem v_X7_worthOf : Cond.instanceMethod yX7_worthOf ∈ lG ∧ Cond.selects yX7_worthOf.cls yX7_worthOf yX7_worthOf ∈ lG := ⟨inT (i := 658) (by decide +kernel) rfl, inT (i := 659) (by decide +kernel) rfl⟩
theorem c_X8_init : CS mX8_init 0 := ⟨inT (i := 101) (by decide +kernel) rfl, inT (i := 3) (by decide +kernel) rfl, ⟨by decide +kernel, by decide +kernel, by decide +kernel⟩, by decide⟩
theorem n_X8_init : Cond.instanceMethod yX8_init ∈ lG := inT (i := 100) (by decide +kernel) rfl
theorem c_X8_become : CS mX8_become 1 := ⟨inT (i := 536) (by decide +kernel) rfl, inT (i := 3) (by decide +kernel) rfl, ⟨by decide +kernel, by decide +kernel, by decide +kernel⟩, by decide⟩
theorem v_X8_become : Cond.instanceMethod yX8_become ∈ lG ∧ Cond.selects yX8_become.cls yX8_become yX8_become ∈ lG := ⟨inT (i := 534) (by decide +kernel) rfl, inT (i := 535) (by decide +kernel) rfl⟩
theorem c_X8_gives : CS mX8_gives 6 := ⟨inT (i := 560) (by decide +kernel) rfl, inT (i := 3) (by decide +kernel) rfl, ⟨by decide +kernel, by decide +kernel, by decide +kernel⟩, by decide⟩
theorem v_X8_gives : Cond.instanceMethod yX8_gives ∈ lG ∧ Cond.selects yX8_gives.cls yX8_gives yX8_gives ∈ lG := ⟨inT (i := 558) (by decide +kernel) rfl, inT (i := 559) (by decide +kernel) rfl⟩
theorem c_X8_valueAt : CS mX8_valueAt 1 := ⟨inT (i := 564) (by decide +kernel) rfl, inT (i := 3) (by decide +kernel) rfl, ⟨by decide +kernel, by decide +kernel, by decide +kernel⟩, by decide⟩
theorem v_X8_valueAt : Cond.instanceMethod yX8_valueAt ∈ lG ∧ Cond.selects yX8_valueAt.cls yX8_valueAt yX8_valueAt ∈ lG := ⟨inT (i := 563) (by decide +kernel) rfl, inP (i := 11) (by decide +kernel) rfl⟩
theorem c_X8_work : CS mX8_work 2 := ⟨inT (i := 569) (by decide +kernel) rfl, inT (i := 3) (by decide +kernel) rfl, ⟨by decide +kernel, by decide +kernel, by decide +kernel⟩, by decide⟩
theorem v_X8_work : Cond.instanceMethod yX8_work ∈ lG ∧ Cond.selects yX8_work.cls yX8_work yX8_work ∈ lG := ⟨inT (i := 568) (by decide +kernel) rfl, inP (i := 12) (by decide +kernel) rfl⟩
theorem c_X8_isName : CS mX8_isName 1 := ⟨inT (i := 509) (by decide +kernel) rfl, inT (i := 3) (by decide +kernel) rfl, ⟨by decide +kernel, by decide +kernel, by decide +kernel⟩, by decide⟩
theorem t_X8_isName : Cond.static yX8_isName ∈ lG := inT (i := 508) (by decide +kernel) rfl
theorem c_X8_named : CS mX8_named 1 := ⟨inT (i := 574) (by decide +kernel) rfl, inT (i := 3) (by decide +kernel) rfl, ⟨by decide +kernel, by decide +kernel, by decide +kernel⟩, by decide⟩
theorem v_X8_named : Cond.instanceMethod yX8_named ∈ lG ∧ Cond.selects yX8_named.cls yX8_named yX8_named ∈ lG := ⟨inT (i := 573) (by decide +kernel) rfl, inP (i := 13) (by decide +kernel) rfl⟩
theorem c_X8_joined : CS mX8_joined 3 := ⟨inT (i := 577) (by decide +kernel) rfl, inT (i := 3) (by decide +kernel) rfl, ⟨by decide +kernel, by decide +kernel, by decide +kernel⟩, by decide⟩
theorem t_X8_joined : Cond.static yX8_joined ∈ lG := inT (i := 576) (by decide +kernel) rfl
theorem c_X9_init : CS mX9_init 0 := ⟨inT (i := 135) (by decide +kernel) rfl, inT (i := 4) (by decide +kernel) rfl, ⟨by decide +kernel, by decide +kernel, by decide +kernel⟩, by decide⟩
theorem n_X9_init : Cond.instanceMethod yX9_init ∈ lG := inT (i := 134) (by decide +kernel) rfl
theorem c_X9_faultOf : CS mX9_faultOf 2 := ⟨inT (i := 482) (by decide +kernel) rfl, inT (i := 4) (by decide +kernel) rfl, ⟨by decide +kernel, by decide +kernel, by decide +kernel⟩, by decide⟩
theorem v_X9_faultOf : Cond.instanceMethod yX9_faultOf ∈ lG ∧ Cond.selects yX9_faultOf.cls yX9_faultOf yX9_faultOf ∈ lG := ⟨inT (i := 480) (by decide +kernel) rfl, inT (i := 481) (by decide +kernel) rfl⟩
theorem c_X9_operand : CS mX9_operand 3 := ⟨inT (i := 486) (by decide +kernel) rfl, inT (i := 4) (by decide +kernel) rfl, ⟨by decide +kernel, by decide +kernel, by decide +kernel⟩, by decide⟩
theorem v_X9_operand : Cond.instanceMethod yX9_operand ∈ lG ∧ Cond.selects yX9_operand.cls yX9_operand yX9_operand ∈ lG := ⟨inT (i := 485) (by decide +kernel) rfl, inP (i := 1) (by decide +kernel) rfl⟩
theorem c_X9_number : CS mX9_number 3 := ⟨inT (i := 493) (by decide +kernel) rfl, inT (i := 4) (by decide +kernel) rfl, ⟨by decide +kernel, by decide +kernel, by decide +kernel⟩, by decide⟩
theorem v_X9_number : Cond.instanceMethod yX9_number ∈ lG ∧ Cond.selects yX9_number.cls yX9_number yX9_number ∈ lG := ⟨inT (i := 492) (by decide +kernel) rfl, inP (i := 2) (by decide +kernel) rfl⟩
theorem c_X9_sign : CS mX9_sign 1 := ⟨inT (i := 517) (by decide +kernel) rfl, inT (i := 4) (by decide +kernel) rfl, ⟨by decide +kernel, by decide +kernel, by decide +kernel⟩, by decide⟩
theorem v_X9_sign : Cond.instanceMethod yX9_sign ∈ lG ∧ Cond.selects yX9_sign.cls yX9_sign yX9_sign ∈ lG := ⟨inT (i := 516) (by decide +kernel) rfl, inP (i := 7) (by decide +kernel) rfl⟩
theorem c_X9_closeBracket : CS mX9_closeBracket 0 := ⟨inT (i := 521) (by decide +kernel) rfl, inT (i := 4) (by decide +kernel) rfl, ⟨by decide +kernel, by decide +kernel, by decide +kernel⟩, by decide⟩
theorem v_X9_closeBracket : Cond.instanceMethod yX9_closeBracket ∈ lG ∧ Cond.selects yX9_closeBracket.cls yX9_closeBracket yX9_closeBracket ∈ lG := ⟨inT (i := 520) (by decide +kernel) rfl, inP (i := 8) (by decide +kernel) rfl⟩
theorem c_X9_endPart : CS mX9_endPart 1 := ⟨inT (i := 532) (by decide +kernel) rfl, inT (i := 4) (by decide +kernel) rfl, ⟨by decide +kernel, by decide +kernel, by decide +kernel⟩, by decide⟩
theorem v_X9_endPart : Cond.instanceMethod yX9_endPart ∈ lG ∧ Cond.selects yX9_endPart.cls yX9_endPart yX9_endPart ∈ lG := ⟨inT (i := 531) (by decide +kernel) rfl, inP (i := 10) (by decide +kernel) rfl⟩
theorem c_X9_endOperand : CS mX9_endOperand 0 := ⟨inT (i := 501) (by decide +kernel) rfl, inT (i := 4) (by decide +kernel) rfl, ⟨by decide +kernel, by decide +kernel, by decide +kernel⟩, by decide⟩
theorem v_X9_endOperand : Cond.instanceMethod yX9_endOperand ∈ lG ∧ Cond.selects yX9_endOperand.cls yX9_endOperand yX9_endOperand ∈ lG := ⟨inT (i := 500) (by decide +kernel) rfl, inP (i := 4) (by decide +kernel) rfl⟩
theorem c_X9_writeWaiting : CS mX9_writeWaiting 1 := ⟨inT (i := 525) (by decide +kernel) rfl, inT (i := 4) (by decide +kernel) rfl, ⟨by decide +kernel, by decide +kernel, by decide +kernel⟩, by decide⟩
theorem v_X9_writeWaiting : Cond.instanceMethod yX9_writeWaiting ∈ lG ∧ Cond.selects yX9_writeWaiting.cls yX9_writeWaiting yX9_writeWaiting ∈ lG := ⟨inT (i := 524) (by decide +kernel) rfl, inP (i := 9) (by decide +kernel) rfl⟩
theorem c_X9_lastWaiting : CS mX9_lastWaiting 0 := ⟨inT (i := 505) (by decide +kernel) rfl, inT (i := 4) (by decide +kernel) rfl, ⟨by decide +kernel, by decide +kernel, by decide +kernel⟩, by decide⟩
theorem v_X9_lastWaiting : Cond.instanceMethod yX9_lastWaiting ∈ lG ∧ Cond.selects yX9_lastWaiting.cls yX9_lastWaiting yX9_lastWaiting ∈ lG := ⟨inT (i := 504) (by decide +kernel) rfl, inP (i := 5) (by decide +kernel) rfl⟩
theorem c_X9_await : CS mX9_await 1 := ⟨inT (i := 513) (by decide +kernel) rfl, inT (i := 4) (by decide +kernel) rfl, ⟨by decide +kernel, by decide +kernel, by decide +kernel⟩, by decide⟩
theorem v_X9_await : Cond.instanceMethod yX9_await ∈ lG ∧ Cond.selects yX9_await.cls yX9_await yX9_await ∈ lG := ⟨inT (i := 512) (by decide +kernel) rfl, inP (i := 6) (by decide +kernel) rfl⟩
theorem c_X9_write : CS mX9_write 1 := ⟨inT (i := 497) (by decide +kernel) rfl, inT (i := 4) (by decide +kernel) rfl, ⟨by decide +kernel, by decide +kernel, by decide +kernel⟩, by decide⟩
theorem v_X9_write : Cond.instanceMethod yX9_write ∈ lG ∧ Cond.selects yX9_write.cls yX9_write yX9_write ∈ lG := ⟨inT (i := 496) (by decide +kernel) rfl, inP (i := 3) (by decide +kernel) rfl⟩
theorem c_X9_isDigit : CS mX9_isDigit 1 := ⟨inT (i := 489) (by decide +kernel) rfl, inT (i := 4) (by decide +kernel) rfl, ⟨by decide +kernel, by decide +kernel, by decide +kernel⟩, by decide⟩
theorem t_X9_isDigit : Cond.static yX9_isDigit ∈ lG := inT (i := 488) (by decide +kernel) rfl
theorem c_X9_rankOf : CS mX9_rankOf 1 := ⟨inT (i := 528) (by decide +kernel) rfl, inT (i := 4) (by decide +kernel) rfl, ⟨by decide +kernel, by decide +kernel, by decide +kernel⟩, by decide⟩
theorem t_X9_rankOf : Cond.static yX9_rankOf ∈ lG := inT (i := 527) (by decide +kernel) rfl
theorem c_X10_init : CS mX10_init 0 := ⟨inT (i := 311) (by decide +kernel) rfl, inT (i := 11) (by decide +kernel) rfl, ⟨by decide +kernel, by decide +kernel, by decide +kernel⟩, by decide⟩
theorem n_X10_init : Cond.instanceMethod yX10_init ∈ lG := inT (i := 310) (by decide +kernel) rfl
theorem c_X10_clear : CS mX10_clear 0 := ⟨inT (i := 1033) (by decide +kernel) rfl, inT (i := 11) (by decide +kernel) rfl, ⟨by decide +kernel, by decide +kernel, by decide +kernel⟩, by decide⟩
theorem v_X10_clear : Cond.instanceMethod yX10_clear ∈ lG ∧ Cond.selects yX10_clear.cls yX10_clear yX10_clear ∈ lG := ⟨inT (i := 1031) (by decide +kernel) rfl, inT (i := 1032) (by decide +kernel) rfl⟩
theorem c_X10_holdBody : CS mX10_holdBody 1 := ⟨inT (i := 1037) (by decide +kernel) rfl, inT (i := 11) (by decide +kernel) rfl, ⟨by decide +kernel, by decide +kernel, by decide +kernel⟩, by decide⟩
theorem v_X10_holdBody : Cond.instanceMethod yX10_holdBody ∈ lG ∧ Cond.selects yX10_holdBody.cls yX10_holdBody yX10_holdBody ∈ lG := ⟨inT (i := 1035) (by decide +kernel) rfl, inT (i := 1036) (by decide +kernel) rfl⟩
theorem c_X10_holdRow : CS mX10_holdRow 2 := ⟨inT (i := 1045) (by decide +kernel) rfl, inT (i := 11) (by decide +kernel) rfl, ⟨by decide +kernel, by decide +kernel, by decide +kernel⟩, by decide⟩
theorem v_X10_holdRow : Cond.instanceMethod yX10_holdRow ∈ lG ∧ Cond.selects yX10_holdRow.cls yX10_holdRow yX10_holdRow ∈ lG := ⟨inT (i := 1043) (by decide +kernel) rfl, inT (i := 1044) (by decide +kernel) rfl⟩
theorem c_X10_store : CS mX10_store 2 := ⟨inT (i := 1060) (by decide +kernel) rfl, inT (i := 11) (by decide +kernel) rfl, ⟨by decide +kernel, by decide +kernel, by decide +kernel⟩, by decide⟩
theorem v_X10_store : Cond.instanceMethod yX10_store ∈ lG ∧ Cond.selects yX10_store.cls yX10_store yX10_store ∈ lG := ⟨inT (i := 1058) (by decide +kernel) rfl, inT (i := 1059) (by decide +kernel) rfl⟩
theorem c_X10_hasRange : CS mX10_hasRange 2 := ⟨inT (i := 1072) (by decide +kernel) rfl, inT (i := 11) (by decide +kernel) rfl, ⟨by decide +kernel, by decide +kernel, by decide +kernel⟩, by decide⟩
theorem v_X10_hasRange : Cond.instanceMethod yX10_hasRange ∈ lG ∧ Cond.selects yX10_hasRange.cls yX10_hasRange yX10_hasRange ∈ lG := ⟨inT (i := 1070) (by decide +kernel) rfl, inT (i := 1071) (by decide +kernel) rfl⟩
theorem c_X10_refusalAsBytes : CS mX10_refusalAsBytes 0 := ⟨inT (i := 754) (by decide +kernel) rfl, inT (i := 11) (by decide +kernel) rfl, ⟨by decide +kernel, by decide +kernel, by decide +kernel⟩, by decide⟩
theorem v_X10_refusalAsBytes : Cond.instanceMethod yX10_refusalAsBytes ∈ lG ∧ Cond.selects yX10_refusalAsBytes.cls yX10_refusalAsBytes yX10_refusalAsBytes ∈ lG := ⟨inT (i := 752) (by decide +kernel) rfl, inT (i := 753) (by decide +kernel) rfl⟩
theorem c_X11_init : CS mX11_init 0 := ⟨inT (i := 22) (by decide +kernel) rfl, inT (i := 1) (by decide +kernel) rfl, ⟨by decide +kernel, by decide +kernel, by decide +kernel⟩, by decide⟩
theorem n_X11_init : Cond.instanceMethod yX11_init ∈ lG := inT (i := 21) (by decide +kernel) rfl
theorem c_X11_carriage : CS mX11_carriage 2 := ⟨inT (i := 400) (by decide +kernel) rfl, inT (i := 1) (by decide +kernel) rfl, ⟨by decide +kernel, by decide +kernel, by decide +kernel⟩, by decide⟩
theorem v_X11_carriage : Cond.instanceMethod yX11_carriage ∈ lG ∧ Cond.selects yX11_carriage.cls yX11_carriage yX11_carriage ∈ lG := ⟨inT (i := 398) (by decide +kernel) rfl, inT (i := 399) (by decide +kernel) rfl⟩
theorem c_X11_carriages : CS mX11_carriages 3 := ⟨inT (i := 418) (by decide +kernel) rfl, inT (i := 1) (by decide +kernel) rfl, ⟨by decide +kernel, by decide +kernel, by decide +kernel⟩, by decide⟩
theorem v_X11_carriages : Cond.instanceMethod yX11_carriages ∈ lG ∧ Cond.selects yX11_carriages.cls yX11_carriages yX11_carriages ∈ lG := ⟨inT (i := 416) (by decide +kernel) rfl, inT (i := 417) (by decide +kernel) rfl⟩
theorem c_X11_place : CS mX11_place 1 := ⟨inT (i := 430) (by decide +kernel) rfl, inT (i := 1) (by decide +kernel) rfl, ⟨by decide +kernel, by decide +kernel, by decide +kernel⟩, by decide⟩
theorem v_X11_place : Cond.instanceMethod yX11_place ∈ lG ∧ Cond.selects yX11_place.cls yX11_place yX11_place ∈ lG := ⟨inT (i := 428) (by decide +kernel) rfl, inT (i := 429) (by decide +kernel) rfl⟩
theorem c_X11_mend : CS mX11_mend 3 := ⟨inT (i := 438) (by decide +kernel) rfl, inT (i := 1) (by decide +kernel) rfl, ⟨by decide +kernel, by decide +kernel, by decide +kernel⟩, by decide⟩
theorem v_X11_mend : Cond.instanceMethod yX11_mend ∈ lG ∧ Cond.selects yX11_mend.cls yX11_mend yX11_mend ∈ lG := ⟨inT (i := 436) (by decide +kernel) rfl, inT (i := 437) (by decide +kernel) rfl⟩
theorem c_X11_of : CS mX11_of 2 := ⟨inT (i := 470) (by decide +kernel) rfl, inT (i := 1) (by decide +kernel) rfl, ⟨by decide +kernel, by decide +kernel, by decide +kernel⟩, by decide⟩
theorem v_X11_of : Cond.instanceMethod yX11_of ∈ lG ∧ Cond.selects yX11_of.cls yX11_of yX11_of ∈ lG := ⟨inT (i := 468) (by decide +kernel) rfl, inT (i := 469) (by decide +kernel) rfl⟩
theorem c_X11_feed : CS mX11_feed 1 := ⟨inT (i := 474) (by decide +kernel) rfl, inT (i := 1) (by decide +kernel) rfl, ⟨by decide +kernel, by decide +kernel, by decide +kernel⟩, by decide⟩
theorem v_X11_feed : Cond.instanceMethod yX11_feed ∈ lG ∧ Cond.selects yX11_feed.cls yX11_feed yX11_feed ∈ lG := ⟨inT (i := 472) (by decide +kernel) rfl, inT (i := 473) (by decide +kernel) rfl⟩
theorem c_X11_law : CS mX11_law 0 := ⟨inT (i := 478) (by decide +kernel) rfl, inT (i := 1) (by decide +kernel) rfl, ⟨by decide +kernel, by decide +kernel, by decide +kernel⟩, by decide⟩
theorem v_X11_law : Cond.instanceMethod yX11_law ∈ lG ∧ Cond.selects yX11_law.cls yX11_law yX11_law ∈ lG := ⟨inT (i := 476) (by decide +kernel) rfl, inT (i := 477) (by decide +kernel) rfl⟩
theorem c_X11_turn : CS mX11_turn 1 := ⟨inT (i := 541) (by decide +kernel) rfl, inT (i := 1) (by decide +kernel) rfl, ⟨by decide +kernel, by decide +kernel, by decide +kernel⟩, by decide⟩
theorem v_X11_turn : Cond.instanceMethod yX11_turn ∈ lG ∧ Cond.selects yX11_turn.cls yX11_turn yX11_turn ∈ lG := ⟨inT (i := 539) (by decide +kernel) rfl, inT (i := 540) (by decide +kernel) rfl⟩
theorem c_X11_later : CS mX11_later 3 := ⟨inT (i := 583) (by decide +kernel) rfl, inT (i := 1) (by decide +kernel) rfl, ⟨by decide +kernel, by decide +kernel, by decide +kernel⟩, by decide⟩
theorem v_X11_later : Cond.instanceMethod yX11_later ∈ lG ∧ Cond.selects yX11_later.cls yX11_later yX11_later ∈ lG := ⟨inT (i := 581) (by decide +kernel) rfl, inT (i := 582) (by decide +kernel) rfl⟩
theorem c_X11_nears : CS mX11_nears 3 := ⟨inT (i := 621) (by decide +kernel) rfl, inT (i := 1) (by decide +kernel) rfl, ⟨by decide +kernel, by decide +kernel, by decide +kernel⟩, by decide⟩
theorem v_X11_nears : Cond.instanceMethod yX11_nears ∈ lG ∧ Cond.selects yX11_nears.cls yX11_nears yX11_nears ∈ lG := ⟨inT (i := 619) (by decide +kernel) rfl, inT (i := 620) (by decide +kernel) rfl⟩
theorem c_X11_passes : CS mX11_passes 3 := ⟨inT (i := 643) (by decide +kernel) rfl, inT (i := 1) (by decide +kernel) rfl, ⟨by decide +kernel, by decide +kernel, by decide +kernel⟩, by decide⟩
theorem v_X11_passes : Cond.instanceMethod yX11_passes ∈ lG ∧ Cond.selects yX11_passes.cls yX11_passes yX11_passes ∈ lG := ⟨inT (i := 641) (by decide +kernel) rfl, inT (i := 642) (by decide +kernel) rfl⟩
theorem c_X11_meet : CS mX11_meet 1 := ⟨inT (i := 664) (by decide +kernel) rfl, inT (i := 1) (by decide +kernel) rfl, ⟨by decide +kernel, by decide +kernel, by decide +kernel⟩, by decide⟩
theorem v_X11_meet : Cond.instanceMethod yX11_meet ∈ lG ∧ Cond.selects yX11_meet.cls yX11_meet yX11_meet ∈ lG := ⟨inT (i := 662) (by decide +kernel) rfl, inT (i := 663) (by decide +kernel) rfl⟩
theorem c_X11_often : CS mX11_often 2 := ⟨inT (i := 681) (by decide +kernel) rfl, inT (i := 1) (by decide +kernel) rfl, ⟨by decide +kernel, by decide +kernel, by decide +kernel⟩, by decide⟩
theorem v_X11_often : Cond.instanceMethod yX11_often ∈ lG ∧ Cond.selects yX11_often.cls yX11_often yX11_often ∈ lG := ⟨inT (i := 679) (by decide +kernel) rfl, inT (i := 680) (by decide +kernel) rfl⟩
theorem c_X11_who : CS mX11_who 2 := ⟨inT (i := 689) (by decide +kernel) rfl, inT (i := 1) (by decide +kernel) rfl, ⟨by decide +kernel, by decide +kernel, by decide +kernel⟩, by decide⟩
theorem v_X11_who : Cond.instanceMethod yX11_who ∈ lG ∧ Cond.selects yX11_who.cls yX11_who yX11_who ∈ lG := ⟨inT (i := 687) (by decide +kernel) rfl, inT (i := 688) (by decide +kernel) rfl⟩
theorem c_X11_soonest : CS mX11_soonest 2 := ⟨inT (i := 701) (by decide +kernel) rfl, inT (i := 1) (by decide +kernel) rfl, ⟨by decide +kernel, by decide +kernel, by decide +kernel⟩, by decide⟩
theorem v_X11_soonest : Cond.instanceMethod yX11_soonest ∈ lG ∧ Cond.selects yX11_soonest.cls yX11_soonest yX11_soonest ∈ lG := ⟨inT (i := 699) (by decide +kernel) rfl, inT (i := 700) (by decide +kernel) rfl⟩
theorem c_X11_buy : CS mX11_buy 3 := ⟨inT (i := 718) (by decide +kernel) rfl, inT (i := 1) (by decide +kernel) rfl, ⟨by decide +kernel, by decide +kernel, by decide +kernel⟩, by decide⟩
theorem v_X11_buy : Cond.instanceMethod yX11_buy ∈ lG ∧ Cond.selects yX11_buy.cls yX11_buy yX11_buy ∈ lG := ⟨inT (i := 716) (by decide +kernel) rfl, inT (i := 717) (by decide +kernel) rfl⟩
theorem c_X11_judge : CS mX11_judge 2 := ⟨inT (i := 750) (by decide +kernel) rfl, inT (i := 1) (by decide +kernel) rfl, ⟨by decide +kernel, by decide +kernel, by decide +kernel⟩, by decide⟩
theorem v_X11_judge : Cond.instanceMethod yX11_judge ∈ lG ∧ Cond.selects yX11_judge.cls yX11_judge yX11_judge ∈ lG := ⟨inT (i := 748) (by decide +kernel) rfl, inT (i := 749) (by decide +kernel) rfl⟩
theorem c_X11_dined : CS mX11_dined 3 := ⟨inT (i := 784) (by decide +kernel) rfl, inT (i := 1) (by decide +kernel) rfl, ⟨by decide +kernel, by decide +kernel, by decide +kernel⟩, by decide⟩
theorem v_X11_dined : Cond.instanceMethod yX11_dined ∈ lG ∧ Cond.selects yX11_dined.cls yX11_dined yX11_dined ∈ lG := ⟨inT (i := 782) (by decide +kernel) rfl, inT (i := 783) (by decide +kernel) rfl⟩
theorem c_X11_reins : CS mX11_reins 3 := ⟨inT (i := 800) (by decide +kernel) rfl, inT (i := 1) (by decide +kernel) rfl, ⟨by decide +kernel, by decide +kernel, by decide +kernel⟩, by decide⟩
theorem v_X11_reins : Cond.instanceMethod yX11_reins ∈ lG ∧ Cond.selects yX11_reins.cls yX11_reins yX11_reins ∈ lG := ⟨inT (i := 798) (by decide +kernel) rfl, inT (i := 799) (by decide +kernel) rfl⟩
theorem c_X11_chance : CS mX11_chance 4 := ⟨inT (i := 835) (by decide +kernel) rfl, inT (i := 1) (by decide +kernel) rfl, ⟨by decide +kernel, by decide +kernel, by decide +kernel⟩, by decide⟩
theorem v_X11_chance : Cond.instanceMethod yX11_chance ∈ lG ∧ Cond.selects yX11_chance.cls yX11_chance yX11_chance ∈ lG := ⟨inT (i := 833) (by decide +kernel) rfl, inT (i := 834) (by decide +kernel) rfl⟩
theorem c_X11_mean : CS mX11_mean 4 := ⟨inT (i := 856) (by decide +kernel) rfl, inT (i := 1) (by decide +kernel) rfl, ⟨by decide +kernel, by decide +kernel, by decide +kernel⟩, by decide⟩
theorem v_X11_mean : Cond.instanceMethod yX11_mean ∈ lG ∧ Cond.selects yX11_mean.cls yX11_mean yX11_mean ∈ lG := ⟨inT (i := 854) (by decide +kernel) rfl, inT (i := 855) (by decide +kernel) rfl⟩
theorem c_X11_byTurns : CS mX11_byTurns 3 := ⟨inT (i := 860) (by decide +kernel) rfl, inT (i := 1) (by decide +kernel) rfl, ⟨by decide +kernel, by decide +kernel, by decide +kernel⟩, by decide⟩
theorem v_X11_byTurns : Cond.instanceMethod yX11_byTurns ∈ lG ∧ Cond.selects yX11_byTurns.cls yX11_byTurns yX11_byTurns ∈ lG := ⟨inT (i := 858) (by decide +kernel) rfl, inT (i := 859) (by decide +kernel) rfl⟩
theorem c_X11_drawn : CS mX11_drawn 3 := ⟨inT (i := 872) (by decide +kernel) rfl, inT (i := 1) (by decide +kernel) rfl, ⟨by decide +kernel, by decide +kernel, by decide +kernel⟩, by decide⟩
theorem v_X11_drawn : Cond.instanceMethod yX11_drawn ∈ lG ∧ Cond.selects yX11_drawn.cls yX11_drawn yX11_drawn ∈ lG := ⟨inT (i := 870) (by decide +kernel) rfl, inT (i := 871) (by decide +kernel) rfl⟩
theorem c_X11_hour : CS mX11_hour 0 := ⟨inT (i := 895) (by decide +kernel) rfl, inT (i := 1) (by decide +kernel) rfl, ⟨by decide +kernel, by decide +kernel, by decide +kernel⟩, by decide⟩
theorem v_X11_hour : Cond.instanceMethod yX11_hour ∈ lG ∧ Cond.selects yX11_hour.cls yX11_hour yX11_hour ∈ lG := ⟨inT (i := 893) (by decide +kernel) rfl, inT (i := 894) (by decide +kernel) rfl⟩
theorem c_X11_rein : CS mX11_rein 2 := ⟨inT (i := 910) (by decide +kernel) rfl, inT (i := 1) (by decide +kernel) rfl, ⟨by decide +kernel, by decide +kernel, by decide +kernel⟩, by decide⟩
theorem v_X11_rein : Cond.instanceMethod yX11_rein ∈ lG ∧ Cond.selects yX11_rein.cls yX11_rein yX11_rein ∈ lG := ⟨inT (i := 908) (by decide +kernel) rfl, inT (i := 909) (by decide +kernel) rfl⟩
theorem c_X11_shoe : CS mX11_shoe 1 := ⟨inT (i := 918) (by decide +kernel) rfl, inT (i := 1) (by decide +kernel) rfl, ⟨by decide +kernel, by decide +kernel, by decide +kernel⟩, by decide⟩
theorem v_X11_shoe : Cond.instanceMethod yX11_shoe ∈ lG ∧ Cond.selects yX11_shoe.cls yX11_shoe yX11_shoe ∈ lG := ⟨inT (i := 916) (by decide +kernel) rfl, inT (i := 917) (by decide +kernel) rfl⟩
theorem c_X11_buys : CS mX11_buys 1 := ⟨inT (i := 926) (by decide +kernel) rfl, inT (i := 1) (by decide +kernel) rfl, ⟨by decide +kernel, by decide +kernel, by decide +kernel⟩, by decide⟩
theorem v_X11_buys : Cond.instanceMethod yX11_buys ∈ lG ∧ Cond.selects yX11_buys.cls yX11_buys yX11_buys ∈ lG := ⟨inT (i := 924) (by decide +kernel) rfl, inT (i := 925) (by decide +kernel) rfl⟩
theorem c_X11_led : CS mX11_led 1 := ⟨inT (i := 930) (by decide +kernel) rfl, inT (i := 1) (by decide +kernel) rfl, ⟨by decide +kernel, by decide +kernel, by decide +kernel⟩, by decide⟩
theorem v_X11_led : Cond.instanceMethod yX11_led ∈ lG ∧ Cond.selects yX11_led.cls yX11_led yX11_led ∈ lG := ⟨inT (i := 928) (by decide +kernel) rfl, inT (i := 929) (by decide +kernel) rfl⟩
theorem c_X11_image : CS mX11_image 0 := ⟨inT (i := 934) (by decide +kernel) rfl, inT (i := 1) (by decide +kernel) rfl, ⟨by decide +kernel, by decide +kernel, by decide +kernel⟩, by decide⟩
theorem v_X11_image : Cond.instanceMethod yX11_image ∈ lG ∧ Cond.selects yX11_image.cls yX11_image yX11_image ∈ lG := ⟨inT (i := 932) (by decide +kernel) rfl, inT (i := 933) (by decide +kernel) rfl⟩
theorem c_X11_back : CS mX11_back 0 := ⟨inT (i := 943) (by decide +kernel) rfl, inT (i := 1) (by decide +kernel) rfl, ⟨by decide +kernel, by decide +kernel, by decide +kernel⟩, by decide⟩
theorem v_X11_back : Cond.instanceMethod yX11_back ∈ lG ∧ Cond.selects yX11_back.cls yX11_back yX11_back ∈ lG := ⟨inT (i := 941) (by decide +kernel) rfl, inT (i := 942) (by decide +kernel) rfl⟩
theorem c_X11_undo : CS mX11_undo 0 := ⟨inT (i := 951) (by decide +kernel) rfl, inT (i := 1) (by decide +kernel) rfl, ⟨by decide +kernel, by decide +kernel, by decide +kernel⟩, by decide⟩
theorem v_X11_undo : Cond.instanceMethod yX11_undo ∈ lG ∧ Cond.selects yX11_undo.cls yX11_undo yX11_undo ∈ lG := ⟨inT (i := 949) (by decide +kernel) rfl, inT (i := 950) (by decide +kernel) rfl⟩
theorem c_X11_redo : CS mX11_redo 0 := ⟨inT (i := 960) (by decide +kernel) rfl, inT (i := 1) (by decide +kernel) rfl, ⟨by decide +kernel, by decide +kernel, by decide +kernel⟩, by decide⟩
theorem v_X11_redo : Cond.instanceMethod yX11_redo ∈ lG ∧ Cond.selects yX11_redo.cls yX11_redo yX11_redo ∈ lG := ⟨inT (i := 958) (by decide +kernel) rfl, inT (i := 959) (by decide +kernel) rfl⟩
theorem c_X11_body : CS mX11_body 1 := ⟨inT (i := 968) (by decide +kernel) rfl, inT (i := 1) (by decide +kernel) rfl, ⟨by decide +kernel, by decide +kernel, by decide +kernel⟩, by decide⟩
theorem v_X11_body : Cond.instanceMethod yX11_body ∈ lG ∧ Cond.selects yX11_body.cls yX11_body yX11_body ∈ lG := ⟨inT (i := 966) (by decide +kernel) rfl, inT (i := 967) (by decide +kernel) rfl⟩
theorem c_X11_act : CS mX11_act 3 := ⟨inT (i := 976) (by decide +kernel) rfl, inT (i := 1) (by decide +kernel) rfl, ⟨by decide +kernel, by decide +kernel, by decide +kernel⟩, by decide⟩
theorem v_X11_act : Cond.instanceMethod yX11_act ∈ lG ∧ Cond.selects yX11_act.cls yX11_act yX11_act ∈ lG := ⟨inT (i := 974) (by decide +kernel) rfl, inT (i := 975) (by decide +kernel) rfl⟩
theorem c_X11_trace : CS mX11_trace 1 := ⟨inT (i := 1021) (by decide +kernel) rfl, inT (i := 1) (by decide +kernel) rfl, ⟨by decide +kernel, by decide +kernel, by decide +kernel⟩, by decide⟩
theorem v_X11_trace : Cond.instanceMethod yX11_trace ∈ lG ∧ Cond.selects yX11_trace.cls yX11_trace yX11_trace ∈ lG := ⟨inT (i := 1019) (by decide +kernel) rfl, inT (i := 1020) (by decide +kernel) rfl⟩
theorem c_X11_keep : CS mX11_keep 2 := ⟨inT (i := 1029) (by decide +kernel) rfl, inT (i := 1) (by decide +kernel) rfl, ⟨by decide +kernel, by decide +kernel, by decide +kernel⟩, by decide⟩
theorem v_X11_keep : Cond.instanceMethod yX11_keep ∈ lG ∧ Cond.selects yX11_keep.cls yX11_keep yX11_keep ∈ lG := ⟨inT (i := 1027) (by decide +kernel) rfl, inT (i := 1028) (by decide +kernel) rfl⟩
theorem c_X11_row : CS mX11_row 3 := ⟨inT (i := 1041) (by decide +kernel) rfl, inT (i := 1) (by decide +kernel) rfl, ⟨by decide +kernel, by decide +kernel, by decide +kernel⟩, by decide⟩
theorem v_X11_row : Cond.instanceMethod yX11_row ∈ lG ∧ Cond.selects yX11_row.cls yX11_row yX11_row ∈ lG := ⟨inT (i := 1039) (by decide +kernel) rfl, inT (i := 1040) (by decide +kernel) rfl⟩
theorem c_X11_put : CS mX11_put 3 := ⟨inT (i := 1052) (by decide +kernel) rfl, inT (i := 1) (by decide +kernel) rfl, ⟨by decide +kernel, by decide +kernel, by decide +kernel⟩, by decide⟩
theorem v_X11_put : Cond.instanceMethod yX11_put ∈ lG ∧ Cond.selects yX11_put.cls yX11_put yX11_put ∈ lG := ⟨inT (i := 1050) (by decide +kernel) rfl, inT (i := 1051) (by decide +kernel) rfl⟩
theorem c_X11_element : CS mX11_element 2 := ⟨inT (i := 1064) (by decide +kernel) rfl, inT (i := 1) (by decide +kernel) rfl, ⟨by decide +kernel, by decide +kernel, by decide +kernel⟩, by decide⟩
theorem v_X11_element : Cond.instanceMethod yX11_element ∈ lG ∧ Cond.selects yX11_element.cls yX11_element yX11_element ∈ lG := ⟨inT (i := 1062) (by decide +kernel) rfl, inT (i := 1063) (by decide +kernel) rfl⟩
theorem c_X11_shift : CS mX11_shift 5 := ⟨inT (i := 1068) (by decide +kernel) rfl, inT (i := 1) (by decide +kernel) rfl, ⟨by decide +kernel, by decide +kernel, by decide +kernel⟩, by decide⟩
theorem v_X11_shift : Cond.instanceMethod yX11_shift ∈ lG ∧ Cond.selects yX11_shift.cls yX11_shift yX11_shift ∈ lG := ⟨inT (i := 1066) (by decide +kernel) rfl, inT (i := 1067) (by decide +kernel) rfl⟩
theorem c_X11_taken : CS mX11_taken 2 := ⟨inT (i := 1077) (by decide +kernel) rfl, inT (i := 1) (by decide +kernel) rfl, ⟨by decide +kernel, by decide +kernel, by decide +kernel⟩, by decide⟩
theorem v_X11_taken : Cond.instanceMethod yX11_taken ∈ lG ∧ Cond.selects yX11_taken.cls yX11_taken yX11_taken ∈ lG := ⟨inT (i := 1075) (by decide +kernel) rfl, inT (i := 1076) (by decide +kernel) rfl⟩
theorem c_X11_count : CS mX11_count 1 := ⟨inT (i := 1085) (by decide +kernel) rfl, inT (i := 1) (by decide +kernel) rfl, ⟨by decide +kernel, by decide +kernel, by decide +kernel⟩, by decide⟩
theorem v_X11_count : Cond.instanceMethod yX11_count ∈ lG ∧ Cond.selects yX11_count.cls yX11_count yX11_count ∈ lG := ⟨inT (i := 1083) (by decide +kernel) rfl, inT (i := 1084) (by decide +kernel) rfl⟩
theorem c_X11_within : CS mX11_within 3 := ⟨inT (i := 406) (by decide +kernel) rfl, inT (i := 1) (by decide +kernel) rfl, ⟨by decide +kernel, by decide +kernel, by decide +kernel⟩, by decide⟩
theorem t_X11_within : Cond.static yX11_within ∈ lG := inT (i := 405) (by decide +kernel) rfl
theorem c_X11_isShelf : CS mX11_isShelf 1 := ⟨inT (i := 421) (by decide +kernel) rfl, inT (i := 1) (by decide +kernel) rfl, ⟨by decide +kernel, by decide +kernel, by decide +kernel⟩, by decide⟩
theorem t_X11_isShelf : Cond.static yX11_isShelf ∈ lG := inT (i := 420) (by decide +kernel) rfl
theorem c_X11_isPair : CS mX11_isPair 1 := ⟨inT (i := 625) (by decide +kernel) rfl, inT (i := 1) (by decide +kernel) rfl, ⟨by decide +kernel, by decide +kernel, by decide +kernel⟩, by decide⟩
theorem v_X11_isPair : Cond.instanceMethod yX11_isPair ∈ lG ∧ Cond.selects yX11_isPair.cls yX11_isPair yX11_isPair ∈ lG := ⟨inT (i := 624) (by decide +kernel) rfl, inP (i := 14) (by decide +kernel) rfl⟩
theorem c_X11_areTwoCarriages : CS mX11_areTwoCarriages 1 := ⟨inT (i := 668) (by decide +kernel) rfl, inT (i := 1) (by decide +kernel) rfl, ⟨by decide +kernel, by decide +kernel, by decide +kernel⟩, by decide⟩
theorem v_X11_areTwoCarriages : Cond.instanceMethod yX11_areTwoCarriages ∈ lG ∧ Cond.selects yX11_areTwoCarriages.cls yX11_areTwoCarriages yX11_areTwoCarriages ∈ lG := ⟨inT (i := 667) (by decide +kernel) rfl, inP (i := 15) (by decide +kernel) rfl⟩
theorem c_X11_areTwoPlaces : CS mX11_areTwoPlaces 1 := ⟨inT (i := 705) (by decide +kernel) rfl, inT (i := 1) (by decide +kernel) rfl, ⟨by decide +kernel, by decide +kernel, by decide +kernel⟩, by decide⟩
theorem v_X11_areTwoPlaces : Cond.instanceMethod yX11_areTwoPlaces ∈ lG ∧ Cond.selects yX11_areTwoPlaces.cls yX11_areTwoPlaces yX11_areTwoPlaces ∈ lG := ⟨inT (i := 704) (by decide +kernel) rfl, inP (i := 17) (by decide +kernel) rfl⟩
theorem c_X11_comesFrom : CS mX11_comesFrom 2 := ⟨inT (i := 426) (by decide +kernel) rfl, inT (i := 1) (by decide +kernel) rfl, ⟨by decide +kernel, by decide +kernel, by decide +kernel⟩, by decide⟩
theorem v_X11_comesFrom : Cond.instanceMethod yX11_comesFrom ∈ lG ∧ Cond.selects yX11_comesFrom.cls yX11_comesFrom yX11_comesFrom ∈ lG := ⟨inT (i := 425) (by decide +kernel) rfl, inP (i := 0) (by decide +kernel) rfl⟩
theorem c_X11_refusalOfElement : CS mX11_refusalOfElement 2 := ⟨inT (i := 1056) (by decide +kernel) rfl, inT (i := 1) (by decide +kernel) rfl, ⟨by decide +kernel, by decide +kernel, by decide +kernel⟩, by decide⟩
theorem v_X11_refusalOfElement : Cond.instanceMethod yX11_refusalOfElement ∈ lG ∧ Cond.selects yX11_refusalOfElement.cls yX11_refusalOfElement yX11_refusalOfElement ∈ lG := ⟨inT (i := 1055) (by decide +kernel) rfl, inP (i := 31) (by decide +kernel) rfl⟩
theorem c_X12_init : CS mX12_init 0 := ⟨inT (i := 1090) (by decide +kernel) rfl, inT (i := 13) (by decide +kernel) rfl, ⟨by decide +kernel, by decide +kernel, by decide +kernel⟩, by decide⟩
theorem n_X12_init : Cond.instanceMethod yX12_init ∈ lG := inT (i := 1089) (by decide +kernel) rfl
theorem c_X12_in : CS mX12_in 3 := ⟨inT (i := 1268) (by decide +kernel) rfl, inT (i := 13) (by decide +kernel) rfl, ⟨by decide +kernel, by decide +kernel, by decide +kernel⟩, by decide⟩
theorem t_X12_in : Cond.static yX12_in ∈ lG := inT (i := 1267) (by decide +kernel) rfl
theorem c_X12_has : CS mX12_has 2 := ⟨inT (i := 1482) (by decide +kernel) rfl, inT (i := 13) (by decide +kernel) rfl, ⟨by decide +kernel, by decide +kernel, by decide +kernel⟩, by decide⟩
theorem t_X12_has : Cond.static yX12_has ∈ lG := inT (i := 1481) (by decide +kernel) rfl
theorem c_X12_bitsOf : CS mX12_bitsOf 1 := ⟨inT (i := 1521) (by decide +kernel) rfl, inT (i := 13) (by decide +kernel) rfl, ⟨by decide +kernel, by decide +kernel, by decide +kernel⟩, by decide⟩
theorem t_X12_bitsOf : Cond.static yX12_bitsOf ∈ lG := inT (i := 1520) (by decide +kernel) rfl
theorem c_X12_gap : CS mX12_gap 2 := ⟨inT (i := 1467) (by decide +kernel) rfl, inT (i := 13) (by decide +kernel) rfl, ⟨by decide +kernel, by decide +kernel, by decide +kernel⟩, by decide⟩
theorem t_X12_gap : Cond.static yX12_gap ∈ lG := inT (i := 1466) (by decide +kernel) rfl
theorem c_X12_apart : CS mX12_apart 2 := ⟨inT (i := 1464) (by decide +kernel) rfl, inT (i := 13) (by decide +kernel) rfl, ⟨by decide +kernel, by decide +kernel, by decide +kernel⟩, by decide⟩
theorem t_X12_apart : Cond.static yX12_apart ∈ lG := inT (i := 1463) (by decide +kernel) rfl
theorem c_X12_isCarriage : CS mX12_isCarriage 1 := ⟨inT (i := 1308) (by decide +kernel) rfl, inT (i := 13) (by decide +kernel) rfl, ⟨by decide +kernel, by decide +kernel, by decide +kernel⟩, by decide⟩
theorem v_X12_isCarriage : Cond.instanceMethod yX12_isCarriage ∈ lG ∧ Cond.selects yX12_isCarriage.cls yX12_isCarriage yX12_isCarriage ∈ lG := ⟨inT (i := 1307) (by decide +kernel) rfl, inP (i := 35) (by decide +kernel) rfl⟩
theorem c_X12_isPlace : CS mX12_isPlace 1 := ⟨inT (i := 1312) (by decide +kernel) rfl, inT (i := 13) (by decide +kernel) rfl, ⟨by decide +kernel, by decide +kernel, by decide +kernel⟩, by decide⟩
theorem v_X12_isPlace : Cond.instanceMethod yX12_isPlace ∈ lG ∧ Cond.selects yX12_isPlace.cls yX12_isPlace yX12_isPlace ∈ lG := ⟨inT (i := 1311) (by decide +kernel) rfl, inP (i := 36) (by decide +kernel) rfl⟩
theorem c_X12_isCell : CS mX12_isCell 1 := ⟨inT (i := 1265) (by decide +kernel) rfl, inT (i := 13) (by decide +kernel) rfl, ⟨by decide +kernel, by decide +kernel, by decide +kernel⟩, by decide⟩
theorem t_X12_isCell : Cond.static yX12_isCell ∈ lG := inT (i := 1264) (by decide +kernel) rfl
theorem c_X12_areNear : CS mX12_areNear 1 := ⟨inT (i := 1457) (by decide +kernel) rfl, inT (i := 13) (by decide +kernel) rfl, ⟨by decide +kernel, by decide +kernel, by decide +kernel⟩, by decide⟩
theorem v_X12_areNear : Cond.instanceMethod yX12_areNear ∈ lG ∧ Cond.selects yX12_areNear.cls yX12_areNear yX12_areNear ∈ lG := ⟨inT (i := 1456) (by decide +kernel) rfl, inP (i := 60) (by decide +kernel) rfl⟩
theorem c_X12_areTwo : CS mX12_areTwo 1 := ⟨inT (i := 1490) (by decide +kernel) rfl, inT (i := 13) (by decide +kernel) rfl, ⟨by decide +kernel, by decide +kernel, by decide +kernel⟩, by decide⟩
theorem v_X12_areTwo : Cond.instanceMethod yX12_areTwo ∈ lG ∧ Cond.selects yX12_areTwo.cls yX12_areTwo yX12_areTwo ∈ lG := ⟨inT (i := 1489) (by decide +kernel) rfl, inP (i := 64) (by decide +kernel) rfl⟩
theorem c_X12_addCarriage : CS mX12_addCarriage 3 := ⟨inT (i := 1272) (by decide +kernel) rfl, inT (i := 13) (by decide +kernel) rfl, ⟨by decide +kernel, by decide +kernel, by decide +kernel⟩, by decide⟩
theorem v_X12_addCarriage : Cond.instanceMethod yX12_addCarriage ∈ lG ∧ Cond.selects yX12_addCarriage.cls yX12_addCarriage yX12_addCarriage ∈ lG := ⟨inT (i := 1271) (by decide +kernel) rfl, inP (i := 32) (by decide +kernel) rfl⟩
theorem c_X12_carriage : CS mX12_carriage 2 := ⟨inT (i := 1262) (by decide +kernel) rfl, inT (i := 13) (by decide +kernel) rfl, ⟨by decide +kernel, by decide +kernel, by decide +kernel⟩, by decide⟩
theorem v_X12_carriage : Cond.instanceMethod yX12_carriage ∈ lG ∧ Cond.selects yX12_carriage.cls yX12_carriage yX12_carriage ∈ lG := ⟨inT (i := 1260) (by decide +kernel) rfl, inT (i := 1261) (by decide +kernel) rfl⟩
theorem c_X12_carriages : CS mX12_carriages 3 := ⟨inT (i := 1276) (by decide +kernel) rfl, inT (i := 13) (by decide +kernel) rfl, ⟨by decide +kernel, by decide +kernel, by decide +kernel⟩, by decide⟩
theorem v_X12_carriages : Cond.instanceMethod yX12_carriages ∈ lG ∧ Cond.selects yX12_carriages.cls yX12_carriages yX12_carriages ∈ lG := ⟨inT (i := 1274) (by decide +kernel) rfl, inT (i := 1275) (by decide +kernel) rfl⟩
theorem c_X12_place : CS mX12_place 1 := ⟨inT (i := 1284) (by decide +kernel) rfl, inT (i := 13) (by decide +kernel) rfl, ⟨by decide +kernel, by decide +kernel, by decide +kernel⟩, by decide⟩
theorem v_X12_place : Cond.instanceMethod yX12_place ∈ lG ∧ Cond.selects yX12_place.cls yX12_place yX12_place ∈ lG := ⟨inT (i := 1282) (by decide +kernel) rfl, inT (i := 1283) (by decide +kernel) rfl⟩
theorem c_X12_valueAt : CS mX12_valueAt 2 := ⟨inT (i := 1323) (by decide +kernel) rfl, inT (i := 13) (by decide +kernel) rfl, ⟨by decide +kernel, by decide +kernel, by decide +kernel⟩, by decide⟩
theorem v_X12_valueAt : Cond.instanceMethod yX12_valueAt ∈ lG ∧ Cond.selects yX12_valueAt.cls yX12_valueAt yX12_valueAt ∈ lG := ⟨inT (i := 1322) (by decide +kernel) rfl, inP (i := 38) (by decide +kernel) rfl⟩
theorem c_X12_lays : CS mX12_lays 3 := ⟨inT (i := 1292) (by decide +kernel) rfl, inT (i := 13) (by decide +kernel) rfl, ⟨by decide +kernel, by decide +kernel, by decide +kernel⟩, by decide⟩
theorem v_X12_lays : Cond.instanceMethod yX12_lays ∈ lG ∧ Cond.selects yX12_lays.cls yX12_lays yX12_lays ∈ lG := ⟨inT (i := 1291) (by decide +kernel) rfl, inP (i := 33) (by decide +kernel) rfl⟩
theorem c_X12_changes : CS mX12_changes 3 := ⟨inT (i := 1319) (by decide +kernel) rfl, inT (i := 13) (by decide +kernel) rfl, ⟨by decide +kernel, by decide +kernel, by decide +kernel⟩, by decide⟩
theorem v_X12_changes : Cond.instanceMethod yX12_changes ∈ lG ∧ Cond.selects yX12_changes.cls yX12_changes yX12_changes ∈ lG := ⟨inT (i := 1318) (by decide +kernel) rfl, inP (i := 37) (by decide +kernel) rfl⟩
theorem c_X12_undo : CS mX12_undo 0 := ⟨inT (i := 1288) (by decide +kernel) rfl, inT (i := 13) (by decide +kernel) rfl, ⟨by decide +kernel, by decide +kernel, by decide +kernel⟩, by decide⟩
theorem v_X12_undo : Cond.instanceMethod yX12_undo ∈ lG ∧ Cond.selects yX12_undo.cls yX12_undo yX12_undo ∈ lG := ⟨inT (i := 1286) (by decide +kernel) rfl, inT (i := 1287) (by decide +kernel) rfl⟩
theorem c_X12_redo : CS mX12_redo 0 := ⟨inT (i := 1296) (by decide +kernel) rfl, inT (i := 13) (by decide +kernel) rfl, ⟨by decide +kernel, by decide +kernel, by decide +kernel⟩, by decide⟩
theorem v_X12_redo : Cond.instanceMethod yX12_redo ∈ lG ∧ Cond.selects yX12_redo.cls yX12_redo yX12_redo ∈ lG := ⟨inT (i := 1294) (by decide +kernel) rfl, inT (i := 1295) (by decide +kernel) rfl⟩
theorem c_X12_isOne : CS mX12_isOne 2 := ⟨inT (i := 1304) (by decide +kernel) rfl, inT (i := 13) (by decide +kernel) rfl, ⟨by decide +kernel, by decide +kernel, by decide +kernel⟩, by decide⟩
theorem v_X12_isOne : Cond.instanceMethod yX12_isOne ∈ lG ∧ Cond.selects yX12_isOne.cls yX12_isOne yX12_isOne ∈ lG := ⟨inT (i := 1303) (by decide +kernel) rfl, inP (i := 34) (by decide +kernel) rfl⟩
theorem c_X12_mayHave : CS mX12_mayHave 2 := ⟨inT (i := 1315) (by decide +kernel) rfl, inT (i := 13) (by decide +kernel) rfl, ⟨by decide +kernel, by decide +kernel, by decide +kernel⟩, by decide⟩
theorem t_X12_mayHave : Cond.static yX12_mayHave ∈ lG := inT (i := 1314) (by decide +kernel) rfl
theorem c_X12_mend : CS mX12_mend 3 := ⟨inT (i := 1300) (by decide +kernel) rfl, inT (i := 13) (by decide +kernel) rfl, ⟨by decide +kernel, by decide +kernel, by decide +kernel⟩, by decide⟩
theorem v_X12_mend : Cond.instanceMethod yX12_mend ∈ lG ∧ Cond.selects yX12_mend.cls yX12_mend yX12_mend ∈ lG := ⟨inT (i := 1298) (by decide +kernel) rfl, inT (i := 1299) (by decide +kernel) rfl⟩
theorem c_X12_of : CS mX12_of 2 := ⟨inT (i := 1328) (by decide +kernel) rfl, inT (i := 13) (by decide +kernel) rfl, ⟨by decide +kernel, by decide +kernel, by decide +kernel⟩, by decide⟩
theorem v_X12_of : Cond.instanceMethod yX12_of ∈ lG ∧ Cond.selects yX12_of.cls yX12_of yX12_of ∈ lG := ⟨inT (i := 1326) (by decide +kernel) rfl, inT (i := 1327) (by decide +kernel) rfl⟩
theorem c_X12_feed : CS mX12_feed 1 := ⟨inT (i := 1332) (by decide +kernel) rfl, inT (i := 13) (by decide +kernel) rfl, ⟨by decide +kernel, by decide +kernel, by decide +kernel⟩, by decide⟩
theorem v_X12_feed : Cond.instanceMethod yX12_feed ∈ lG ∧ Cond.selects yX12_feed.cls yX12_feed yX12_feed ∈ lG := ⟨inT (i := 1330) (by decide +kernel) rfl, inT (i := 1331) (by decide +kernel) rfl⟩
theorem c_X12_look : CS mX12_look 0 := ⟨inT (i := 1372) (by decide +kernel) rfl, inT (i := 13) (by decide +kernel) rfl, ⟨by decide +kernel, by decide +kernel, by decide +kernel⟩, by decide⟩
theorem v_X12_look : Cond.instanceMethod yX12_look ∈ lG ∧ Cond.selects yX12_look.cls yX12_look yX12_look ∈ lG := ⟨inT (i := 1371) (by decide +kernel) rfl, inP (i := 47) (by decide +kernel) rfl⟩
theorem c_X12_wrong : CS mX12_wrong 0 := ⟨inT (i := 1387) (by decide +kernel) rfl, inT (i := 13) (by decide +kernel) rfl, ⟨by decide +kernel, by decide +kernel, by decide +kernel⟩, by decide⟩
theorem v_X12_wrong : Cond.instanceMethod yX12_wrong ∈ lG ∧ Cond.selects yX12_wrong.cls yX12_wrong yX12_wrong ∈ lG := ⟨inT (i := 1386) (by decide +kernel) rfl, inP (i := 50) (by decide +kernel) rfl⟩
theorem c_X12_addStep : CS mX12_addStep 2 := ⟨inT (i := 1379) (by decide +kernel) rfl, inT (i := 13) (by decide +kernel) rfl, ⟨by decide +kernel, by decide +kernel, by decide +kernel⟩, by decide⟩
theorem v_X12_addStep : Cond.instanceMethod yX12_addStep ∈ lG ∧ Cond.selects yX12_addStep.cls yX12_addStep yX12_addStep ∈ lG := ⟨inT (i := 1378) (by decide +kernel) rfl, inP (i := 48) (by decide +kernel) rfl⟩
theorem c_X12_nameOf : CS mX12_nameOf 1 := ⟨inT (i := 1375) (by decide +kernel) rfl, inT (i := 13) (by decide +kernel) rfl, ⟨by decide +kernel, by decide +kernel, by decide +kernel⟩, by decide⟩
theorem t_X12_nameOf : Cond.static yX12_nameOf ∈ lG := inT (i := 1374) (by decide +kernel) rfl
theorem c_X12_opens : CS mX12_opens 0 := ⟨inT (i := 1383) (by decide +kernel) rfl, inT (i := 13) (by decide +kernel) rfl, ⟨by decide +kernel, by decide +kernel, by decide +kernel⟩, by decide⟩
theorem v_X12_opens : Cond.instanceMethod yX12_opens ∈ lG ∧ Cond.selects yX12_opens.cls yX12_opens yX12_opens ∈ lG := ⟨inT (i := 1382) (by decide +kernel) rfl, inP (i := 49) (by decide +kernel) rfl⟩
theorem c_X12_figure : CS mX12_figure 0 := ⟨inT (i := 1391) (by decide +kernel) rfl, inT (i := 13) (by decide +kernel) rfl, ⟨by decide +kernel, by decide +kernel, by decide +kernel⟩, by decide⟩
theorem v_X12_figure : Cond.instanceMethod yX12_figure ∈ lG ∧ Cond.selects yX12_figure.cls yX12_figure yX12_figure ∈ lG := ⟨inT (i := 1390) (by decide +kernel) rfl, inP (i := 51) (by decide +kernel) rfl⟩
theorem c_X12_operand : CS mX12_operand 0 := ⟨inT (i := 1368) (by decide +kernel) rfl, inT (i := 13) (by decide +kernel) rfl, ⟨by decide +kernel, by decide +kernel, by decide +kernel⟩, by decide⟩
theorem v_X12_operand : Cond.instanceMethod yX12_operand ∈ lG ∧ Cond.selects yX12_operand.cls yX12_operand yX12_operand ∈ lG := ⟨inT (i := 1367) (by decide +kernel) rfl, inP (i := 46) (by decide +kernel) rfl⟩
theorem c_X12_product : CS mX12_product 0 := ⟨inT (i := 1364) (by decide +kernel) rfl, inT (i := 13) (by decide +kernel) rfl, ⟨by decide +kernel, by decide +kernel, by decide +kernel⟩, by decide⟩
theorem v_X12_product : Cond.instanceMethod yX12_product ∈ lG ∧ Cond.selects yX12_product.cls yX12_product yX12_product ∈ lG := ⟨inT (i := 1363) (by decide +kernel) rfl, inP (i := 45) (by decide +kernel) rfl⟩
theorem c_X12_sum : CS mX12_sum 0 := ⟨inT (i := 1360) (by decide +kernel) rfl, inT (i := 13) (by decide +kernel) rfl, ⟨by decide +kernel, by decide +kernel, by decide +kernel⟩, by decide⟩
theorem v_X12_sum : Cond.instanceMethod yX12_sum ∈ lG ∧ Cond.selects yX12_sum.cls yX12_sum yX12_sum ∈ lG := ⟨inT (i := 1359) (by decide +kernel) rfl, inP (i := 44) (by decide +kernel) rfl⟩
theorem c_X12_compared : CS mX12_compared 0 := ⟨inT (i := 1356) (by decide +kernel) rfl, inT (i := 13) (by decide +kernel) rfl, ⟨by decide +kernel, by decide +kernel, by decide +kernel⟩, by decide⟩
theorem v_X12_compared : Cond.instanceMethod yX12_compared ∈ lG ∧ Cond.selects yX12_compared.cls yX12_compared yX12_compared ∈ lG := ⟨inT (i := 1355) (by decide +kernel) rfl, inP (i := 43) (by decide +kernel) rfl⟩
theorem c_X12_both : CS mX12_both 0 := ⟨inT (i := 1352) (by decide +kernel) rfl, inT (i := 13) (by decide +kernel) rfl, ⟨by decide +kernel, by decide +kernel, by decide +kernel⟩, by decide⟩
theorem v_X12_both : Cond.instanceMethod yX12_both ∈ lG ∧ Cond.selects yX12_both.cls yX12_both yX12_both ∈ lG := ⟨inT (i := 1351) (by decide +kernel) rfl, inP (i := 42) (by decide +kernel) rfl⟩
theorem c_X12_either : CS mX12_either 0 := ⟨inT (i := 1348) (by decide +kernel) rfl, inT (i := 13) (by decide +kernel) rfl, ⟨by decide +kernel, by decide +kernel, by decide +kernel⟩, by decide⟩
theorem v_X12_either : Cond.instanceMethod yX12_either ∈ lG ∧ Cond.selects yX12_either.cls yX12_either yX12_either ∈ lG := ⟨inT (i := 1347) (by decide +kernel) rfl, inP (i := 41) (by decide +kernel) rfl⟩
theorem c_X12_line : CS mX12_line 0 := ⟨inT (i := 1344) (by decide +kernel) rfl, inT (i := 13) (by decide +kernel) rfl, ⟨by decide +kernel, by decide +kernel, by decide +kernel⟩, by decide⟩
theorem v_X12_line : Cond.instanceMethod yX12_line ∈ lG ∧ Cond.selects yX12_line.cls yX12_line yX12_line ∈ lG := ⟨inT (i := 1343) (by decide +kernel) rfl, inP (i := 40) (by decide +kernel) rfl⟩
theorem c_X12_readText : CS mX12_readText 1 := ⟨inT (i := 1340) (by decide +kernel) rfl, inT (i := 13) (by decide +kernel) rfl, ⟨by decide +kernel, by decide +kernel, by decide +kernel⟩, by decide⟩
theorem v_X12_readText : Cond.instanceMethod yX12_readText ∈ lG ∧ Cond.selects yX12_readText.cls yX12_readText yX12_readText ∈ lG := ⟨inT (i := 1339) (by decide +kernel) rfl, inP (i := 39) (by decide +kernel) rfl⟩
theorem c_X12_twoOf : CS mX12_twoOf 3 := ⟨inT (i := 1410) (by decide +kernel) rfl, inT (i := 13) (by decide +kernel) rfl, ⟨by decide +kernel, by decide +kernel, by decide +kernel⟩, by decide⟩
theorem t_X12_twoOf : Cond.static yX12_twoOf ∈ lG := inT (i := 1409) (by decide +kernel) rfl
theorem c_X12_worked : CS mX12_worked 3 := ⟨inT (i := 1407) (by decide +kernel) rfl, inT (i := 13) (by decide +kernel) rfl, ⟨by decide +kernel, by decide +kernel, by decide +kernel⟩, by decide⟩
theorem v_X12_worked : Cond.instanceMethod yX12_worked ∈ lG ∧ Cond.selects yX12_worked.cls yX12_worked yX12_worked ∈ lG := ⟨inT (i := 1406) (by decide +kernel) rfl, inP (i := 54) (by decide +kernel) rfl⟩
theorem c_X12_gives : CS mX12_gives 1 := ⟨inT (i := 1403) (by decide +kernel) rfl, inT (i := 13) (by decide +kernel) rfl, ⟨by decide +kernel, by decide +kernel, by decide +kernel⟩, by decide⟩
theorem v_X12_gives : Cond.instanceMethod yX12_gives ∈ lG ∧ Cond.selects yX12_gives.cls yX12_gives yX12_gives ∈ lG := ⟨inT (i := 1402) (by decide +kernel) rfl, inP (i := 53) (by decide +kernel) rfl⟩
theorem c_X12_law : CS mX12_law 0 := ⟨inT (i := 1336) (by decide +kernel) rfl, inT (i := 13) (by decide +kernel) rfl, ⟨by decide +kernel, by decide +kernel, by decide +kernel⟩, by decide⟩
theorem v_X12_law : Cond.instanceMethod yX12_law ∈ lG ∧ Cond.selects yX12_law.cls yX12_law yX12_law ∈ lG := ⟨inT (i := 1334) (by decide +kernel) rfl, inT (i := 1335) (by decide +kernel) rfl⟩
theorem c_X12_turnBy : CS mX12_turnBy 4 := ⟨inT (i := 1399) (by decide +kernel) rfl, inT (i := 13) (by decide +kernel) rfl, ⟨by decide +kernel, by decide +kernel, by decide +kernel⟩, by decide⟩
theorem v_X12_turnBy : Cond.instanceMethod yX12_turnBy ∈ lG ∧ Cond.selects yX12_turnBy.cls yX12_turnBy yX12_turnBy ∈ lG := ⟨inT (i := 1398) (by decide +kernel) rfl, inP (i := 52) (by decide +kernel) rfl⟩
theorem c_X12_turn : CS mX12_turn 1 := ⟨inT (i := 1395) (by decide +kernel) rfl, inT (i := 13) (by decide +kernel) rfl, ⟨by decide +kernel, by decide +kernel, by decide +kernel⟩, by decide⟩
theorem v_X12_turn : Cond.instanceMethod yX12_turn ∈ lG ∧ Cond.selects yX12_turn.cls yX12_turn yX12_turn ∈ lG := ⟨inT (i := 1393) (by decide +kernel) rfl, inT (i := 1394) (by decide +kernel) rfl⟩
theorem c_X12_alongX : CS mX12_alongX 1 := ⟨inT (i := 1446) (by decide +kernel) rfl, inT (i := 13) (by decide +kernel) rfl, ⟨by decide +kernel, by decide +kernel, by decide +kernel⟩, by decide⟩
theorem t_X12_alongX : Cond.static yX12_alongX ∈ lG := inT (i := 1445) (by decide +kernel) rfl
theorem c_X12_alongY : CS mX12_alongY 1 := ⟨inT (i := 1449) (by decide +kernel) rfl, inT (i := 13) (by decide +kernel) rfl, ⟨by decide +kernel, by decide +kernel, by decide +kernel⟩, by decide⟩
theorem t_X12_alongY : Cond.static yX12_alongY ∈ lG := inT (i := 1448) (by decide +kernel) rfl
theorem c_X12_leaves : CS mX12_leaves 2 := ⟨inT (i := 1443) (by decide +kernel) rfl, inT (i := 13) (by decide +kernel) rfl, ⟨by decide +kernel, by decide +kernel, by decide +kernel⟩, by decide⟩
theorem t_X12_leaves : Cond.static yX12_leaves ∈ lG := inT (i := 1442) (by decide +kernel) rfl
theorem c_X12_goStep : CS mX12_goStep 0 := ⟨inT (i := 1440) (by decide +kernel) rfl, inT (i := 13) (by decide +kernel) rfl, ⟨by decide +kernel, by decide +kernel, by decide +kernel⟩, by decide⟩
theorem v_X12_goStep : Cond.instanceMethod yX12_goStep ∈ lG ∧ Cond.selects yX12_goStep.cls yX12_goStep yX12_goStep ∈ lG := ⟨inT (i := 1439) (by decide +kernel) rfl, inP (i := 59) (by decide +kernel) rfl⟩
theorem c_X12_shoeAt : CS mX12_shoeAt 2 := ⟨inT (i := 1432) (by decide +kernel) rfl, inT (i := 13) (by decide +kernel) rfl, ⟨by decide +kernel, by decide +kernel, by decide +kernel⟩, by decide⟩
theorem t_X12_shoeAt : Cond.static yX12_shoeAt ∈ lG := inT (i := 1431) (by decide +kernel) rfl
theorem c_X12_hourAt : CS mX12_hourAt 1 := ⟨inT (i := 1436) (by decide +kernel) rfl, inT (i := 13) (by decide +kernel) rfl, ⟨by decide +kernel, by decide +kernel, by decide +kernel⟩, by decide⟩
theorem v_X12_hourAt : Cond.instanceMethod yX12_hourAt ∈ lG ∧ Cond.selects yX12_hourAt.cls yX12_hourAt yX12_hourAt ∈ lG := ⟨inT (i := 1435) (by decide +kernel) rfl, inP (i := 58) (by decide +kernel) rfl⟩
theorem c_X12_goHour : CS mX12_goHour 3 := ⟨inT (i := 1429) (by decide +kernel) rfl, inT (i := 13) (by decide +kernel) rfl, ⟨by decide +kernel, by decide +kernel, by decide +kernel⟩, by decide⟩
theorem v_X12_goHour : Cond.instanceMethod yX12_goHour ∈ lG ∧ Cond.selects yX12_goHour.cls yX12_goHour yX12_goHour ∈ lG := ⟨inT (i := 1428) (by decide +kernel) rfl, inP (i := 57) (by decide +kernel) rfl⟩
theorem c_X12_layNow : CS mX12_layNow 1 := ⟨inT (i := 1425) (by decide +kernel) rfl, inT (i := 13) (by decide +kernel) rfl, ⟨by decide +kernel, by decide +kernel, by decide +kernel⟩, by decide⟩
theorem v_X12_layNow : Cond.instanceMethod yX12_layNow ∈ lG ∧ Cond.selects yX12_layNow.cls yX12_layNow yX12_layNow ∈ lG := ⟨inT (i := 1424) (by decide +kernel) rfl, inP (i := 56) (by decide +kernel) rfl⟩
theorem c_X12_goTo : CS mX12_goTo 2 := ⟨inT (i := 1421) (by decide +kernel) rfl, inT (i := 13) (by decide +kernel) rfl, ⟨by decide +kernel, by decide +kernel, by decide +kernel⟩, by decide⟩
theorem v_X12_goTo : Cond.instanceMethod yX12_goTo ∈ lG ∧ Cond.selects yX12_goTo.cls yX12_goTo yX12_goTo ∈ lG := ⟨inT (i := 1420) (by decide +kernel) rfl, inP (i := 55) (by decide +kernel) rfl⟩
theorem c_X12_areHours : CS mX12_areHours 1 := ⟨inT (i := 1417) (by decide +kernel) rfl, inT (i := 13) (by decide +kernel) rfl, ⟨by decide +kernel, by decide +kernel, by decide +kernel⟩, by decide⟩
theorem t_X12_areHours : Cond.static yX12_areHours ∈ lG := inT (i := 1416) (by decide +kernel) rfl
theorem c_X12_later : CS mX12_later 3 := ⟨inT (i := 1414) (by decide +kernel) rfl, inT (i := 13) (by decide +kernel) rfl, ⟨by decide +kernel, by decide +kernel, by decide +kernel⟩, by decide⟩
theorem v_X12_later : Cond.instanceMethod yX12_later ∈ lG ∧ Cond.selects yX12_later.cls yX12_later yX12_later ∈ lG := ⟨inT (i := 1412) (by decide +kernel) rfl, inT (i := 1413) (by decide +kernel) rfl⟩
theorem c_X12_layAll : CS mX12_layAll 0 := ⟨inT (i := 1461) (by decide +kernel) rfl, inT (i := 13) (by decide +kernel) rfl, ⟨by decide +kernel, by decide +kernel, by decide +kernel⟩, by decide⟩
theorem v_X12_layAll : Cond.instanceMethod yX12_layAll ∈ lG ∧ Cond.selects yX12_layAll.cls yX12_layAll yX12_layAll ∈ lG := ⟨inT (i := 1460) (by decide +kernel) rfl, inP (i := 61) (by decide +kernel) rfl⟩
theorem c_X12_nearTo : CS mX12_nearTo 2 := ⟨inT (i := 1479) (by decide +kernel) rfl, inT (i := 13) (by decide +kernel) rfl, ⟨by decide +kernel, by decide +kernel, by decide +kernel⟩, by decide⟩
theorem v_X12_nearTo : Cond.instanceMethod yX12_nearTo ∈ lG ∧ Cond.selects yX12_nearTo.cls yX12_nearTo yX12_nearTo ∈ lG := ⟨inT (i := 1478) (by decide +kernel) rfl, inP (i := 63) (by decide +kernel) rfl⟩
theorem c_X12_nears : CS mX12_nears 3 := ⟨inT (i := 1453) (by decide +kernel) rfl, inT (i := 13) (by decide +kernel) rfl, ⟨by decide +kernel, by decide +kernel, by decide +kernel⟩, by decide⟩
theorem v_X12_nears : Cond.instanceMethod yX12_nears ∈ lG ∧ Cond.selects yX12_nears.cls yX12_nears yX12_nears ∈ lG := ⟨inT (i := 1451) (by decide +kernel) rfl, inT (i := 1452) (by decide +kernel) rfl⟩
theorem c_X12_passedBy : CS mX12_passedBy 2 := ⟨inT (i := 1475) (by decide +kernel) rfl, inT (i := 13) (by decide +kernel) rfl, ⟨by decide +kernel, by decide +kernel, by decide +kernel⟩, by decide⟩
theorem v_X12_passedBy : Cond.instanceMethod yX12_passedBy ∈ lG ∧ Cond.selects yX12_passedBy.cls yX12_passedBy yX12_passedBy ∈ lG := ⟨inT (i := 1474) (by decide +kernel) rfl, inP (i := 62) (by decide +kernel) rfl⟩
theorem c_X12_passes : CS mX12_passes 3 := ⟨inT (i := 1471) (by decide +kernel) rfl, inT (i := 13) (by decide +kernel) rfl, ⟨by decide +kernel, by decide +kernel, by decide +kernel⟩, by decide⟩
theorem v_X12_passes : Cond.instanceMethod yX12_passes ∈ lG ∧ Cond.selects yX12_passes.cls yX12_passes yX12_passes ∈ lG := ⟨inT (i := 1469) (by decide +kernel) rfl, inT (i := 1470) (by decide +kernel) rfl⟩
theorem c_X12_meetAt : CS mX12_meetAt 3 := ⟨inT (i := 1494) (by decide +kernel) rfl, inT (i := 13) (by decide +kernel) rfl, ⟨by decide +kernel, by decide +kernel, by decide +kernel⟩, by decide⟩
theorem v_X12_meetAt : Cond.instanceMethod yX12_meetAt ∈ lG ∧ Cond.selects yX12_meetAt.cls yX12_meetAt yX12_meetAt ∈ lG := ⟨inT (i := 1493) (by decide +kernel) rfl, inP (i := 65) (by decide +kernel) rfl⟩
theorem c_X12_meet : CS mX12_meet 1 := ⟨inT (i := 1486) (by decide +kernel) rfl, inT (i := 13) (by decide +kernel) rfl, ⟨by decide +kernel, by decide +kernel, by decide +kernel⟩, by decide⟩
theorem v_X12_meet : Cond.instanceMethod yX12_meet ∈ lG ∧ Cond.selects yX12_meet.cls yX12_meet yX12_meet ∈ lG := ⟨inT (i := 1484) (by decide +kernel) rfl, inT (i := 1485) (by decide +kernel) rfl⟩
theorem c_X12_often : CS mX12_often 2 := ⟨inT (i := 1498) (by decide +kernel) rfl, inT (i := 13) (by decide +kernel) rfl, ⟨by decide +kernel, by decide +kernel, by decide +kernel⟩, by decide⟩
theorem v_X12_often : Cond.instanceMethod yX12_often ∈ lG ∧ Cond.selects yX12_often.cls yX12_often yX12_often ∈ lG := ⟨inT (i := 1496) (by decide +kernel) rfl, inT (i := 1497) (by decide +kernel) rfl⟩
theorem c_X12_whoNear : CS mX12_whoNear 2 := ⟨inT (i := 1506) (by decide +kernel) rfl, inT (i := 13) (by decide +kernel) rfl, ⟨by decide +kernel, by decide +kernel, by decide +kernel⟩, by decide⟩
theorem v_X12_whoNear : Cond.instanceMethod yX12_whoNear ∈ lG ∧ Cond.selects yX12_whoNear.cls yX12_whoNear yX12_whoNear ∈ lG := ⟨inT (i := 1505) (by decide +kernel) rfl, inP (i := 66) (by decide +kernel) rfl⟩
theorem c_X12_who : CS mX12_who 2 := ⟨inT (i := 1502) (by decide +kernel) rfl, inT (i := 13) (by decide +kernel) rfl, ⟨by decide +kernel, by decide +kernel, by decide +kernel⟩, by decide⟩
theorem v_X12_who : Cond.instanceMethod yX12_who ∈ lG ∧ Cond.selects yX12_who.cls yX12_who yX12_who ∈ lG := ⟨inT (i := 1500) (by decide +kernel) rfl, inT (i := 1501) (by decide +kernel) rfl⟩
theorem c_X12_changed : CS mX12_changed 2 := ⟨inT (i := 1514) (by decide +kernel) rfl, inT (i := 13) (by decide +kernel) rfl, ⟨by decide +kernel, by decide +kernel, by decide +kernel⟩, by decide⟩
theorem v_X12_changed : Cond.instanceMethod yX12_changed ∈ lG ∧ Cond.selects yX12_changed.cls yX12_changed yX12_changed ∈ lG := ⟨inT (i := 1513) (by decide +kernel) rfl, inP (i := 67) (by decide +kernel) rfl⟩
theorem c_X12_soonest : CS mX12_soonest 2 := ⟨inT (i := 1510) (by decide +kernel) rfl, inT (i := 13) (by decide +kernel) rfl, ⟨by decide +kernel, by decide +kernel, by decide +kernel⟩, by decide⟩
theorem v_X12_soonest : Cond.instanceMethod yX12_soonest ∈ lG ∧ Cond.selects yX12_soonest.cls yX12_soonest yX12_soonest ∈ lG := ⟨inT (i := 1508) (by decide +kernel) rfl, inT (i := 1509) (by decide +kernel) rfl⟩
theorem c_X12_buy : CS mX12_buy 3 := ⟨inT (i := 1518) (by decide +kernel) rfl, inT (i := 13) (by decide +kernel) rfl, ⟨by decide +kernel, by decide +kernel, by decide +kernel⟩, by decide⟩
theorem v_X12_buy : Cond.instanceMethod yX12_buy ∈ lG ∧ Cond.selects yX12_buy.cls yX12_buy yX12_buy ∈ lG := ⟨inT (i := 1516) (by decide +kernel) rfl, inT (i := 1517) (by decide +kernel) rfl⟩
theorem c_X12_rowFault : CS mX12_rowFault 1 := ⟨inT (i := 1529) (by decide +kernel) rfl, inT (i := 13) (by decide +kernel) rfl, ⟨by decide +kernel, by decide +kernel, by decide +kernel⟩, by decide⟩
theorem v_X12_rowFault : Cond.instanceMethod yX12_rowFault ∈ lG ∧ Cond.selects yX12_rowFault.cls yX12_rowFault yX12_rowFault ∈ lG := ⟨inT (i := 1528) (by decide +kernel) rfl, inP (i := 68) (by decide +kernel) rfl⟩
theorem c_X12_at : CS mX12_at 2 := ⟨inT (i := 1537) (by decide +kernel) rfl, inT (i := 13) (by decide +kernel) rfl, ⟨by decide +kernel, by decide +kernel, by decide +kernel⟩, by decide⟩
theorem v_X12_at : Cond.instanceMethod yX12_at ∈ lG ∧ Cond.selects yX12_at.cls yX12_at yX12_at ∈ lG := ⟨inT (i := 1536) (by decide +kernel) rfl, inP (i := 70) (by decide +kernel) rfl⟩
theorem c_X12_wrongTwo : CS mX12_wrongTwo 2 := ⟨inT (i := 1533) (by decide +kernel) rfl, inT (i := 13) (by decide +kernel) rfl, ⟨by decide +kernel, by decide +kernel, by decide +kernel⟩, by decide⟩
theorem v_X12_wrongTwo : Cond.instanceMethod yX12_wrongTwo ∈ lG ∧ Cond.selects yX12_wrongTwo.cls yX12_wrongTwo yX12_wrongTwo ∈ lG := ⟨inT (i := 1532) (by decide +kernel) rfl, inP (i := 69) (by decide +kernel) rfl⟩
theorem c_X12_judge : CS mX12_judge 2 := ⟨inT (i := 1525) (by decide +kernel) rfl, inT (i := 13) (by decide +kernel) rfl, ⟨by decide +kernel, by decide +kernel, by decide +kernel⟩, by decide⟩
theorem v_X12_judge : Cond.instanceMethod yX12_judge ∈ lG ∧ Cond.selects yX12_judge.cls yX12_judge yX12_judge ∈ lG := ⟨inT (i := 1523) (by decide +kernel) rfl, inT (i := 1524) (by decide +kernel) rfl⟩
theorem c_X12_dinedWays : CS mX12_dinedWays 2 := ⟨inT (i := 1545) (by decide +kernel) rfl, inT (i := 13) (by decide +kernel) rfl, ⟨by decide +kernel, by decide +kernel, by decide +kernel⟩, by decide⟩
theorem v_X12_dinedWays : Cond.instanceMethod yX12_dinedWays ∈ lG ∧ Cond.selects yX12_dinedWays.cls yX12_dinedWays yX12_dinedWays ∈ lG := ⟨inT (i := 1544) (by decide +kernel) rfl, inP (i := 71) (by decide +kernel) rfl⟩
theorem c_X12_dinedFrom : CS mX12_dinedFrom 3 := ⟨inT (i := 1549) (by decide +kernel) rfl, inT (i := 13) (by decide +kernel) rfl, ⟨by decide +kernel, by decide +kernel, by decide +kernel⟩, by decide⟩
theorem v_X12_dinedFrom : Cond.instanceMethod yX12_dinedFrom ∈ lG ∧ Cond.selects yX12_dinedFrom.cls yX12_dinedFrom yX12_dinedFrom ∈ lG := ⟨inT (i := 1548) (by decide +kernel) rfl, inP (i := 72) (by decide +kernel) rfl⟩
theorem c_X12_dinedPaces : CS mX12_dinedPaces 2 := ⟨inT (i := 1553) (by decide +kernel) rfl, inT (i := 13) (by decide +kernel) rfl, ⟨by decide +kernel, by decide +kernel, by decide +kernel⟩, by decide⟩
theorem v_X12_dinedPaces : Cond.instanceMethod yX12_dinedPaces ∈ lG ∧ Cond.selects yX12_dinedPaces.cls yX12_dinedPaces yX12_dinedPaces ∈ lG := ⟨inT (i := 1552) (by decide +kernel) rfl, inP (i := 73) (by decide +kernel) rfl⟩
theorem c_X12_dined : CS mX12_dined 3 := ⟨inT (i := 1541) (by decide +kernel) rfl, inT (i := 13) (by decide +kernel) rfl, ⟨by decide +kernel, by decide +kernel, by decide +kernel⟩, by decide⟩
theorem v_X12_dined : Cond.instanceMethod yX12_dined ∈ lG ∧ Cond.selects yX12_dined.cls yX12_dined yX12_dined ∈ lG := ⟨inT (i := 1539) (by decide +kernel) rfl, inT (i := 1540) (by decide +kernel) rfl⟩
theorem c_X12_stateOf : CS mX12_stateOf 2 := ⟨inT (i := 1564) (by decide +kernel) rfl, inT (i := 13) (by decide +kernel) rfl, ⟨by decide +kernel, by decide +kernel, by decide +kernel⟩, by decide⟩
theorem t_X12_stateOf : Cond.static yX12_stateOf ∈ lG := inT (i := 1563) (by decide +kernel) rfl
theorem c_X12_fewAt : CS mX12_fewAt 2 := ⟨inT (i := 1578) (by decide +kernel) rfl, inT (i := 13) (by decide +kernel) rfl, ⟨by decide +kernel, by decide +kernel, by decide +kernel⟩, by decide⟩
theorem v_X12_fewAt : Cond.instanceMethod yX12_fewAt ∈ lG ∧ Cond.selects yX12_fewAt.cls yX12_fewAt yX12_fewAt ∈ lG := ⟨inT (i := 1577) (by decide +kernel) rfl, inP (i := 77) (by decide +kernel) rfl⟩
theorem c_X12_layFew : CS mX12_layFew 3 := ⟨inT (i := 1568) (by decide +kernel) rfl, inT (i := 13) (by decide +kernel) rfl, ⟨by decide +kernel, by decide +kernel, by decide +kernel⟩, by decide⟩
theorem v_X12_layFew : Cond.instanceMethod yX12_layFew ∈ lG ∧ Cond.selects yX12_layFew.cls yX12_layFew yX12_layFew ∈ lG := ⟨inT (i := 1567) (by decide +kernel) rfl, inP (i := 75) (by decide +kernel) rfl⟩
theorem c_X12_fewBy : CS mX12_fewBy 6 := ⟨inT (i := 1574) (by decide +kernel) rfl, inT (i := 13) (by decide +kernel) rfl, ⟨by decide +kernel, by decide +kernel, by decide +kernel⟩, by decide⟩
theorem v_X12_fewBy : Cond.instanceMethod yX12_fewBy ∈ lG ∧ Cond.selects yX12_fewBy.cls yX12_fewBy yX12_fewBy ∈ lG := ⟨inT (i := 1573) (by decide +kernel) rfl, inP (i := 76) (by decide +kernel) rfl⟩
theorem c_X12_findFew : CS mX12_findFew 3 := ⟨inT (i := 1561) (by decide +kernel) rfl, inT (i := 13) (by decide +kernel) rfl, ⟨by decide +kernel, by decide +kernel, by decide +kernel⟩, by decide⟩
theorem v_X12_findFew : Cond.instanceMethod yX12_findFew ∈ lG ∧ Cond.selects yX12_findFew.cls yX12_findFew yX12_findFew ∈ lG := ⟨inT (i := 1560) (by decide +kernel) rfl, inP (i := 74) (by decide +kernel) rfl⟩
theorem c_X12_reins : CS mX12_reins 3 := ⟨inT (i := 1557) (by decide +kernel) rfl, inT (i := 13) (by decide +kernel) rfl, ⟨by decide +kernel, by decide +kernel, by decide +kernel⟩, by decide⟩
theorem v_X12_reins : Cond.instanceMethod yX12_reins ∈ lG ∧ Cond.selects yX12_reins.cls yX12_reins yX12_reins ∈ lG := ⟨inT (i := 1555) (by decide +kernel) rfl, inT (i := 1556) (by decide +kernel) rfl⟩
theorem c_X12_goChance : CS mX12_goChance 8 := ⟨inT (i := 1595) (by decide +kernel) rfl, inT (i := 13) (by decide +kernel) rfl, ⟨by decide +kernel, by decide +kernel, by decide +kernel⟩, by decide⟩
theorem v_X12_goChance : Cond.instanceMethod yX12_goChance ∈ lG ∧ Cond.selects yX12_goChance.cls yX12_goChance yX12_goChance ∈ lG := ⟨inT (i := 1594) (by decide +kernel) rfl, inP (i := 80) (by decide +kernel) rfl⟩
theorem c_X12_lowest : CS mX12_lowest 3 := ⟨inT (i := 1599) (by decide +kernel) rfl, inT (i := 13) (by decide +kernel) rfl, ⟨by decide +kernel, by decide +kernel, by decide +kernel⟩, by decide⟩
theorem t_X12_lowest : Cond.static yX12_lowest ∈ lG := inT (i := 1598) (by decide +kernel) rfl
theorem c_X12_areChance : CS mX12_areChance 4 := ⟨inT (i := 1586) (by decide +kernel) rfl, inT (i := 13) (by decide +kernel) rfl, ⟨by decide +kernel, by decide +kernel, by decide +kernel⟩, by decide⟩
theorem v_X12_areChance : Cond.instanceMethod yX12_areChance ∈ lG ∧ Cond.selects yX12_areChance.cls yX12_areChance yX12_areChance ∈ lG := ⟨inT (i := 1585) (by decide +kernel) rfl, inP (i := 78) (by decide +kernel) rfl⟩
theorem c_X12_findChance : CS mX12_findChance 3 := ⟨inT (i := 1591) (by decide +kernel) rfl, inT (i := 13) (by decide +kernel) rfl, ⟨by decide +kernel, by decide +kernel, by decide +kernel⟩, by decide⟩
theorem v_X12_findChance : Cond.instanceMethod yX12_findChance ∈ lG ∧ Cond.selects yX12_findChance.cls yX12_findChance yX12_findChance ∈ lG := ⟨inT (i := 1590) (by decide +kernel) rfl, inP (i := 79) (by decide +kernel) rfl⟩
theorem c_X12_chance : CS mX12_chance 4 := ⟨inT (i := 1582) (by decide +kernel) rfl, inT (i := 13) (by decide +kernel) rfl, ⟨by decide +kernel, by decide +kernel, by decide +kernel⟩, by decide⟩
theorem v_X12_chance : Cond.instanceMethod yX12_chance ∈ lG ∧ Cond.selects yX12_chance.cls yX12_chance yX12_chance ∈ lG := ⟨inT (i := 1580) (by decide +kernel) rfl, inT (i := 1581) (by decide +kernel) rfl⟩
theorem c_X12_mean : CS mX12_mean 4 := ⟨inT (i := 1603) (by decide +kernel) rfl, inT (i := 13) (by decide +kernel) rfl, ⟨by decide +kernel, by decide +kernel, by decide +kernel⟩, by decide⟩
theorem v_X12_mean : Cond.instanceMethod yX12_mean ∈ lG ∧ Cond.selects yX12_mean.cls yX12_mean yX12_mean ∈ lG := ⟨inT (i := 1601) (by decide +kernel) rfl, inT (i := 1602) (by decide +kernel) rfl⟩
theorem c_X12_endsBy : CS mX12_endsBy 7 := ⟨inT (i := 1615) (by decide +kernel) rfl, inT (i := 13) (by decide +kernel) rfl, ⟨by decide +kernel, by decide +kernel, by decide +kernel⟩, by decide⟩
theorem v_X12_endsBy : Cond.instanceMethod yX12_endsBy ∈ lG ∧ Cond.selects yX12_endsBy.cls yX12_endsBy yX12_endsBy ∈ lG := ⟨inT (i := 1614) (by decide +kernel) rfl, inP (i := 82) (by decide +kernel) rfl⟩
theorem c_X12_endsAt : CS mX12_endsAt 6 := ⟨inT (i := 1611) (by decide +kernel) rfl, inT (i := 13) (by decide +kernel) rfl, ⟨by decide +kernel, by decide +kernel, by decide +kernel⟩, by decide⟩
theorem v_X12_endsAt : Cond.instanceMethod yX12_endsAt ∈ lG ∧ Cond.selects yX12_endsAt.cls yX12_endsAt yX12_endsAt ∈ lG := ⟨inT (i := 1610) (by decide +kernel) rfl, inP (i := 81) (by decide +kernel) rfl⟩
theorem c_X12_byTurns : CS mX12_byTurns 3 := ⟨inT (i := 1607) (by decide +kernel) rfl, inT (i := 13) (by decide +kernel) rfl, ⟨by decide +kernel, by decide +kernel, by decide +kernel⟩, by decide⟩
theorem v_X12_byTurns : Cond.instanceMethod yX12_byTurns ∈ lG ∧ Cond.selects yX12_byTurns.cls yX12_byTurns yX12_byTurns ∈ lG := ⟨inT (i := 1605) (by decide +kernel) rfl, inT (i := 1606) (by decide +kernel) rfl⟩
theorem c_X12_placesNear : CS mX12_placesNear 0 := ⟨inT (i := 1624) (by decide +kernel) rfl, inT (i := 13) (by decide +kernel) rfl, ⟨by decide +kernel, by decide +kernel, by decide +kernel⟩, by decide⟩
theorem v_X12_placesNear : Cond.instanceMethod yX12_placesNear ∈ lG ∧ Cond.selects yX12_placesNear.cls yX12_placesNear yX12_placesNear ∈ lG := ⟨inT (i := 1623) (by decide +kernel) rfl, inP (i := 83) (by decide +kernel) rfl⟩
theorem c_X12_manyNear : CS mX12_manyNear 1 := ⟨inT (i := 1628) (by decide +kernel) rfl, inT (i := 13) (by decide +kernel) rfl, ⟨by decide +kernel, by decide +kernel, by decide +kernel⟩, by decide⟩
theorem v_X12_manyNear : Cond.instanceMethod yX12_manyNear ∈ lG ∧ Cond.selects yX12_manyNear.cls yX12_manyNear yX12_manyNear ∈ lG := ⟨inT (i := 1627) (by decide +kernel) rfl, inP (i := 84) (by decide +kernel) rfl⟩
theorem c_X12_drawn : CS mX12_drawn 3 := ⟨inT (i := 1619) (by decide +kernel) rfl, inT (i := 13) (by decide +kernel) rfl, ⟨by decide +kernel, by decide +kernel, by decide +kernel⟩, by decide⟩
theorem v_X12_drawn : Cond.instanceMethod yX12_drawn ∈ lG ∧ Cond.selects yX12_drawn.cls yX12_drawn yX12_drawn ∈ lG := ⟨inT (i := 1617) (by decide +kernel) rfl, inT (i := 1618) (by decide +kernel) rfl⟩
theorem c_X12_hour : CS mX12_hour 0 := ⟨inT (i := 1632) (by decide +kernel) rfl, inT (i := 13) (by decide +kernel) rfl, ⟨by decide +kernel, by decide +kernel, by decide +kernel⟩, by decide⟩
theorem v_X12_hour : Cond.instanceMethod yX12_hour ∈ lG ∧ Cond.selects yX12_hour.cls yX12_hour yX12_hour ∈ lG := ⟨inT (i := 1630) (by decide +kernel) rfl, inT (i := 1631) (by decide +kernel) rfl⟩
theorem c_X12_rein : CS mX12_rein 2 := ⟨inT (i := 1636) (by decide +kernel) rfl, inT (i := 13) (by decide +kernel) rfl, ⟨by decide +kernel, by decide +kernel, by decide +kernel⟩, by decide⟩
theorem v_X12_rein : Cond.instanceMethod yX12_rein ∈ lG ∧ Cond.selects yX12_rein.cls yX12_rein yX12_rein ∈ lG := ⟨inT (i := 1634) (by decide +kernel) rfl, inT (i := 1635) (by decide +kernel) rfl⟩
theorem c_X12_shoe : CS mX12_shoe 1 := ⟨inT (i := 1640) (by decide +kernel) rfl, inT (i := 13) (by decide +kernel) rfl, ⟨by decide +kernel, by decide +kernel, by decide +kernel⟩, by decide⟩
theorem v_X12_shoe : Cond.instanceMethod yX12_shoe ∈ lG ∧ Cond.selects yX12_shoe.cls yX12_shoe yX12_shoe ∈ lG := ⟨inT (i := 1638) (by decide +kernel) rfl, inT (i := 1639) (by decide +kernel) rfl⟩
theorem c_X12_buys : CS mX12_buys 1 := ⟨inT (i := 1644) (by decide +kernel) rfl, inT (i := 13) (by decide +kernel) rfl, ⟨by decide +kernel, by decide +kernel, by decide +kernel⟩, by decide⟩
theorem v_X12_buys : Cond.instanceMethod yX12_buys ∈ lG ∧ Cond.selects yX12_buys.cls yX12_buys yX12_buys ∈ lG := ⟨inT (i := 1642) (by decide +kernel) rfl, inT (i := 1643) (by decide +kernel) rfl⟩
theorem c_X12_led : CS mX12_led 1 := ⟨inT (i := 1648) (by decide +kernel) rfl, inT (i := 13) (by decide +kernel) rfl, ⟨by decide +kernel, by decide +kernel, by decide +kernel⟩, by decide⟩
theorem v_X12_led : Cond.instanceMethod yX12_led ∈ lG ∧ Cond.selects yX12_led.cls yX12_led yX12_led ∈ lG := ⟨inT (i := 1646) (by decide +kernel) rfl, inT (i := 1647) (by decide +kernel) rfl⟩
theorem c_X12_image : CS mX12_image 0 := ⟨inT (i := 1652) (by decide +kernel) rfl, inT (i := 13) (by decide +kernel) rfl, ⟨by decide +kernel, by decide +kernel, by decide +kernel⟩, by decide⟩
theorem v_X12_image : Cond.instanceMethod yX12_image ∈ lG ∧ Cond.selects yX12_image.cls yX12_image yX12_image ∈ lG := ⟨inT (i := 1650) (by decide +kernel) rfl, inT (i := 1651) (by decide +kernel) rfl⟩
theorem c_X12_back : CS mX12_back 0 := ⟨inT (i := 1656) (by decide +kernel) rfl, inT (i := 13) (by decide +kernel) rfl, ⟨by decide +kernel, by decide +kernel, by decide +kernel⟩, by decide⟩
theorem v_X12_back : Cond.instanceMethod yX12_back ∈ lG ∧ Cond.selects yX12_back.cls yX12_back yX12_back ∈ lG := ⟨inT (i := 1654) (by decide +kernel) rfl, inT (i := 1655) (by decide +kernel) rfl⟩
theorem c_X12_isBody : CS mX12_isBody 1 := ⟨inT (i := 1672) (by decide +kernel) rfl, inT (i := 13) (by decide +kernel) rfl, ⟨by decide +kernel, by decide +kernel, by decide +kernel⟩, by decide⟩
theorem v_X12_isBody : Cond.instanceMethod yX12_isBody ∈ lG ∧ Cond.selects yX12_isBody.cls yX12_isBody yX12_isBody ∈ lG := ⟨inT (i := 1671) (by decide +kernel) rfl, inP (i := 85) (by decide +kernel) rfl⟩
theorem c_X12_ran : CS mX12_ran 1 := ⟨inT (i := 1683) (by decide +kernel) rfl, inT (i := 13) (by decide +kernel) rfl, ⟨by decide +kernel, by decide +kernel, by decide +kernel⟩, by decide⟩
theorem v_X12_ran : Cond.instanceMethod yX12_ran ∈ lG ∧ Cond.selects yX12_ran.cls yX12_ran yX12_ran ∈ lG := ⟨inT (i := 1682) (by decide +kernel) rfl, inP (i := 87) (by decide +kernel) rfl⟩
theorem c_X12_trace : CS mX12_trace 1 := ⟨inT (i := 1660) (by decide +kernel) rfl, inT (i := 13) (by decide +kernel) rfl, ⟨by decide +kernel, by decide +kernel, by decide +kernel⟩, by decide⟩
theorem v_X12_trace : Cond.instanceMethod yX12_trace ∈ lG ∧ Cond.selects yX12_trace.cls yX12_trace yX12_trace ∈ lG := ⟨inT (i := 1658) (by decide +kernel) rfl, inT (i := 1659) (by decide +kernel) rfl⟩
theorem c_X12_body : CS mX12_body 1 := ⟨inT (i := 1664) (by decide +kernel) rfl, inT (i := 13) (by decide +kernel) rfl, ⟨by decide +kernel, by decide +kernel, by decide +kernel⟩, by decide⟩
theorem v_X12_body : Cond.instanceMethod yX12_body ∈ lG ∧ Cond.selects yX12_body.cls yX12_body yX12_body ∈ lG := ⟨inT (i := 1662) (by decide +kernel) rfl, inT (i := 1663) (by decide +kernel) rfl⟩
theorem c_X12_isUnder : CS mX12_isUnder 2 := ⟨inT (i := 1679) (by decide +kernel) rfl, inT (i := 13) (by decide +kernel) rfl, ⟨by decide +kernel, by decide +kernel, by decide +kernel⟩, by decide⟩
theorem t_X12_isUnder : Cond.static yX12_isUnder ∈ lG := inT (i := 1678) (by decide +kernel) rfl
theorem c_X12_plainFaces : CS mX12_plainFaces 2 := ⟨inT (i := 1687) (by decide +kernel) rfl, inT (i := 13) (by decide +kernel) rfl, ⟨by decide +kernel, by decide +kernel, by decide +kernel⟩, by decide⟩
theorem v_X12_plainFaces : Cond.instanceMethod yX12_plainFaces ∈ lG ∧ Cond.selects yX12_plainFaces.cls yX12_plainFaces yX12_plainFaces ∈ lG := ⟨inT (i := 1686) (by decide +kernel) rfl, inP (i := 88) (by decide +kernel) rfl⟩
theorem c_X12_ludlowFaces : CS mX12_ludlowFaces 2 := ⟨inT (i := 1691) (by decide +kernel) rfl, inT (i := 13) (by decide +kernel) rfl, ⟨by decide +kernel, by decide +kernel, by decide +kernel⟩, by decide⟩
theorem v_X12_ludlowFaces : Cond.instanceMethod yX12_ludlowFaces ∈ lG ∧ Cond.selects yX12_ludlowFaces.cls yX12_ludlowFaces yX12_ludlowFaces ∈ lG := ⟨inT (i := 1690) (by decide +kernel) rfl, inP (i := 89) (by decide +kernel) rfl⟩
theorem c_X12_facing : CS mX12_facing 2 := ⟨inT (i := 1676) (by decide +kernel) rfl, inT (i := 13) (by decide +kernel) rfl, ⟨by decide +kernel, by decide +kernel, by decide +kernel⟩, by decide⟩
theorem v_X12_facing : Cond.instanceMethod yX12_facing ∈ lG ∧ Cond.selects yX12_facing.cls yX12_facing yX12_facing ∈ lG := ⟨inT (i := 1675) (by decide +kernel) rfl, inP (i := 86) (by decide +kernel) rfl⟩
theorem c_X12_plainDrives : CS mX12_plainDrives 2 := ⟨inT (i := 1703) (by decide +kernel) rfl, inT (i := 13) (by decide +kernel) rfl, ⟨by decide +kernel, by decide +kernel, by decide +kernel⟩, by decide⟩
theorem v_X12_plainDrives : Cond.instanceMethod yX12_plainDrives ∈ lG ∧ Cond.selects yX12_plainDrives.cls yX12_plainDrives yX12_plainDrives ∈ lG := ⟨inT (i := 1702) (by decide +kernel) rfl, inP (i := 92) (by decide +kernel) rfl⟩
theorem c_X12_buddDrives : CS mX12_buddDrives 2 := ⟨inT (i := 1699) (by decide +kernel) rfl, inT (i := 13) (by decide +kernel) rfl, ⟨by decide +kernel, by decide +kernel, by decide +kernel⟩, by decide⟩
theorem v_X12_buddDrives : Cond.instanceMethod yX12_buddDrives ∈ lG ∧ Cond.selects yX12_buddDrives.cls yX12_buddDrives yX12_buddDrives ∈ lG := ⟨inT (i := 1698) (by decide +kernel) rfl, inP (i := 91) (by decide +kernel) rfl⟩
theorem c_X12_driving : CS mX12_driving 2 := ⟨inT (i := 1695) (by decide +kernel) rfl, inT (i := 13) (by decide +kernel) rfl, ⟨by decide +kernel, by decide +kernel, by decide +kernel⟩, by decide⟩
theorem v_X12_driving : Cond.instanceMethod yX12_driving ∈ lG ∧ Cond.selects yX12_driving.cls yX12_driving yX12_driving ∈ lG := ⟨inT (i := 1694) (by decide +kernel) rfl, inP (i := 90) (by decide +kernel) rfl⟩
theorem c_X12_plainWeeps : CS mX12_plainWeeps 2 := ⟨inT (i := 1715) (by decide +kernel) rfl, inT (i := 13) (by decide +kernel) rfl, ⟨by decide +kernel, by decide +kernel, by decide +kernel⟩, by decide⟩
theorem v_X12_plainWeeps : Cond.instanceMethod yX12_plainWeeps ∈ lG ∧ Cond.selects yX12_plainWeeps.cls yX12_plainWeeps yX12_plainWeeps ∈ lG := ⟨inT (i := 1714) (by decide +kernel) rfl, inP (i := 95) (by decide +kernel) rfl⟩
theorem c_X12_farmWeeps : CS mX12_farmWeeps 2 := ⟨inT (i := 1711) (by decide +kernel) rfl, inT (i := 13) (by decide +kernel) rfl, ⟨by decide +kernel, by decide +kernel, by decide +kernel⟩, by decide⟩
theorem v_X12_farmWeeps : Cond.instanceMethod yX12_farmWeeps ∈ lG ∧ Cond.selects yX12_farmWeeps.cls yX12_farmWeeps yX12_farmWeeps ∈ lG := ⟨inT (i := 1710) (by decide +kernel) rfl, inP (i := 94) (by decide +kernel) rfl⟩
theorem c_X12_weeping : CS mX12_weeping 2 := ⟨inT (i := 1707) (by decide +kernel) rfl, inT (i := 13) (by decide +kernel) rfl, ⟨by decide +kernel, by decide +kernel, by decide +kernel⟩, by decide⟩
theorem v_X12_weeping : Cond.instanceMethod yX12_weeping ∈ lG ∧ Cond.selects yX12_weeping.cls yX12_weeping yX12_weeping ∈ lG := ⟨inT (i := 1706) (by decide +kernel) rfl, inP (i := 93) (by decide +kernel) rfl⟩
theorem c_X12_plainTells : CS mX12_plainTells 2 := ⟨inT (i := 1723) (by decide +kernel) rfl, inT (i := 13) (by decide +kernel) rfl, ⟨by decide +kernel, by decide +kernel, by decide +kernel⟩, by decide⟩
theorem v_X12_plainTells : Cond.instanceMethod yX12_plainTells ∈ lG ∧ Cond.selects yX12_plainTells.cls yX12_plainTells yX12_plainTells ∈ lG := ⟨inT (i := 1722) (by decide +kernel) rfl, inP (i := 97) (by decide +kernel) rfl⟩
theorem c_X12_telling : CS mX12_telling 2 := ⟨inT (i := 1719) (by decide +kernel) rfl, inT (i := 13) (by decide +kernel) rfl, ⟨by decide +kernel, by decide +kernel, by decide +kernel⟩, by decide⟩
theorem v_X12_telling : Cond.instanceMethod yX12_telling ∈ lG ∧ Cond.selects yX12_telling.cls yX12_telling yX12_telling ∈ lG := ⟨inT (i := 1718) (by decide +kernel) rfl, inP (i := 96) (by decide +kernel) rfl⟩
theorem c_X12_act : CS mX12_act 3 := ⟨inT (i := 1668) (by decide +kernel) rfl, inT (i := 13) (by decide +kernel) rfl, ⟨by decide +kernel, by decide +kernel, by decide +kernel⟩, by decide⟩
theorem v_X12_act : Cond.instanceMethod yX12_act ∈ lG ∧ Cond.selects yX12_act.cls yX12_act yX12_act ∈ lG := ⟨inT (i := 1666) (by decide +kernel) rfl, inT (i := 1667) (by decide +kernel) rfl⟩
theorem c_X12_count : CS mX12_count 1 := ⟨inT (i := 1727) (by decide +kernel) rfl, inT (i := 13) (by decide +kernel) rfl, ⟨by decide +kernel, by decide +kernel, by decide +kernel⟩, by decide⟩
theorem v_X12_count : Cond.instanceMethod yX12_count ∈ lG ∧ Cond.selects yX12_count.cls yX12_count yX12_count ∈ lG := ⟨inT (i := 1725) (by decide +kernel) rfl, inT (i := 1726) (by decide +kernel) rfl⟩
theorem c_X12_isShelf : CS mX12_isShelf 1 := ⟨inT (i := 1279) (by decide +kernel) rfl, inT (i := 13) (by decide +kernel) rfl, ⟨by decide +kernel, by decide +kernel, by decide +kernel⟩, by decide⟩
theorem t_X12_isShelf : Cond.static yX12_isShelf ∈ lG := inT (i := 1278) (by decide +kernel) rfl
theorem c_X12_keep : CS mX12_keep 2 := ⟨inT (i := 1731) (by decide +kernel) rfl, inT (i := 13) (by decide +kernel) rfl, ⟨by decide +kernel, by decide +kernel, by decide +kernel⟩, by decide⟩
theorem v_X12_keep : Cond.instanceMethod yX12_keep ∈ lG ∧ Cond.selects yX12_keep.cls yX12_keep yX12_keep ∈ lG := ⟨inT (i := 1729) (by decide +kernel) rfl, inT (i := 1730) (by decide +kernel) rfl⟩
theorem c_X12_row : CS mX12_row 3 := ⟨inT (i := 1735) (by decide +kernel) rfl, inT (i := 13) (by decide +kernel) rfl, ⟨by decide +kernel, by decide +kernel, by decide +kernel⟩, by decide⟩
theorem v_X12_row : Cond.instanceMethod yX12_row ∈ lG ∧ Cond.selects yX12_row.cls yX12_row yX12_row ∈ lG := ⟨inT (i := 1733) (by decide +kernel) rfl, inT (i := 1734) (by decide +kernel) rfl⟩
theorem c_X12_whyNoPlace : CS mX12_whyNoPlace 2 := ⟨inT (i := 1743) (by decide +kernel) rfl, inT (i := 13) (by decide +kernel) rfl, ⟨by decide +kernel, by decide +kernel, by decide +kernel⟩, by decide⟩
theorem v_X12_whyNoPlace : Cond.instanceMethod yX12_whyNoPlace ∈ lG ∧ Cond.selects yX12_whyNoPlace.cls yX12_whyNoPlace yX12_whyNoPlace ∈ lG := ⟨inT (i := 1742) (by decide +kernel) rfl, inP (i := 98) (by decide +kernel) rfl⟩
theorem c_X12_put : CS mX12_put 3 := ⟨inT (i := 1739) (by decide +kernel) rfl, inT (i := 13) (by decide +kernel) rfl, ⟨by decide +kernel, by decide +kernel, by decide +kernel⟩, by decide⟩
theorem v_X12_put : Cond.instanceMethod yX12_put ∈ lG ∧ Cond.selects yX12_put.cls yX12_put yX12_put ∈ lG := ⟨inT (i := 1737) (by decide +kernel) rfl, inT (i := 1738) (by decide +kernel) rfl⟩
theorem c_X12_element : CS mX12_element 2 := ⟨inT (i := 1747) (by decide +kernel) rfl, inT (i := 13) (by decide +kernel) rfl, ⟨by decide +kernel, by decide +kernel, by decide +kernel⟩, by decide⟩
theorem v_X12_element : Cond.instanceMethod yX12_element ∈ lG ∧ Cond.selects yX12_element.cls yX12_element yX12_element ∈ lG := ⟨inT (i := 1745) (by decide +kernel) rfl, inT (i := 1746) (by decide +kernel) rfl⟩
theorem c_X12_shift : CS mX12_shift 5 := ⟨inT (i := 1751) (by decide +kernel) rfl, inT (i := 13) (by decide +kernel) rfl, ⟨by decide +kernel, by decide +kernel, by decide +kernel⟩, by decide⟩
theorem v_X12_shift : Cond.instanceMethod yX12_shift ∈ lG ∧ Cond.selects yX12_shift.cls yX12_shift yX12_shift ∈ lG := ⟨inT (i := 1749) (by decide +kernel) rfl, inT (i := 1750) (by decide +kernel) rfl⟩
theorem c_X12_taken : CS mX12_taken 2 := ⟨inT (i := 1755) (by decide +kernel) rfl, inT (i := 13) (by decide +kernel) rfl, ⟨by decide +kernel, by decide +kernel, by decide +kernel⟩, by decide⟩
theorem v_X12_taken : Cond.instanceMethod yX12_taken ∈ lG ∧ Cond.selects yX12_taken.cls yX12_taken yX12_taken ∈ lG := ⟨inT (i := 1753) (by decide +kernel) rfl, inT (i := 1754) (by decide +kernel) rfl⟩
theorem c_J6_bitCount_0f7a4 : CS mJ6_bitCount_0f7a4 1 := ⟨inT (i := 733) (by decide +kernel) rfl, inT (i := 17) (by decide +kernel) rfl, ⟨by decide +kernel, by decide +kernel, by decide +kernel⟩, by decide⟩
theorem t_J6_bitCount_0f7a4 : Cond.static yJ6_bitCount_0f7a4 ∈ lG := inT (i := 732) (by decide +kernel) rfl
theorem c_J9_abs_0f7a4 : CS mJ9_abs_0f7a4 1 := ⟨inT (i := 637) (by decide +kernel) rfl, inT (i := 15) (by decide +kernel) rfl, ⟨by decide +kernel, by decide +kernel, by decide +kernel⟩, by decide⟩
theorem t_J9_abs_0f7a4 : Cond.static yJ9_abs_0f7a4 ∈ lG := inT (i := 636) (by decide +kernel) rfl
theorem c_J9_max_7cf53 : CS mJ9_max_7cf53 2 := ⟨inT (i := 553) (by decide +kernel) rfl, inT (i := 15) (by decide +kernel) rfl, ⟨by decide +kernel, by decide +kernel, by decide +kernel⟩, by decide⟩
theorem t_J9_max_7cf53 : Cond.static yJ9_max_7cf53 ∈ lG := inT (i := 552) (by decide +kernel) rfl
theorem c_J9_max_f86c9 : CS mJ9_max_f86c9 2 := ⟨inT (i := 852) (by decide +kernel) rfl, inT (i := 15) (by decide +kernel) rfl, ⟨by decide +kernel, by decide +kernel, by decide +kernel⟩, by decide⟩
theorem t_J9_max_f86c9 : Cond.static yJ9_max_f86c9 ∈ lG := inT (i := 851) (by decide +kernel) rfl
theorem c_J9_min_7cf53 : CS mJ9_min_7cf53 2 := ⟨inT (i := 556) (by decide +kernel) rfl, inT (i := 15) (by decide +kernel) rfl, ⟨by decide +kernel, by decide +kernel, by decide +kernel⟩, by decide⟩
theorem t_J9_min_7cf53 : Cond.static yJ9_min_7cf53 ∈ lG := inT (i := 555) (by decide +kernel) rfl
theorem c_J7_fill_d0a16 : CS mJ7_fill_d0a16 2 := ⟨inT (i := 1048) (by decide +kernel) rfl, inT (i := 16) (by decide +kernel) rfl, ⟨by decide +kernel, by decide +kernel, by decide +kernel⟩, by decide⟩
theorem t_J7_fill_d0a16 : Cond.static yJ7_fill_d0a16 ∈ lG := inT (i := 1047) (by decide +kernel) rfl
theorem c_J7_fill_53178 : CS mJ7_fill_53178 2 := ⟨inT (i := 729) (by decide +kernel) rfl, inT (i := 16) (by decide +kernel) rfl, ⟨by decide +kernel, by decide +kernel, by decide +kernel⟩, by decide⟩
theorem t_J7_fill_53178 : Cond.static yJ7_fill_53178 ∈ lG := inT (i := 728) (by decide +kernel) rfl
theorem lk_L_9 : Cond.methodLink RL 9 yX11_init ∈ lG := inT (i := 20) (by decide +kernel) rfl
theorem lk_X11_1 : Cond.methodLink RX11 1 objectInit ∈ lG := inT (i := 23) (by decide +kernel) rfl
theorem lk_X7_3 : Cond.methodLink RX7 3 objectInit ∈ lG := inT (i := 31) (by decide +kernel) rfl
theorem lk_X8_3 : Cond.methodLink RX8 3 objectInit ∈ lG := inT (i := 102) (by decide +kernel) rfl
theorem lk_X9_3 : Cond.methodLink RX9 3 objectInit ∈ lG := inT (i := 136) (by decide +kernel) rfl
theorem lk_X11_40 : Cond.methodLink RX11 40 yX3_init ∈ lG := inT (i := 167) (by decide +kernel) rfl
theorem lk_X3_3 : Cond.methodLink RX3 3 objectInit ∈ lG := inT (i := 170) (by decide +kernel) rfl
theorem lk_X11_45 : Cond.methodLink RX11 45 yX6_init ∈ lG := inT (i := 196) (by decide +kernel) rfl
theorem lk_X6_3 : Cond.methodLink RX6 3 objectInit ∈ lG := inT (i := 199) (by decide +kernel) rfl
theorem lk_X11_54 : Cond.methodLink RX11 54 yX5_init ∈ lG := inT (i := 215) (by decide +kernel) rfl
theorem lk_X5_3 : Cond.methodLink RX5 3 objectInit ∈ lG := inT (i := 218) (by decide +kernel) rfl
theorem lk_X11_63 : Cond.methodLink RX11 63 yX1_init ∈ lG := inT (i := 231) (by decide +kernel) rfl
theorem lk_X1_7 : Cond.methodLink RX1 7 objectInit ∈ lG := inT (i := 234) (by decide +kernel) rfl
theorem lk_X11_70 : Cond.methodLink RX11 70 yX2_init ∈ lG := inT (i := 253) (by decide +kernel) rfl
theorem lk_X2_3 : Cond.methodLink RX2 3 objectInit ∈ lG := inT (i := 256) (by decide +kernel) rfl
theorem lk_X11_79 : Cond.methodLink RX11 79 yX4_init ∈ lG := inT (i := 273) (by decide +kernel) rfl
theorem lk_X4_3 : Cond.methodLink RX4 3 objectInit ∈ lG := inT (i := 276) (by decide +kernel) rfl
theorem lk_X10_3 : Cond.methodLink RX10 3 objectInit ∈ lG := inT (i := 312) (by decide +kernel) rfl
theorem lk_X0_3 : Cond.methodLink RX0 3 objectInit ∈ lG := inT (i := 338) (by decide +kernel) rfl
theorem lk_L_13 : Cond.methodLink RL 13 yX11_carriage ∈ lG := inT (i := 397) (by decide +kernel) rfl
theorem lk_X11_98 : Cond.methodLink RX11 98 yX7_mayBe ∈ lG := inT (i := 401) (by decide +kernel) rfl
theorem lk_X11_102 : Cond.methodLink RX11 102 yX7_addCarriage ∈ lG := inT (i := 411) (by decide +kernel) rfl
theorem lk_L_18 : Cond.methodLink RL 18 yX11_carriages ∈ lG := inT (i := 415) (by decide +kernel) rfl
theorem lk_X11_106 : Cond.methodLink RX11 106 yX11_isShelf ∈ lG := inT (i := 419) (by decide +kernel) rfl
theorem lk_X11_110 : Cond.methodLink RX11 110 yX11_within ∈ lG := inT (i := 422) (by decide +kernel) rfl
theorem lk_X11_121 : Cond.methodLink RX11 121 yX11_comesFrom ∈ lG := inT (i := 423) (by decide +kernel) rfl
theorem lk_L_23 : Cond.methodLink RL 23 yX11_place ∈ lG := inT (i := 427) (by decide +kernel) rfl
theorem lk_X11_125 : Cond.methodLink RX11 125 yX7_addPlace ∈ lG := inT (i := 431) (by decide +kernel) rfl
theorem lk_L_28 : Cond.methodLink RL 28 yX11_mend ∈ lG := inT (i := 435) (by decide +kernel) rfl
theorem lk_X11_129 : Cond.methodLink RX11 129 yX7_has ∈ lG := inT (i := 439) (by decide +kernel) rfl
theorem lk_X7_63 : Cond.methodLink RX7 63 yX7_hasCarriage ∈ lG := inT (i := 443) (by decide +kernel) rfl
theorem lk_X7_67 : Cond.methodLink RX7 67 yX7_hasPlace ∈ lG := inT (i := 447) (by decide +kernel) rfl
theorem lk_X11_133 : Cond.methodLink RX11 133 yX7_read ∈ lG := inT (i := 452) (by decide +kernel) rfl
theorem lk_X11_137 : Cond.methodLink RX11 137 yX2_note ∈ lG := inT (i := 456) (by decide +kernel) rfl
theorem lk_X2_23 : Cond.methodLink RX2 23 arraycopyName ∈ lG := inT (i := 460) (by decide +kernel) rfl
theorem lk_X11_141 : Cond.methodLink RX11 141 yX7_write ∈ lG := inT (i := 463) (by decide +kernel) rfl
theorem lk_L_32 : Cond.methodLink RL 32 yX11_of ∈ lG := inT (i := 467) (by decide +kernel) rfl
theorem lk_L_36 : Cond.methodLink RL 36 yX11_feed ∈ lG := inT (i := 471) (by decide +kernel) rfl
theorem lk_L_40 : Cond.methodLink RL 40 yX11_law ∈ lG := inT (i := 475) (by decide +kernel) rfl
theorem lk_X11_148 : Cond.methodLink RX11 148 yX9_faultOf ∈ lG := inT (i := 479) (by decide +kernel) rfl
theorem lk_X9_38 : Cond.methodLink RX9 38 yX9_operand ∈ lG := inT (i := 483) (by decide +kernel) rfl
theorem lk_X9_50 : Cond.methodLink RX9 50 yX9_isDigit ∈ lG := inT (i := 487) (by decide +kernel) rfl
theorem lk_X9_54 : Cond.methodLink RX9 54 yX9_number ∈ lG := inT (i := 490) (by decide +kernel) rfl
theorem lk_X9_62 : Cond.methodLink RX9 62 yX9_write ∈ lG := inT (i := 494) (by decide +kernel) rfl
theorem lk_X9_65 : Cond.methodLink RX9 65 yX9_endOperand ∈ lG := inT (i := 498) (by decide +kernel) rfl
theorem lk_X9_81 : Cond.methodLink RX9 81 yX9_lastWaiting ∈ lG := inT (i := 502) (by decide +kernel) rfl
theorem lk_X9_57 : Cond.methodLink RX9 57 yX8_isName ∈ lG := inT (i := 507) (by decide +kernel) rfl
theorem lk_X9_68 : Cond.methodLink RX9 68 yX9_await ∈ lG := inT (i := 510) (by decide +kernel) rfl
theorem lk_X9_42 : Cond.methodLink RX9 42 yX9_sign ∈ lG := inT (i := 514) (by decide +kernel) rfl
theorem lk_X9_71 : Cond.methodLink RX9 71 yX9_closeBracket ∈ lG := inT (i := 518) (by decide +kernel) rfl
theorem lk_X9_46 : Cond.methodLink RX9 46 yX9_writeWaiting ∈ lG := inT (i := 522) (by decide +kernel) rfl
theorem lk_X9_78 : Cond.methodLink RX9 78 yX9_rankOf ∈ lG := inT (i := 526) (by decide +kernel) rfl
theorem lk_X9_75 : Cond.methodLink RX9 75 yX9_endPart ∈ lG := inT (i := 529) (by decide +kernel) rfl
theorem lk_X11_152 : Cond.methodLink RX11 152 yX8_become ∈ lG := inT (i := 533) (by decide +kernel) rfl
theorem lk_X8_25 : Cond.methodLink RX8 25 arraycopyName ∈ lG := inT (i := 537) (by decide +kernel) rfl
theorem lk_L_45 : Cond.methodLink RL 45 yX11_turn ∈ lG := inT (i := 538) (by decide +kernel) rfl
theorem lk_X11_156 : Cond.methodLink RX11 156 yX7_hasCarriage ∈ lG := inT (i := 542) (by decide +kernel) rfl
theorem lk_X11_162 : Cond.methodLink RX11 162 yX3_start ∈ lG := inT (i := 543) (by decide +kernel) rfl
theorem lk_X11_169 : Cond.methodLink RX11 169 yX3_lawBehind ∈ lG := inT (i := 547) (by decide +kernel) rfl
theorem lk_X3_44 : Cond.methodLink RX3 44 yJ9_max_7cf53 ∈ lG := inT (i := 551) (by decide +kernel) rfl
theorem lk_X3_53 : Cond.methodLink RX3 53 yJ9_min_7cf53 ∈ lG := inT (i := 554) (by decide +kernel) rfl
theorem lk_X3_59 : Cond.methodLink RX3 59 yX8_gives ∈ lG := inT (i := 557) (by decide +kernel) rfl
theorem lk_X8_50 : Cond.methodLink RX8 50 yX8_valueAt ∈ lG := inT (i := 561) (by decide +kernel) rfl
theorem lk_X8_54 : Cond.methodLink RX8 54 yX8_work ∈ lG := inT (i := 566) (by decide +kernel) rfl
theorem lk_X8_70 : Cond.methodLink RX8 70 yX8_isName ∈ lG := inT (i := 570) (by decide +kernel) rfl
theorem lk_X8_74 : Cond.methodLink RX8 74 yX8_named ∈ lG := inT (i := 571) (by decide +kernel) rfl
theorem lk_X8_77 : Cond.methodLink RX8 77 yX8_joined ∈ lG := inT (i := 575) (by decide +kernel) rfl
theorem lk_X8_58 : Cond.methodLink RX8 58 yJ9_min_7cf53 ∈ lG := inT (i := 578) (by decide +kernel) rfl
theorem lk_X8_63 : Cond.methodLink RX8 63 yJ9_max_7cf53 ∈ lG := inT (i := 579) (by decide +kernel) rfl
theorem lk_L_49 : Cond.methodLink RL 49 yX11_later ∈ lG := inT (i := 580) (by decide +kernel) rfl
theorem lk_X11_175 : Cond.methodLink RX11 175 yJ9_max_7cf53 ∈ lG := inT (i := 584) (by decide +kernel) rfl
theorem lk_X11_180 : Cond.methodLink RX11 180 yX6_follow ∈ lG := inT (i := 585) (by decide +kernel) rfl
theorem lk_X6_31 : Cond.methodLink RX6 31 yX3_start ∈ lG := inT (i := 589) (by decide +kernel) rfl
theorem lk_X6_37 : Cond.methodLink RX6 37 yX3_standNow ∈ lG := inT (i := 590) (by decide +kernel) rfl
theorem lk_X6_41 : Cond.methodLink RX6 41 yX6_followFrom ∈ lG := inT (i := 594) (by decide +kernel) rfl
theorem lk_X6_45 : Cond.methodLink RX6 45 yX3_next ∈ lG := inT (i := 598) (by decide +kernel) rfl
theorem lk_X3_65 : Cond.methodLink RX3 65 yX3_lawBehind ∈ lG := inT (i := 602) (by decide +kernel) rfl
theorem lk_X3_77 : Cond.methodLink RX3 77 yX3_onLand ∈ lG := inT (i := 607) (by decide +kernel) rfl
theorem lk_X11_184 : Cond.methodLink RX11 184 yX6_cellBehind ∈ lG := inT (i := 610) (by decide +kernel) rfl
theorem lk_X11_187 : Cond.methodLink RX11 187 yX6_wayBehind ∈ lG := inT (i := 614) (by decide +kernel) rfl
theorem lk_L_53 : Cond.methodLink RL 53 yX11_nears ∈ lG := inT (i := 618) (by decide +kernel) rfl
theorem lk_X11_190 : Cond.methodLink RX11 190 yX11_isPair ∈ lG := inT (i := 622) (by decide +kernel) rfl
theorem lk_X11_285 : Cond.methodLink RX11 285 yX7_hasPlace ∈ lG := inT (i := 626) (by decide +kernel) rfl
theorem lk_X11_196 : Cond.methodLink RX11 196 yX6_firstNearest ∈ lG := inT (i := 627) (by decide +kernel) rfl
theorem lk_X6_53 : Cond.methodLink RX6 53 yX6_cellBehind ∈ lG := inT (i := 631) (by decide +kernel) rfl
theorem lk_X6_57 : Cond.methodLink RX6 57 yX7_apart ∈ lG := inT (i := 632) (by decide +kernel) rfl
theorem lk_X7_44 : Cond.methodLink RX7 44 yJ9_abs_0f7a4 ∈ lG := inT (i := 635) (by decide +kernel) rfl
theorem lk_X7_50 : Cond.methodLink RX7 50 yJ9_max_7cf53 ∈ lG := inT (i := 638) (by decide +kernel) rfl
theorem lk_X11_199 : Cond.methodLink RX11 199 yX7_apart ∈ lG := inT (i := 639) (by decide +kernel) rfl
theorem lk_L_57 : Cond.methodLink RL 57 yX11_passes ∈ lG := inT (i := 640) (by decide +kernel) rfl
theorem lk_X11_202 : Cond.methodLink RX11 202 yX6_placesPassed ∈ lG := inT (i := 644) (by decide +kernel) rfl
theorem lk_X6_60 : Cond.methodLink RX6 60 yX7_placesNear ∈ lG := inT (i := 648) (by decide +kernel) rfl
theorem lk_X7_76 : Cond.methodLink RX7 76 yX7_near ∈ lG := inT (i := 652) (by decide +kernel) rfl
theorem lk_X7_54 : Cond.methodLink RX7 54 yX7_apart ∈ lG := inT (i := 656) (by decide +kernel) rfl
theorem lk_X11_205 : Cond.methodLink RX11 205 yX7_worthOf ∈ lG := inT (i := 657) (by decide +kernel) rfl
theorem lk_L_61 : Cond.methodLink RL 61 yX11_meet ∈ lG := inT (i := 661) (by decide +kernel) rfl
theorem lk_X11_208 : Cond.methodLink RX11 208 yX11_areTwoCarriages ∈ lG := inT (i := 665) (by decide +kernel) rfl
theorem lk_X11_211 : Cond.methodLink RX11 211 yX6_firstMeeting ∈ lG := inT (i := 669) (by decide +kernel) rfl
theorem lk_X6_68 : Cond.methodLink RX6 68 yX6_together ∈ lG := inT (i := 673) (by decide +kernel) rfl
theorem lk_X6_64 : Cond.methodLink RX6 64 yX7_near ∈ lG := inT (i := 677) (by decide +kernel) rfl
theorem lk_L_65 : Cond.methodLink RL 65 yX11_often ∈ lG := inT (i := 678) (by decide +kernel) rfl
theorem lk_X11_214 : Cond.methodLink RX11 214 yX6_meetings ∈ lG := inT (i := 682) (by decide +kernel) rfl
theorem lk_L_69 : Cond.methodLink RL 69 yX11_who ∈ lG := inT (i := 686) (by decide +kernel) rfl
theorem lk_X11_217 : Cond.methodLink RX11 217 yX6_followAll ∈ lG := inT (i := 690) (by decide +kernel) rfl
theorem lk_X11_220 : Cond.methodLink RX11 220 yX6_carriagesNear ∈ lG := inT (i := 694) (by decide +kernel) rfl
theorem lk_L_73 : Cond.methodLink RL 73 yX11_soonest ∈ lG := inT (i := 698) (by decide +kernel) rfl
theorem lk_X11_223 : Cond.methodLink RX11 223 yX11_areTwoPlaces ∈ lG := inT (i := 702) (by decide +kernel) rfl
theorem lk_X11_226 : Cond.methodLink RX11 226 yX6_soonestBetween ∈ lG := inT (i := 706) (by decide +kernel) rfl
theorem lk_X6_72 : Cond.methodLink RX6 72 yX6_carriagesNear ∈ lG := inT (i := 710) (by decide +kernel) rfl
theorem lk_X6_75 : Cond.methodLink RX6 75 yX6_withChanges ∈ lG := inT (i := 711) (by decide +kernel) rfl
theorem lk_L_77 : Cond.methodLink RL 77 yX11_buy ∈ lG := inT (i := 715) (by decide +kernel) rfl
theorem lk_X11_230 : Cond.methodLink RX11 230 yX6_bestHouses ∈ lG := inT (i := 719) (by decide +kernel) rfl
theorem lk_X6_78 : Cond.methodLink RX6 78 yX6_findPassers ∈ lG := inT (i := 723) (by decide +kernel) rfl
theorem lk_X6_92 : Cond.methodLink RX6 92 yJ7_fill_53178 ∈ lG := inT (i := 727) (by decide +kernel) rfl
theorem lk_X6_98 : Cond.methodLink RX6 98 yX6_placesPassed ∈ lG := inT (i := 730) (by decide +kernel) rfl
theorem lk_X6_84 : Cond.methodLink RX6 84 yJ6_bitCount_0f7a4 ∈ lG := inT (i := 731) (by decide +kernel) rfl
theorem lk_X6_89 : Cond.methodLink RX6 89 yX6_betterHouses ∈ lG := inT (i := 737) (by decide +kernel) rfl
theorem lk_X6_101 : Cond.methodLink RX6 101 yX6_passersOf ∈ lG := inT (i := 741) (by decide +kernel) rfl
theorem lk_X11_233 : Cond.methodLink RX11 233 yX6_passersOf ∈ lG := inT (i := 745) (by decide +kernel) rfl
theorem lk_X11_236 : Cond.methodLink RX11 236 yJ6_bitCount_0f7a4 ∈ lG := inT (i := 746) (by decide +kernel) rfl
theorem lk_L_81 : Cond.methodLink RL 81 yX11_judge ∈ lG := inT (i := 747) (by decide +kernel) rfl
theorem lk_X11_241 : Cond.methodLink RX11 241 yX10_refusalAsBytes ∈ lG := inT (i := 751) (by decide +kernel) rfl
theorem lk_X11_245 : Cond.methodLink RX11 245 yX5_firstWrongNow ∈ lG := inT (i := 755) (by decide +kernel) rfl
theorem lk_X5_29 : Cond.methodLink RX5 29 yX3_start ∈ lG := inT (i := 759) (by decide +kernel) rfl
theorem lk_X5_35 : Cond.methodLink RX5 35 yX3_standNow ∈ lG := inT (i := 760) (by decide +kernel) rfl
theorem lk_X5_39 : Cond.methodLink RX5 39 yX5_lastHour ∈ lG := inT (i := 761) (by decide +kernel) rfl
theorem lk_X5_59 : Cond.methodLink RX5 59 yX5_twosOf ∈ lG := inT (i := 764) (by decide +kernel) rfl
theorem lk_X5_72 : Cond.methodLink RX5 72 yJ9_min_7cf53 ∈ lG := inT (i := 767) (by decide +kernel) rfl
theorem lk_X5_43 : Cond.methodLink RX5 43 yX6_followFrom ∈ lG := inT (i := 768) (by decide +kernel) rfl
theorem lk_X5_49 : Cond.methodLink RX5 49 yX5_firstWrong ∈ lG := inT (i := 769) (by decide +kernel) rfl
theorem lk_X5_62 : Cond.methodLink RX5 62 yX5_isSo ∈ lG := inT (i := 773) (by decide +kernel) rfl
theorem lk_X5_86 : Cond.methodLink RX5 86 yX7_hasPlace ∈ lG := inT (i := 778) (by decide +kernel) rfl
theorem lk_X5_90 : Cond.methodLink RX5 90 yX6_cellBehind ∈ lG := inT (i := 779) (by decide +kernel) rfl
theorem lk_X5_96 : Cond.methodLink RX5 96 yX7_near ∈ lG := inT (i := 780) (by decide +kernel) rfl
theorem lk_L_85 : Cond.methodLink RL 85 yX11_dined ∈ lG := inT (i := 781) (by decide +kernel) rfl
theorem lk_X11_249 : Cond.methodLink RX11 249 yX5_waysThatFit ∈ lG := inT (i := 785) (by decide +kernel) rfl
theorem lk_X11_252 : Cond.methodLink RX11 252 yX5_pacesThatFit ∈ lG := inT (i := 789) (by decide +kernel) rfl
theorem lk_X11_255 : Cond.methodLink RX11 255 yX5_cellsThatFit ∈ lG := inT (i := 793) (by decide +kernel) rfl
theorem lk_L_89 : Cond.methodLink RL 89 yX11_reins ∈ lG := inT (i := 797) (by decide +kernel) rfl
theorem lk_X11_259 : Cond.methodLink RX11 259 yX1_fewestReins ∈ lG := inT (i := 801) (by decide +kernel) rfl
theorem lk_X1_36 : Cond.methodLink RX1 36 yX3_start ∈ lG := inT (i := 805) (by decide +kernel) rfl
theorem lk_X1_43 : Cond.methodLink RX1 43 yJ7_fill_53178 ∈ lG := inT (i := 807) (by decide +kernel) rfl
theorem lk_X1_49 : Cond.methodLink RX1 49 yX3_standNow ∈ lG := inT (i := 808) (by decide +kernel) rfl
theorem lk_X1_53 : Cond.methodLink RX1 53 yX1_goOn ∈ lG := inT (i := 809) (by decide +kernel) rfl
theorem lk_X1_62 : Cond.methodLink RX1 62 yX1_shiftOf ∈ lG := inT (i := 813) (by decide +kernel) rfl
theorem lk_X1_69 : Cond.methodLink RX1 69 yX3_next ∈ lG := inT (i := 818) (by decide +kernel) rfl
theorem lk_X1_73 : Cond.methodLink RX1 73 yJ9_min_7cf53 ∈ lG := inT (i := 819) (by decide +kernel) rfl
theorem lk_X1_57 : Cond.methodLink RX1 57 yX1_leastNear ∈ lG := inT (i := 820) (by decide +kernel) rfl
theorem lk_X1_79 : Cond.methodLink RX1 79 yX7_near ∈ lG := inT (i := 824) (by decide +kernel) rfl
theorem lk_X11_263 : Cond.methodLink RX11 263 yX1_reinsIn ∈ lG := inT (i := 826) (by decide +kernel) rfl
theorem lk_X11_266 : Cond.methodLink RX11 266 yX1_reinAt ∈ lG := inT (i := 829) (by decide +kernel) rfl
theorem lk_L_93 : Cond.methodLink RL 93 yX11_chance ∈ lG := inT (i := 832) (by decide +kernel) rfl
theorem lk_X11_273 : Cond.methodLink RX11 273 yX1_weight ∈ lG := inT (i := 837) (by decide +kernel) rfl
theorem lk_X1_86 : Cond.methodLink RX1 86 yX7_apart ∈ lG := inT (i := 841) (by decide +kernel) rfl
theorem lk_X11_277 : Cond.methodLink RX11 277 yX1_fraction ∈ lG := inT (i := 842) (by decide +kernel) rfl
theorem lk_X1_95 : Cond.methodLink RX1 95 yX1_commonDivisor ∈ lG := inT (i := 847) (by decide +kernel) rfl
theorem lk_X1_99 : Cond.methodLink RX1 99 yJ9_max_f86c9 ∈ lG := inT (i := 850) (by decide +kernel) rfl
theorem lk_L_98 : Cond.methodLink RL 98 yX11_mean ∈ lG := inT (i := 853) (by decide +kernel) rfl
theorem lk_L_102 : Cond.methodLink RL 102 yX11_byTurns ∈ lG := inT (i := 857) (by decide +kernel) rfl
theorem lk_X11_281 : Cond.methodLink RX11 281 yX1_herBest ∈ lG := inT (i := 861) (by decide +kernel) rfl
theorem lk_X1_102 : Cond.methodLink RX1 102 yX1_farAtLast ∈ lG := inT (i := 865) (by decide +kernel) rfl
theorem lk_X1_106 : Cond.methodLink RX1 106 yJ9_max_7cf53 ∈ lG := inT (i := 868) (by decide +kernel) rfl
theorem lk_L_106 : Cond.methodLink RL 106 yX11_drawn ∈ lG := inT (i := 869) (by decide +kernel) rfl
theorem lk_X11_288 : Cond.methodLink RX11 288 yX1_byDraws ∈ lG := inT (i := 873) (by decide +kernel) rfl
theorem lk_X1_111 : Cond.methodLink RX1 111 yX1_drawYear ∈ lG := inT (i := 877) (by decide +kernel) rfl
theorem lk_X1_114 : Cond.methodLink RX1 114 yX1_placesReached ∈ lG := inT (i := 882) (by decide +kernel) rfl
theorem lk_X1_121 : Cond.methodLink RX1 121 yX7_placesNear ∈ lG := inT (i := 886) (by decide +kernel) rfl
theorem lk_X1_124 : Cond.methodLink RX1 124 yJ6_bitCount_0f7a4 ∈ lG := inT (i := 887) (by decide +kernel) rfl
theorem lk_X1_117 : Cond.methodLink RX1 117 yX1_carriagesAt ∈ lG := inT (i := 888) (by decide +kernel) rfl
theorem lk_L_110 : Cond.methodLink RL 110 yX11_hour ∈ lG := inT (i := 892) (by decide +kernel) rfl
theorem lk_X11_292 : Cond.methodLink RX11 292 yX4_passHour ∈ lG := inT (i := 896) (by decide +kernel) rfl
theorem lk_X4_47 : Cond.methodLink RX4 47 yX3_start ∈ lG := inT (i := 900) (by decide +kernel) rfl
theorem lk_X4_53 : Cond.methodLink RX4 53 yX3_standNow ∈ lG := inT (i := 901) (by decide +kernel) rfl
theorem lk_X4_57 : Cond.methodLink RX4 57 yX3_next ∈ lG := inT (i := 902) (by decide +kernel) rfl
theorem lk_X4_70 : Cond.methodLink RX4 70 yJ9_max_7cf53 ∈ lG := inT (i := 903) (by decide +kernel) rfl
theorem lk_X4_79 : Cond.methodLink RX4 79 yX7_placesNear ∈ lG := inT (i := 904) (by decide +kernel) rfl
theorem lk_X4_83 : Cond.methodLink RX4 83 yJ6_bitCount_0f7a4 ∈ lG := inT (i := 905) (by decide +kernel) rfl
theorem lk_X4_91 : Cond.methodLink RX4 91 yJ9_min_7cf53 ∈ lG := inT (i := 906) (by decide +kernel) rfl
theorem lk_L_114 : Cond.methodLink RL 114 yX11_rein ∈ lG := inT (i := 907) (by decide +kernel) rfl
theorem lk_X11_298 : Cond.methodLink RX11 298 yX4_pullRein ∈ lG := inT (i := 911) (by decide +kernel) rfl
theorem lk_L_118 : Cond.methodLink RL 118 yX11_shoe ∈ lG := inT (i := 915) (by decide +kernel) rfl
theorem lk_X11_301 : Cond.methodLink RX11 301 yX4_putShoe ∈ lG := inT (i := 919) (by decide +kernel) rfl
theorem lk_L_122 : Cond.methodLink RL 122 yX11_buys ∈ lG := inT (i := 923) (by decide +kernel) rfl
theorem lk_L_126 : Cond.methodLink RL 126 yX11_led ∈ lG := inT (i := 927) (by decide +kernel) rfl
theorem lk_L_130 : Cond.methodLink RL 130 yX11_image ∈ lG := inT (i := 931) (by decide +kernel) rfl
theorem lk_X11_310 : Cond.methodLink RX11 310 yX4_keepImage ∈ lG := inT (i := 935) (by decide +kernel) rfl
theorem lk_X4_97 : Cond.methodLink RX4 97 arraycopyName ∈ lG := inT (i := 939) (by decide +kernel) rfl
theorem lk_L_134 : Cond.methodLink RL 134 yX11_back ∈ lG := inT (i := 940) (by decide +kernel) rfl
theorem lk_X11_313 : Cond.methodLink RX11 313 yX4_layBack ∈ lG := inT (i := 944) (by decide +kernel) rfl
theorem lk_L_138 : Cond.methodLink RL 138 yX11_undo ∈ lG := inT (i := 948) (by decide +kernel) rfl
theorem lk_X11_316 : Cond.methodLink RX11 316 yX2_takeBack ∈ lG := inT (i := 952) (by decide +kernel) rfl
theorem lk_X2_32 : Cond.methodLink RX2 32 yX7_write ∈ lG := inT (i := 956) (by decide +kernel) rfl
theorem lk_L_142 : Cond.methodLink RL 142 yX11_redo ∈ lG := inT (i := 957) (by decide +kernel) rfl
theorem lk_X11_319 : Cond.methodLink RX11 319 yX2_doAgain ∈ lG := inT (i := 961) (by decide +kernel) rfl
theorem lk_L_146 : Cond.methodLink RL 146 yX11_body ∈ lG := inT (i := 965) (by decide +kernel) rfl
theorem lk_X11_322 : Cond.methodLink RX11 322 yX0_add ∈ lG := inT (i := 969) (by decide +kernel) rfl
theorem lk_L_150 : Cond.methodLink RL 150 yX11_act ∈ lG := inT (i := 973) (by decide +kernel) rfl
theorem lk_X11_325 : Cond.methodLink RX11 325 yX0_forgetTrace ∈ lG := inT (i := 977) (by decide +kernel) rfl
theorem lk_X11_328 : Cond.methodLink RX11 328 yX0_has ∈ lG := inT (i := 981) (by decide +kernel) rfl
theorem lk_X11_330 : Cond.methodLink RX11 330 yX0_start ∈ lG := inT (i := 985) (by decide +kernel) rfl
theorem lk_X0_39 : Cond.methodLink RX0 39 yX0_own ∈ lG := inT (i := 989) (by decide +kernel) rfl
theorem lk_X0_43 : Cond.methodLink RX0 43 yX0_kindOf ∈ lG := inT (i := 993) (by decide +kernel) rfl
theorem lk_X0_22 : Cond.methodLink RX0 22 yX0_has ∈ lG := inT (i := 997) (by decide +kernel) rfl
theorem lk_X0_47 : Cond.methodLink RX0 47 yX0_run ∈ lG := inT (i := 998) (by decide +kernel) rfl
theorem lk_X0_51 : Cond.methodLink RX0 51 yX0_holderOf ∈ lG := inT (i := 1002) (by decide +kernel) rfl
theorem lk_X0_58 : Cond.methodLink RX0 58 yX0_first ∈ lG := inT (i := 1010) (by decide +kernel) rfl
theorem lk_X0_61 : Cond.methodLink RX0 61 yX0_inherited ∈ lG := inT (i := 1014) (by decide +kernel) rfl
theorem lk_L_154 : Cond.methodLink RL 154 yX11_trace ∈ lG := inT (i := 1018) (by decide +kernel) rfl
theorem lk_X11_332 : Cond.methodLink RX11 332 yX0_traced ∈ lG := inT (i := 1022) (by decide +kernel) rfl
theorem lk_L_158 : Cond.methodLink RL 158 yX11_keep ∈ lG := inT (i := 1026) (by decide +kernel) rfl
theorem lk_X11_335 : Cond.methodLink RX11 335 yX10_clear ∈ lG := inT (i := 1030) (by decide +kernel) rfl
theorem lk_X11_338 : Cond.methodLink RX11 338 yX10_holdBody ∈ lG := inT (i := 1034) (by decide +kernel) rfl
theorem lk_L_162 : Cond.methodLink RL 162 yX11_row ∈ lG := inT (i := 1038) (by decide +kernel) rfl
theorem lk_X11_341 : Cond.methodLink RX11 341 yX10_holdRow ∈ lG := inT (i := 1042) (by decide +kernel) rfl
theorem lk_X10_25 : Cond.methodLink RX10 25 yJ7_fill_d0a16 ∈ lG := inT (i := 1046) (by decide +kernel) rfl
theorem lk_L_168 : Cond.methodLink RL 168 yX11_put ∈ lG := inT (i := 1049) (by decide +kernel) rfl
theorem lk_X11_344 : Cond.methodLink RX11 344 yX11_refusalOfElement ∈ lG := inT (i := 1053) (by decide +kernel) rfl
theorem lk_X11_347 : Cond.methodLink RX11 347 yX10_store ∈ lG := inT (i := 1057) (by decide +kernel) rfl
theorem lk_L_173 : Cond.methodLink RL 173 yX11_element ∈ lG := inT (i := 1061) (by decide +kernel) rfl
theorem lk_L_178 : Cond.methodLink RL 178 yX11_shift ∈ lG := inT (i := 1065) (by decide +kernel) rfl
theorem lk_X11_355 : Cond.methodLink RX11 355 yX10_hasRange ∈ lG := inT (i := 1069) (by decide +kernel) rfl
theorem lk_X11_358 : Cond.methodLink RX11 358 arraycopyName ∈ lG := inT (i := 1073) (by decide +kernel) rfl
theorem lk_L_183 : Cond.methodLink RL 183 yX11_taken ∈ lG := inT (i := 1074) (by decide +kernel) rfl
theorem lk_X11_367 : Cond.methodLink RX11 367 yX0_kindOf ∈ lG := inT (i := 1078) (by decide +kernel) rfl
theorem lk_X11_370 : Cond.methodLink RX11 370 yX0_isOrUnder ∈ lG := inT (i := 1079) (by decide +kernel) rfl
theorem lk_L_187 : Cond.methodLink RL 187 yX11_count ∈ lG := inT (i := 1082) (by decide +kernel) rfl
theorem lk_L_12 : Cond.methodLink RL 12 yX12_init ∈ lG := inT (i := 1088) (by decide +kernel) rfl
theorem lk_X12_3 : Cond.methodLink RX12 3 objectInit ∈ lG := inT (i := 1091) (by decide +kernel) rfl
theorem lk_L_17 : Cond.methodLink RL 17 yX12_carriage ∈ lG := inT (i := 1259) (by decide +kernel) rfl
theorem lk_X12_142 : Cond.methodLink RX12 142 yX12_isCell ∈ lG := inT (i := 1263) (by decide +kernel) rfl
theorem lk_X12_128 : Cond.methodLink RX12 128 yX12_in ∈ lG := inT (i := 1266) (by decide +kernel) rfl
theorem lk_X12_145 : Cond.methodLink RX12 145 yX12_addCarriage ∈ lG := inT (i := 1269) (by decide +kernel) rfl
theorem lk_L_22 : Cond.methodLink RL 22 yX12_carriages ∈ lG := inT (i := 1273) (by decide +kernel) rfl
theorem lk_X12_149 : Cond.methodLink RX12 149 yX12_isShelf ∈ lG := inT (i := 1277) (by decide +kernel) rfl
theorem lk_L_27 : Cond.methodLink RL 27 yX12_place ∈ lG := inT (i := 1281) (by decide +kernel) rfl
theorem lk_L_141 : Cond.methodLink RL 141 yX12_undo ∈ lG := inT (i := 1285) (by decide +kernel) rfl
theorem lk_X12_163 : Cond.methodLink RX12 163 yX12_lays ∈ lG := inT (i := 1289) (by decide +kernel) rfl
theorem lk_L_145 : Cond.methodLink RL 145 yX12_redo ∈ lG := inT (i := 1293) (by decide +kernel) rfl
theorem lk_L_31 : Cond.methodLink RL 31 yX12_mend ∈ lG := inT (i := 1297) (by decide +kernel) rfl
theorem lk_X12_167 : Cond.methodLink RX12 167 yX12_isOne ∈ lG := inT (i := 1301) (by decide +kernel) rfl
theorem lk_X12_135 : Cond.methodLink RX12 135 yX12_isCarriage ∈ lG := inT (i := 1305) (by decide +kernel) rfl
theorem lk_X12_139 : Cond.methodLink RX12 139 yX12_isPlace ∈ lG := inT (i := 1309) (by decide +kernel) rfl
theorem lk_X12_171 : Cond.methodLink RX12 171 yX12_mayHave ∈ lG := inT (i := 1313) (by decide +kernel) rfl
theorem lk_X12_174 : Cond.methodLink RX12 174 yX12_changes ∈ lG := inT (i := 1316) (by decide +kernel) rfl
theorem lk_X12_154 : Cond.methodLink RX12 154 yX12_valueAt ∈ lG := inT (i := 1320) (by decide +kernel) rfl
theorem lk_L_35 : Cond.methodLink RL 35 yX12_of ∈ lG := inT (i := 1325) (by decide +kernel) rfl
theorem lk_L_39 : Cond.methodLink RL 39 yX12_feed ∈ lG := inT (i := 1329) (by decide +kernel) rfl
theorem lk_L_44 : Cond.methodLink RL 44 yX12_law ∈ lG := inT (i := 1333) (by decide +kernel) rfl
theorem lk_X12_242 : Cond.methodLink RX12 242 yX12_readText ∈ lG := inT (i := 1337) (by decide +kernel) rfl
theorem lk_X12_233 : Cond.methodLink RX12 233 yX12_line ∈ lG := inT (i := 1341) (by decide +kernel) rfl
theorem lk_X12_215 : Cond.methodLink RX12 215 yX12_either ∈ lG := inT (i := 1345) (by decide +kernel) rfl
theorem lk_X12_230 : Cond.methodLink RX12 230 yX12_both ∈ lG := inT (i := 1349) (by decide +kernel) rfl
theorem lk_X12_227 : Cond.methodLink RX12 227 yX12_compared ∈ lG := inT (i := 1353) (by decide +kernel) rfl
theorem lk_X12_224 : Cond.methodLink RX12 224 yX12_sum ∈ lG := inT (i := 1357) (by decide +kernel) rfl
theorem lk_X12_221 : Cond.methodLink RX12 221 yX12_product ∈ lG := inT (i := 1361) (by decide +kernel) rfl
theorem lk_X12_212 : Cond.methodLink RX12 212 yX12_operand ∈ lG := inT (i := 1365) (by decide +kernel) rfl
theorem lk_X12_196 : Cond.methodLink RX12 196 yX12_look ∈ lG := inT (i := 1369) (by decide +kernel) rfl
theorem lk_X12_204 : Cond.methodLink RX12 204 yX12_nameOf ∈ lG := inT (i := 1373) (by decide +kernel) rfl
theorem lk_X12_200 : Cond.methodLink RX12 200 yX12_addStep ∈ lG := inT (i := 1376) (by decide +kernel) rfl
theorem lk_X12_208 : Cond.methodLink RX12 208 yX12_opens ∈ lG := inT (i := 1380) (by decide +kernel) rfl
theorem lk_X12_193 : Cond.methodLink RX12 193 yX12_wrong ∈ lG := inT (i := 1384) (by decide +kernel) rfl
theorem lk_X12_218 : Cond.methodLink RX12 218 yX12_figure ∈ lG := inT (i := 1388) (by decide +kernel) rfl
theorem lk_L_48 : Cond.methodLink RL 48 yX12_turn ∈ lG := inT (i := 1392) (by decide +kernel) rfl
theorem lk_X12_252 : Cond.methodLink RX12 252 yX12_turnBy ∈ lG := inT (i := 1396) (by decide +kernel) rfl
theorem lk_X12_249 : Cond.methodLink RX12 249 yX12_gives ∈ lG := inT (i := 1400) (by decide +kernel) rfl
theorem lk_X12_239 : Cond.methodLink RX12 239 yX12_worked ∈ lG := inT (i := 1404) (by decide +kernel) rfl
theorem lk_X12_236 : Cond.methodLink RX12 236 yX12_twoOf ∈ lG := inT (i := 1408) (by decide +kernel) rfl
theorem lk_L_52 : Cond.methodLink RL 52 yX12_later ∈ lG := inT (i := 1411) (by decide +kernel) rfl
theorem lk_X12_290 : Cond.methodLink RX12 290 yX12_areHours ∈ lG := inT (i := 1415) (by decide +kernel) rfl
theorem lk_X12_293 : Cond.methodLink RX12 293 yX12_goTo ∈ lG := inT (i := 1418) (by decide +kernel) rfl
theorem lk_X12_283 : Cond.methodLink RX12 283 yX12_layNow ∈ lG := inT (i := 1422) (by decide +kernel) rfl
theorem lk_X12_287 : Cond.methodLink RX12 287 yX12_goHour ∈ lG := inT (i := 1426) (by decide +kernel) rfl
theorem lk_X12_274 : Cond.methodLink RX12 274 yX12_shoeAt ∈ lG := inT (i := 1430) (by decide +kernel) rfl
theorem lk_X12_277 : Cond.methodLink RX12 277 yX12_hourAt ∈ lG := inT (i := 1433) (by decide +kernel) rfl
theorem lk_X12_280 : Cond.methodLink RX12 280 yX12_goStep ∈ lG := inT (i := 1437) (by decide +kernel) rfl
theorem lk_X12_268 : Cond.methodLink RX12 268 yX12_leaves ∈ lG := inT (i := 1441) (by decide +kernel) rfl
theorem lk_X12_256 : Cond.methodLink RX12 256 yX12_alongX ∈ lG := inT (i := 1444) (by decide +kernel) rfl
theorem lk_X12_259 : Cond.methodLink RX12 259 yX12_alongY ∈ lG := inT (i := 1447) (by decide +kernel) rfl
theorem lk_L_56 : Cond.methodLink RL 56 yX12_nears ∈ lG := inT (i := 1450) (by decide +kernel) rfl
theorem lk_X12_299 : Cond.methodLink RX12 299 yX12_areNear ∈ lG := inT (i := 1454) (by decide +kernel) rfl
theorem lk_X12_302 : Cond.methodLink RX12 302 yX12_layAll ∈ lG := inT (i := 1458) (by decide +kernel) rfl
theorem lk_X12_296 : Cond.methodLink RX12 296 yX12_apart ∈ lG := inT (i := 1462) (by decide +kernel) rfl
theorem lk_X12_121 : Cond.methodLink RX12 121 yX12_gap ∈ lG := inT (i := 1465) (by decide +kernel) rfl
theorem lk_L_60 : Cond.methodLink RL 60 yX12_passes ∈ lG := inT (i := 1468) (by decide +kernel) rfl
theorem lk_X12_308 : Cond.methodLink RX12 308 yX12_passedBy ∈ lG := inT (i := 1472) (by decide +kernel) rfl
theorem lk_X12_305 : Cond.methodLink RX12 305 yX12_nearTo ∈ lG := inT (i := 1476) (by decide +kernel) rfl
theorem lk_X12_311 : Cond.methodLink RX12 311 yX12_has ∈ lG := inT (i := 1480) (by decide +kernel) rfl
theorem lk_L_64 : Cond.methodLink RL 64 yX12_meet ∈ lG := inT (i := 1483) (by decide +kernel) rfl
theorem lk_X12_314 : Cond.methodLink RX12 314 yX12_areTwo ∈ lG := inT (i := 1487) (by decide +kernel) rfl
theorem lk_X12_317 : Cond.methodLink RX12 317 yX12_meetAt ∈ lG := inT (i := 1491) (by decide +kernel) rfl
theorem lk_L_68 : Cond.methodLink RL 68 yX12_often ∈ lG := inT (i := 1495) (by decide +kernel) rfl
theorem lk_L_72 : Cond.methodLink RL 72 yX12_who ∈ lG := inT (i := 1499) (by decide +kernel) rfl
theorem lk_X12_320 : Cond.methodLink RX12 320 yX12_whoNear ∈ lG := inT (i := 1503) (by decide +kernel) rfl
theorem lk_L_76 : Cond.methodLink RL 76 yX12_soonest ∈ lG := inT (i := 1507) (by decide +kernel) rfl
theorem lk_X12_323 : Cond.methodLink RX12 323 yX12_changed ∈ lG := inT (i := 1511) (by decide +kernel) rfl
theorem lk_L_80 : Cond.methodLink RL 80 yX12_buy ∈ lG := inT (i := 1515) (by decide +kernel) rfl
theorem lk_X12_326 : Cond.methodLink RX12 326 yX12_bitsOf ∈ lG := inT (i := 1519) (by decide +kernel) rfl
theorem lk_L_84 : Cond.methodLink RL 84 yX12_judge ∈ lG := inT (i := 1522) (by decide +kernel) rfl
theorem lk_X12_332 : Cond.methodLink RX12 332 yX12_rowFault ∈ lG := inT (i := 1526) (by decide +kernel) rfl
theorem lk_X12_335 : Cond.methodLink RX12 335 yX12_wrongTwo ∈ lG := inT (i := 1530) (by decide +kernel) rfl
theorem lk_X12_329 : Cond.methodLink RX12 329 yX12_at ∈ lG := inT (i := 1534) (by decide +kernel) rfl
theorem lk_L_88 : Cond.methodLink RL 88 yX12_dined ∈ lG := inT (i := 1538) (by decide +kernel) rfl
theorem lk_X12_338 : Cond.methodLink RX12 338 yX12_dinedWays ∈ lG := inT (i := 1542) (by decide +kernel) rfl
theorem lk_X12_341 : Cond.methodLink RX12 341 yX12_dinedFrom ∈ lG := inT (i := 1546) (by decide +kernel) rfl
theorem lk_X12_345 : Cond.methodLink RX12 345 yX12_dinedPaces ∈ lG := inT (i := 1550) (by decide +kernel) rfl
theorem lk_L_92 : Cond.methodLink RL 92 yX12_reins ∈ lG := inT (i := 1554) (by decide +kernel) rfl
theorem lk_X12_364 : Cond.methodLink RX12 364 yX12_findFew ∈ lG := inT (i := 1558) (by decide +kernel) rfl
theorem lk_X12_348 : Cond.methodLink RX12 348 yX12_stateOf ∈ lG := inT (i := 1562) (by decide +kernel) rfl
theorem lk_X12_354 : Cond.methodLink RX12 354 yX12_layFew ∈ lG := inT (i := 1565) (by decide +kernel) rfl
theorem lk_X12_360 : Cond.methodLink RX12 360 yX12_fewBy ∈ lG := inT (i := 1571) (by decide +kernel) rfl
theorem lk_X12_351 : Cond.methodLink RX12 351 yX12_fewAt ∈ lG := inT (i := 1575) (by decide +kernel) rfl
theorem lk_L_97 : Cond.methodLink RL 97 yX12_chance ∈ lG := inT (i := 1579) (by decide +kernel) rfl
theorem lk_X12_380 : Cond.methodLink RX12 380 yX12_areChance ∈ lG := inT (i := 1583) (by decide +kernel) rfl
theorem lk_X12_386 : Cond.methodLink RX12 386 yX12_findChance ∈ lG := inT (i := 1588) (by decide +kernel) rfl
theorem lk_X12_374 : Cond.methodLink RX12 374 yX12_goChance ∈ lG := inT (i := 1592) (by decide +kernel) rfl
theorem lk_X12_390 : Cond.methodLink RX12 390 yX12_lowest ∈ lG := inT (i := 1597) (by decide +kernel) rfl
theorem lk_L_101 : Cond.methodLink RL 101 yX12_mean ∈ lG := inT (i := 1600) (by decide +kernel) rfl
theorem lk_L_105 : Cond.methodLink RL 105 yX12_byTurns ∈ lG := inT (i := 1604) (by decide +kernel) rfl
theorem lk_X12_394 : Cond.methodLink RX12 394 yX12_endsAt ∈ lG := inT (i := 1608) (by decide +kernel) rfl
theorem lk_X12_397 : Cond.methodLink RX12 397 yX12_endsBy ∈ lG := inT (i := 1612) (by decide +kernel) rfl
theorem lk_L_109 : Cond.methodLink RL 109 yX12_drawn ∈ lG := inT (i := 1616) (by decide +kernel) rfl
theorem lk_X12_405 : Cond.methodLink RX12 405 yX12_placesNear ∈ lG := inT (i := 1621) (by decide +kernel) rfl
theorem lk_X12_401 : Cond.methodLink RX12 401 yX12_manyNear ∈ lG := inT (i := 1625) (by decide +kernel) rfl
theorem lk_L_113 : Cond.methodLink RL 113 yX12_hour ∈ lG := inT (i := 1629) (by decide +kernel) rfl
theorem lk_L_117 : Cond.methodLink RL 117 yX12_rein ∈ lG := inT (i := 1633) (by decide +kernel) rfl
theorem lk_L_121 : Cond.methodLink RL 121 yX12_shoe ∈ lG := inT (i := 1637) (by decide +kernel) rfl
theorem lk_L_125 : Cond.methodLink RL 125 yX12_buys ∈ lG := inT (i := 1641) (by decide +kernel) rfl
theorem lk_L_129 : Cond.methodLink RL 129 yX12_led ∈ lG := inT (i := 1645) (by decide +kernel) rfl
theorem lk_L_133 : Cond.methodLink RL 133 yX12_image ∈ lG := inT (i := 1649) (by decide +kernel) rfl
theorem lk_L_137 : Cond.methodLink RL 137 yX12_back ∈ lG := inT (i := 1653) (by decide +kernel) rfl
theorem lk_L_157 : Cond.methodLink RL 157 yX12_trace ∈ lG := inT (i := 1657) (by decide +kernel) rfl
theorem lk_L_149 : Cond.methodLink RL 149 yX12_body ∈ lG := inT (i := 1661) (by decide +kernel) rfl
theorem lk_L_153 : Cond.methodLink RL 153 yX12_act ∈ lG := inT (i := 1665) (by decide +kernel) rfl
theorem lk_X12_459 : Cond.methodLink RX12 459 yX12_isBody ∈ lG := inT (i := 1669) (by decide +kernel) rfl
theorem lk_X12_435 : Cond.methodLink RX12 435 yX12_facing ∈ lG := inT (i := 1673) (by decide +kernel) rfl
theorem lk_X12_429 : Cond.methodLink RX12 429 yX12_isUnder ∈ lG := inT (i := 1677) (by decide +kernel) rfl
theorem lk_X12_423 : Cond.methodLink RX12 423 yX12_ran ∈ lG := inT (i := 1680) (by decide +kernel) rfl
theorem lk_X12_426 : Cond.methodLink RX12 426 yX12_plainFaces ∈ lG := inT (i := 1684) (by decide +kernel) rfl
theorem lk_X12_432 : Cond.methodLink RX12 432 yX12_ludlowFaces ∈ lG := inT (i := 1688) (by decide +kernel) rfl
theorem lk_X12_453 : Cond.methodLink RX12 453 yX12_driving ∈ lG := inT (i := 1692) (by decide +kernel) rfl
theorem lk_X12_441 : Cond.methodLink RX12 441 yX12_buddDrives ∈ lG := inT (i := 1696) (by decide +kernel) rfl
theorem lk_X12_438 : Cond.methodLink RX12 438 yX12_plainDrives ∈ lG := inT (i := 1700) (by decide +kernel) rfl
theorem lk_X12_444 : Cond.methodLink RX12 444 yX12_weeping ∈ lG := inT (i := 1704) (by decide +kernel) rfl
theorem lk_X12_450 : Cond.methodLink RX12 450 yX12_farmWeeps ∈ lG := inT (i := 1708) (by decide +kernel) rfl
theorem lk_X12_447 : Cond.methodLink RX12 447 yX12_plainWeeps ∈ lG := inT (i := 1712) (by decide +kernel) rfl
theorem lk_X12_462 : Cond.methodLink RX12 462 yX12_telling ∈ lG := inT (i := 1716) (by decide +kernel) rfl
theorem lk_X12_456 : Cond.methodLink RX12 456 yX12_plainTells ∈ lG := inT (i := 1720) (by decide +kernel) rfl
theorem lk_L_190 : Cond.methodLink RL 190 yX12_count ∈ lG := inT (i := 1724) (by decide +kernel) rfl
theorem lk_L_161 : Cond.methodLink RL 161 yX12_keep ∈ lG := inT (i := 1728) (by decide +kernel) rfl
theorem lk_L_165 : Cond.methodLink RL 165 yX12_row ∈ lG := inT (i := 1732) (by decide +kernel) rfl
theorem lk_L_172 : Cond.methodLink RL 172 yX12_put ∈ lG := inT (i := 1736) (by decide +kernel) rfl
theorem lk_X12_465 : Cond.methodLink RX12 465 yX12_whyNoPlace ∈ lG := inT (i := 1740) (by decide +kernel) rfl
theorem lk_L_177 : Cond.methodLink RL 177 yX12_element ∈ lG := inT (i := 1744) (by decide +kernel) rfl
theorem lk_L_182 : Cond.methodLink RL 182 yX12_shift ∈ lG := inT (i := 1748) (by decide +kernel) rfl
theorem lk_L_186 : Cond.methodLink RL 186 yX12_taken ∈ lG := inT (i := 1752) (by decide +kernel) rfl
theorem lk_X11_9 : (RX11, 9, yX7_init) ∈ nestL := by decide +kernel
theorem lk_X11_18 : (RX11, 18, yX8_init) ∈ nestL := by decide +kernel
theorem lk_X11_25 : (RX11, 25, yX9_init) ∈ nestL := by decide +kernel
theorem lk_X11_90 : (RX11, 90, yX10_init) ∈ nestL := by decide +kernel
theorem lk_X11_93 : (RX11, 93, yX0_init) ∈ nestL := by decide +kernel
theorem lk_X7_34 : (RX7, 34, yX11_within) ∈ nestL := by decide +kernel
theorem lk_X9_84 : (RX9, 84, yX11_within) ∈ nestL := by decide +kernel
theorem lk_X8_66 : (RX8, 66, yX11_within) ∈ nestL := by decide +kernel
theorem lk_X5_82 : (RX5, 82, yX11_within) ∈ nestL := by decide +kernel
theorem lk_X0_26 : (RX0, 26, yX11_within) ∈ nestL := by decide +kernel
theorem f_X7_9 : 0 < 11 ∧ Cond.fieldLink RX7 9 (TX7 0).1 (TX7 0).2.1 (TX7 0).2.2.1 ∈ lG := ⟨by decide, inT (i := 32) (by decide +kernel) rfl⟩
theorem f_X4_61 : 0 < 11 ∧ Cond.fieldLink RX4 61 (TX7 0).1 (TX7 0).2.1 (TX7 0).2.2.1 ∈ lG := ⟨by decide, inT (i := 33) (by decide +kernel) rfl⟩
theorem f_X3_33 : 0 < 11 ∧ Cond.fieldLink RX3 33 (TX7 0).1 (TX7 0).2.1 (TX7 0).2.2.1 ∈ lG := ⟨by decide, inT (i := 34) (by decide +kernel) rfl⟩
theorem f_X5_53 : 0 < 11 ∧ Cond.fieldLink RX5 53 (TX7 0).1 (TX7 0).2.1 (TX7 0).2.2.1 ∈ lG := ⟨by decide, inT (i := 35) (by decide +kernel) rfl⟩
theorem f_X7_15 : 1 < 11 ∧ Cond.fieldLink RX7 15 (TX7 1).1 (TX7 1).2.1 (TX7 1).2.2.1 ∈ lG := ⟨by decide, inT (i := 36) (by decide +kernel) rfl⟩
theorem f_X4_64 : 1 < 11 ∧ Cond.fieldLink RX4 64 (TX7 1).1 (TX7 1).2.1 (TX7 1).2.2.1 ∈ lG := ⟨by decide, inT (i := 37) (by decide +kernel) rfl⟩
theorem f_X3_38 : 1 < 11 ∧ Cond.fieldLink RX3 38 (TX7 1).1 (TX7 1).2.1 (TX7 1).2.2.1 ∈ lG := ⟨by decide, inT (i := 38) (by decide +kernel) rfl⟩
theorem f_X5_56 : 1 < 11 ∧ Cond.fieldLink RX5 56 (TX7 1).1 (TX7 1).2.1 (TX7 1).2.2.1 ∈ lG := ⟨by decide, inT (i := 39) (by decide +kernel) rfl⟩
theorem f_X11_166 : 1 < 11 ∧ Cond.fieldLink RX11 166 (TX7 1).1 (TX7 1).2.1 (TX7 1).2.2.1 ∈ lG := ⟨by decide, inT (i := 40) (by decide +kernel) rfl⟩
theorem f_X7_18 : 2 < 11 ∧ Cond.fieldLink RX7 18 (TX7 2).1 (TX7 2).2.1 (TX7 2).2.2.1 ∈ lG := ⟨by decide, inT (i := 41) (by decide +kernel) rfl⟩
theorem f_X6_26 : 2 < 11 ∧ Cond.fieldLink RX6 26 (TX7 2).1 (TX7 2).2.1 (TX7 2).2.2.1 ∈ lG := ⟨by decide, inT (i := 42) (by decide +kernel) rfl⟩
theorem f_X5_23 : 2 < 11 ∧ Cond.fieldLink RX5 23 (TX7 2).1 (TX7 2).2.1 (TX7 2).2.2.1 ∈ lG := ⟨by decide, inT (i := 43) (by decide +kernel) rfl⟩
theorem f_X1_31 : 2 < 11 ∧ Cond.fieldLink RX1 31 (TX7 2).1 (TX7 2).2.1 (TX7 2).2.2.1 ∈ lG := ⟨by decide, inT (i := 44) (by decide +kernel) rfl⟩
theorem f_X4_44 : 2 < 11 ∧ Cond.fieldLink RX4 44 (TX7 2).1 (TX7 2).2.1 (TX7 2).2.2.1 ∈ lG := ⟨by decide, inT (i := 45) (by decide +kernel) rfl⟩
theorem f_X11_159 : 2 < 11 ∧ Cond.fieldLink RX11 159 (TX7 2).1 (TX7 2).2.1 (TX7 2).2.2.1 ∈ lG := ⟨by decide, inT (i := 46) (by decide +kernel) rfl⟩
theorem f_X7_21 : 3 < 11 ∧ Cond.fieldLink RX7 21 (TX7 3).1 (TX7 3).2.1 (TX7 3).2.2.1 ∈ lG := ⟨by decide, inT (i := 47) (by decide +kernel) rfl⟩
theorem f_X4_67 : 3 < 11 ∧ Cond.fieldLink RX4 67 (TX7 3).1 (TX7 3).2.1 (TX7 3).2.2.1 ∈ lG := ⟨by decide, inT (i := 48) (by decide +kernel) rfl⟩
theorem f_X3_41 : 3 < 11 ∧ Cond.fieldLink RX3 41 (TX7 3).1 (TX7 3).2.1 (TX7 3).2.2.1 ∈ lG := ⟨by decide, inT (i := 49) (by decide +kernel) rfl⟩
theorem f_X11_172 : 3 < 11 ∧ Cond.fieldLink RX11 172 (TX7 3).1 (TX7 3).2.1 (TX7 3).2.2.1 ∈ lG := ⟨by decide, inT (i := 50) (by decide +kernel) rfl⟩
theorem f_X4_39 : 4 < 11 ∧ Cond.fieldLink RX4 39 (TX7 4).1 (TX7 4).2.1 (TX7 4).2.2.1 ∈ lG := ⟨by decide, inT (i := 51) (by decide +kernel) rfl⟩
theorem f_X6_49 : 4 < 11 ∧ Cond.fieldLink RX6 49 (TX7 4).1 (TX7 4).2.1 (TX7 4).2.2.1 ∈ lG := ⟨by decide, inT (i := 52) (by decide +kernel) rfl⟩
theorem f_X7_57 : 4 < 11 ∧ Cond.fieldLink RX7 57 (TX7 4).1 (TX7 4).2.1 (TX7 4).2.2.1 ∈ lG := ⟨by decide, inT (i := 53) (by decide +kernel) rfl⟩
theorem f_X1_108 : 4 < 11 ∧ Cond.fieldLink RX1 108 (TX7 4).1 (TX7 4).2.1 (TX7 4).2.2.1 ∈ lG := ⟨by decide, inT (i := 54) (by decide +kernel) rfl⟩
theorem f_X11_373 : 4 < 11 ∧ Cond.fieldLink RX11 373 (TX7 4).1 (TX7 4).2.1 (TX7 4).2.2.1 ∈ lG := ⟨by decide, inT (i := 55) (by decide +kernel) rfl⟩
theorem f_X7_24 : 5 < 11 ∧ Cond.fieldLink RX7 24 (TX7 5).1 (TX7 5).2.1 (TX7 5).2.2.1 ∈ lG := ⟨by decide, inT (i := 56) (by decide +kernel) rfl⟩
theorem f_X1_83 : 5 < 11 ∧ Cond.fieldLink RX1 83 (TX7 5).1 (TX7 5).2.1 (TX7 5).2.2.1 ∈ lG := ⟨by decide, inT (i := 57) (by decide +kernel) rfl⟩
theorem f_X5_93 : 5 < 11 ∧ Cond.fieldLink RX5 93 (TX7 5).1 (TX7 5).2.1 (TX7 5).2.2.1 ∈ lG := ⟨by decide, inT (i := 58) (by decide +kernel) rfl⟩
theorem f_X11_193 : 5 < 11 ∧ Cond.fieldLink RX11 193 (TX7 5).1 (TX7 5).2.1 (TX7 5).2.2.1 ∈ lG := ⟨by decide, inT (i := 59) (by decide +kernel) rfl⟩
theorem f_X7_27 : 6 < 11 ∧ Cond.fieldLink RX7 27 (TX7 6).1 (TX7 6).2.1 (TX7 6).2.2.1 ∈ lG := ⟨by decide, inT (i := 60) (by decide +kernel) rfl⟩
theorem f_X11_304 : 6 < 11 ∧ Cond.fieldLink RX11 304 (TX7 6).1 (TX7 6).2.1 (TX7 6).2.2.1 ∈ lG := ⟨by decide, inT (i := 61) (by decide +kernel) rfl⟩
theorem f_X7_60 : 7 < 11 ∧ Cond.fieldLink RX7 60 (TX7 7).1 (TX7 7).2.1 (TX7 7).2.2.1 ∈ lG := ⟨by decide, inT (i := 62) (by decide +kernel) rfl⟩
theorem f_X6_81 : 7 < 11 ∧ Cond.fieldLink RX6 81 (TX7 7).1 (TX7 7).2.1 (TX7 7).2.2.1 ∈ lG := ⟨by decide, inT (i := 63) (by decide +kernel) rfl⟩
theorem f_X11_376 : 7 < 11 ∧ Cond.fieldLink RX11 376 (TX7 7).1 (TX7 7).2.1 (TX7 7).2.2.1 ∈ lG := ⟨by decide, inT (i := 64) (by decide +kernel) rfl⟩
theorem f_X7_30 : 8 < 11 ∧ Cond.fieldLink RX7 30 (TX7 8).1 (TX7 8).2.1 (TX7 8).2.2.1 ∈ lG := ⟨by decide, inT (i := 65) (by decide +kernel) rfl⟩
theorem f_X1_89 : 8 < 11 ∧ Cond.fieldLink RX1 89 (TX7 8).1 (TX7 8).2.1 (TX7 8).2.2.1 ∈ lG := ⟨by decide, inT (i := 66) (by decide +kernel) rfl⟩
theorem f_X3_56 : 9 < 11 ∧ Cond.fieldLink RX3 56 (TX7 9).1 (TX7 9).2.1 (TX7 9).2.2.1 ∈ lG := ⟨by decide, inT (i := 67) (by decide +kernel) rfl⟩
theorem f_X7_70 : 9 < 11 ∧ Cond.fieldLink RX7 70 (TX7 9).1 (TX7 9).2.1 (TX7 9).2.2.1 ∈ lG := ⟨by decide, inT (i := 68) (by decide +kernel) rfl⟩
theorem f_X4_88 : 10 < 11 ∧ Cond.fieldLink RX4 88 (TX7 10).1 (TX7 10).2.1 (TX7 10).2.2.1 ∈ lG := ⟨by decide, inT (i := 69) (by decide +kernel) rfl⟩
theorem f_X3_50 : 10 < 11 ∧ Cond.fieldLink RX3 50 (TX7 10).1 (TX7 10).2.1 (TX7 10).2.2.1 ∈ lG := ⟨by decide, inT (i := 70) (by decide +kernel) rfl⟩
theorem f_X7_73 : 10 < 11 ∧ Cond.fieldLink RX7 73 (TX7 10).1 (TX7 10).2.1 (TX7 10).2.2.1 ∈ lG := ⟨by decide, inT (i := 71) (by decide +kernel) rfl⟩
theorem f_X11_295 : 10 < 11 ∧ Cond.fieldLink RX11 295 (TX7 10).1 (TX7 10).2.1 (TX7 10).2.2.1 ∈ lG := ⟨by decide, inT (i := 72) (by decide +kernel) rfl⟩
theorem f_X8_9 : 0 < 9 ∧ Cond.fieldLink RX8 9 (TX8 0).1 (TX8 0).2.1 (TX8 0).2.2.1 ∈ lG := ⟨by decide, inT (i := 103) (by decide +kernel) rfl⟩
theorem f_X8_31 : 1 < 9 ∧ Cond.fieldLink RX8 31 (TX8 1).1 (TX8 1).2.1 (TX8 1).2.2.1 ∈ lG := ⟨by decide, inT (i := 104) (by decide +kernel) rfl⟩
theorem f_X8_15 : 2 < 9 ∧ Cond.fieldLink RX8 15 (TX8 2).1 (TX8 2).2.1 (TX8 2).2.2.1 ∈ lG := ⟨by decide, inT (i := 105) (by decide +kernel) rfl⟩
theorem f_X8_32 : 3 < 9 ∧ Cond.fieldLink RX8 32 (TX8 3).1 (TX8 3).2.1 (TX8 3).2.2.1 ∈ lG := ⟨by decide, inT (i := 106) (by decide +kernel) rfl⟩
theorem f_X8_35 : 4 < 9 ∧ Cond.fieldLink RX8 35 (TX8 4).1 (TX8 4).2.1 (TX8 4).2.2.1 ∈ lG := ⟨by decide, inT (i := 107) (by decide +kernel) rfl⟩
theorem f_X8_38 : 5 < 9 ∧ Cond.fieldLink RX8 38 (TX8 5).1 (TX8 5).2.1 (TX8 5).2.2.1 ∈ lG := ⟨by decide, inT (i := 108) (by decide +kernel) rfl⟩
theorem f_X8_41 : 6 < 9 ∧ Cond.fieldLink RX8 41 (TX8 6).1 (TX8 6).2.1 (TX8 6).2.2.1 ∈ lG := ⟨by decide, inT (i := 109) (by decide +kernel) rfl⟩
theorem f_X8_44 : 7 < 9 ∧ Cond.fieldLink RX8 44 (TX8 7).1 (TX8 7).2.1 (TX8 7).2.2.1 ∈ lG := ⟨by decide, inT (i := 110) (by decide +kernel) rfl⟩
theorem f_X8_47 : 8 < 9 ∧ Cond.fieldLink RX8 47 (TX8 8).1 (TX8 8).2.1 (TX8 8).2.2.1 ∈ lG := ⟨by decide, inT (i := 111) (by decide +kernel) rfl⟩
theorem f_X9_9 : 0 < 8 ∧ Cond.fieldLink RX9 9 (TX9 0).1 (TX9 0).2.1 (TX9 0).2.2.1 ∈ lG := ⟨by decide, inT (i := 137) (by decide +kernel) rfl⟩
theorem f_X8_18 : 0 < 8 ∧ Cond.fieldLink RX8 18 (TX9 0).1 (TX9 0).2.1 (TX9 0).2.2.1 ∈ lG := ⟨by decide, inT (i := 138) (by decide +kernel) rfl⟩
theorem f_X9_18 : 1 < 8 ∧ Cond.fieldLink RX9 18 (TX9 1).1 (TX9 1).2.1 (TX9 1).2.2.1 ∈ lG := ⟨by decide, inT (i := 139) (by decide +kernel) rfl⟩
theorem f_X8_21 : 1 < 8 ∧ Cond.fieldLink RX8 21 (TX9 1).1 (TX9 1).2.1 (TX9 1).2.2.1 ∈ lG := ⟨by decide, inT (i := 140) (by decide +kernel) rfl⟩
theorem f_X9_15 : 2 < 8 ∧ Cond.fieldLink RX9 15 (TX9 2).1 (TX9 2).2.1 (TX9 2).2.2.1 ∈ lG := ⟨by decide, inT (i := 141) (by decide +kernel) rfl⟩
theorem f_X9_22 : 3 < 8 ∧ Cond.fieldLink RX9 22 (TX9 3).1 (TX9 3).2.1 (TX9 3).2.2.1 ∈ lG := ⟨by decide, inT (i := 142) (by decide +kernel) rfl⟩
theorem f_X9_25 : 4 < 8 ∧ Cond.fieldLink RX9 25 (TX9 4).1 (TX9 4).2.1 (TX9 4).2.2.1 ∈ lG := ⟨by decide, inT (i := 143) (by decide +kernel) rfl⟩
theorem f_X9_28 : 5 < 8 ∧ Cond.fieldLink RX9 28 (TX9 5).1 (TX9 5).2.1 (TX9 5).2.2.1 ∈ lG := ⟨by decide, inT (i := 144) (by decide +kernel) rfl⟩
theorem f_X9_31 : 6 < 8 ∧ Cond.fieldLink RX9 31 (TX9 6).1 (TX9 6).2.1 (TX9 6).2.2.1 ∈ lG := ⟨by decide, inT (i := 145) (by decide +kernel) rfl⟩
theorem f_X9_35 : 7 < 8 ∧ Cond.fieldLink RX9 35 (TX9 7).1 (TX9 7).2.1 (TX9 7).2.2.1 ∈ lG := ⟨by decide, inT (i := 146) (by decide +kernel) rfl⟩
theorem f_X3_15 : 0 < 7 ∧ Cond.fieldLink RX3 15 (TX3 0).1 (TX3 0).2.1 (TX3 0).2.2.1 ∈ lG := ⟨by decide, inT (i := 171) (by decide +kernel) rfl⟩
theorem f_X3_19 : 1 < 7 ∧ Cond.fieldLink RX3 19 (TX3 1).1 (TX3 1).2.1 (TX3 1).2.2.1 ∈ lG := ⟨by decide, inT (i := 172) (by decide +kernel) rfl⟩
theorem f_X3_23 : 2 < 7 ∧ Cond.fieldLink RX3 23 (TX3 2).1 (TX3 2).2.1 (TX3 2).2.2.1 ∈ lG := ⟨by decide, inT (i := 173) (by decide +kernel) rfl⟩
theorem f_X3_9 : 3 < 7 ∧ Cond.fieldLink RX3 9 (TX3 3).1 (TX3 3).2.1 (TX3 3).2.2.1 ∈ lG := ⟨by decide, inT (i := 174) (by decide +kernel) rfl⟩
theorem f_X3_27 : 4 < 7 ∧ Cond.fieldLink RX3 27 (TX3 4).1 (TX3 4).2.1 (TX3 4).2.2.1 ∈ lG := ⟨by decide, inT (i := 175) (by decide +kernel) rfl⟩
theorem f_X3_30 : 5 < 7 ∧ Cond.fieldLink RX3 30 (TX3 5).1 (TX3 5).2.1 (TX3 5).2.2.1 ∈ lG := ⟨by decide, inT (i := 176) (by decide +kernel) rfl⟩
theorem f_X4_76 : 6 < 7 ∧ Cond.fieldLink RX4 76 (TX3 6).1 (TX3 6).2.1 (TX3 6).2.2.1 ∈ lG := ⟨by decide, inT (i := 177) (by decide +kernel) rfl⟩
theorem f_X3_68 : 6 < 7 ∧ Cond.fieldLink RX3 68 (TX3 6).1 (TX3 6).2.1 (TX3 6).2.2.1 ∈ lG := ⟨by decide, inT (i := 178) (by decide +kernel) rfl⟩
theorem f_X6_18 : 0 < 4 ∧ Cond.fieldLink RX6 18 (TX6 0).1 (TX6 0).2.1 (TX6 0).2.2.1 ∈ lG := ⟨by decide, inT (i := 200) (by decide +kernel) rfl⟩
theorem f_X6_22 : 1 < 4 ∧ Cond.fieldLink RX6 22 (TX6 1).1 (TX6 1).2.1 (TX6 1).2.2.1 ∈ lG := ⟨by decide, inT (i := 201) (by decide +kernel) rfl⟩
theorem f_X6_11 : 2 < 4 ∧ Cond.fieldLink RX6 11 (TX6 2).1 (TX6 2).2.1 (TX6 2).2.2.1 ∈ lG := ⟨by decide, inT (i := 202) (by decide +kernel) rfl⟩
theorem f_X6_15 : 3 < 4 ∧ Cond.fieldLink RX6 15 (TX6 3).1 (TX6 3).2.1 (TX6 3).2.2.1 ∈ lG := ⟨by decide, inT (i := 203) (by decide +kernel) rfl⟩
theorem f_X5_9 : 0 < 3 ∧ Cond.fieldLink RX5 9 (TX5 0).1 (TX5 0).2.1 (TX5 0).2.2.1 ∈ lG := ⟨by decide, inT (i := 219) (by decide +kernel) rfl⟩
theorem f_X5_15 : 1 < 3 ∧ Cond.fieldLink RX5 15 (TX5 1).1 (TX5 1).2.1 (TX5 1).2.2.1 ∈ lG := ⟨by decide, inT (i := 220) (by decide +kernel) rfl⟩
theorem f_X5_19 : 2 < 3 ∧ Cond.fieldLink RX5 19 (TX5 2).1 (TX5 2).2.1 (TX5 2).2.2.1 ∈ lG := ⟨by decide, inT (i := 221) (by decide +kernel) rfl⟩
theorem f_X1_23 : 0 < 5 ∧ Cond.fieldLink RX1 23 (TX1 0).1 (TX1 0).2.1 (TX1 0).2.2.1 ∈ lG := ⟨by decide, inT (i := 235) (by decide +kernel) rfl⟩
theorem f_X1_27 : 1 < 5 ∧ Cond.fieldLink RX1 27 (TX1 1).1 (TX1 1).2.1 (TX1 1).2.2.1 ∈ lG := ⟨by decide, inT (i := 236) (by decide +kernel) rfl⟩
theorem f_X1_13 : 2 < 5 ∧ Cond.fieldLink RX1 13 (TX1 2).1 (TX1 2).2.1 (TX1 2).2.2.1 ∈ lG := ⟨by decide, inT (i := 237) (by decide +kernel) rfl⟩
theorem f_X1_17 : 3 < 5 ∧ Cond.fieldLink RX1 17 (TX1 3).1 (TX1 3).2.1 (TX1 3).2.2.1 ∈ lG := ⟨by decide, inT (i := 238) (by decide +kernel) rfl⟩
theorem f_X1_20 : 4 < 5 ∧ Cond.fieldLink RX1 20 (TX1 4).1 (TX1 4).2.1 (TX1 4).2.2.1 ∈ lG := ⟨by decide, inT (i := 239) (by decide +kernel) rfl⟩
theorem f_X2_15 : 0 < 4 ∧ Cond.fieldLink RX2 15 (TX2 0).1 (TX2 0).2.1 (TX2 0).2.2.1 ∈ lG := ⟨by decide, inT (i := 257) (by decide +kernel) rfl⟩
theorem f_X2_11 : 1 < 4 ∧ Cond.fieldLink RX2 11 (TX2 1).1 (TX2 1).2.1 (TX2 1).2.2.1 ∈ lG := ⟨by decide, inT (i := 258) (by decide +kernel) rfl⟩
theorem f_X2_19 : 2 < 4 ∧ Cond.fieldLink RX2 19 (TX2 2).1 (TX2 2).2.1 (TX2 2).2.2.1 ∈ lG := ⟨by decide, inT (i := 259) (by decide +kernel) rfl⟩
theorem f_X11_379 : 2 < 4 ∧ Cond.fieldLink RX11 379 (TX2 2).1 (TX2 2).2.1 (TX2 2).2.2.1 ∈ lG := ⟨by decide, inT (i := 260) (by decide +kernel) rfl⟩
theorem f_X2_29 : 3 < 4 ∧ Cond.fieldLink RX2 29 (TX2 3).1 (TX2 3).2.1 (TX2 3).2.2.1 ∈ lG := ⟨by decide, inT (i := 261) (by decide +kernel) rfl⟩
theorem f_X4_31 : 0 < 9 ∧ Cond.fieldLink RX4 31 (TX4 0).1 (TX4 0).2.1 (TX4 0).2.2.1 ∈ lG := ⟨by decide, inT (i := 277) (by decide +kernel) rfl⟩
theorem f_X4_35 : 1 < 9 ∧ Cond.fieldLink RX4 35 (TX4 1).1 (TX4 1).2.1 (TX4 1).2.2.1 ∈ lG := ⟨by decide, inT (i := 278) (by decide +kernel) rfl⟩
theorem f_X4_11 : 2 < 9 ∧ Cond.fieldLink RX4 11 (TX4 2).1 (TX4 2).2.1 (TX4 2).2.2.1 ∈ lG := ⟨by decide, inT (i := 279) (by decide +kernel) rfl⟩
theorem f_X11_307 : 2 < 9 ∧ Cond.fieldLink RX11 307 (TX4 2).1 (TX4 2).2.1 (TX4 2).2.2.1 ∈ lG := ⟨by decide, inT (i := 280) (by decide +kernel) rfl⟩
theorem f_X4_15 : 3 < 9 ∧ Cond.fieldLink RX4 15 (TX4 3).1 (TX4 3).2.1 (TX4 3).2.2.1 ∈ lG := ⟨by decide, inT (i := 281) (by decide +kernel) rfl⟩
theorem f_X4_94 : 4 < 9 ∧ Cond.fieldLink RX4 94 (TX4 4).1 (TX4 4).2.1 (TX4 4).2.2.1 ∈ lG := ⟨by decide, inT (i := 282) (by decide +kernel) rfl⟩
theorem f_X4_19 : 5 < 9 ∧ Cond.fieldLink RX4 19 (TX4 5).1 (TX4 5).2.1 (TX4 5).2.2.1 ∈ lG := ⟨by decide, inT (i := 283) (by decide +kernel) rfl⟩
theorem f_X4_22 : 6 < 9 ∧ Cond.fieldLink RX4 22 (TX4 6).1 (TX4 6).2.1 (TX4 6).2.2.1 ∈ lG := ⟨by decide, inT (i := 284) (by decide +kernel) rfl⟩
theorem f_X4_25 : 7 < 9 ∧ Cond.fieldLink RX4 25 (TX4 7).1 (TX4 7).2.1 (TX4 7).2.2.1 ∈ lG := ⟨by decide, inT (i := 285) (by decide +kernel) rfl⟩
theorem f_X4_28 : 8 < 9 ∧ Cond.fieldLink RX4 28 (TX4 8).1 (TX4 8).2.1 (TX4 8).2.2.1 ∈ lG := ⟨by decide, inT (i := 286) (by decide +kernel) rfl⟩
theorem f_X10_11 : 0 < 4 ∧ Cond.fieldLink RX10 11 (TX10 0).1 (TX10 0).2.1 (TX10 0).2.2.1 ∈ lG := ⟨by decide, inT (i := 313) (by decide +kernel) rfl⟩
theorem f_X11_114 : 0 < 4 ∧ Cond.fieldLink RX11 114 (TX10 0).1 (TX10 0).2.1 (TX10 0).2.2.1 ∈ lG := ⟨by decide, inT (i := 314) (by decide +kernel) rfl⟩
theorem f_X10_22 : 1 < 4 ∧ Cond.fieldLink RX10 22 (TX10 1).1 (TX10 1).2.1 (TX10 1).2.2.1 ∈ lG := ⟨by decide, inT (i := 315) (by decide +kernel) rfl⟩
theorem f_X11_364 : 1 < 4 ∧ Cond.fieldLink RX11 364 (TX10 1).1 (TX10 1).2.1 (TX10 1).2.2.1 ∈ lG := ⟨by decide, inT (i := 316) (by decide +kernel) rfl⟩
theorem f_X10_19 : 2 < 4 ∧ Cond.fieldLink RX10 19 (TX10 2).1 (TX10 2).2.1 (TX10 2).2.2.1 ∈ lG := ⟨by decide, inT (i := 317) (by decide +kernel) rfl⟩
theorem f_X11_118 : 2 < 4 ∧ Cond.fieldLink RX11 118 (TX10 2).1 (TX10 2).2.1 (TX10 2).2.2.1 ∈ lG := ⟨by decide, inT (i := 318) (by decide +kernel) rfl⟩
theorem f_X5_66 : 2 < 4 ∧ Cond.fieldLink RX5 66 (TX10 2).1 (TX10 2).2.1 (TX10 2).2.2.1 ∈ lG := ⟨by decide, inT (i := 319) (by decide +kernel) rfl⟩
theorem f_X10_15 : 3 < 4 ∧ Cond.fieldLink RX10 15 (TX10 3).1 (TX10 3).2.1 (TX10 3).2.2.1 ∈ lG := ⟨by decide, inT (i := 320) (by decide +kernel) rfl⟩
theorem f_X5_78 : 3 < 4 ∧ Cond.fieldLink RX5 78 (TX10 3).1 (TX10 3).2.1 (TX10 3).2.2.1 ∈ lG := ⟨by decide, inT (i := 321) (by decide +kernel) rfl⟩
theorem f_X11_351 : 3 < 4 ∧ Cond.fieldLink RX11 351 (TX10 3).1 (TX10 3).2.1 (TX10 3).2.2.1 ∈ lG := ⟨by decide, inT (i := 322) (by decide +kernel) rfl⟩
theorem f_X0_11 : 0 < 5 ∧ Cond.fieldLink RX0 11 (TX0 0).1 (TX0 0).2.1 (TX0 0).2.2.1 ∈ lG := ⟨by decide, inT (i := 339) (by decide +kernel) rfl⟩
theorem f_X0_18 : 1 < 5 ∧ Cond.fieldLink RX0 18 (TX0 1).1 (TX0 1).2.1 (TX0 1).2.2.1 ∈ lG := ⟨by decide, inT (i := 340) (by decide +kernel) rfl⟩
theorem f_X11_382 : 1 < 5 ∧ Cond.fieldLink RX11 382 (TX0 1).1 (TX0 1).2.1 (TX0 1).2.2.1 ∈ lG := ⟨by decide, inT (i := 341) (by decide +kernel) rfl⟩
theorem f_X0_15 : 2 < 5 ∧ Cond.fieldLink RX0 15 (TX0 2).1 (TX0 2).2.1 (TX0 2).2.2.1 ∈ lG := ⟨by decide, inT (i := 342) (by decide +kernel) rfl⟩
theorem f_X0_33 : 3 < 5 ∧ Cond.fieldLink RX0 33 (TX0 3).1 (TX0 3).2.1 (TX0 3).2.2.1 ∈ lG := ⟨by decide, inT (i := 343) (by decide +kernel) rfl⟩
theorem f_X11_385 : 3 < 5 ∧ Cond.fieldLink RX11 385 (TX0 3).1 (TX0 3).2.1 (TX0 3).2.2.1 ∈ lG := ⟨by decide, inT (i := 344) (by decide +kernel) rfl⟩
theorem f_X0_36 : 4 < 5 ∧ Cond.fieldLink RX0 36 (TX0 4).1 (TX0 4).2.1 (TX0 4).2.2.1 ∈ lG := ⟨by decide, inT (i := 345) (by decide +kernel) rfl⟩
theorem f_X11_10 : 0 < 13 ∧ Cond.fieldLink RX11 10 (TX11 0).1 (TX11 0).2.1 (TX11 0).2.2.1 ∈ lG := ⟨by decide, inT (i := 357) (by decide +kernel) rfl⟩
theorem f_X11_19 : 1 < 13 ∧ Cond.fieldLink RX11 19 (TX11 1).1 (TX11 1).2.1 (TX11 1).2.2.1 ∈ lG := ⟨by decide, inT (i := 358) (by decide +kernel) rfl⟩
theorem f_X11_26 : 2 < 13 ∧ Cond.fieldLink RX11 26 (TX11 2).1 (TX11 2).2.1 (TX11 2).2.2.1 ∈ lG := ⟨by decide, inT (i := 359) (by decide +kernel) rfl⟩
theorem f_X11_30 : 3 < 13 ∧ Cond.fieldLink RX11 30 (TX11 3).1 (TX11 3).2.1 (TX11 3).2.2.1 ∈ lG := ⟨by decide, inT (i := 360) (by decide +kernel) rfl⟩
theorem f_X11_145 : 4 < 13 ∧ Cond.fieldLink RX11 145 (TX11 4).1 (TX11 4).2.1 (TX11 4).2.2.1 ∈ lG := ⟨by decide, inT (i := 361) (by decide +kernel) rfl⟩
theorem f_X11_36 : 5 < 13 ∧ Cond.fieldLink RX11 36 (TX11 5).1 (TX11 5).2.1 (TX11 5).2.2.1 ∈ lG := ⟨by decide, inT (i := 362) (by decide +kernel) rfl⟩
theorem f_X11_48 : 6 < 13 ∧ Cond.fieldLink RX11 48 (TX11 6).1 (TX11 6).2.1 (TX11 6).2.2.1 ∈ lG := ⟨by decide, inT (i := 363) (by decide +kernel) rfl⟩
theorem f_X11_57 : 7 < 13 ∧ Cond.fieldLink RX11 57 (TX11 7).1 (TX11 7).2.1 (TX11 7).2.2.1 ∈ lG := ⟨by decide, inT (i := 364) (by decide +kernel) rfl⟩
theorem f_X11_64 : 8 < 13 ∧ Cond.fieldLink RX11 64 (TX11 8).1 (TX11 8).2.1 (TX11 8).2.2.1 ∈ lG := ⟨by decide, inT (i := 365) (by decide +kernel) rfl⟩
theorem f_X11_73 : 9 < 13 ∧ Cond.fieldLink RX11 73 (TX11 9).1 (TX11 9).2.1 (TX11 9).2.2.1 ∈ lG := ⟨by decide, inT (i := 366) (by decide +kernel) rfl⟩
theorem f_X11_80 : 10 < 13 ∧ Cond.fieldLink RX11 80 (TX11 10).1 (TX11 10).2.1 (TX11 10).2.2.1 ∈ lG := ⟨by decide, inT (i := 367) (by decide +kernel) rfl⟩
theorem f_X11_86 : 11 < 13 ∧ Cond.fieldLink RX11 86 (TX11 11).1 (TX11 11).2.1 (TX11 11).2.2.1 ∈ lG := ⟨by decide, inT (i := 368) (by decide +kernel) rfl⟩
theorem f_X11_94 : 12 < 13 ∧ Cond.fieldLink RX11 94 (TX11 12).1 (TX11 12).2.1 (TX11 12).2.2.1 ∈ lG := ⟨by decide, inT (i := 369) (by decide +kernel) rfl⟩
theorem f_X7_38 : Cond.fieldLink RX7 38 "CoachmenFace$Land" "LEAST" "[I" ∈ lG := inT (i := 407) (by decide +kernel) rfl
theorem f_X7_41 : Cond.fieldLink RX7 41 "CoachmenFace$Land" "MOST" "[I" ∈ lG := inT (i := 409) (by decide +kernel) rfl
theorem f_X3_71 : Cond.fieldLink RX3 71 "CoachmenFace$Coach" "RIGHT" "[I" ∈ lG := inT (i := 603) (by decide +kernel) rfl
theorem f_X3_74 : Cond.fieldLink RX3 74 "CoachmenFace$Coach" "DOWN" "[I" ∈ lG := inT (i := 605) (by decide +kernel) rfl
theorem f_X1_66 : Cond.fieldLink RX1 66 "CoachmenFace$Boxes" "BEYOND" "[I" ∈ lG := inT (i := 816) (by decide +kernel) rfl
theorem f_X0_55 : Cond.fieldLink RX0 55 "CoachmenFace$Bodies" "OWN" "[I" ∈ lG := inT (i := 1006) (by decide +kernel) rfl
theorem f_X0_30 : Cond.fieldLink RX0 30 "CoachmenFace$Bodies" "ABOVE" "[I" ∈ lG := inT (i := 1008) (by decide +kernel) rfl
theorem f_X12_125 : 1 < 55 ∧ Cond.fieldLink RX12 125 (TX12 1).1 (TX12 1).2.1 (TX12 1).2.2.1 ∈ lG := ⟨by decide, inT (i := 1092) (by decide +kernel) rfl⟩
theorem f_X12_9 : 2 < 55 ∧ Cond.fieldLink RX12 9 (TX12 2).1 (TX12 2).2.1 (TX12 2).2.2.1 ∈ lG := ⟨by decide, inT (i := 1093) (by decide +kernel) rfl⟩
theorem f_X12_15 : 3 < 55 ∧ Cond.fieldLink RX12 15 (TX12 3).1 (TX12 3).2.1 (TX12 3).2.2.1 ∈ lG := ⟨by decide, inT (i := 1094) (by decide +kernel) rfl⟩
theorem f_X12_18 : 4 < 55 ∧ Cond.fieldLink RX12 18 (TX12 4).1 (TX12 4).2.1 (TX12 4).2.2.1 ∈ lG := ⟨by decide, inT (i := 1095) (by decide +kernel) rfl⟩
theorem f_X12_21 : 5 < 55 ∧ Cond.fieldLink RX12 21 (TX12 5).1 (TX12 5).2.1 (TX12 5).2.2.1 ∈ lG := ⟨by decide, inT (i := 1096) (by decide +kernel) rfl⟩
theorem f_X12_132 : 6 < 55 ∧ Cond.fieldLink RX12 132 (TX12 6).1 (TX12 6).2.1 (TX12 6).2.2.1 ∈ lG := ⟨by decide, inT (i := 1097) (by decide +kernel) rfl⟩
theorem f_X12_24 : 7 < 55 ∧ Cond.fieldLink RX12 24 (TX12 7).1 (TX12 7).2.1 (TX12 7).2.2.1 ∈ lG := ⟨by decide, inT (i := 1098) (by decide +kernel) rfl⟩
theorem f_X12_27 : 8 < 55 ∧ Cond.fieldLink RX12 27 (TX12 8).1 (TX12 8).2.1 (TX12 8).2.2.1 ∈ lG := ⟨by decide, inT (i := 1099) (by decide +kernel) rfl⟩
theorem f_X12_30 : 9 < 55 ∧ Cond.fieldLink RX12 30 (TX12 9).1 (TX12 9).2.1 (TX12 9).2.2.1 ∈ lG := ⟨by decide, inT (i := 1100) (by decide +kernel) rfl⟩
theorem f_X12_160 : 10 < 55 ∧ Cond.fieldLink RX12 160 (TX12 10).1 (TX12 10).2.1 (TX12 10).2.2.1 ∈ lG := ⟨by decide, inT (i := 1101) (by decide +kernel) rfl⟩
theorem f_X12_157 : 11 < 55 ∧ Cond.fieldLink RX12 157 (TX12 11).1 (TX12 11).2.1 (TX12 11).2.2.1 ∈ lG := ⟨by decide, inT (i := 1102) (by decide +kernel) rfl⟩
theorem f_X12_33 : 12 < 55 ∧ Cond.fieldLink RX12 33 (TX12 12).1 (TX12 12).2.1 (TX12 12).2.2.1 ∈ lG := ⟨by decide, inT (i := 1103) (by decide +kernel) rfl⟩
theorem f_X12_36 : 13 < 55 ∧ Cond.fieldLink RX12 36 (TX12 13).1 (TX12 13).2.1 (TX12 13).2.2.1 ∈ lG := ⟨by decide, inT (i := 1104) (by decide +kernel) rfl⟩
theorem f_X12_39 : 14 < 55 ∧ Cond.fieldLink RX12 39 (TX12 14).1 (TX12 14).2.1 (TX12 14).2.2.1 ∈ lG := ⟨by decide, inT (i := 1105) (by decide +kernel) rfl⟩
theorem f_X12_42 : 15 < 55 ∧ Cond.fieldLink RX12 42 (TX12 15).1 (TX12 15).2.1 (TX12 15).2.2.1 ∈ lG := ⟨by decide, inT (i := 1106) (by decide +kernel) rfl⟩
theorem f_X12_45 : 16 < 55 ∧ Cond.fieldLink RX12 45 (TX12 16).1 (TX12 16).2.1 (TX12 16).2.2.1 ∈ lG := ⟨by decide, inT (i := 1107) (by decide +kernel) rfl⟩
theorem f_X12_178 : 17 < 55 ∧ Cond.fieldLink RX12 178 (TX12 17).1 (TX12 17).2.1 (TX12 17).2.2.1 ∈ lG := ⟨by decide, inT (i := 1108) (by decide +kernel) rfl⟩
theorem f_X12_181 : 18 < 55 ∧ Cond.fieldLink RX12 181 (TX12 18).1 (TX12 18).2.1 (TX12 18).2.2.1 ∈ lG := ⟨by decide, inT (i := 1109) (by decide +kernel) rfl⟩
theorem f_X12_184 : 19 < 55 ∧ Cond.fieldLink RX12 184 (TX12 19).1 (TX12 19).2.1 (TX12 19).2.2.1 ∈ lG := ⟨by decide, inT (i := 1110) (by decide +kernel) rfl⟩
theorem f_X12_190 : 20 < 55 ∧ Cond.fieldLink RX12 190 (TX12 20).1 (TX12 20).2.1 (TX12 20).2.2.1 ∈ lG := ⟨by decide, inT (i := 1111) (by decide +kernel) rfl⟩
theorem f_X12_187 : 21 < 55 ∧ Cond.fieldLink RX12 187 (TX12 21).1 (TX12 21).2.1 (TX12 21).2.2.1 ∈ lG := ⟨by decide, inT (i := 1112) (by decide +kernel) rfl⟩
theorem f_X12_49 : 22 < 55 ∧ Cond.fieldLink RX12 49 (TX12 22).1 (TX12 22).2.1 (TX12 22).2.2.1 ∈ lG := ⟨by decide, inT (i := 1113) (by decide +kernel) rfl⟩
theorem f_X12_52 : 23 < 55 ∧ Cond.fieldLink RX12 52 (TX12 23).1 (TX12 23).2.1 (TX12 23).2.2.1 ∈ lG := ⟨by decide, inT (i := 1114) (by decide +kernel) rfl⟩
theorem f_X12_55 : 24 < 55 ∧ Cond.fieldLink RX12 55 (TX12 24).1 (TX12 24).2.1 (TX12 24).2.2.1 ∈ lG := ⟨by decide, inT (i := 1115) (by decide +kernel) rfl⟩
theorem f_X12_58 : 25 < 55 ∧ Cond.fieldLink RX12 58 (TX12 25).1 (TX12 25).2.1 (TX12 25).2.2.1 ∈ lG := ⟨by decide, inT (i := 1116) (by decide +kernel) rfl⟩
theorem f_X12_62 : 26 < 55 ∧ Cond.fieldLink RX12 62 (TX12 26).1 (TX12 26).2.1 (TX12 26).2.2.1 ∈ lG := ⟨by decide, inT (i := 1117) (by decide +kernel) rfl⟩
theorem f_X12_65 : 27 < 55 ∧ Cond.fieldLink RX12 65 (TX12 27).1 (TX12 27).2.1 (TX12 27).2.2.1 ∈ lG := ⟨by decide, inT (i := 1118) (by decide +kernel) rfl⟩
theorem f_X12_68 : 28 < 55 ∧ Cond.fieldLink RX12 68 (TX12 28).1 (TX12 28).2.1 (TX12 28).2.2.1 ∈ lG := ⟨by decide, inT (i := 1119) (by decide +kernel) rfl⟩
theorem f_X12_245 : 29 < 55 ∧ Cond.fieldLink RX12 245 (TX12 29).1 (TX12 29).2.1 (TX12 29).2.2.1 ∈ lG := ⟨by decide, inT (i := 1120) (by decide +kernel) rfl⟩
theorem f_X12_262 : 30 < 55 ∧ Cond.fieldLink RX12 262 (TX12 30).1 (TX12 30).2.1 (TX12 30).2.2.1 ∈ lG := ⟨by decide, inT (i := 1121) (by decide +kernel) rfl⟩
theorem f_X12_265 : 31 < 55 ∧ Cond.fieldLink RX12 265 (TX12 31).1 (TX12 31).2.1 (TX12 31).2.2.1 ∈ lG := ⟨by decide, inT (i := 1122) (by decide +kernel) rfl⟩
theorem f_X12_271 : 32 < 55 ∧ Cond.fieldLink RX12 271 (TX12 32).1 (TX12 32).2.1 (TX12 32).2.2.1 ∈ lG := ⟨by decide, inT (i := 1123) (by decide +kernel) rfl⟩
theorem f_X12_71 : 33 < 55 ∧ Cond.fieldLink RX12 71 (TX12 33).1 (TX12 33).2.1 (TX12 33).2.2.1 ∈ lG := ⟨by decide, inT (i := 1124) (by decide +kernel) rfl⟩
theorem f_X12_74 : 34 < 55 ∧ Cond.fieldLink RX12 74 (TX12 34).1 (TX12 34).2.1 (TX12 34).2.2.1 ∈ lG := ⟨by decide, inT (i := 1125) (by decide +kernel) rfl⟩
theorem f_X12_367 : 35 < 55 ∧ Cond.fieldLink RX12 367 (TX12 35).1 (TX12 35).2.1 (TX12 35).2.2.1 ∈ lG := ⟨by decide, inT (i := 1126) (by decide +kernel) rfl⟩
theorem f_X12_371 : 36 < 55 ∧ Cond.fieldLink RX12 371 (TX12 36).1 (TX12 36).2.1 (TX12 36).2.2.1 ∈ lG := ⟨by decide, inT (i := 1127) (by decide +kernel) rfl⟩
theorem f_X12_77 : 37 < 55 ∧ Cond.fieldLink RX12 77 (TX12 37).1 (TX12 37).2.1 (TX12 37).2.2.1 ∈ lG := ⟨by decide, inT (i := 1128) (by decide +kernel) rfl⟩
theorem f_X12_80 : 38 < 55 ∧ Cond.fieldLink RX12 80 (TX12 38).1 (TX12 38).2.1 (TX12 38).2.2.1 ∈ lG := ⟨by decide, inT (i := 1129) (by decide +kernel) rfl⟩
theorem f_X12_83 : 39 < 55 ∧ Cond.fieldLink RX12 83 (TX12 39).1 (TX12 39).2.1 (TX12 39).2.2.1 ∈ lG := ⟨by decide, inT (i := 1130) (by decide +kernel) rfl⟩
theorem f_X12_408 : 40 < 55 ∧ Cond.fieldLink RX12 408 (TX12 40).1 (TX12 40).2.1 (TX12 40).2.2.1 ∈ lG := ⟨by decide, inT (i := 1131) (by decide +kernel) rfl⟩
theorem f_X12_411 : 41 < 55 ∧ Cond.fieldLink RX12 411 (TX12 41).1 (TX12 41).2.1 (TX12 41).2.2.1 ∈ lG := ⟨by decide, inT (i := 1132) (by decide +kernel) rfl⟩
theorem f_X12_414 : 42 < 55 ∧ Cond.fieldLink RX12 414 (TX12 42).1 (TX12 42).2.1 (TX12 42).2.2.1 ∈ lG := ⟨by decide, inT (i := 1133) (by decide +kernel) rfl⟩
theorem f_X12_86 : 43 < 55 ∧ Cond.fieldLink RX12 86 (TX12 43).1 (TX12 43).2.1 (TX12 43).2.2.1 ∈ lG := ⟨by decide, inT (i := 1134) (by decide +kernel) rfl⟩
theorem f_X12_89 : 44 < 55 ∧ Cond.fieldLink RX12 89 (TX12 44).1 (TX12 44).2.1 (TX12 44).2.2.1 ∈ lG := ⟨by decide, inT (i := 1135) (by decide +kernel) rfl⟩
theorem f_X12_92 : 45 < 55 ∧ Cond.fieldLink RX12 92 (TX12 45).1 (TX12 45).2.1 (TX12 45).2.2.1 ∈ lG := ⟨by decide, inT (i := 1136) (by decide +kernel) rfl⟩
theorem f_X12_95 : 46 < 55 ∧ Cond.fieldLink RX12 95 (TX12 46).1 (TX12 46).2.1 (TX12 46).2.2.1 ∈ lG := ⟨by decide, inT (i := 1137) (by decide +kernel) rfl⟩
theorem f_X12_417 : 47 < 55 ∧ Cond.fieldLink RX12 417 (TX12 47).1 (TX12 47).2.1 (TX12 47).2.2.1 ∈ lG := ⟨by decide, inT (i := 1138) (by decide +kernel) rfl⟩
theorem f_X12_98 : 48 < 55 ∧ Cond.fieldLink RX12 98 (TX12 48).1 (TX12 48).2.1 (TX12 48).2.2.1 ∈ lG := ⟨by decide, inT (i := 1139) (by decide +kernel) rfl⟩
theorem f_X12_420 : 49 < 55 ∧ Cond.fieldLink RX12 420 (TX12 49).1 (TX12 49).2.1 (TX12 49).2.2.1 ∈ lG := ⟨by decide, inT (i := 1140) (by decide +kernel) rfl⟩
theorem f_X12_101 : 50 < 55 ∧ Cond.fieldLink RX12 101 (TX12 50).1 (TX12 50).2.1 (TX12 50).2.2.1 ∈ lG := ⟨by decide, inT (i := 1141) (by decide +kernel) rfl⟩
theorem f_X12_104 : 51 < 55 ∧ Cond.fieldLink RX12 104 (TX12 51).1 (TX12 51).2.1 (TX12 51).2.2.1 ∈ lG := ⟨by decide, inT (i := 1142) (by decide +kernel) rfl⟩
theorem f_X12_107 : 52 < 55 ∧ Cond.fieldLink RX12 107 (TX12 52).1 (TX12 52).2.1 (TX12 52).2.2.1 ∈ lG := ⟨by decide, inT (i := 1143) (by decide +kernel) rfl⟩
theorem f_X12_110 : 53 < 55 ∧ Cond.fieldLink RX12 110 (TX12 53).1 (TX12 53).2.1 (TX12 53).2.2.1 ∈ lG := ⟨by decide, inT (i := 1144) (by decide +kernel) rfl⟩
theorem f_X12_114 : 54 < 55 ∧ Cond.fieldLink RX12 114 (TX12 54).1 (TX12 54).2.1 (TX12 54).2.2.1 ∈ lG := ⟨by decide, inT (i := 1145) (by decide +kernel) rfl⟩
theorem f_X12_357 : Cond.fieldLink RX12 357 "CoachmenFaceModel" "ORDER" "[I" ∈ lG := inT (i := 1569) (by decide +kernel) rfl
theorem k_X11_132 : Cond.constant RX11 132 (-2000000000) ∈ lG := inT (i := 451) (by decide +kernel) rfl
theorem k_J6_265 : Cond.constant RJ6 265 (1431655765) ∈ lG := inT (i := 734) (by decide +kernel) rfl
theorem k_J6_266 : Cond.constant RJ6 266 (858993459) ∈ lG := inT (i := 735) (by decide +kernel) rfl
theorem k_J6_267 : Cond.constant RJ6 267 (252645135) ∈ lG := inT (i := 736) (by decide +kernel) rfl
theorem k_X1_42 : Cond.constant RX1 42 (2147483647) ∈ lG := inT (i := 806) (by decide +kernel) rfl
theorem k_X1_61 : Cond.constant RX1 61 (16777216) ∈ lG := inT (i := 812) (by decide +kernel) rfl
theorem k_X11_262 : Cond.constant RX11 262 (2147483647) ∈ lG := inT (i := 825) (by decide +kernel) rfl
theorem k_X11_271 : Cond.constantLong RX11 271 (-9223372036854775808) ∈ lG := inT (i := 836) (by decide +kernel) rfl
theorem k_X1_93 : Cond.constantLong RX1 93 (12) ∈ lG := inT (i := 846) (by decide +kernel) rfl
theorem k_X1_120 : Cond.constant RX1 120 (1103515245) ∈ lG := inT (i := 881) (by decide +kernel) rfl
theorem k_X12_152 : Cond.constantLong RX12 152 (2) ∈ lG := inT (i := 1280) (by decide +kernel) rfl
theorem k_X12_177 : Cond.constant RX12 177 (-2000000000) ∈ lG := inT (i := 1324) (by decide +kernel) rfl
theorem k_X12_384 : Cond.constantLong RX12 384 (-9223372036854775808) ∈ lG := inT (i := 1587) (by decide +kernel) rfl
theorem k_X12_378 : Cond.constantLong RX12 378 (12) ∈ lG := inT (i := 1596) (by decide +kernel) rfl
theorem k_X12_404 : Cond.constant RX12 404 (1103515245) ∈ lG := inT (i := 1620) (by decide +kernel) rfl
theorem k_L_166 : Cond.constantLong RL 166 (4294967295) ∈ lG := inT (i := 1756) (by decide +kernel) rfl
theorem oiw : Cond.instanceMethod objectInit ∈ lG ∧ Cond.code objectInit ⟨#[0xb1]⟩ 1 none ∈ lG := ⟨inT (i := 24) (by decide +kernel) rfl, inT (i := 25) (by decide +kernel) rfl⟩
theorem bipush_m100 : (Int8.ofInt (-100)).toInt32 = (-100 : Int32) := by decide
theorem bipush_m95 : (Int8.ofInt (-95)).toInt32 = (-95 : Int32) := by decide
theorem bipush_m63 : (Int8.ofInt (-63)).toInt32 = (-63 : Int32) := by decide
theorem bipush_m59 : (Int8.ofInt (-59)).toInt32 = (-59 : Int32) := by decide
theorem bipush_m33 : (Int8.ofInt (-33)).toInt32 = (-33 : Int32) := by decide
theorem bipush_m16 : (Int8.ofInt (-16)).toInt32 = (-16 : Int32) := by decide
theorem bipush_m14 : (Int8.ofInt (-14)).toInt32 = (-14 : Int32) := by decide
theorem bipush_m13 : (Int8.ofInt (-13)).toInt32 = (-13 : Int32) := by decide
theorem bipush_m12 : (Int8.ofInt (-12)).toInt32 = (-12 : Int32) := by decide
theorem bipush_m11 : (Int8.ofInt (-11)).toInt32 = (-11 : Int32) := by decide
theorem bipush_m5 : (Int8.ofInt (-5)).toInt32 = (-5 : Int32) := by decide
theorem bipush_m3 : (Int8.ofInt (-3)).toInt32 = (-3 : Int32) := by decide
theorem bipush_m2 : (Int8.ofInt (-2)).toInt32 = (-2 : Int32) := by decide
theorem bipush_6 : (Int8.ofInt 6).toInt32 = (6 : Int32) := by decide
theorem bipush_7 : (Int8.ofInt 7).toInt32 = (7 : Int32) := by decide
theorem bipush_8 : (Int8.ofInt 8).toInt32 = (8 : Int32) := by decide
theorem bipush_9 : (Int8.ofInt 9).toInt32 = (9 : Int32) := by decide
theorem bipush_10 : (Int8.ofInt 10).toInt32 = (10 : Int32) := by decide
theorem bipush_11 : (Int8.ofInt 11).toInt32 = (11 : Int32) := by decide
theorem bipush_12 : (Int8.ofInt 12).toInt32 = (12 : Int32) := by decide
theorem bipush_15 : (Int8.ofInt 15).toInt32 = (15 : Int32) := by decide
theorem bipush_16 : (Int8.ofInt 16).toInt32 = (16 : Int32) := by decide
theorem bipush_20 : (Int8.ofInt 20).toInt32 = (20 : Int32) := by decide
theorem bipush_24 : (Int8.ofInt 24).toInt32 = (24 : Int32) := by decide
theorem bipush_30 : (Int8.ofInt 30).toInt32 = (30 : Int32) := by decide
theorem bipush_32 : (Int8.ofInt 32).toInt32 = (32 : Int32) := by decide
theorem bipush_33 : (Int8.ofInt 33).toInt32 = (33 : Int32) := by decide
theorem bipush_37 : (Int8.ofInt 37).toInt32 = (37 : Int32) := by decide
theorem bipush_38 : (Int8.ofInt 38).toInt32 = (38 : Int32) := by decide
theorem bipush_39 : (Int8.ofInt 39).toInt32 = (39 : Int32) := by decide
theorem bipush_40 : (Int8.ofInt 40).toInt32 = (40 : Int32) := by decide
theorem bipush_41 : (Int8.ofInt 41).toInt32 = (41 : Int32) := by decide
theorem bipush_42 : (Int8.ofInt 42).toInt32 = (42 : Int32) := by decide
theorem bipush_43 : (Int8.ofInt 43).toInt32 = (43 : Int32) := by decide
theorem bipush_45 : (Int8.ofInt 45).toInt32 = (45 : Int32) := by decide
theorem bipush_47 : (Int8.ofInt 47).toInt32 = (47 : Int32) := by decide
theorem bipush_48 : (Int8.ofInt 48).toInt32 = (48 : Int32) := by decide
theorem bipush_50 : (Int8.ofInt 50).toInt32 = (50 : Int32) := by decide
theorem bipush_57 : (Int8.ofInt 57).toInt32 = (57 : Int32) := by decide
theorem bipush_59 : (Int8.ofInt 59).toInt32 = (59 : Int32) := by decide
theorem bipush_60 : (Int8.ofInt 60).toInt32 = (60 : Int32) := by decide
theorem bipush_61 : (Int8.ofInt 61).toInt32 = (61 : Int32) := by decide
theorem bipush_62 : (Int8.ofInt 62).toInt32 = (62 : Int32) := by decide
theorem bipush_63 : (Int8.ofInt 63).toInt32 = (63 : Int32) := by decide
theorem bipush_70 : (Int8.ofInt 70).toInt32 = (70 : Int32) := by decide
theorem bipush_80 : (Int8.ofInt 80).toInt32 = (80 : Int32) := by decide
theorem bipush_81 : (Int8.ofInt 81).toInt32 = (81 : Int32) := by decide
theorem bipush_95 : (Int8.ofInt 95).toInt32 = (95 : Int32) := by decide
theorem bipush_99 : (Int8.ofInt 99).toInt32 = (99 : Int32) := by decide
theorem bipush_100 : (Int8.ofInt 100).toInt32 = (100 : Int32) := by decide
theorem bipush_104 : (Int8.ofInt 104).toInt32 = (104 : Int32) := by decide
theorem bipush_107 : (Int8.ofInt 107).toInt32 = (107 : Int32) := by decide
theorem bipush_112 : (Int8.ofInt 112).toInt32 = (112 : Int32) := by decide
theorem bipush_115 : (Int8.ofInt 115).toInt32 = (115 : Int32) := by decide
theorem bipush_119 : (Int8.ofInt 119).toInt32 = (119 : Int32) := by decide
theorem bipush_120 : (Int8.ofInt 120).toInt32 = (120 : Int32) := by decide
theorem bipush_122 : (Int8.ofInt 122).toInt32 = (122 : Int32) := by decide
theorem bipush_124 : (Int8.ofInt 124).toInt32 = (124 : Int32) := by decide
theorem iconst_m1 : Int32.ofInt (-1) = (-1 : Int32) := by decide
theorem iconst_0 : Int32.ofInt 0 = (0 : Int32) := by decide
theorem iconst_1 : Int32.ofInt 1 = (1 : Int32) := by decide
theorem iconst_2 : Int32.ofInt 2 = (2 : Int32) := by decide
theorem iconst_3 : Int32.ofInt 3 = (3 : Int32) := by decide
theorem iconst_4 : Int32.ofInt 4 = (4 : Int32) := by decide
theorem iconst_5 : Int32.ofInt 5 = (5 : Int32) := by decide
theorem sipush_128 : (Int16.ofInt 128).toInt32 = (128 : Int32) := by decide
theorem sipush_130 : (Int16.ofInt 130).toInt32 = (130 : Int32) := by decide
theorem sipush_156 : (Int16.ofInt 156).toInt32 = (156 : Int32) := by decide
theorem sipush_160 : (Int16.ofInt 160).toInt32 = (160 : Int32) := by decide
theorem sipush_255 : (Int16.ofInt 255).toInt32 = (255 : Int32) := by decide
theorem sipush_256 : (Int16.ofInt 256).toInt32 = (256 : Int32) := by decide
theorem sipush_260 : (Int16.ofInt 260).toInt32 = (260 : Int32) := by decide
theorem sipush_360 : (Int16.ofInt 360).toInt32 = (360 : Int32) := by decide
theorem sipush_366 : (Int16.ofInt 366).toInt32 = (366 : Int32) := by decide
theorem sipush_480 : (Int16.ofInt 480).toInt32 = (480 : Int32) := by decide
theorem sipush_2048 : (Int16.ofInt 2048).toInt32 = (2048 : Int32) := by decide
theorem sipush_3328 : (Int16.ofInt 3328).toInt32 = (3328 : Int32) := by decide
theorem sipush_12345 : (Int16.ofInt 12345).toInt32 = (12345 : Int32) := by decide
def G0 : List aC := [.inr (11, [.inr (some 1), .inr (some 8), .inr (some 11), .inr (some 14), .inl false, .inr (some 15), .inr (some 28), .inr (some 31), .inr (some 32), .inr (some 36), .inr (some 38), .inr (some 44), .inr (some 57)]),
  .inr (7, [.inr (some 2), .inr (some 3), .inr (some 4), .inr (some 5), .inl false, .inr (some 6), .inr (some 7), .inl false, .inl false, .inl false, .inl false]),
  .inl (.int, 6, []),
  .inl (.int, 6, []),
  .inl (.int, 6, []),
  .inl (.int, 6, []),
  .inl (.int, 8, []),
  .inl (.int, 8, []),
  .inr (8, [.inr (some 9), .inl false, .inr (some 10), .inl false, .inl false, .inl false, .inl false, .inl false, .inl false]),
  .inl (.int, 120, []),
  .inl (.int, 120, []),
  .inr (9, [.inr (some 12), .inl false, .inr (some 13), .inl false, .inl false, .inl false, .inl false, .inl false]),
  .inl (.int, 120, []),
  .inl (.int, 120, []),
  .inl (.int, 120, []),
  .inl (.object "CoachmenFace$Coach", 6, [some 16, some 18, some 20, some 22, some 24, some 26]),
  .inr (3, [.inl false, .inr (some 1), .inr (some 8), .inr (some 17), .inl false, .inl false, .inl false]),
  .inl (.int, 480, []),
  .inr (3, [.inl false, .inr (some 1), .inr (some 8), .inr (some 19), .inl false, .inl false, .inl false]),
  .inl (.int, 480, []),
  .inr (3, [.inl false, .inr (some 1), .inr (some 8), .inr (some 21), .inl false, .inl false, .inl false]),
  .inl (.int, 480, []),
  .inr (3, [.inl false, .inr (some 1), .inr (some 8), .inr (some 23), .inl false, .inl false, .inl false]),
  .inl (.int, 480, []),
  .inr (3, [.inl false, .inr (some 1), .inr (some 8), .inr (some 25), .inl false, .inl false, .inl false]),
  .inl (.int, 480, []),
  .inr (3, [.inl false, .inr (some 1), .inr (some 8), .inr (some 27), .inl false, .inl false, .inl false]),
  .inl (.int, 480, []),
  .inr (6, [.inr (some 1), .inr (some 15), .inr (some 29), .inr (some 30)]),
  .inl (.int, 366, []),
  .inl (.int, 8, []),
  .inr (5, [.inr (some 1), .inr (some 15), .inr (some 28)]),
  .inr (1, [.inr (some 1), .inr (some 15), .inr (some 33), .inr (some 34), .inr (some 35)]),
  .inl (.int, 2048, []),
  .inl (.int, 2048, []),
  .inl (.int, 6, []),
  .inr (2, [.inr (some 1), .inr (some 37), .inl false, .inl false]),
  .inl (.int, 160, []),
  .inr (4, [.inr (some 1), .inr (some 15), .inr (some 39), .inl false, .inl false, .inr (some 40), .inr (some 41), .inr (some 42), .inr (some 43)]),
  .inl (.int, 5, []),
  .inl (.int, 6, []),
  .inl (.int, 6, []),
  .inl (.int, 6, []),
  .inl (.int, 5, []),
  .inl (.object "CoachmenFace$Shelf", 6, [some 45, some 47, some 49, some 51, some 53, some 55]),
  .inr (10, [.inl false, .inl false, .inl false, .inr (some 46)]),
  .inl (.long, 60, []),
  .inr (10, [.inl false, .inl false, .inl false, .inr (some 48)]),
  .inl (.long, 60, []),
  .inr (10, [.inl false, .inl false, .inl false, .inr (some 50)]),
  .inl (.long, 60, []),
  .inr (10, [.inl false, .inl false, .inl false, .inr (some 52)]),
  .inl (.long, 60, []),
  .inr (10, [.inl false, .inl false, .inl false, .inr (some 54)]),
  .inl (.long, 60, []),
  .inr (10, [.inl false, .inl false, .inl false, .inr (some 56)]),
  .inl (.long, 60, []),
  .inr (0, [.inr (some 58), .inl false, .inr (some 59), .inl false, .inl false]),
  .inl (.int, 50, []),
  .inl (.int, 24, []),
  .inr (12, [.inl false, .inl false, .inr (some 61), .inr (some 62), .inr (some 63), .inr (some 64), .inl false, .inr (some 65), .inr (some 66), .inr (some 67), .inl false, .inl false, .inr (some 68), .inr (some 69), .inr (some 70), .inr (some 71), .inr (some 72), .inl false, .inl false, .inl false, .inl false, .inl false, .inr (some 73), .inr (some 74), .inr (some 75), .inr (some 76), .inr (some 77), .inr (some 78), .inr (some 79), .inl false, .inl false, .inl false, .inl false, .inr (some 80), .inr (some 81), .inl true, .inl true, .inr (some 82), .inr (some 83), .inr (some 84), .inl false, .inl false, .inl false, .inr (some 85), .inr (some 86), .inr (some 87), .inr (some 88), .inl false, .inr (some 89), .inl false, .inr (some 90), .inr (some 91), .inr (some 92), .inr (some 93), .inr (some 94)]),
  .inl (.int, 6, []),
  .inl (.int, 6, []),
  .inl (.int, 6, []),
  .inl (.int, 6, []),
  .inl (.int, 8, []),
  .inl (.int, 8, []),
  .inl (.int, 3, []),
  .inl (.int, 40, []),
  .inl (.int, 40, []),
  .inl (.int, 40, []),
  .inl (.int, 40, []),
  .inl (.byte, 120, []),
  .inl (.byte, 260, []),
  .inl (.int, 260, []),
  .inl (.int, 2, []),
  .inl (.short, 122, []),
  .inl (.short, 122, []),
  .inl (.int, 6, []),
  .inl (.int, 130, []),
  .inl (.int, 366, []),
  .inl (.int, 3328, []),
  .inl (.int, 6, []),
  .inl (.int, 6, []),
  .inl (.int, 5, []),
  .inl (.int, 6, []),
  .inl (.int, 6, []),
  .inl (.int, 6, []),
  .inl (.int, 5, []),
  .inl (.int, 50, []),
  .inl (.int, 24, []),
  .inl (.int, 6, []),
  .inl (.int, 6, []),
  .inl (.long, 360, []),
  .inl (.long, 60, [])]
theorem g_0 : G0[0]? = some (.inr (11, [.inr (some 1), .inr (some 8), .inr (some 11), .inr (some 14), .inl false, .inr (some 15), .inr (some 28), .inr (some 31), .inr (some 32), .inr (some 36), .inr (some 38), .inr (some 44), .inr (some 57)])) := rfl
theorem g_1 : G0[1]? = some (.inr (7, [.inr (some 2), .inr (some 3), .inr (some 4), .inr (some 5), .inl false, .inr (some 6), .inr (some 7), .inl false, .inl false, .inl false, .inl false])) := rfl
theorem g_2 : G0[2]? = some (.inl (.int, 6, [])) := rfl
theorem g_3 : G0[3]? = some (.inl (.int, 6, [])) := rfl
theorem g_4 : G0[4]? = some (.inl (.int, 6, [])) := rfl
theorem g_5 : G0[5]? = some (.inl (.int, 6, [])) := rfl
theorem g_6 : G0[6]? = some (.inl (.int, 8, [])) := rfl
theorem g_7 : G0[7]? = some (.inl (.int, 8, [])) := rfl
theorem g_8 : G0[8]? = some (.inr (8, [.inr (some 9), .inl false, .inr (some 10), .inl false, .inl false, .inl false, .inl false, .inl false, .inl false])) := rfl
theorem g_9 : G0[9]? = some (.inl (.int, 120, [])) := rfl
theorem g_10 : G0[10]? = some (.inl (.int, 120, [])) := rfl
theorem g_11 : G0[11]? = some (.inr (9, [.inr (some 12), .inl false, .inr (some 13), .inl false, .inl false, .inl false, .inl false, .inl false])) := rfl
theorem g_12 : G0[12]? = some (.inl (.int, 120, [])) := rfl
theorem g_13 : G0[13]? = some (.inl (.int, 120, [])) := rfl
theorem g_14 : G0[14]? = some (.inl (.int, 120, [])) := rfl
theorem g_15 : G0[15]? = some (.inl (.object "CoachmenFace$Coach", 6, [some 16, some 18, some 20, some 22, some 24, some 26])) := rfl
theorem g_16 : G0[16]? = some (.inr (3, [.inl false, .inr (some 1), .inr (some 8), .inr (some 17), .inl false, .inl false, .inl false])) := rfl
theorem g_17 : G0[17]? = some (.inl (.int, 480, [])) := rfl
theorem g_18 : G0[18]? = some (.inr (3, [.inl false, .inr (some 1), .inr (some 8), .inr (some 19), .inl false, .inl false, .inl false])) := rfl
theorem g_19 : G0[19]? = some (.inl (.int, 480, [])) := rfl
theorem g_20 : G0[20]? = some (.inr (3, [.inl false, .inr (some 1), .inr (some 8), .inr (some 21), .inl false, .inl false, .inl false])) := rfl
theorem g_21 : G0[21]? = some (.inl (.int, 480, [])) := rfl
theorem g_22 : G0[22]? = some (.inr (3, [.inl false, .inr (some 1), .inr (some 8), .inr (some 23), .inl false, .inl false, .inl false])) := rfl
theorem g_23 : G0[23]? = some (.inl (.int, 480, [])) := rfl
theorem g_24 : G0[24]? = some (.inr (3, [.inl false, .inr (some 1), .inr (some 8), .inr (some 25), .inl false, .inl false, .inl false])) := rfl
theorem g_25 : G0[25]? = some (.inl (.int, 480, [])) := rfl
theorem g_26 : G0[26]? = some (.inr (3, [.inl false, .inr (some 1), .inr (some 8), .inr (some 27), .inl false, .inl false, .inl false])) := rfl
theorem g_27 : G0[27]? = some (.inl (.int, 480, [])) := rfl
theorem g_28 : G0[28]? = some (.inr (6, [.inr (some 1), .inr (some 15), .inr (some 29), .inr (some 30)])) := rfl
theorem g_29 : G0[29]? = some (.inl (.int, 366, [])) := rfl
theorem g_30 : G0[30]? = some (.inl (.int, 8, [])) := rfl
theorem g_31 : G0[31]? = some (.inr (5, [.inr (some 1), .inr (some 15), .inr (some 28)])) := rfl
theorem g_32 : G0[32]? = some (.inr (1, [.inr (some 1), .inr (some 15), .inr (some 33), .inr (some 34), .inr (some 35)])) := rfl
theorem g_33 : G0[33]? = some (.inl (.int, 2048, [])) := rfl
theorem g_34 : G0[34]? = some (.inl (.int, 2048, [])) := rfl
theorem g_35 : G0[35]? = some (.inl (.int, 6, [])) := rfl
theorem g_36 : G0[36]? = some (.inr (2, [.inr (some 1), .inr (some 37), .inl false, .inl false])) := rfl
theorem g_37 : G0[37]? = some (.inl (.int, 160, [])) := rfl
theorem g_38 : G0[38]? = some (.inr (4, [.inr (some 1), .inr (some 15), .inr (some 39), .inl false, .inl false, .inr (some 40), .inr (some 41), .inr (some 42), .inr (some 43)])) := rfl
theorem g_39 : G0[39]? = some (.inl (.int, 5, [])) := rfl
theorem g_40 : G0[40]? = some (.inl (.int, 6, [])) := rfl
theorem g_41 : G0[41]? = some (.inl (.int, 6, [])) := rfl
theorem g_42 : G0[42]? = some (.inl (.int, 6, [])) := rfl
theorem g_43 : G0[43]? = some (.inl (.int, 5, [])) := rfl
theorem g_44 : G0[44]? = some (.inl (.object "CoachmenFace$Shelf", 6, [some 45, some 47, some 49, some 51, some 53, some 55])) := rfl
theorem g_45 : G0[45]? = some (.inr (10, [.inl false, .inl false, .inl false, .inr (some 46)])) := rfl
theorem g_46 : G0[46]? = some (.inl (.long, 60, [])) := rfl
theorem g_47 : G0[47]? = some (.inr (10, [.inl false, .inl false, .inl false, .inr (some 48)])) := rfl
theorem g_48 : G0[48]? = some (.inl (.long, 60, [])) := rfl
theorem g_49 : G0[49]? = some (.inr (10, [.inl false, .inl false, .inl false, .inr (some 50)])) := rfl
theorem g_50 : G0[50]? = some (.inl (.long, 60, [])) := rfl
theorem g_51 : G0[51]? = some (.inr (10, [.inl false, .inl false, .inl false, .inr (some 52)])) := rfl
theorem g_52 : G0[52]? = some (.inl (.long, 60, [])) := rfl
theorem g_53 : G0[53]? = some (.inr (10, [.inl false, .inl false, .inl false, .inr (some 54)])) := rfl
theorem g_54 : G0[54]? = some (.inl (.long, 60, [])) := rfl
theorem g_55 : G0[55]? = some (.inr (10, [.inl false, .inl false, .inl false, .inr (some 56)])) := rfl
theorem g_56 : G0[56]? = some (.inl (.long, 60, [])) := rfl
theorem g_57 : G0[57]? = some (.inr (0, [.inr (some 58), .inl false, .inr (some 59), .inl false, .inl false])) := rfl
theorem g_58 : G0[58]? = some (.inl (.int, 50, [])) := rfl
theorem g_59 : G0[59]? = some (.inl (.int, 24, [])) := rfl
theorem g_60 : G0[60]? = some (.inr (12, [.inl false, .inl false, .inr (some 61), .inr (some 62), .inr (some 63), .inr (some 64), .inl false, .inr (some 65), .inr (some 66), .inr (some 67), .inl false, .inl false, .inr (some 68), .inr (some 69), .inr (some 70), .inr (some 71), .inr (some 72), .inl false, .inl false, .inl false, .inl false, .inl false, .inr (some 73), .inr (some 74), .inr (some 75), .inr (some 76), .inr (some 77), .inr (some 78), .inr (some 79), .inl false, .inl false, .inl false, .inl false, .inr (some 80), .inr (some 81), .inl true, .inl true, .inr (some 82), .inr (some 83), .inr (some 84), .inl false, .inl false, .inl false, .inr (some 85), .inr (some 86), .inr (some 87), .inr (some 88), .inl false, .inr (some 89), .inl false, .inr (some 90), .inr (some 91), .inr (some 92), .inr (some 93), .inr (some 94)])) := rfl
theorem g_61 : G0[61]? = some (.inl (.int, 6, [])) := rfl
theorem g_62 : G0[62]? = some (.inl (.int, 6, [])) := rfl
theorem g_63 : G0[63]? = some (.inl (.int, 6, [])) := rfl
theorem g_64 : G0[64]? = some (.inl (.int, 6, [])) := rfl
theorem g_65 : G0[65]? = some (.inl (.int, 8, [])) := rfl
theorem g_66 : G0[66]? = some (.inl (.int, 8, [])) := rfl
theorem g_67 : G0[67]? = some (.inl (.int, 3, [])) := rfl
theorem g_68 : G0[68]? = some (.inl (.int, 40, [])) := rfl
theorem g_69 : G0[69]? = some (.inl (.int, 40, [])) := rfl
theorem g_70 : G0[70]? = some (.inl (.int, 40, [])) := rfl
theorem g_71 : G0[71]? = some (.inl (.int, 40, [])) := rfl
theorem g_72 : G0[72]? = some (.inl (.byte, 120, [])) := rfl
theorem g_73 : G0[73]? = some (.inl (.byte, 260, [])) := rfl
theorem g_74 : G0[74]? = some (.inl (.int, 260, [])) := rfl
theorem g_75 : G0[75]? = some (.inl (.int, 2, [])) := rfl
theorem g_76 : G0[76]? = some (.inl (.short, 122, [])) := rfl
theorem g_77 : G0[77]? = some (.inl (.short, 122, [])) := rfl
theorem g_78 : G0[78]? = some (.inl (.int, 6, [])) := rfl
theorem g_79 : G0[79]? = some (.inl (.int, 130, [])) := rfl
theorem g_80 : G0[80]? = some (.inl (.int, 366, [])) := rfl
theorem g_81 : G0[81]? = some (.inl (.int, 3328, [])) := rfl
theorem g_82 : G0[82]? = some (.inl (.int, 6, [])) := rfl
theorem g_83 : G0[83]? = some (.inl (.int, 6, [])) := rfl
theorem g_84 : G0[84]? = some (.inl (.int, 5, [])) := rfl
theorem g_85 : G0[85]? = some (.inl (.int, 6, [])) := rfl
theorem g_86 : G0[86]? = some (.inl (.int, 6, [])) := rfl
theorem g_87 : G0[87]? = some (.inl (.int, 6, [])) := rfl
theorem g_88 : G0[88]? = some (.inl (.int, 5, [])) := rfl
theorem g_89 : G0[89]? = some (.inl (.int, 50, [])) := rfl
theorem g_90 : G0[90]? = some (.inl (.int, 24, [])) := rfl
theorem g_91 : G0[91]? = some (.inl (.int, 6, [])) := rfl
theorem g_92 : G0[92]? = some (.inl (.int, 6, [])) := rfl
theorem g_93 : G0[93]? = some (.inl (.long, 360, [])) := rfl
theorem g_94 : G0[94]? = some (.inl (.long, 60, [])) := rfl
theorem g_coach {k : Nat} (hk : k < 6) : G0[16 + 2 * k]? = some (.inr (3, [.inl false, .inr (some 1), .inr (some 8), .inr (some (17 + 2 * k)), .inl false, .inl false, .inl false])) := by
  rcases (show k = 0 ∨ k = 1 ∨ k = 2 ∨ k = 3 ∨ k = 4 ∨ k = 5 by omega) with rfl | rfl | rfl | rfl | rfl | rfl <;> rfl
theorem g_given {k : Nat} (hk : k < 6) : G0[17 + 2 * k]? = some (.inl (.int, 480, [])) := by
  rcases (show k = 0 ∨ k = 1 ∨ k = 2 ∨ k = 3 ∨ k = 4 ∨ k = 5 by omega) with rfl | rfl | rfl | rfl | rfl | rfl <;> rfl
theorem g_coaches {k : Nat} (hk : k < 6) : ([some 16, some 18, some 20, some 22, some 24, some 26] : List (Option Nat)).getD k none = some (16 + 2 * k) := by
  rcases (show k = 0 ∨ k = 1 ∨ k = 2 ∨ k = 3 ∨ k = 4 ∨ k = 5 by omega) with rfl | rfl | rfl | rfl | rfl | rfl <;> rfl
theorem g_shelf {k : Nat} (hk : k < 6) : G0[45 + 2 * k]? = some (.inr (10, [.inl false, .inl false, .inl false, .inr (some (46 + 2 * k))])) := by
  rcases (show k = 0 ∨ k = 1 ∨ k = 2 ∨ k = 3 ∨ k = 4 ∨ k = 5 by omega) with rfl | rfl | rfl | rfl | rfl | rfl <;> rfl
theorem g_items {k : Nat} (hk : k < 6) : G0[46 + 2 * k]? = some (.inl (.long, 60, [])) := by
  rcases (show k = 0 ∨ k = 1 ∨ k = 2 ∨ k = 3 ∨ k = 4 ∨ k = 5 by omega) with rfl | rfl | rfl | rfl | rfl | rfl <;> rfl
theorem g_shelves {k : Nat} (hk : k < 6) : ([some 45, some 47, some 49, some 51, some 53, some 55] : List (Option Nat)).getD k none = some (45 + 2 * k) := by
  rcases (show k = 0 ∨ k = 1 ∨ k = 2 ∨ k = 3 ∨ k = 4 ∨ k = 5 by omega) with rfl | rfl | rfl | rfl | rfl | rfl <;> rfl
theorem vp_lt {j : Int32} {n : Nat} (h : vp_in j n) : j.toNatClampNeg < n := Nat.not_le.mp fun q => h (Or.inr q)
def qI (Q : Int32 → Sg → Prop) : Option Value → List aC → Sg → Prop := fun r Γ σ => Γ = G0 ∧ ∃ v : Int32, r = some (.int v) ∧ Q v σ
def qJ (Q : Int64 → Sg → Prop) : Option Value → List aC → Sg → Prop := fun r Γ σ => Γ = G0 ∧ ∃ v : Int64, r = some (.long v) ∧ Q v σ
def qV (Q : Sg → Prop) : Option Value → List aC → Sg → Prop := fun r Γ σ => Γ = G0 ∧ r = none ∧ Q σ
def subL : List (Option Value) → List (Option Value) → Prop
  | [], _ => True
  | none :: L', _ :: L => subL L' L
  | none :: L', [] => subL L' []
  | some v :: L', o :: L => o = some v ∧ subL L' L
  | some _ :: _, [] => False
theorem subL_ok : ∀ (L' L : List (Option Value)), subL L' L → ∀ (i : Nat) (v : Value), L'[i]? = some (some v) → L[i]? = some (some v)
  | [], _, _, i, v, h => by simp at h
  | none :: L', o :: L, hs, 0, v, h => by simp at h
  | none :: L', o :: L, hs, i + 1, v, h => by simpa using subL_ok L' L hs i v (by simpa using h)
  | none :: L', [], hs, 0, v, h => by simp at h
  | none :: L', [], hs, i + 1, v, h => by simpa using subL_ok L' [] hs i v (by simpa using h)
  | some w :: L', o :: L, hs, 0, v, h => by
    have e : w = v := by simpa using h
    rw [hs.1, e]; rfl
  | some w :: L', o :: L, hs, i + 1, v, h => by simpa using subL_ok L' L hs.2 i v (by simpa using h)
theorem nzb {r : Int32} (h : r = 0 ∨ r = 1) : narrow .boolean (.int r) = .int r := by rcases h with rfl | rfl <;> rfl
