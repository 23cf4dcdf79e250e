def qMT : List qM := [(yX0_init, cX0_init, 1, none, 4, 34),
  (yX0_become, cX0_become, 2, none, 0, 0),
  (yX0_isOver, cX0_isOver, 2, (some .boolean), 0, 0),
  (yX0_standing, cX0_standing, 2, (some .int), 0, 0),
  (yX0_addSuit, cX0_addSuit, 4, (some .int), 0, 0),
  (yX0_settle, cX0_settle, 6, (some .int), 0, 0),
  (yX0_move, cX0_move, 3, (some .int), 0, 0),
  (yX0_exchange, cX0_exchange, 4, (some .int), 0, 0),
  (yX0_leaveSides, cX0_leaveSides, 4, none, 0, 0),
  (yX0_changeSides, cX0_changeSides, 4, none, 0, 0),
  (yX0_marry, cX0_marry, 4, (some .int), 0, 0),
  (yX0_addThing, cX0_addThing, 3, (some .int), 0, 0),
  (yX0_split, cX0_split, 5, (some .int), 0, 0),
  (yX0_countStood, cX0_countStood, 4, (some .int), 0, 0),
  (yX0_costOfAll, cX0_costOfAll, 4, (some .int), 0, 0),
  (yX0_costTo, cX0_costTo, 2, (some .int), 0, 0),
  (yX0_neverEnding, cX0_neverEnding, 3, (some .int), 0, 0),
  (yX0_sidesOf, cX0_sidesOf, 2, (some .int), 0, 0),
  (yX0_groupOf, cX0_groupOf, 5, (some .int), 0, 0),
  (yX0_widen, cX0_widen, 3, (some .int), 0, 0),
  (yX0_countGroups, cX0_countGroups, 4, (some .int), 0, 0),
  (yX1_init, cX1_init, 2, none, 23, 174),
  (yX1_seekFewest, cX1_seekFewest, 4, (some .int), 0, 0),
  (yX1_endsAll, cX1_endsAll, 7, (some .boolean), 0, 0),
  (yX1_usefulThings, cX1_usefulThings, 9, (some .int), 0, 0),
  (yX1_step, cX1_step, 5, (some .boolean), 0, 0),
  (yX1_seekBest, cX1_seekBest, 4, none, 0, 0),
  (yX1_weighRows, cX1_weighRows, 6, none, 0, 0),
  (yX1_isSide, cX1_isSide, 5, (some .boolean), 0, 0),
  (yX1_weigh, cX1_weigh, 5, none, 0, 0),
  (yX1_choose, cX1_choose, 2, none, 0, 0),
  (yX2_init, cX2_init, 1, none, 1, 24),
  (yX2_begin, cX2_begin, 4, none, 0, 0),
  (yX2_refuses, cX2_refuses, 2, (some .int), 0, 0),
  (yX2_holds, cX2_holds, 3, (some .boolean), 0, 0),
  (yX2_lowestBits, cX2_lowestBits, 2, (some .int), 0, 0),
  (yX3_init, cX3_init, 1, none, 2, 136),
  (yX3_byteOf, cX3_byteOf, 3, (some .int), 0, 0),
  (yX3_isPlain, cX3_isPlain, 5, (some .boolean), 0, 0),
  (yX3_add, cX3_add, 5, none, 0, 0),
  (yX3_nextSign, cX3_nextSign, 1, (some .int), 0, 0),
  (yX3_fault, cX3_fault, 1, (some .int), 0, 0),
  (yX3_readThings, cX3_readThings, 3, (some .int), 0, 0),
  (yX3_readThing, cX3_readThing, 4, (some .boolean), 0, 0),
  (yX3_readSuits, cX3_readSuits, 4, (some .int), 0, 0),
  (yX3_readSuit, cX3_readSuit, 5, (some .boolean), 0, 0),
  (yX3_sideOf, cX3_sideOf, 2, (some .int), 0, 0),
  (yX4_init, cX4_init, 2, none, 8, 101),
  (yX4_become, cX4_become, 2, none, 0, 0),
  (yX4_addThing, cX4_addThing, 4, (some .int), 0, 0),
  (yX4_takeThings, cX4_takeThings, 4, none, 0, 0),
  (yX4_sell, cX4_sell, 5, (some .int), 0, 0),
  (yX4_split, cX4_split, 7, (some .int), 0, 0),
  (yX4_valueTo, cX4_valueTo, 5, (some .int), 0, 0),
  (yX5_init, cX5_init, 2, none, 59, 688),
  (yX5_person, cX5_person, 4, (some .int), 0, 0),
  (yX5_rule, cX5_rule, 4, (some .int), 0, 0),
  (yX5_thing, cX5_thing, 2, (some .int), 0, 0),
  (yX5_worth, cX5_worth, 4, (some .int), 0, 0),
  (yX5_suit, cX5_suit, 3, (some .int), 0, 0),
  (yX5_told, cX5_told, 4, (some .int), 0, 0),
  (yX5_hand, cX5_hand, 2, (some .int), 0, 0),
  (yX5_purse, cX5_purse, 2, (some .int), 0, 0),
  (yX5_value, cX5_value, 2, (some .int), 0, 0),
  (yX5_type, cX5_type, 4, (some .int), 0, 0),
  (yX5_village, cX5_village, 2, (some .int), 0, 0),
  (yX5_suits, cX5_suits, 3, (some .int), 0, 0),
  (yX5_count, cX5_count, 2, (some .int), 0, 0),
  (yX5_sale, cX5_sale, 4, (some .int), 0, 0),
  (yX5_swap, cX5_swap, 3, (some .int), 0, 0),
  (yX5_give, cX5_give, 2, (some .int), 0, 0),
  (yX5_wed, cX5_wed, 3, (some .int), 0, 0),
  (yX5_part, cX5_part, 3, (some .int), 0, 0),
  (yX5_gain, cX5_gain, 5, (some .int), 0, 0),
  (yX5_agreed, cX5_agreed, 6, (some .int), 0, 0),
  (yX5_rest, cX5_rest, 3, (some .int), 0, 0),
  (yX5_group, cX5_group, 2, (some .int), 0, 0),
  (yX5_never, cX5_never, 1, (some .int), 0, 0),
  (yX5_fewest, cX5_fewest, 3, (some .int), 0, 0),
  (yX5_best, cX5_best, 3, (some .int), 0, 0),
  (yX5_saves, cX5_saves, 3, (some .int), 0, 0),
  (yX5_match, cX5_match, 6, (some .int), 0, 0),
  (yX5_against, cX5_against, 5, (some .int), 0, 0),
  (yX5_pays, cX5_pays, 9, (some .int), 0, 0),
  (yX5_image, cX5_image, 1, (some .int), 0, 0),
  (yX5_restore, cX5_restore, 1, (some .int), 0, 0),
  (yX5_deal, cX5_deal, 8, (some .int), 0, 0),
  (yX5_sheet, cX5_sheet, 4, (some .int), 0, 0),
  (yX5_drop, cX5_drop, 3, (some .int), 0, 0),
  (yX5_item, cX5_item, 7, (some .int), 0, 0),
  (yX5_copy, cX5_copy, 8, (some .int), 0, 0),
  (yX5_isWithin, cX5_isWithin, 2, (some .boolean), 0, 0),
  (yX5_isPerson, cX5_isPerson, 1, (some .boolean), 0, 0),
  (yX5_isSheet, cX5_isSheet, 1, (some .boolean), 0, 0),
  (yX5_isLane, cX5_isLane, 1, (some .boolean), 0, 0),
  (yX5_isThing, cX5_isThing, 2, (some .boolean), 0, 0),
  (yX5_isSide, cX5_isSide, 2, (some .boolean), 0, 0),
  (yX5_put, cX5_put, 4, (some .int), 0, 0),
  (yX5_trySale, cX5_trySale, 3, none, 0, 0),
  (yX5_gainOf, cX5_gainOf, 2, (some .int), 0, 0),
  (yX5_makeFirstAgreed, cX5_makeFirstAgreed, 4, (some .boolean), 0, 0),
  (yX5_dealOne, cX5_dealOne, 3, (some .boolean), 0, 0),
  (yX6_in, cX6_in, 6, (some .boolean), 0, 0),
  (yX6_init, cX6_init, 2, none, 19, 506),
  (yX6_isPerson, cX6_isPerson, 1, (some .boolean), 0, 0),
  (yX6_isThing, cX6_isThing, 2, (some .boolean), 0, 0),
  (yX6_isSide, cX6_isSide, 2, (some .boolean), 0, 0),
  (yX6_stands, cX6_stands, 2, (some .int), 0, 0),
  (yX6_isOver, cX6_isOver, 2, (some .boolean), 0, 0),
  (yX6_ends, cX6_ends, 6, (some .int), 0, 0),
  (yX6_person, cX6_person, 5, (some .int), 0, 0),
  (yX6_rule, cX6_rule, 4, (some .int), 0, 0),
  (yX6_thing, cX6_thing, 3, (some .int), 0, 0),
  (yX6_worth, cX6_worth, 5, (some .int), 0, 0),
  (yX6_comes, cX6_comes, 3, (some .int), 0, 0),
  (yX6_suit, cX6_suit, 3, (some .int), 0, 0),
  (yX6_told, cX6_told, 3, (some .int), 0, 0),
  (yX6_hand, cX6_hand, 2, (some .int), 0, 0),
  (yX6_purse, cX6_purse, 2, (some .int), 0, 0),
  (yX6_standsIn, cX6_standsIn, 4, (some .int), 0, 0),
  (yX6_valueOf, cX6_valueOf, 4, (some .int), 0, 0),
  (yX6_value, cX6_value, 2, (some .int), 0, 0),
  (yX6_size, cX6_size, 3, (some .int), 0, 0),
  (yX6_costAll, cX6_costAll, 3, (some .int), 0, 0),
  (yX6_count, cX6_count, 2, (some .int), 0, 0),
  (yX6_type, cX6_type, 5, (some .int), 0, 0),
  (yX6_here, cX6_here, 1, (some .int), 0, 0),
  (yX6_has, cX6_has, 3, (some .boolean), 0, 0),
  (yX6_digit, cX6_digit, 3, (some .int), 0, 0),
  (yX6_thingClause, cX6_thingClause, 3, none, 0, 0),
  (yX6_side, cX6_side, 4, (some .int), 0, 0),
  (yX6_readAll, cX6_readAll, 4, (some .int), 0, 0),
  (yX6_village, cX6_village, 4, (some .int), 0, 0),
  (yX6_suits, cX6_suits, 3, (some .int), 0, 0),
  (yX6_stay, cX6_stay, 3, none, 0, 0),
  (yX6_sells, cX6_sells, 3, (some .int), 0, 0),
  (yX6_comesTo, cX6_comesTo, 3, none, 0, 0),
  (yX6_sale, cX6_sale, 4, (some .int), 0, 0),
  (yX6_swap, cX6_swap, 4, (some .int), 0, 0),
  (yX6_give, cX6_give, 2, (some .int), 0, 0),
  (yX6_weds, cX6_weds, 4, (some .int), 0, 0),
  (yX6_wed, cX6_wed, 3, (some .int), 0, 0),
  (yX6_part, cX6_part, 5, (some .int), 0, 0),
  (yX6_keeps, cX6_keeps, 2, none, 0, 0),
  (yX6_back, cX6_back, 2, none, 0, 0),
  (yX6_gainOf, cX6_gainOf, 6, (some .int), 0, 0),
  (yX6_gain, cX6_gain, 4, (some .int), 0, 0),
  (yX6_priceOf, cX6_priceOf, 5, (some .int), 0, 0),
  (yX6_agreed, cX6_agreed, 3, (some .int), 0, 0),
  (yX6_deals, cX6_deals, 3, (some .boolean), 0, 0),
  (yX6_rest, cX6_rest, 3, (some .int), 0, 0),
  (yX6_groupOf, cX6_groupOf, 6, (some .int), 0, 0),
  (yX6_group, cX6_group, 6, (some .int), 0, 0),
  (yX6_neverOf, cX6_neverOf, 3, (some .int), 0, 0),
  (yX6_never, cX6_never, 1, (some .int), 0, 0),
  (yX6_done, cX6_done, 6, (some .boolean), 0, 0),
  (yX6_notes, cX6_notes, 3, none, 0, 0),
  (yX6_fewestOf, cX6_fewestOf, 6, (some .int), 0, 0),
  (yX6_fewest, cX6_fewest, 3, (some .int), 0, 0),
  (yX6_bestOf, cX6_bestOf, 7, (some .int), 0, 0),
  (yX6_best, cX6_best, 4, (some .int), 0, 0),
  (yX6_savesOf, cX6_savesOf, 5, (some .int), 0, 0),
  (yX6_saves, cX6_saves, 3, (some .int), 0, 0),
  (yX6_match, cX6_match, 6, (some .int), 0, 0),
  (yX6_against, cX6_against, 4, (some .int), 0, 0),
  (yX6_pays, cX6_pays, 8, (some .int), 0, 0),
  (yX6_lay, cX6_lay, 4, (some .int), 0, 0),
  (yX6_gives, cX6_gives, 4, (some .int), 0, 0),
  (yX6_image, cX6_image, 2, (some .int), 0, 0),
  (yX6_restore, cX6_restore, 2, (some .int), 0, 0),
  (yX6_isSheet, cX6_isSheet, 1, (some .boolean), 0, 0),
  (yX6_isLane, cX6_isLane, 1, (some .boolean), 0, 0),
  (yX6_finds, cX6_finds, 5, (some .int), 0, 0),
  (yX6_deal, cX6_deal, 8, (some .int), 0, 0),
  (yX6_sheet, cX6_sheet, 5, (some .int), 0, 0),
  (yX6_drop, cX6_drop, 2, (some .int), 0, 0),
  (yX6_item, cX6_item, 6, (some .int), 0, 0),
  (yX6_copy, cX6_copy, 7, (some .int), 0, 0),
  (yJ6_bitCount_0f7a4, cJ6_bitCount_0f7a4, 1, (some .int), 0, 0)]
theorem qm_0 : qMT[0]? = some (yX0_init, cX0_init, 1, none, 4, 34) := rfl
theorem qp_0 : (parseMethodDescriptor yX0_init.desc).map (fun d => d.parameters.length) = some 0 := by decide +kernel
theorem qo_0 : qMOK (yX0_init, cX0_init, 1, none, 4, 34) := ⟨by decide +kernel, hw_80, hw_54, by decide, by decide +kernel, by decide +kernel⟩
theorem qm_1 : qMT[1]? = some (yX0_become, cX0_become, 2, none, 0, 0) := rfl
theorem qp_1 : (parseMethodDescriptor yX0_become.desc).map (fun d => d.parameters.length) = some 1 := by decide +kernel
theorem qo_1 : qMOK (yX0_become, cX0_become, 2, none, 0, 0) := ⟨by decide +kernel, hw_469, hw_54, by decide, by decide +kernel, by decide +kernel⟩
theorem qm_2 : qMT[2]? = some (yX0_isOver, cX0_isOver, 2, (some .boolean), 0, 0) := rfl
theorem qp_2 : (parseMethodDescriptor yX0_isOver.desc).map (fun d => d.parameters.length) = some 1 := by decide +kernel
theorem qo_2 : qMOK (yX0_isOver, cX0_isOver, 2, (some .boolean), 0, 0) := ⟨by decide +kernel, hw_265, hw_54, by decide, by decide +kernel, by decide +kernel⟩
theorem qm_3 : qMT[3]? = some (yX0_standing, cX0_standing, 2, (some .int), 0, 0) := rfl
theorem qp_3 : (parseMethodDescriptor yX0_standing.desc).map (fun d => d.parameters.length) = some 1 := by decide +kernel
theorem qo_3 : qMOK (yX0_standing, cX0_standing, 2, (some .int), 0, 0) := ⟨by decide +kernel, hw_261, hw_54, by decide, by decide +kernel, by decide +kernel⟩
theorem qm_4 : qMT[4]? = some (yX0_addSuit, cX0_addSuit, 4, (some .int), 0, 0) := rfl
theorem qp_4 : (parseMethodDescriptor yX0_addSuit.desc).map (fun d => d.parameters.length) = some 2 := by decide +kernel
theorem qo_4 : qMOK (yX0_addSuit, cX0_addSuit, 4, (some .int), 0, 0) := ⟨by decide +kernel, hw_297, hw_54, by decide, by decide +kernel, by decide +kernel⟩
theorem qm_5 : qMT[5]? = some (yX0_settle, cX0_settle, 6, (some .int), 0, 0) := rfl
theorem qp_5 : (parseMethodDescriptor yX0_settle.desc).map (fun d => d.parameters.length) = some 0 := by decide +kernel
theorem qo_5 : qMOK (yX0_settle, cX0_settle, 6, (some .int), 0, 0) := ⟨by decide +kernel, hw_257, hw_54, by decide, by decide +kernel, by decide +kernel⟩
theorem qm_6 : qMT[6]? = some (yX0_move, cX0_move, 3, (some .int), 0, 0) := rfl
theorem qp_6 : (parseMethodDescriptor yX0_move.desc).map (fun d => d.parameters.length) = some 2 := by decide +kernel
theorem qo_6 : qMOK (yX0_move, cX0_move, 3, (some .int), 0, 0) := ⟨by decide +kernel, hw_413, hw_54, by decide, by decide +kernel, by decide +kernel⟩
theorem qm_7 : qMT[7]? = some (yX0_exchange, cX0_exchange, 4, (some .int), 0, 0) := rfl
theorem qp_7 : (parseMethodDescriptor yX0_exchange.desc).map (fun d => d.parameters.length) = some 2 := by decide +kernel
theorem qo_7 : qMOK (yX0_exchange, cX0_exchange, 4, (some .int), 0, 0) := ⟨by decide +kernel, hw_429, hw_54, by decide, by decide +kernel, by decide +kernel⟩
theorem qm_8 : qMT[8]? = some (yX0_leaveSides, cX0_leaveSides, 4, none, 0, 0) := rfl
theorem qp_8 : (parseMethodDescriptor yX0_leaveSides.desc).map (fun d => d.parameters.length) = some 1 := by decide +kernel
theorem qo_8 : qMOK (yX0_leaveSides, cX0_leaveSides, 4, none, 0, 0) := ⟨by decide +kernel, hw_417, hw_54, by decide, by decide +kernel, by decide +kernel⟩
theorem qm_9 : qMT[9]? = some (yX0_changeSides, cX0_changeSides, 4, none, 0, 0) := rfl
theorem qp_9 : (parseMethodDescriptor yX0_changeSides.desc).map (fun d => d.parameters.length) = some 3 := by decide +kernel
theorem qo_9 : qMOK (yX0_changeSides, cX0_changeSides, 4, none, 0, 0) := ⟨by decide +kernel, hw_421, hw_54, by decide, by decide +kernel, by decide +kernel⟩
theorem qm_10 : qMT[10]? = some (yX0_marry, cX0_marry, 4, (some .int), 0, 0) := rfl
theorem qp_10 : (parseMethodDescriptor yX0_marry.desc).map (fun d => d.parameters.length) = some 2 := by decide +kernel
theorem qo_10 : qMOK (yX0_marry, cX0_marry, 4, (some .int), 0, 0) := ⟨by decide +kernel, hw_443, hw_54, by decide, by decide +kernel, by decide +kernel⟩
theorem qm_11 : qMT[11]? = some (yX0_addThing, cX0_addThing, 3, (some .int), 0, 0) := rfl
theorem qp_11 : (parseMethodDescriptor yX0_addThing.desc).map (fun d => d.parameters.length) = some 1 := by decide +kernel
theorem qo_11 : qMOK (yX0_addThing, cX0_addThing, 3, (some .int), 0, 0) := ⟨by decide +kernel, hw_277, hw_54, by decide, by decide +kernel, by decide +kernel⟩
theorem qm_12 : qMT[12]? = some (yX0_split, cX0_split, 5, (some .int), 0, 0) := rfl
theorem qp_12 : (parseMethodDescriptor yX0_split.desc).map (fun d => d.parameters.length) = some 2 := by decide +kernel
theorem qo_12 : qMOK (yX0_split, cX0_split, 5, (some .int), 0, 0) := ⟨by decide +kernel, hw_455, hw_54, by decide, by decide +kernel, by decide +kernel⟩
theorem qm_13 : qMT[13]? = some (yX0_countStood, cX0_countStood, 4, (some .int), 0, 0) := rfl
theorem qp_13 : (parseMethodDescriptor yX0_countStood.desc).map (fun d => d.parameters.length) = some 1 := by decide +kernel
theorem qo_13 : qMOK (yX0_countStood, cX0_countStood, 4, (some .int), 0, 0) := ⟨by decide +kernel, hw_324, hw_54, by decide, by decide +kernel, by decide +kernel⟩
theorem qm_14 : qMT[14]? = some (yX0_costOfAll, cX0_costOfAll, 4, (some .int), 0, 0) := rfl
theorem qp_14 : (parseMethodDescriptor yX0_costOfAll.desc).map (fun d => d.parameters.length) = some 1 := by decide +kernel
theorem qo_14 : qMOK (yX0_costOfAll, cX0_costOfAll, 4, (some .int), 0, 0) := ⟨by decide +kernel, hw_395, hw_54, by decide, by decide +kernel, by decide +kernel⟩
theorem qm_15 : qMT[15]? = some (yX0_costTo, cX0_costTo, 2, (some .int), 0, 0) := rfl
theorem qp_15 : (parseMethodDescriptor yX0_costTo.desc).map (fun d => d.parameters.length) = some 2 := by decide +kernel
theorem qo_15 : qMOK (yX0_costTo, cX0_costTo, 2, (some .int), 0, 0) := ⟨by decide +kernel, hw_398, hw_54, by decide, by decide +kernel, by decide +kernel⟩
theorem qm_16 : qMT[16]? = some (yX0_neverEnding, cX0_neverEnding, 3, (some .int), 0, 0) := rfl
theorem qp_16 : (parseMethodDescriptor yX0_neverEnding.desc).map (fun d => d.parameters.length) = some 0 := by decide +kernel
theorem qo_16 : qMOK (yX0_neverEnding, cX0_neverEnding, 3, (some .int), 0, 0) := ⟨by decide +kernel, hw_519, hw_54, by decide, by decide +kernel, by decide +kernel⟩
theorem qm_17 : qMT[17]? = some (yX0_sidesOf, cX0_sidesOf, 2, (some .int), 0, 0) := rfl
theorem qp_17 : (parseMethodDescriptor yX0_sidesOf.desc).map (fun d => d.parameters.length) = some 1 := by decide +kernel
theorem qo_17 : qMOK (yX0_sidesOf, cX0_sidesOf, 2, (some .int), 0, 0) := ⟨by decide +kernel, hw_502, hw_54, by decide, by decide +kernel, by decide +kernel⟩
theorem qm_18 : qMT[18]? = some (yX0_groupOf, cX0_groupOf, 5, (some .int), 0, 0) := rfl
theorem qp_18 : (parseMethodDescriptor yX0_groupOf.desc).map (fun d => d.parameters.length) = some 1 := by decide +kernel
theorem qo_18 : qMOK (yX0_groupOf, cX0_groupOf, 5, (some .int), 0, 0) := ⟨by decide +kernel, hw_506, hw_54, by decide, by decide +kernel, by decide +kernel⟩
theorem qm_19 : qMT[19]? = some (yX0_widen, cX0_widen, 3, (some .int), 0, 0) := rfl
theorem qp_19 : (parseMethodDescriptor yX0_widen.desc).map (fun d => d.parameters.length) = some 1 := by decide +kernel
theorem qo_19 : qMOK (yX0_widen, cX0_widen, 3, (some .int), 0, 0) := ⟨by decide +kernel, hw_510, hw_54, by decide, by decide +kernel, by decide +kernel⟩
theorem qm_20 : qMT[20]? = some (yX0_countGroups, cX0_countGroups, 4, (some .int), 0, 0) := rfl
theorem qp_20 : (parseMethodDescriptor yX0_countGroups.desc).map (fun d => d.parameters.length) = some 0 := by decide +kernel
theorem qo_20 : qMOK (yX0_countGroups, cX0_countGroups, 4, (some .int), 0, 0) := ⟨by decide +kernel, hw_498, hw_54, by decide, by decide +kernel, by decide +kernel⟩
theorem qm_21 : qMT[21]? = some (yX1_init, cX1_init, 2, none, 23, 174) := rfl
theorem qp_21 : (parseMethodDescriptor yX1_init.desc).map (fun d => d.parameters.length) = some 0 := by decide +kernel
theorem qo_21 : qMOK (yX1_init, cX1_init, 2, none, 23, 174) := ⟨by decide +kernel, hw_146, hw_55, by decide, by decide +kernel, by decide +kernel⟩
theorem qm_22 : qMT[22]? = some (yX1_seekFewest, cX1_seekFewest, 4, (some .int), 0, 0) := rfl
theorem qp_22 : (parseMethodDescriptor yX1_seekFewest.desc).map (fun d => d.parameters.length) = some 1 := by decide +kernel
theorem qo_22 : qMOK (yX1_seekFewest, cX1_seekFewest, 4, (some .int), 0, 0) := ⟨by decide +kernel, hw_527, hw_55, by decide, by decide +kernel, by decide +kernel⟩
theorem qm_23 : qMT[23]? = some (yX1_endsAll, cX1_endsAll, 7, (some .boolean), 0, 0) := rfl
theorem qp_23 : (parseMethodDescriptor yX1_endsAll.desc).map (fun d => d.parameters.length) = some 4 := by decide +kernel
theorem qo_23 : qMOK (yX1_endsAll, cX1_endsAll, 7, (some .boolean), 0, 0) := ⟨by decide +kernel, hw_532, hw_55, by decide, by decide +kernel, by decide +kernel⟩
theorem qm_24 : qMT[24]? = some (yX1_usefulThings, cX1_usefulThings, 9, (some .int), 0, 0) := rfl
theorem qp_24 : (parseMethodDescriptor yX1_usefulThings.desc).map (fun d => d.parameters.length) = some 3 := by decide +kernel
theorem qo_24 : qMOK (yX1_usefulThings, cX1_usefulThings, 9, (some .int), 0, 0) := ⟨by decide +kernel, hw_536, hw_55, by decide, by decide +kernel, by decide +kernel⟩
theorem qm_25 : qMT[25]? = some (yX1_step, cX1_step, 5, (some .boolean), 0, 0) := rfl
theorem qp_25 : (parseMethodDescriptor yX1_step.desc).map (fun d => d.parameters.length) = some 3 := by decide +kernel
theorem qo_25 : qMOK (yX1_step, cX1_step, 5, (some .boolean), 0, 0) := ⟨by decide +kernel, hw_542, hw_55, by decide, by decide +kernel, by decide +kernel⟩
theorem qm_26 : qMT[26]? = some (yX1_seekBest, cX1_seekBest, 4, none, 0, 0) := rfl
theorem qp_26 : (parseMethodDescriptor yX1_seekBest.desc).map (fun d => d.parameters.length) = some 3 := by decide +kernel
theorem qo_26 : qMOK (yX1_seekBest, cX1_seekBest, 4, none, 0, 0) := ⟨by decide +kernel, hw_556, hw_55, by decide, by decide +kernel, by decide +kernel⟩
theorem qm_27 : qMT[27]? = some (yX1_weighRows, cX1_weighRows, 6, none, 0, 0) := rfl
theorem qp_27 : (parseMethodDescriptor yX1_weighRows.desc).map (fun d => d.parameters.length) = some 4 := by decide +kernel
theorem qo_27 : qMOK (yX1_weighRows, cX1_weighRows, 6, none, 0, 0) := ⟨by decide +kernel, hw_560, hw_55, by decide, by decide +kernel, by decide +kernel⟩
theorem qm_28 : qMT[28]? = some (yX1_isSide, cX1_isSide, 5, (some .boolean), 0, 0) := rfl
theorem qp_28 : (parseMethodDescriptor yX1_isSide.desc).map (fun d => d.parameters.length) = some 2 := by decide +kernel
theorem qo_28 : qMOK (yX1_isSide, cX1_isSide, 5, (some .boolean), 0, 0) := ⟨by decide +kernel, hw_564, hw_55, by decide, by decide +kernel, by decide +kernel⟩
theorem qm_29 : qMT[29]? = some (yX1_weigh, cX1_weigh, 5, none, 0, 0) := rfl
theorem qp_29 : (parseMethodDescriptor yX1_weigh.desc).map (fun d => d.parameters.length) = some 3 := by decide +kernel
theorem qo_29 : qMOK (yX1_weigh, cX1_weigh, 5, none, 0, 0) := ⟨by decide +kernel, hw_568, hw_55, by decide, by decide +kernel, by decide +kernel⟩
theorem qm_30 : qMT[30]? = some (yX1_choose, cX1_choose, 2, none, 0, 0) := rfl
theorem qp_30 : (parseMethodDescriptor yX1_choose.desc).map (fun d => d.parameters.length) = some 1 := by decide +kernel
theorem qo_30 : qMOK (yX1_choose, cX1_choose, 2, none, 0, 0) := ⟨by decide +kernel, hw_547, hw_55, by decide, by decide +kernel, by decide +kernel⟩
theorem qm_31 : qMT[31]? = some (yX2_init, cX2_init, 1, none, 1, 24) := rfl
theorem qp_31 : (parseMethodDescriptor yX2_init.desc).map (fun d => d.parameters.length) = some 0 := by decide +kernel
theorem qo_31 : qMOK (yX2_init, cX2_init, 1, none, 1, 24) := ⟨by decide +kernel, hw_196, hw_57, by decide, by decide +kernel, by decide +kernel⟩
theorem qm_32 : qMT[32]? = some (yX2_begin, cX2_begin, 4, none, 0, 0) := rfl
theorem qp_32 : (parseMethodDescriptor yX2_begin.desc).map (fun d => d.parameters.length) = some 2 := by decide +kernel
theorem qo_32 : qMOK (yX2_begin, cX2_begin, 4, none, 0, 0) := ⟨by decide +kernel, hw_630, hw_57, by decide, by decide +kernel, by decide +kernel⟩
theorem qm_33 : qMT[33]? = some (yX2_refuses, cX2_refuses, 2, (some .int), 0, 0) := rfl
theorem qp_33 : (parseMethodDescriptor yX2_refuses.desc).map (fun d => d.parameters.length) = some 1 := by decide +kernel
theorem qo_33 : qMOK (yX2_refuses, cX2_refuses, 2, (some .int), 0, 0) := ⟨by decide +kernel, hw_613, hw_57, by decide, by decide +kernel, by decide +kernel⟩
theorem qm_34 : qMT[34]? = some (yX2_holds, cX2_holds, 3, (some .boolean), 0, 0) := rfl
theorem qp_34 : (parseMethodDescriptor yX2_holds.desc).map (fun d => d.parameters.length) = some 2 := by decide +kernel
theorem qo_34 : qMOK (yX2_holds, cX2_holds, 3, (some .boolean), 0, 0) := ⟨by decide +kernel, hw_617, hw_57, by decide, by decide +kernel, by decide +kernel⟩
theorem qm_35 : qMT[35]? = some (yX2_lowestBits, cX2_lowestBits, 2, (some .int), 0, 0) := rfl
theorem qp_35 : (parseMethodDescriptor yX2_lowestBits.desc).map (fun d => d.parameters.length) = some 2 := by decide +kernel
theorem qo_35 : qMOK (yX2_lowestBits, cX2_lowestBits, 2, (some .int), 0, 0) := ⟨by decide +kernel, hw_641, hw_57, by decide, by decide +kernel, by decide +kernel⟩
theorem qm_36 : qMT[36]? = some (yX3_init, cX3_init, 1, none, 2, 136) := rfl
theorem qp_36 : (parseMethodDescriptor yX3_init.desc).map (fun d => d.parameters.length) = some 0 := by decide +kernel
theorem qo_36 : qMOK (yX3_init, cX3_init, 1, none, 2, 136) := ⟨by decide +kernel, hw_174, hw_56, by decide, by decide +kernel, by decide +kernel⟩
theorem qm_37 : qMT[37]? = some (yX3_byteOf, cX3_byteOf, 3, (some .int), 0, 0) := rfl
theorem qp_37 : (parseMethodDescriptor yX3_byteOf.desc).map (fun d => d.parameters.length) = some 2 := by decide +kernel
theorem qo_37 : qMOK (yX3_byteOf, cX3_byteOf, 3, (some .int), 0, 0) := ⟨by decide +kernel, hw_335, hw_56, by decide, by decide +kernel, by decide +kernel⟩
theorem qm_38 : qMT[38]? = some (yX3_isPlain, cX3_isPlain, 5, (some .boolean), 0, 0) := rfl
theorem qp_38 : (parseMethodDescriptor yX3_isPlain.desc).map (fun d => d.parameters.length) = some 2 := by decide +kernel
theorem qo_38 : qMOK (yX3_isPlain, cX3_isPlain, 5, (some .boolean), 0, 0) := ⟨by decide +kernel, hw_332, hw_56, by decide, by decide +kernel, by decide +kernel⟩
theorem qm_39 : qMT[39]? = some (yX3_add, cX3_add, 5, none, 0, 0) := rfl
theorem qp_39 : (parseMethodDescriptor yX3_add.desc).map (fun d => d.parameters.length) = some 2 := by decide +kernel
theorem qo_39 : qMOK (yX3_add, cX3_add, 5, none, 0, 0) := ⟨by decide +kernel, hw_339, hw_56, by decide, by decide +kernel, by decide +kernel⟩
theorem qm_40 : qMT[40]? = some (yX3_nextSign, cX3_nextSign, 1, (some .int), 0, 0) := rfl
theorem qp_40 : (parseMethodDescriptor yX3_nextSign.desc).map (fun d => d.parameters.length) = some 0 := by decide +kernel
theorem qo_40 : qMOK (yX3_nextSign, cX3_nextSign, 1, (some .int), 0, 0) := ⟨by decide +kernel, hw_355, hw_56, by decide, by decide +kernel, by decide +kernel⟩
theorem qm_41 : qMT[41]? = some (yX3_fault, cX3_fault, 1, (some .int), 0, 0) := rfl
theorem qp_41 : (parseMethodDescriptor yX3_fault.desc).map (fun d => d.parameters.length) = some 0 := by decide +kernel
theorem qo_41 : qMOK (yX3_fault, cX3_fault, 1, (some .int), 0, 0) := ⟨by decide +kernel, hw_359, hw_56, by decide, by decide +kernel, by decide +kernel⟩
theorem qm_42 : qMT[42]? = some (yX3_readThings, cX3_readThings, 3, (some .int), 0, 0) := rfl
theorem qp_42 : (parseMethodDescriptor yX3_readThings.desc).map (fun d => d.parameters.length) = some 0 := by decide +kernel
theorem qo_42 : qMOK (yX3_readThings, cX3_readThings, 3, (some .int), 0, 0) := ⟨by decide +kernel, hw_347, hw_56, by decide, by decide +kernel, by decide +kernel⟩
theorem qm_43 : qMT[43]? = some (yX3_readThing, cX3_readThing, 4, (some .boolean), 0, 0) := rfl
theorem qp_43 : (parseMethodDescriptor yX3_readThing.desc).map (fun d => d.parameters.length) = some 1 := by decide +kernel
theorem qo_43 : qMOK (yX3_readThing, cX3_readThing, 4, (some .boolean), 0, 0) := ⟨by decide +kernel, hw_351, hw_56, by decide, by decide +kernel, by decide +kernel⟩
theorem qm_44 : qMT[44]? = some (yX3_readSuits, cX3_readSuits, 4, (some .int), 0, 0) := rfl
theorem qp_44 : (parseMethodDescriptor yX3_readSuits.desc).map (fun d => d.parameters.length) = some 1 := by decide +kernel
theorem qo_44 : qMOK (yX3_readSuits, cX3_readSuits, 4, (some .int), 0, 0) := ⟨by decide +kernel, hw_374, hw_56, by decide, by decide +kernel, by decide +kernel⟩
theorem qm_45 : qMT[45]? = some (yX3_readSuit, cX3_readSuit, 5, (some .boolean), 0, 0) := rfl
theorem qp_45 : (parseMethodDescriptor yX3_readSuit.desc).map (fun d => d.parameters.length) = some 2 := by decide +kernel
theorem qo_45 : qMOK (yX3_readSuit, cX3_readSuit, 5, (some .boolean), 0, 0) := ⟨by decide +kernel, hw_378, hw_56, by decide, by decide +kernel, by decide +kernel⟩
theorem qm_46 : qMT[46]? = some (yX3_sideOf, cX3_sideOf, 2, (some .int), 0, 0) := rfl
theorem qp_46 : (parseMethodDescriptor yX3_sideOf.desc).map (fun d => d.parameters.length) = some 2 := by decide +kernel
theorem qo_46 : qMOK (yX3_sideOf, cX3_sideOf, 2, (some .int), 0, 0) := ⟨by decide +kernel, hw_381, hw_56, by decide, by decide +kernel, by decide +kernel⟩
theorem qm_47 : qMT[47]? = some (yX4_init, cX4_init, 2, none, 8, 101) := rfl
theorem qp_47 : (parseMethodDescriptor yX4_init.desc).map (fun d => d.parameters.length) = some 0 := by decide +kernel
theorem qo_47 : qMOK (yX4_init, cX4_init, 2, none, 8, 101) := ⟨by decide +kernel, hw_74, hw_53, by decide, by decide +kernel, by decide +kernel⟩
theorem qm_48 : qMT[48]? = some (yX4_become, cX4_become, 2, none, 0, 0) := rfl
theorem qp_48 : (parseMethodDescriptor yX4_become.desc).map (fun d => d.parameters.length) = some 1 := by decide +kernel
theorem qo_48 : qMOK (yX4_become, cX4_become, 2, none, 0, 0) := ⟨by decide +kernel, hw_594, hw_53, by decide, by decide +kernel, by decide +kernel⟩
theorem qm_49 : qMT[49]? = some (yX4_addThing, cX4_addThing, 4, (some .int), 0, 0) := rfl
theorem qp_49 : (parseMethodDescriptor yX4_addThing.desc).map (fun d => d.parameters.length) = some 1 := by decide +kernel
theorem qo_49 : qMOK (yX4_addThing, cX4_addThing, 4, (some .int), 0, 0) := ⟨by decide +kernel, hw_273, hw_53, by decide, by decide +kernel, by decide +kernel⟩
theorem qm_50 : qMT[50]? = some (yX4_takeThings, cX4_takeThings, 4, none, 0, 0) := rfl
theorem qp_50 : (parseMethodDescriptor yX4_takeThings.desc).map (fun d => d.parameters.length) = some 2 := by decide +kernel
theorem qo_50 : qMOK (yX4_takeThings, cX4_takeThings, 4, none, 0, 0) := ⟨by decide +kernel, hw_363, hw_53, by decide, by decide +kernel, by decide +kernel⟩
theorem qm_51 : qMT[51]? = some (yX4_sell, cX4_sell, 5, (some .int), 0, 0) := rfl
theorem qp_51 : (parseMethodDescriptor yX4_sell.desc).map (fun d => d.parameters.length) = some 3 := by decide +kernel
theorem qo_51 : qMOK (yX4_sell, cX4_sell, 5, (some .int), 0, 0) := ⟨by decide +kernel, hw_406, hw_53, by decide, by decide +kernel, by decide +kernel⟩
theorem qm_52 : qMT[52]? = some (yX4_split, cX4_split, 7, (some .int), 0, 0) := rfl
theorem qp_52 : (parseMethodDescriptor yX4_split.desc).map (fun d => d.parameters.length) = some 2 := by decide +kernel
theorem qo_52 : qMOK (yX4_split, cX4_split, 7, (some .int), 0, 0) := ⟨by decide +kernel, hw_451, hw_53, by decide, by decide +kernel, by decide +kernel⟩
theorem qm_53 : qMT[53]? = some (yX4_valueTo, cX4_valueTo, 5, (some .int), 0, 0) := rfl
theorem qp_53 : (parseMethodDescriptor yX4_valueTo.desc).map (fun d => d.parameters.length) = some 2 := by decide +kernel
theorem qo_53 : qMOK (yX4_valueTo, cX4_valueTo, 5, (some .int), 0, 0) := ⟨by decide +kernel, hw_320, hw_53, by decide, by decide +kernel, by decide +kernel⟩
theorem qm_54 : qMT[54]? = some (yX5_init, cX5_init, 2, none, 59, 688) := rfl
theorem qp_54 : (parseMethodDescriptor yX5_init.desc).map (fun d => d.parameters.length) = some 0 := by decide +kernel
theorem qo_54 : qMOK (yX5_init, cX5_init, 2, none, 59, 688) := ⟨by decide +kernel, hw_66, hw_52, by decide, by decide +kernel, by decide +kernel⟩
theorem qm_55 : qMT[55]? = some (yX5_person, cX5_person, 4, (some .int), 0, 0) := rfl
theorem qp_55 : (parseMethodDescriptor yX5_person.desc).map (fun d => d.parameters.length) = some 3 := by decide +kernel
theorem qo_55 : qMOK (yX5_person, cX5_person, 4, (some .int), 0, 0) := ⟨by decide +kernel, hw_240, hw_52, by decide, by decide +kernel, by decide +kernel⟩
theorem qm_56 : qMT[56]? = some (yX5_rule, cX5_rule, 4, (some .int), 0, 0) := rfl
theorem qp_56 : (parseMethodDescriptor yX5_rule.desc).map (fun d => d.parameters.length) = some 2 := by decide +kernel
theorem qo_56 : qMOK (yX5_rule, cX5_rule, 4, (some .int), 0, 0) := ⟨by decide +kernel, hw_253, hw_52, by decide, by decide +kernel, by decide +kernel⟩
theorem qm_57 : qMT[57]? = some (yX5_thing, cX5_thing, 2, (some .int), 0, 0) := rfl
theorem qp_57 : (parseMethodDescriptor yX5_thing.desc).map (fun d => d.parameters.length) = some 1 := by decide +kernel
theorem qo_57 : qMOK (yX5_thing, cX5_thing, 2, (some .int), 0, 0) := ⟨by decide +kernel, hw_269, hw_52, by decide, by decide +kernel, by decide +kernel⟩
theorem qm_58 : qMT[58]? = some (yX5_worth, cX5_worth, 4, (some .int), 0, 0) := rfl
theorem qp_58 : (parseMethodDescriptor yX5_worth.desc).map (fun d => d.parameters.length) = some 3 := by decide +kernel
theorem qo_58 : qMOK (yX5_worth, cX5_worth, 4, (some .int), 0, 0) := ⟨by decide +kernel, hw_281, hw_52, by decide, by decide +kernel, by decide +kernel⟩
theorem qm_59 : qMT[59]? = some (yX5_suit, cX5_suit, 3, (some .int), 0, 0) := rfl
theorem qp_59 : (parseMethodDescriptor yX5_suit.desc).map (fun d => d.parameters.length) = some 2 := by decide +kernel
theorem qo_59 : qMOK (yX5_suit, cX5_suit, 3, (some .int), 0, 0) := ⟨by decide +kernel, hw_289, hw_52, by decide, by decide +kernel, by decide +kernel⟩
theorem qm_60 : qMT[60]? = some (yX5_told, cX5_told, 4, (some .int), 0, 0) := rfl
theorem qp_60 : (parseMethodDescriptor yX5_told.desc).map (fun d => d.parameters.length) = some 2 := by decide +kernel
theorem qo_60 : qMOK (yX5_told, cX5_told, 4, (some .int), 0, 0) := ⟨by decide +kernel, hw_302, hw_52, by decide, by decide +kernel, by decide +kernel⟩
theorem qm_61 : qMT[61]? = some (yX5_hand, cX5_hand, 2, (some .int), 0, 0) := rfl
theorem qp_61 : (parseMethodDescriptor yX5_hand.desc).map (fun d => d.parameters.length) = some 1 := by decide +kernel
theorem qo_61 : qMOK (yX5_hand, cX5_hand, 2, (some .int), 0, 0) := ⟨by decide +kernel, hw_308, hw_52, by decide, by decide +kernel, by decide +kernel⟩
theorem qm_62 : qMT[62]? = some (yX5_purse, cX5_purse, 2, (some .int), 0, 0) := rfl
theorem qp_62 : (parseMethodDescriptor yX5_purse.desc).map (fun d => d.parameters.length) = some 1 := by decide +kernel
theorem qo_62 : qMOK (yX5_purse, cX5_purse, 2, (some .int), 0, 0) := ⟨by decide +kernel, hw_312, hw_52, by decide, by decide +kernel, by decide +kernel⟩
theorem qm_63 : qMT[63]? = some (yX5_value, cX5_value, 2, (some .int), 0, 0) := rfl
theorem qp_63 : (parseMethodDescriptor yX5_value.desc).map (fun d => d.parameters.length) = some 1 := by decide +kernel
theorem qo_63 : qMOK (yX5_value, cX5_value, 2, (some .int), 0, 0) := ⟨by decide +kernel, hw_316, hw_52, by decide, by decide +kernel, by decide +kernel⟩
theorem qm_64 : qMT[64]? = some (yX5_type, cX5_type, 4, (some .int), 0, 0) := rfl
theorem qp_64 : (parseMethodDescriptor yX5_type.desc).map (fun d => d.parameters.length) = some 2 := by decide +kernel
theorem qo_64 : qMOK (yX5_type, cX5_type, 4, (some .int), 0, 0) := ⟨by decide +kernel, hw_329, hw_52, by decide, by decide +kernel, by decide +kernel⟩
theorem qm_65 : qMT[65]? = some (yX5_village, cX5_village, 2, (some .int), 0, 0) := rfl
theorem qp_65 : (parseMethodDescriptor yX5_village.desc).map (fun d => d.parameters.length) = some 0 := by decide +kernel
theorem qo_65 : qMOK (yX5_village, cX5_village, 2, (some .int), 0, 0) := ⟨by decide +kernel, hw_343, hw_52, by decide, by decide +kernel, by decide +kernel⟩
theorem qm_66 : qMT[66]? = some (yX5_suits, cX5_suits, 3, (some .int), 0, 0) := rfl
theorem qp_66 : (parseMethodDescriptor yX5_suits.desc).map (fun d => d.parameters.length) = some 0 := by decide +kernel
theorem qo_66 : qMOK (yX5_suits, cX5_suits, 3, (some .int), 0, 0) := ⟨by decide +kernel, hw_370, hw_52, by decide, by decide +kernel, by decide +kernel⟩
theorem qm_67 : qMT[67]? = some (yX5_count, cX5_count, 2, (some .int), 0, 0) := rfl
theorem qp_67 : (parseMethodDescriptor yX5_count.desc).map (fun d => d.parameters.length) = some 1 := by decide +kernel
theorem qo_67 : qMOK (yX5_count, cX5_count, 2, (some .int), 0, 0) := ⟨by decide +kernel, hw_385, hw_52, by decide, by decide +kernel, by decide +kernel⟩
theorem qm_68 : qMT[68]? = some (yX5_sale, cX5_sale, 4, (some .int), 0, 0) := rfl
theorem qp_68 : (parseMethodDescriptor yX5_sale.desc).map (fun d => d.parameters.length) = some 3 := by decide +kernel
theorem qo_68 : qMOK (yX5_sale, cX5_sale, 4, (some .int), 0, 0) := ⟨by decide +kernel, hw_402, hw_52, by decide, by decide +kernel, by decide +kernel⟩
theorem qm_69 : qMT[69]? = some (yX5_swap, cX5_swap, 3, (some .int), 0, 0) := rfl
theorem qp_69 : (parseMethodDescriptor yX5_swap.desc).map (fun d => d.parameters.length) = some 2 := by decide +kernel
theorem qo_69 : qMOK (yX5_swap, cX5_swap, 3, (some .int), 0, 0) := ⟨by decide +kernel, hw_425, hw_52, by decide, by decide +kernel, by decide +kernel⟩
theorem qm_70 : qMT[70]? = some (yX5_give, cX5_give, 2, (some .int), 0, 0) := rfl
theorem qp_70 : (parseMethodDescriptor yX5_give.desc).map (fun d => d.parameters.length) = some 1 := by decide +kernel
theorem qo_70 : qMOK (yX5_give, cX5_give, 2, (some .int), 0, 0) := ⟨by decide +kernel, hw_433, hw_52, by decide, by decide +kernel, by decide +kernel⟩
theorem qm_71 : qMT[71]? = some (yX5_wed, cX5_wed, 3, (some .int), 0, 0) := rfl
theorem qp_71 : (parseMethodDescriptor yX5_wed.desc).map (fun d => d.parameters.length) = some 2 := by decide +kernel
theorem qo_71 : qMOK (yX5_wed, cX5_wed, 3, (some .int), 0, 0) := ⟨by decide +kernel, hw_438, hw_52, by decide, by decide +kernel, by decide +kernel⟩
theorem qm_72 : qMT[72]? = some (yX5_part, cX5_part, 3, (some .int), 0, 0) := rfl
theorem qp_72 : (parseMethodDescriptor yX5_part.desc).map (fun d => d.parameters.length) = some 2 := by decide +kernel
theorem qo_72 : qMOK (yX5_part, cX5_part, 3, (some .int), 0, 0) := ⟨by decide +kernel, hw_447, hw_52, by decide, by decide +kernel, by decide +kernel⟩
theorem qm_73 : qMT[73]? = some (yX5_gain, cX5_gain, 5, (some .int), 0, 0) := rfl
theorem qp_73 : (parseMethodDescriptor yX5_gain.desc).map (fun d => d.parameters.length) = some 3 := by decide +kernel
theorem qo_73 : qMOK (yX5_gain, cX5_gain, 5, (some .int), 0, 0) := ⟨by decide +kernel, hw_460, hw_52, by decide, by decide +kernel, by decide +kernel⟩
theorem qm_74 : qMT[74]? = some (yX5_agreed, cX5_agreed, 6, (some .int), 0, 0) := rfl
theorem qp_74 : (parseMethodDescriptor yX5_agreed.desc).map (fun d => d.parameters.length) = some 2 := by decide +kernel
theorem qo_74 : qMOK (yX5_agreed, cX5_agreed, 6, (some .int), 0, 0) := ⟨by decide +kernel, hw_478, hw_52, by decide, by decide +kernel, by decide +kernel⟩
theorem qm_75 : qMT[75]? = some (yX5_rest, cX5_rest, 3, (some .int), 0, 0) := rfl
theorem qp_75 : (parseMethodDescriptor yX5_rest.desc).map (fun d => d.parameters.length) = some 1 := by decide +kernel
theorem qo_75 : qMOK (yX5_rest, cX5_rest, 3, (some .int), 0, 0) := ⟨by decide +kernel, hw_485, hw_52, by decide, by decide +kernel, by decide +kernel⟩
theorem qm_76 : qMT[76]? = some (yX5_group, cX5_group, 2, (some .int), 0, 0) := rfl
theorem qp_76 : (parseMethodDescriptor yX5_group.desc).map (fun d => d.parameters.length) = some 1 := by decide +kernel
theorem qo_76 : qMOK (yX5_group, cX5_group, 2, (some .int), 0, 0) := ⟨by decide +kernel, hw_494, hw_52, by decide, by decide +kernel, by decide +kernel⟩
theorem qm_77 : qMT[77]? = some (yX5_never, cX5_never, 1, (some .int), 0, 0) := rfl
theorem qp_77 : (parseMethodDescriptor yX5_never.desc).map (fun d => d.parameters.length) = some 0 := by decide +kernel
theorem qo_77 : qMOK (yX5_never, cX5_never, 1, (some .int), 0, 0) := ⟨by decide +kernel, hw_515, hw_52, by decide, by decide +kernel, by decide +kernel⟩
theorem qm_78 : qMT[78]? = some (yX5_fewest, cX5_fewest, 3, (some .int), 0, 0) := rfl
theorem qp_78 : (parseMethodDescriptor yX5_fewest.desc).map (fun d => d.parameters.length) = some 1 := by decide +kernel
theorem qo_78 : qMOK (yX5_fewest, cX5_fewest, 3, (some .int), 0, 0) := ⟨by decide +kernel, hw_523, hw_52, by decide, by decide +kernel, by decide +kernel⟩
theorem qm_79 : qMT[79]? = some (yX5_best, cX5_best, 3, (some .int), 0, 0) := rfl
theorem qp_79 : (parseMethodDescriptor yX5_best.desc).map (fun d => d.parameters.length) = some 2 := by decide +kernel
theorem qo_79 : qMOK (yX5_best, cX5_best, 3, (some .int), 0, 0) := ⟨by decide +kernel, hw_552, hw_52, by decide, by decide +kernel, by decide +kernel⟩
theorem qm_80 : qMT[80]? = some (yX5_saves, cX5_saves, 3, (some .int), 0, 0) := rfl
theorem qp_80 : (parseMethodDescriptor yX5_saves.desc).map (fun d => d.parameters.length) = some 2 := by decide +kernel
theorem qo_80 : qMOK (yX5_saves, cX5_saves, 3, (some .int), 0, 0) := ⟨by decide +kernel, hw_572, hw_52, by decide, by decide +kernel, by decide +kernel⟩
theorem qm_81 : qMT[81]? = some (yX5_match, cX5_match, 6, (some .int), 0, 0) := rfl
theorem qp_81 : (parseMethodDescriptor yX5_match.desc).map (fun d => d.parameters.length) = some 0 := by decide +kernel
theorem qo_81 : qMOK (yX5_match, cX5_match, 6, (some .int), 0, 0) := ⟨by decide +kernel, hw_576, hw_52, by decide, by decide +kernel, by decide +kernel⟩
theorem qm_82 : qMT[82]? = some (yX5_against, cX5_against, 5, (some .int), 0, 0) := rfl
theorem qp_82 : (parseMethodDescriptor yX5_against.desc).map (fun d => d.parameters.length) = some 3 := by decide +kernel
theorem qo_82 : qMOK (yX5_against, cX5_against, 5, (some .int), 0, 0) := ⟨by decide +kernel, hw_581, hw_52, by decide, by decide +kernel, by decide +kernel⟩
theorem qm_83 : qMT[83]? = some (yX5_pays, cX5_pays, 9, (some .int), 0, 0) := rfl
theorem qp_83 : (parseMethodDescriptor yX5_pays.desc).map (fun d => d.parameters.length) = some 5 := by decide +kernel
theorem qo_83 : qMOK (yX5_pays, cX5_pays, 9, (some .int), 0, 0) := ⟨by decide +kernel, hw_585, hw_52, by decide, by decide +kernel, by decide +kernel⟩
theorem qm_84 : qMT[84]? = some (yX5_image, cX5_image, 1, (some .int), 0, 0) := rfl
theorem qp_84 : (parseMethodDescriptor yX5_image.desc).map (fun d => d.parameters.length) = some 0 := by decide +kernel
theorem qo_84 : qMOK (yX5_image, cX5_image, 1, (some .int), 0, 0) := ⟨by decide +kernel, hw_590, hw_52, by decide, by decide +kernel, by decide +kernel⟩
theorem qm_85 : qMT[85]? = some (yX5_restore, cX5_restore, 1, (some .int), 0, 0) := rfl
theorem qp_85 : (parseMethodDescriptor yX5_restore.desc).map (fun d => d.parameters.length) = some 0 := by decide +kernel
theorem qo_85 : qMOK (yX5_restore, cX5_restore, 1, (some .int), 0, 0) := ⟨by decide +kernel, hw_599, hw_52, by decide, by decide +kernel, by decide +kernel⟩
theorem qm_86 : qMT[86]? = some (yX5_deal, cX5_deal, 8, (some .int), 0, 0) := rfl
theorem qp_86 : (parseMethodDescriptor yX5_deal.desc).map (fun d => d.parameters.length) = some 4 := by decide +kernel
theorem qo_86 : qMOK (yX5_deal, cX5_deal, 8, (some .int), 0, 0) := ⟨by decide +kernel, hw_603, hw_52, by decide, by decide +kernel, by decide +kernel⟩
theorem qm_87 : qMT[87]? = some (yX5_sheet, cX5_sheet, 4, (some .int), 0, 0) := rfl
theorem qp_87 : (parseMethodDescriptor yX5_sheet.desc).map (fun d => d.parameters.length) = some 3 := by decide +kernel
theorem qo_87 : qMOK (yX5_sheet, cX5_sheet, 4, (some .int), 0, 0) := ⟨by decide +kernel, hw_626, hw_52, by decide, by decide +kernel, by decide +kernel⟩
theorem qm_88 : qMT[88]? = some (yX5_drop, cX5_drop, 3, (some .int), 0, 0) := rfl
theorem qp_88 : (parseMethodDescriptor yX5_drop.desc).map (fun d => d.parameters.length) = some 1 := by decide +kernel
theorem qo_88 : qMOK (yX5_drop, cX5_drop, 3, (some .int), 0, 0) := ⟨by decide +kernel, hw_634, hw_52, by decide, by decide +kernel, by decide +kernel⟩
theorem qm_89 : qMT[89]? = some (yX5_item, cX5_item, 7, (some .int), 0, 0) := rfl
theorem qp_89 : (parseMethodDescriptor yX5_item.desc).map (fun d => d.parameters.length) = some 4 := by decide +kernel
theorem qo_89 : qMOK (yX5_item, cX5_item, 7, (some .int), 0, 0) := ⟨by decide +kernel, hw_638, hw_52, by decide, by decide +kernel, by decide +kernel⟩
theorem qm_90 : qMT[90]? = some (yX5_copy, cX5_copy, 8, (some .int), 0, 0) := rfl
theorem qp_90 : (parseMethodDescriptor yX5_copy.desc).map (fun d => d.parameters.length) = some 5 := by decide +kernel
theorem qo_90 : qMOK (yX5_copy, cX5_copy, 8, (some .int), 0, 0) := ⟨by decide +kernel, hw_645, hw_52, by decide, by decide +kernel, by decide +kernel⟩
theorem qm_91 : qMT[91]? = some (yX5_isWithin, cX5_isWithin, 2, (some .boolean), 0, 0) := rfl
theorem qp_91 : (parseMethodDescriptor yX5_isWithin.desc).map (fun d => d.parameters.length) = some 2 := by decide +kernel
theorem qo_91 : qMOK (yX5_isWithin, cX5_isWithin, 2, (some .boolean), 0, 0) := ⟨by decide +kernel, hw_246, hw_52, by decide, by decide +kernel, by decide +kernel⟩
theorem qm_92 : qMT[92]? = some (yX5_isPerson, cX5_isPerson, 1, (some .boolean), 0, 0) := rfl
theorem qp_92 : (parseMethodDescriptor yX5_isPerson.desc).map (fun d => d.parameters.length) = some 1 := by decide +kernel
theorem qo_92 : qMOK (yX5_isPerson, cX5_isPerson, 1, (some .boolean), 0, 0) := ⟨by decide +kernel, hw_243, hw_52, by decide, by decide +kernel, by decide +kernel⟩
theorem qm_93 : qMT[93]? = some (yX5_isSheet, cX5_isSheet, 1, (some .boolean), 0, 0) := rfl
theorem qp_93 : (parseMethodDescriptor yX5_isSheet.desc).map (fun d => d.parameters.length) = some 1 := by decide +kernel
theorem qo_93 : qMOK (yX5_isSheet, cX5_isSheet, 1, (some .boolean), 0, 0) := ⟨by decide +kernel, hw_606, hw_52, by decide, by decide +kernel, by decide +kernel⟩
theorem qm_94 : qMT[94]? = some (yX5_isLane, cX5_isLane, 1, (some .boolean), 0, 0) := rfl
theorem qp_94 : (parseMethodDescriptor yX5_isLane.desc).map (fun d => d.parameters.length) = some 1 := by decide +kernel
theorem qo_94 : qMOK (yX5_isLane, cX5_isLane, 1, (some .boolean), 0, 0) := ⟨by decide +kernel, hw_609, hw_52, by decide, by decide +kernel, by decide +kernel⟩
theorem qm_95 : qMT[95]? = some (yX5_isThing, cX5_isThing, 2, (some .boolean), 0, 0) := rfl
theorem qp_95 : (parseMethodDescriptor yX5_isThing.desc).map (fun d => d.parameters.length) = some 1 := by decide +kernel
theorem qo_95 : qMOK (yX5_isThing, cX5_isThing, 2, (some .boolean), 0, 0) := ⟨by decide +kernel, hw_285, hw_52, by decide, by decide +kernel, by decide +kernel⟩
theorem qm_96 : qMT[96]? = some (yX5_isSide, cX5_isSide, 2, (some .boolean), 0, 0) := rfl
theorem qp_96 : (parseMethodDescriptor yX5_isSide.desc).map (fun d => d.parameters.length) = some 1 := by decide +kernel
theorem qo_96 : qMOK (yX5_isSide, cX5_isSide, 2, (some .boolean), 0, 0) := ⟨by decide +kernel, hw_293, hw_52, by decide, by decide +kernel, by decide +kernel⟩
theorem qm_97 : qMT[97]? = some (yX5_put, cX5_put, 4, (some .int), 0, 0) := rfl
theorem qp_97 : (parseMethodDescriptor yX5_put.desc).map (fun d => d.parameters.length) = some 3 := by decide +kernel
theorem qo_97 : qMOK (yX5_put, cX5_put, 4, (some .int), 0, 0) := ⟨by decide +kernel, hw_249, hw_52, by decide, by decide +kernel, by decide +kernel⟩
theorem qm_98 : qMT[98]? = some (yX5_trySale, cX5_trySale, 3, none, 0, 0) := rfl
theorem qp_98 : (parseMethodDescriptor yX5_trySale.desc).map (fun d => d.parameters.length) = some 2 := by decide +kernel
theorem qo_98 : qMOK (yX5_trySale, cX5_trySale, 3, none, 0, 0) := ⟨by decide +kernel, hw_465, hw_52, by decide, by decide +kernel, by decide +kernel⟩
theorem qm_99 : qMT[99]? = some (yX5_gainOf, cX5_gainOf, 2, (some .int), 0, 0) := rfl
theorem qp_99 : (parseMethodDescriptor yX5_gainOf.desc).map (fun d => d.parameters.length) = some 1 := by decide +kernel
theorem qo_99 : qMOK (yX5_gainOf, cX5_gainOf, 2, (some .int), 0, 0) := ⟨by decide +kernel, hw_474, hw_52, by decide, by decide +kernel, by decide +kernel⟩
theorem qm_100 : qMT[100]? = some (yX5_makeFirstAgreed, cX5_makeFirstAgreed, 4, (some .boolean), 0, 0) := rfl
theorem qp_100 : (parseMethodDescriptor yX5_makeFirstAgreed.desc).map (fun d => d.parameters.length) = some 0 := by decide +kernel
theorem qo_100 : qMOK (yX5_makeFirstAgreed, cX5_makeFirstAgreed, 4, (some .boolean), 0, 0) := ⟨by decide +kernel, hw_489, hw_52, by decide, by decide +kernel, by decide +kernel⟩
theorem qm_101 : qMT[101]? = some (yX5_dealOne, cX5_dealOne, 3, (some .boolean), 0, 0) := rfl
theorem qp_101 : (parseMethodDescriptor yX5_dealOne.desc).map (fun d => d.parameters.length) = some 2 := by decide +kernel
theorem qo_101 : qMOK (yX5_dealOne, cX5_dealOne, 3, (some .boolean), 0, 0) := ⟨by decide +kernel, hw_621, hw_52, by decide, by decide +kernel, by decide +kernel⟩
theorem qm_102 : qMT[102]? = some (yX6_in, cX6_in, 6, (some .boolean), 0, 0) := rfl
theorem qp_102 : (parseMethodDescriptor yX6_in.desc).map (fun d => d.parameters.length) = some 3 := by decide +kernel
theorem qo_102 : qMOK (yX6_in, cX6_in, 6, (some .boolean), 0, 0) := ⟨by decide +kernel, hw_751, hw_58, by decide, by decide +kernel, by decide +kernel⟩
theorem qm_103 : qMT[103]? = some (yX6_init, cX6_init, 2, none, 19, 506) := rfl
theorem qp_103 : (parseMethodDescriptor yX6_init.desc).map (fun d => d.parameters.length) = some 0 := by decide +kernel
theorem qo_103 : qMOK (yX6_init, cX6_init, 2, none, 19, 506) := ⟨by decide +kernel, hw_651, hw_58, by decide, by decide +kernel, by decide +kernel⟩
theorem qm_104 : qMT[104]? = some (yX6_isPerson, cX6_isPerson, 1, (some .boolean), 0, 0) := rfl
theorem qp_104 : (parseMethodDescriptor yX6_isPerson.desc).map (fun d => d.parameters.length) = some 1 := by decide +kernel
theorem qo_104 : qMOK (yX6_isPerson, cX6_isPerson, 1, (some .boolean), 0, 0) := ⟨by decide +kernel, hw_747, hw_58, by decide, by decide +kernel, by decide +kernel⟩
theorem qm_105 : qMT[105]? = some (yX6_isThing, cX6_isThing, 2, (some .boolean), 0, 0) := rfl
theorem qp_105 : (parseMethodDescriptor yX6_isThing.desc).map (fun d => d.parameters.length) = some 1 := by decide +kernel
theorem qo_105 : qMOK (yX6_isThing, cX6_isThing, 2, (some .boolean), 0, 0) := ⟨by decide +kernel, hw_782, hw_58, by decide, by decide +kernel, by decide +kernel⟩
theorem qm_106 : qMT[106]? = some (yX6_isSide, cX6_isSide, 2, (some .boolean), 0, 0) := rfl
theorem qp_106 : (parseMethodDescriptor yX6_isSide.desc).map (fun d => d.parameters.length) = some 1 := by decide +kernel
theorem qo_106 : qMOK (yX6_isSide, cX6_isSide, 2, (some .boolean), 0, 0) := ⟨by decide +kernel, hw_790, hw_58, by decide, by decide +kernel, by decide +kernel⟩
theorem qm_107 : qMT[107]? = some (yX6_stands, cX6_stands, 2, (some .int), 0, 0) := rfl
theorem qp_107 : (parseMethodDescriptor yX6_stands.desc).map (fun d => d.parameters.length) = some 1 := by decide +kernel
theorem qo_107 : qMOK (yX6_stands, cX6_stands, 2, (some .int), 0, 0) := ⟨by decide +kernel, hw_765, hw_58, by decide, by decide +kernel, by decide +kernel⟩
theorem qm_108 : qMT[108]? = some (yX6_isOver, cX6_isOver, 2, (some .boolean), 0, 0) := rfl
theorem qp_108 : (parseMethodDescriptor yX6_isOver.desc).map (fun d => d.parameters.length) = some 1 := by decide +kernel
theorem qo_108 : qMOK (yX6_isOver, cX6_isOver, 2, (some .boolean), 0, 0) := ⟨by decide +kernel, hw_769, hw_58, by decide, by decide +kernel, by decide +kernel⟩
theorem qm_109 : qMT[109]? = some (yX6_ends, cX6_ends, 6, (some .int), 0, 0) := rfl
theorem qp_109 : (parseMethodDescriptor yX6_ends.desc).map (fun d => d.parameters.length) = some 0 := by decide +kernel
theorem qo_109 : qMOK (yX6_ends, cX6_ends, 6, (some .int), 0, 0) := ⟨by decide +kernel, hw_761, hw_58, by decide, by decide +kernel, by decide +kernel⟩
theorem qm_110 : qMT[110]? = some (yX6_person, cX6_person, 5, (some .int), 0, 0) := rfl
theorem qp_110 : (parseMethodDescriptor yX6_person.desc).map (fun d => d.parameters.length) = some 3 := by decide +kernel
theorem qo_110 : qMOK (yX6_person, cX6_person, 5, (some .int), 0, 0) := ⟨by decide +kernel, hw_744, hw_58, by decide, by decide +kernel, by decide +kernel⟩
theorem qm_111 : qMT[111]? = some (yX6_rule, cX6_rule, 4, (some .int), 0, 0) := rfl
theorem qp_111 : (parseMethodDescriptor yX6_rule.desc).map (fun d => d.parameters.length) = some 2 := by decide +kernel
theorem qo_111 : qMOK (yX6_rule, cX6_rule, 4, (some .int), 0, 0) := ⟨by decide +kernel, hw_757, hw_58, by decide, by decide +kernel, by decide +kernel⟩
theorem qm_112 : qMT[112]? = some (yX6_thing, cX6_thing, 3, (some .int), 0, 0) := rfl
theorem qp_112 : (parseMethodDescriptor yX6_thing.desc).map (fun d => d.parameters.length) = some 1 := by decide +kernel
theorem qo_112 : qMOK (yX6_thing, cX6_thing, 3, (some .int), 0, 0) := ⟨by decide +kernel, hw_773, hw_58, by decide, by decide +kernel, by decide +kernel⟩
theorem qm_113 : qMT[113]? = some (yX6_worth, cX6_worth, 5, (some .int), 0, 0) := rfl
theorem qp_113 : (parseMethodDescriptor yX6_worth.desc).map (fun d => d.parameters.length) = some 3 := by decide +kernel
theorem qo_113 : qMOK (yX6_worth, cX6_worth, 5, (some .int), 0, 0) := ⟨by decide +kernel, hw_778, hw_58, by decide, by decide +kernel, by decide +kernel⟩
theorem qm_114 : qMT[114]? = some (yX6_comes, cX6_comes, 3, (some .int), 0, 0) := rfl
theorem qp_114 : (parseMethodDescriptor yX6_comes.desc).map (fun d => d.parameters.length) = some 2 := by decide +kernel
theorem qo_114 : qMOK (yX6_comes, cX6_comes, 3, (some .int), 0, 0) := ⟨by decide +kernel, hw_796, hw_58, by decide, by decide +kernel, by decide +kernel⟩
theorem qm_115 : qMT[115]? = some (yX6_suit, cX6_suit, 3, (some .int), 0, 0) := rfl
theorem qp_115 : (parseMethodDescriptor yX6_suit.desc).map (fun d => d.parameters.length) = some 2 := by decide +kernel
theorem qo_115 : qMOK (yX6_suit, cX6_suit, 3, (some .int), 0, 0) := ⟨by decide +kernel, hw_786, hw_58, by decide, by decide +kernel, by decide +kernel⟩
theorem qm_116 : qMT[116]? = some (yX6_told, cX6_told, 3, (some .int), 0, 0) := rfl
theorem qp_116 : (parseMethodDescriptor yX6_told.desc).map (fun d => d.parameters.length) = some 2 := by decide +kernel
theorem qo_116 : qMOK (yX6_told, cX6_told, 3, (some .int), 0, 0) := ⟨by decide +kernel, hw_800, hw_58, by decide, by decide +kernel, by decide +kernel⟩
theorem qm_117 : qMT[117]? = some (yX6_hand, cX6_hand, 2, (some .int), 0, 0) := rfl
theorem qp_117 : (parseMethodDescriptor yX6_hand.desc).map (fun d => d.parameters.length) = some 1 := by decide +kernel
theorem qo_117 : qMOK (yX6_hand, cX6_hand, 2, (some .int), 0, 0) := ⟨by decide +kernel, hw_805, hw_58, by decide, by decide +kernel, by decide +kernel⟩
theorem qm_118 : qMT[118]? = some (yX6_purse, cX6_purse, 2, (some .int), 0, 0) := rfl
theorem qp_118 : (parseMethodDescriptor yX6_purse.desc).map (fun d => d.parameters.length) = some 1 := by decide +kernel
theorem qo_118 : qMOK (yX6_purse, cX6_purse, 2, (some .int), 0, 0) := ⟨by decide +kernel, hw_809, hw_58, by decide, by decide +kernel, by decide +kernel⟩
theorem qm_119 : qMT[119]? = some (yX6_standsIn, cX6_standsIn, 4, (some .int), 0, 0) := rfl
theorem qp_119 : (parseMethodDescriptor yX6_standsIn.desc).map (fun d => d.parameters.length) = some 1 := by decide +kernel
theorem qo_119 : qMOK (yX6_standsIn, cX6_standsIn, 4, (some .int), 0, 0) := ⟨by decide +kernel, hw_821, hw_58, by decide, by decide +kernel, by decide +kernel⟩
theorem qm_120 : qMT[120]? = some (yX6_valueOf, cX6_valueOf, 4, (some .int), 0, 0) := rfl
theorem qp_120 : (parseMethodDescriptor yX6_valueOf.desc).map (fun d => d.parameters.length) = some 1 := by decide +kernel
theorem qo_120 : qMOK (yX6_valueOf, cX6_valueOf, 4, (some .int), 0, 0) := ⟨by decide +kernel, hw_817, hw_58, by decide, by decide +kernel, by decide +kernel⟩
theorem qm_121 : qMT[121]? = some (yX6_value, cX6_value, 2, (some .int), 0, 0) := rfl
theorem qp_121 : (parseMethodDescriptor yX6_value.desc).map (fun d => d.parameters.length) = some 1 := by decide +kernel
theorem qo_121 : qMOK (yX6_value, cX6_value, 2, (some .int), 0, 0) := ⟨by decide +kernel, hw_813, hw_58, by decide, by decide +kernel, by decide +kernel⟩
theorem qm_122 : qMT[122]? = some (yX6_size, cX6_size, 3, (some .int), 0, 0) := rfl
theorem qp_122 : (parseMethodDescriptor yX6_size.desc).map (fun d => d.parameters.length) = some 1 := by decide +kernel
theorem qo_122 : qMOK (yX6_size, cX6_size, 3, (some .int), 0, 0) := ⟨by decide +kernel, hw_829, hw_58, by decide, by decide +kernel, by decide +kernel⟩
theorem qm_123 : qMT[123]? = some (yX6_costAll, cX6_costAll, 3, (some .int), 0, 0) := rfl
theorem qp_123 : (parseMethodDescriptor yX6_costAll.desc).map (fun d => d.parameters.length) = some 0 := by decide +kernel
theorem qo_123 : qMOK (yX6_costAll, cX6_costAll, 3, (some .int), 0, 0) := ⟨by decide +kernel, hw_833, hw_58, by decide, by decide +kernel, by decide +kernel⟩
theorem qm_124 : qMT[124]? = some (yX6_count, cX6_count, 2, (some .int), 0, 0) := rfl
theorem qp_124 : (parseMethodDescriptor yX6_count.desc).map (fun d => d.parameters.length) = some 1 := by decide +kernel
theorem qo_124 : qMOK (yX6_count, cX6_count, 2, (some .int), 0, 0) := ⟨by decide +kernel, hw_826, hw_58, by decide, by decide +kernel, by decide +kernel⟩
theorem qm_125 : qMT[125]? = some (yX6_type, cX6_type, 5, (some .int), 0, 0) := rfl
theorem qp_125 : (parseMethodDescriptor yX6_type.desc).map (fun d => d.parameters.length) = some 2 := by decide +kernel
theorem qo_125 : qMOK (yX6_type, cX6_type, 5, (some .int), 0, 0) := ⟨by decide +kernel, hw_837, hw_58, by decide, by decide +kernel, by decide +kernel⟩
theorem qm_126 : qMT[126]? = some (yX6_here, cX6_here, 1, (some .int), 0, 0) := rfl
theorem qp_126 : (parseMethodDescriptor yX6_here.desc).map (fun d => d.parameters.length) = some 0 := by decide +kernel
theorem qo_126 : qMOK (yX6_here, cX6_here, 1, (some .int), 0, 0) := ⟨by decide +kernel, hw_861, hw_58, by decide, by decide +kernel, by decide +kernel⟩
theorem qm_127 : qMT[127]? = some (yX6_has, cX6_has, 3, (some .boolean), 0, 0) := rfl
theorem qp_127 : (parseMethodDescriptor yX6_has.desc).map (fun d => d.parameters.length) = some 1 := by decide +kernel
theorem qo_127 : qMOK (yX6_has, cX6_has, 3, (some .boolean), 0, 0) := ⟨by decide +kernel, hw_857, hw_58, by decide, by decide +kernel, by decide +kernel⟩
theorem qm_128 : qMT[128]? = some (yX6_digit, cX6_digit, 3, (some .int), 0, 0) := rfl
theorem qp_128 : (parseMethodDescriptor yX6_digit.desc).map (fun d => d.parameters.length) = some 1 := by decide +kernel
theorem qo_128 : qMOK (yX6_digit, cX6_digit, 3, (some .int), 0, 0) := ⟨by decide +kernel, hw_865, hw_58, by decide, by decide +kernel, by decide +kernel⟩
theorem qm_129 : qMT[129]? = some (yX6_thingClause, cX6_thingClause, 3, none, 0, 0) := rfl
theorem qp_129 : (parseMethodDescriptor yX6_thingClause.desc).map (fun d => d.parameters.length) = some 1 := by decide +kernel
theorem qo_129 : qMOK (yX6_thingClause, cX6_thingClause, 3, none, 0, 0) := ⟨by decide +kernel, hw_853, hw_58, by decide, by decide +kernel, by decide +kernel⟩
theorem qm_130 : qMT[130]? = some (yX6_side, cX6_side, 4, (some .int), 0, 0) := rfl
theorem qp_130 : (parseMethodDescriptor yX6_side.desc).map (fun d => d.parameters.length) = some 1 := by decide +kernel
theorem qo_130 : qMOK (yX6_side, cX6_side, 4, (some .int), 0, 0) := ⟨by decide +kernel, hw_870, hw_58, by decide, by decide +kernel, by decide +kernel⟩
theorem qm_131 : qMT[131]? = some (yX6_readAll, cX6_readAll, 4, (some .int), 0, 0) := rfl
theorem qp_131 : (parseMethodDescriptor yX6_readAll.desc).map (fun d => d.parameters.length) = some 1 := by decide +kernel
theorem qo_131 : qMOK (yX6_readAll, cX6_readAll, 4, (some .int), 0, 0) := ⟨by decide +kernel, hw_849, hw_58, by decide, by decide +kernel, by decide +kernel⟩
theorem qm_132 : qMT[132]? = some (yX6_village, cX6_village, 4, (some .int), 0, 0) := rfl
theorem qp_132 : (parseMethodDescriptor yX6_village.desc).map (fun d => d.parameters.length) = some 0 := by decide +kernel
theorem qo_132 : qMOK (yX6_village, cX6_village, 4, (some .int), 0, 0) := ⟨by decide +kernel, hw_845, hw_58, by decide, by decide +kernel, by decide +kernel⟩
theorem qm_133 : qMT[133]? = some (yX6_suits, cX6_suits, 3, (some .int), 0, 0) := rfl
theorem qp_133 : (parseMethodDescriptor yX6_suits.desc).map (fun d => d.parameters.length) = some 0 := by decide +kernel
theorem qo_133 : qMOK (yX6_suits, cX6_suits, 3, (some .int), 0, 0) := ⟨by decide +kernel, hw_877, hw_58, by decide, by decide +kernel, by decide +kernel⟩
theorem qm_134 : qMT[134]? = some (yX6_stay, cX6_stay, 3, none, 0, 0) := rfl
theorem qp_134 : (parseMethodDescriptor yX6_stay.desc).map (fun d => d.parameters.length) = some 1 := by decide +kernel
theorem qo_134 : qMOK (yX6_stay, cX6_stay, 3, none, 0, 0) := ⟨by decide +kernel, hw_893, hw_58, by decide, by decide +kernel, by decide +kernel⟩
theorem qm_135 : qMT[135]? = some (yX6_sells, cX6_sells, 3, (some .int), 0, 0) := rfl
theorem qp_135 : (parseMethodDescriptor yX6_sells.desc).map (fun d => d.parameters.length) = some 2 := by decide +kernel
theorem qo_135 : qMOK (yX6_sells, cX6_sells, 3, (some .int), 0, 0) := ⟨by decide +kernel, hw_889, hw_58, by decide, by decide +kernel, by decide +kernel⟩
theorem qm_136 : qMT[136]? = some (yX6_comesTo, cX6_comesTo, 3, none, 0, 0) := rfl
theorem qp_136 : (parseMethodDescriptor yX6_comesTo.desc).map (fun d => d.parameters.length) = some 2 := by decide +kernel
theorem qo_136 : qMOK (yX6_comesTo, cX6_comesTo, 3, none, 0, 0) := ⟨by decide +kernel, hw_885, hw_58, by decide, by decide +kernel, by decide +kernel⟩
theorem qm_137 : qMT[137]? = some (yX6_sale, cX6_sale, 4, (some .int), 0, 0) := rfl
theorem qp_137 : (parseMethodDescriptor yX6_sale.desc).map (fun d => d.parameters.length) = some 3 := by decide +kernel
theorem qo_137 : qMOK (yX6_sale, cX6_sale, 4, (some .int), 0, 0) := ⟨by decide +kernel, hw_881, hw_58, by decide, by decide +kernel, by decide +kernel⟩
theorem qm_138 : qMT[138]? = some (yX6_swap, cX6_swap, 4, (some .int), 0, 0) := rfl
theorem qp_138 : (parseMethodDescriptor yX6_swap.desc).map (fun d => d.parameters.length) = some 2 := by decide +kernel
theorem qo_138 : qMOK (yX6_swap, cX6_swap, 4, (some .int), 0, 0) := ⟨by decide +kernel, hw_897, hw_58, by decide, by decide +kernel, by decide +kernel⟩
theorem qm_139 : qMT[139]? = some (yX6_give, cX6_give, 2, (some .int), 0, 0) := rfl
theorem qp_139 : (parseMethodDescriptor yX6_give.desc).map (fun d => d.parameters.length) = some 1 := by decide +kernel
theorem qo_139 : qMOK (yX6_give, cX6_give, 2, (some .int), 0, 0) := ⟨by decide +kernel, hw_901, hw_58, by decide, by decide +kernel, by decide +kernel⟩
theorem qm_140 : qMT[140]? = some (yX6_weds, cX6_weds, 4, (some .int), 0, 0) := rfl
theorem qp_140 : (parseMethodDescriptor yX6_weds.desc).map (fun d => d.parameters.length) = some 2 := by decide +kernel
theorem qo_140 : qMOK (yX6_weds, cX6_weds, 4, (some .int), 0, 0) := ⟨by decide +kernel, hw_909, hw_58, by decide, by decide +kernel, by decide +kernel⟩
theorem qm_141 : qMT[141]? = some (yX6_wed, cX6_wed, 3, (some .int), 0, 0) := rfl
theorem qp_141 : (parseMethodDescriptor yX6_wed.desc).map (fun d => d.parameters.length) = some 2 := by decide +kernel
theorem qo_141 : qMOK (yX6_wed, cX6_wed, 3, (some .int), 0, 0) := ⟨by decide +kernel, hw_905, hw_58, by decide, by decide +kernel, by decide +kernel⟩
theorem qm_142 : qMT[142]? = some (yX6_part, cX6_part, 5, (some .int), 0, 0) := rfl
theorem qp_142 : (parseMethodDescriptor yX6_part.desc).map (fun d => d.parameters.length) = some 2 := by decide +kernel
theorem qo_142 : qMOK (yX6_part, cX6_part, 5, (some .int), 0, 0) := ⟨by decide +kernel, hw_913, hw_58, by decide, by decide +kernel, by decide +kernel⟩
theorem qm_143 : qMT[143]? = some (yX6_keeps, cX6_keeps, 2, none, 0, 0) := rfl
theorem qp_143 : (parseMethodDescriptor yX6_keeps.desc).map (fun d => d.parameters.length) = some 0 := by decide +kernel
theorem qo_143 : qMOK (yX6_keeps, cX6_keeps, 2, none, 0, 0) := ⟨by decide +kernel, hw_926, hw_58, by decide, by decide +kernel, by decide +kernel⟩
theorem qm_144 : qMT[144]? = some (yX6_back, cX6_back, 2, none, 0, 0) := rfl
theorem qp_144 : (parseMethodDescriptor yX6_back.desc).map (fun d => d.parameters.length) = some 0 := by decide +kernel
theorem qo_144 : qMOK (yX6_back, cX6_back, 2, none, 0, 0) := ⟨by decide +kernel, hw_930, hw_58, by decide, by decide +kernel, by decide +kernel⟩
theorem qm_145 : qMT[145]? = some (yX6_gainOf, cX6_gainOf, 6, (some .int), 0, 0) := rfl
theorem qp_145 : (parseMethodDescriptor yX6_gainOf.desc).map (fun d => d.parameters.length) = some 3 := by decide +kernel
theorem qo_145 : qMOK (yX6_gainOf, cX6_gainOf, 6, (some .int), 0, 0) := ⟨by decide +kernel, hw_922, hw_58, by decide, by decide +kernel, by decide +kernel⟩
theorem qm_146 : qMT[146]? = some (yX6_gain, cX6_gain, 4, (some .int), 0, 0) := rfl
theorem qp_146 : (parseMethodDescriptor yX6_gain.desc).map (fun d => d.parameters.length) = some 3 := by decide +kernel
theorem qo_146 : qMOK (yX6_gain, cX6_gain, 4, (some .int), 0, 0) := ⟨by decide +kernel, hw_917, hw_58, by decide, by decide +kernel, by decide +kernel⟩
theorem qm_147 : qMT[147]? = some (yX6_priceOf, cX6_priceOf, 5, (some .int), 0, 0) := rfl
theorem qp_147 : (parseMethodDescriptor yX6_priceOf.desc).map (fun d => d.parameters.length) = some 2 := by decide +kernel
theorem qo_147 : qMOK (yX6_priceOf, cX6_priceOf, 5, (some .int), 0, 0) := ⟨by decide +kernel, hw_938, hw_58, by decide, by decide +kernel, by decide +kernel⟩
theorem qm_148 : qMT[148]? = some (yX6_agreed, cX6_agreed, 3, (some .int), 0, 0) := rfl
theorem qp_148 : (parseMethodDescriptor yX6_agreed.desc).map (fun d => d.parameters.length) = some 2 := by decide +kernel
theorem qo_148 : qMOK (yX6_agreed, cX6_agreed, 3, (some .int), 0, 0) := ⟨by decide +kernel, hw_934, hw_58, by decide, by decide +kernel, by decide +kernel⟩
theorem qm_149 : qMT[149]? = some (yX6_deals, cX6_deals, 3, (some .boolean), 0, 0) := rfl
theorem qp_149 : (parseMethodDescriptor yX6_deals.desc).map (fun d => d.parameters.length) = some 0 := by decide +kernel
theorem qo_149 : qMOK (yX6_deals, cX6_deals, 3, (some .boolean), 0, 0) := ⟨by decide +kernel, hw_947, hw_58, by decide, by decide +kernel, by decide +kernel⟩
theorem qm_150 : qMT[150]? = some (yX6_rest, cX6_rest, 3, (some .int), 0, 0) := rfl
theorem qp_150 : (parseMethodDescriptor yX6_rest.desc).map (fun d => d.parameters.length) = some 1 := by decide +kernel
theorem qo_150 : qMOK (yX6_rest, cX6_rest, 3, (some .int), 0, 0) := ⟨by decide +kernel, hw_942, hw_58, by decide, by decide +kernel, by decide +kernel⟩
theorem qm_151 : qMT[151]? = some (yX6_groupOf, cX6_groupOf, 6, (some .int), 0, 0) := rfl
theorem qp_151 : (parseMethodDescriptor yX6_groupOf.desc).map (fun d => d.parameters.length) = some 1 := by decide +kernel
theorem qo_151 : qMOK (yX6_groupOf, cX6_groupOf, 6, (some .int), 0, 0) := ⟨by decide +kernel, hw_956, hw_58, by decide, by decide +kernel, by decide +kernel⟩
theorem qm_152 : qMT[152]? = some (yX6_group, cX6_group, 6, (some .int), 0, 0) := rfl
theorem qp_152 : (parseMethodDescriptor yX6_group.desc).map (fun d => d.parameters.length) = some 1 := by decide +kernel
theorem qo_152 : qMOK (yX6_group, cX6_group, 6, (some .int), 0, 0) := ⟨by decide +kernel, hw_952, hw_58, by decide, by decide +kernel, by decide +kernel⟩
theorem qm_153 : qMT[153]? = some (yX6_neverOf, cX6_neverOf, 3, (some .int), 0, 0) := rfl
theorem qp_153 : (parseMethodDescriptor yX6_neverOf.desc).map (fun d => d.parameters.length) = some 0 := by decide +kernel
theorem qo_153 : qMOK (yX6_neverOf, cX6_neverOf, 3, (some .int), 0, 0) := ⟨by decide +kernel, hw_964, hw_58, by decide, by decide +kernel, by decide +kernel⟩
theorem qm_154 : qMT[154]? = some (yX6_never, cX6_never, 1, (some .int), 0, 0) := rfl
theorem qp_154 : (parseMethodDescriptor yX6_never.desc).map (fun d => d.parameters.length) = some 0 := by decide +kernel
theorem qo_154 : qMOK (yX6_never, cX6_never, 1, (some .int), 0, 0) := ⟨by decide +kernel, hw_960, hw_58, by decide, by decide +kernel, by decide +kernel⟩
theorem qm_155 : qMT[155]? = some (yX6_done, cX6_done, 6, (some .boolean), 0, 0) := rfl
theorem qp_155 : (parseMethodDescriptor yX6_done.desc).map (fun d => d.parameters.length) = some 2 := by decide +kernel
theorem qo_155 : qMOK (yX6_done, cX6_done, 6, (some .boolean), 0, 0) := ⟨by decide +kernel, hw_978, hw_58, by decide, by decide +kernel, by decide +kernel⟩
theorem qm_156 : qMT[156]? = some (yX6_notes, cX6_notes, 3, none, 0, 0) := rfl
theorem qp_156 : (parseMethodDescriptor yX6_notes.desc).map (fun d => d.parameters.length) = some 1 := by decide +kernel
theorem qo_156 : qMOK (yX6_notes, cX6_notes, 3, none, 0, 0) := ⟨by decide +kernel, hw_982, hw_58, by decide, by decide +kernel, by decide +kernel⟩
theorem qm_157 : qMT[157]? = some (yX6_fewestOf, cX6_fewestOf, 6, (some .int), 0, 0) := rfl
theorem qp_157 : (parseMethodDescriptor yX6_fewestOf.desc).map (fun d => d.parameters.length) = some 0 := by decide +kernel
theorem qo_157 : qMOK (yX6_fewestOf, cX6_fewestOf, 6, (some .int), 0, 0) := ⟨by decide +kernel, hw_974, hw_58, by decide, by decide +kernel, by decide +kernel⟩
theorem qm_158 : qMT[158]? = some (yX6_fewest, cX6_fewest, 3, (some .int), 0, 0) := rfl
theorem qp_158 : (parseMethodDescriptor yX6_fewest.desc).map (fun d => d.parameters.length) = some 1 := by decide +kernel
theorem qo_158 : qMOK (yX6_fewest, cX6_fewest, 3, (some .int), 0, 0) := ⟨by decide +kernel, hw_968, hw_58, by decide, by decide +kernel, by decide +kernel⟩
theorem qm_159 : qMT[159]? = some (yX6_bestOf, cX6_bestOf, 7, (some .int), 0, 0) := rfl
theorem qp_159 : (parseMethodDescriptor yX6_bestOf.desc).map (fun d => d.parameters.length) = some 1 := by decide +kernel
theorem qo_159 : qMOK (yX6_bestOf, cX6_bestOf, 7, (some .int), 0, 0) := ⟨by decide +kernel, hw_992, hw_58, by decide, by decide +kernel, by decide +kernel⟩
theorem qm_160 : qMT[160]? = some (yX6_best, cX6_best, 4, (some .int), 0, 0) := rfl
theorem qp_160 : (parseMethodDescriptor yX6_best.desc).map (fun d => d.parameters.length) = some 2 := by decide +kernel
theorem qo_160 : qMOK (yX6_best, cX6_best, 4, (some .int), 0, 0) := ⟨by decide +kernel, hw_986, hw_58, by decide, by decide +kernel, by decide +kernel⟩
theorem qm_161 : qMT[161]? = some (yX6_savesOf, cX6_savesOf, 5, (some .int), 0, 0) := rfl
theorem qp_161 : (parseMethodDescriptor yX6_savesOf.desc).map (fun d => d.parameters.length) = some 2 := by decide +kernel
theorem qo_161 : qMOK (yX6_savesOf, cX6_savesOf, 5, (some .int), 0, 0) := ⟨by decide +kernel, hw_1000, hw_58, by decide, by decide +kernel, by decide +kernel⟩
theorem qm_162 : qMT[162]? = some (yX6_saves, cX6_saves, 3, (some .int), 0, 0) := rfl
theorem qp_162 : (parseMethodDescriptor yX6_saves.desc).map (fun d => d.parameters.length) = some 2 := by decide +kernel
theorem qo_162 : qMOK (yX6_saves, cX6_saves, 3, (some .int), 0, 0) := ⟨by decide +kernel, hw_996, hw_58, by decide, by decide +kernel, by decide +kernel⟩
theorem qm_163 : qMT[163]? = some (yX6_match, cX6_match, 6, (some .int), 0, 0) := rfl
theorem qp_163 : (parseMethodDescriptor yX6_match.desc).map (fun d => d.parameters.length) = some 0 := by decide +kernel
theorem qo_163 : qMOK (yX6_match, cX6_match, 6, (some .int), 0, 0) := ⟨by decide +kernel, hw_1004, hw_58, by decide, by decide +kernel, by decide +kernel⟩
theorem qm_164 : qMT[164]? = some (yX6_against, cX6_against, 4, (some .int), 0, 0) := rfl
theorem qp_164 : (parseMethodDescriptor yX6_against.desc).map (fun d => d.parameters.length) = some 3 := by decide +kernel
theorem qo_164 : qMOK (yX6_against, cX6_against, 4, (some .int), 0, 0) := ⟨by decide +kernel, hw_1008, hw_58, by decide, by decide +kernel, by decide +kernel⟩
theorem qm_165 : qMT[165]? = some (yX6_pays, cX6_pays, 8, (some .int), 0, 0) := rfl
theorem qp_165 : (parseMethodDescriptor yX6_pays.desc).map (fun d => d.parameters.length) = some 5 := by decide +kernel
theorem qo_165 : qMOK (yX6_pays, cX6_pays, 8, (some .int), 0, 0) := ⟨by decide +kernel, hw_1012, hw_58, by decide, by decide +kernel, by decide +kernel⟩
theorem qm_166 : qMT[166]? = some (yX6_lay, cX6_lay, 4, (some .int), 0, 0) := rfl
theorem qp_166 : (parseMethodDescriptor yX6_lay.desc).map (fun d => d.parameters.length) = some 2 := by decide +kernel
theorem qo_166 : qMOK (yX6_lay, cX6_lay, 4, (some .int), 0, 0) := ⟨by decide +kernel, hw_1021, hw_58, by decide, by decide +kernel, by decide +kernel⟩
theorem qm_167 : qMT[167]? = some (yX6_gives, cX6_gives, 4, (some .int), 0, 0) := rfl
theorem qp_167 : (parseMethodDescriptor yX6_gives.desc).map (fun d => d.parameters.length) = some 3 := by decide +kernel
theorem qo_167 : qMOK (yX6_gives, cX6_gives, 4, (some .int), 0, 0) := ⟨by decide +kernel, hw_1028, hw_58, by decide, by decide +kernel, by decide +kernel⟩
theorem qm_168 : qMT[168]? = some (yX6_image, cX6_image, 2, (some .int), 0, 0) := rfl
theorem qp_168 : (parseMethodDescriptor yX6_image.desc).map (fun d => d.parameters.length) = some 0 := by decide +kernel
theorem qo_168 : qMOK (yX6_image, cX6_image, 2, (some .int), 0, 0) := ⟨by decide +kernel, hw_1017, hw_58, by decide, by decide +kernel, by decide +kernel⟩
theorem qm_169 : qMT[169]? = some (yX6_restore, cX6_restore, 2, (some .int), 0, 0) := rfl
theorem qp_169 : (parseMethodDescriptor yX6_restore.desc).map (fun d => d.parameters.length) = some 0 := by decide +kernel
theorem qo_169 : qMOK (yX6_restore, cX6_restore, 2, (some .int), 0, 0) := ⟨by decide +kernel, hw_1025, hw_58, by decide, by decide +kernel, by decide +kernel⟩
theorem qm_170 : qMT[170]? = some (yX6_isSheet, cX6_isSheet, 1, (some .boolean), 0, 0) := rfl
theorem qp_170 : (parseMethodDescriptor yX6_isSheet.desc).map (fun d => d.parameters.length) = some 1 := by decide +kernel
theorem qo_170 : qMOK (yX6_isSheet, cX6_isSheet, 1, (some .boolean), 0, 0) := ⟨by decide +kernel, hw_1035, hw_58, by decide, by decide +kernel, by decide +kernel⟩
theorem qm_171 : qMT[171]? = some (yX6_isLane, cX6_isLane, 1, (some .boolean), 0, 0) := rfl
theorem qp_171 : (parseMethodDescriptor yX6_isLane.desc).map (fun d => d.parameters.length) = some 1 := by decide +kernel
theorem qo_171 : qMOK (yX6_isLane, cX6_isLane, 1, (some .boolean), 0, 0) := ⟨by decide +kernel, hw_1039, hw_58, by decide, by decide +kernel, by decide +kernel⟩
theorem qm_172 : qMT[172]? = some (yX6_finds, cX6_finds, 5, (some .int), 0, 0) := rfl
theorem qp_172 : (parseMethodDescriptor yX6_finds.desc).map (fun d => d.parameters.length) = some 4 := by decide +kernel
theorem qo_172 : qMOK (yX6_finds, cX6_finds, 5, (some .int), 0, 0) := ⟨by decide +kernel, hw_1043, hw_58, by decide, by decide +kernel, by decide +kernel⟩
theorem qm_173 : qMT[173]? = some (yX6_deal, cX6_deal, 8, (some .int), 0, 0) := rfl
theorem qp_173 : (parseMethodDescriptor yX6_deal.desc).map (fun d => d.parameters.length) = some 4 := by decide +kernel
theorem qo_173 : qMOK (yX6_deal, cX6_deal, 8, (some .int), 0, 0) := ⟨by decide +kernel, hw_1032, hw_58, by decide, by decide +kernel, by decide +kernel⟩
theorem qm_174 : qMT[174]? = some (yX6_sheet, cX6_sheet, 5, (some .int), 0, 0) := rfl
theorem qp_174 : (parseMethodDescriptor yX6_sheet.desc).map (fun d => d.parameters.length) = some 3 := by decide +kernel
theorem qo_174 : qMOK (yX6_sheet, cX6_sheet, 5, (some .int), 0, 0) := ⟨by decide +kernel, hw_1047, hw_58, by decide, by decide +kernel, by decide +kernel⟩
theorem qm_175 : qMT[175]? = some (yX6_drop, cX6_drop, 2, (some .int), 0, 0) := rfl
theorem qp_175 : (parseMethodDescriptor yX6_drop.desc).map (fun d => d.parameters.length) = some 1 := by decide +kernel
theorem qo_175 : qMOK (yX6_drop, cX6_drop, 2, (some .int), 0, 0) := ⟨by decide +kernel, hw_1051, hw_58, by decide, by decide +kernel, by decide +kernel⟩
theorem qm_176 : qMT[176]? = some (yX6_item, cX6_item, 6, (some .int), 0, 0) := rfl
theorem qp_176 : (parseMethodDescriptor yX6_item.desc).map (fun d => d.parameters.length) = some 4 := by decide +kernel
theorem qo_176 : qMOK (yX6_item, cX6_item, 6, (some .int), 0, 0) := ⟨by decide +kernel, hw_1055, hw_58, by decide, by decide +kernel, by decide +kernel⟩
theorem qm_177 : qMT[177]? = some (yX6_copy, cX6_copy, 7, (some .int), 0, 0) := rfl
theorem qp_177 : (parseMethodDescriptor yX6_copy.desc).map (fun d => d.parameters.length) = some 5 := by decide +kernel
theorem qo_177 : qMOK (yX6_copy, cX6_copy, 7, (some .int), 0, 0) := ⟨by decide +kernel, hw_1059, hw_58, by decide, by decide +kernel, by decide +kernel⟩
theorem qm_178 : qMT[178]? = some (yJ6_bitCount_0f7a4, cJ6_bitCount_0f7a4, 1, (some .int), 0, 0) := rfl
theorem qp_178 : (parseMethodDescriptor yJ6_bitCount_0f7a4.desc).map (fun d => d.parameters.length) = some 1 := by decide +kernel
theorem qo_178 : qMOK (yJ6_bitCount_0f7a4, cJ6_bitCount_0f7a4, 1, (some .int), 0, 0) := ⟨by decide +kernel, hw_388, hw_60, by decide, by decide +kernel, by decide +kernel⟩
