/-! SOUND: what the abstract run does, the machine does -/
def jDc (z : Nat) : Prop := jChk (jCl z) (jBy z) (jCode (jIx z)) = true
theorem jDs_0 : ∀ z ∈ [zX0_init, zX0_take, zX0_seat, zX0_isIn, zX0_forcedBeside, zX0_marked, zX0_owned, zX0_namersOf, zX0_reachOf, zX0_weighRules, zX0_refusalOf, zX1_init, zX1_write, zX1_hear, zX2_init, zX2_find, zX2_grow, zX2_turn, zX2_spread, zX3_init, zX3_find, zX3_firstPart, zX3_isAhead, zX3_keep, zX3_drop], jDc z := List.forall_mem_cons.mpr ⟨jdX0_init, List.forall_mem_cons.mpr ⟨jdX0_take, List.forall_mem_cons.mpr ⟨jdX0_seat, List.forall_mem_cons.mpr ⟨jdX0_isIn, List.forall_mem_cons.mpr ⟨jdX0_forcedBeside, List.forall_mem_cons.mpr ⟨jdX0_marked, List.forall_mem_cons.mpr ⟨jdX0_owned, List.forall_mem_cons.mpr ⟨jdX0_namersOf, List.forall_mem_cons.mpr ⟨jdX0_reachOf, List.forall_mem_cons.mpr ⟨jdX0_weighRules, List.forall_mem_cons.mpr ⟨jdX0_refusalOf, List.forall_mem_cons.mpr ⟨jdX1_init, List.forall_mem_cons.mpr ⟨jdX1_write, List.forall_mem_cons.mpr ⟨jdX1_hear, List.forall_mem_cons.mpr ⟨jdX2_init, List.forall_mem_cons.mpr ⟨jdX2_find, List.forall_mem_cons.mpr ⟨jdX2_grow, List.forall_mem_cons.mpr ⟨jdX2_turn, List.forall_mem_cons.mpr ⟨jdX2_spread, List.forall_mem_cons.mpr ⟨jdX3_init, List.forall_mem_cons.mpr ⟨jdX3_find, List.forall_mem_cons.mpr ⟨jdX3_firstPart, List.forall_mem_cons.mpr ⟨jdX3_isAhead, List.forall_mem_cons.mpr ⟨jdX3_keep, List.forall_mem_cons.mpr ⟨jdX3_drop, fun _ h => absurd h List.not_mem_nil⟩⟩⟩⟩⟩⟩⟩⟩⟩⟩⟩⟩⟩⟩⟩⟩⟩⟩⟩⟩⟩⟩⟩⟩⟩
theorem jDs_1 : ∀ z ∈ [zX3_split, zX3_propose, zX3_placeOf, zX4_init, zX4_load, zX4_take, zX4_openBy, zX4_force, zX4_isOpen, zX4_openPairs, zX4_closeJudge, zX4_closeHeavier, zX4_heavierThan, zX4_weigh, zX4_listCases, zX4_canTake, zX4_weighFrom, zX4_leads, zX4_firstLead, zX4_pick, zX4_share, zX4_shareFrom, zX4_follows, zX4_sumOf, zX4_sharedOf], jDc z := List.forall_mem_cons.mpr ⟨jdX3_split, List.forall_mem_cons.mpr ⟨jdX3_propose, List.forall_mem_cons.mpr ⟨jdX3_placeOf, List.forall_mem_cons.mpr ⟨jdX4_init, List.forall_mem_cons.mpr ⟨jdX4_load, List.forall_mem_cons.mpr ⟨jdX4_take, List.forall_mem_cons.mpr ⟨jdX4_openBy, List.forall_mem_cons.mpr ⟨jdX4_force, List.forall_mem_cons.mpr ⟨jdX4_isOpen, List.forall_mem_cons.mpr ⟨jdX4_openPairs, List.forall_mem_cons.mpr ⟨jdX4_closeJudge, List.forall_mem_cons.mpr ⟨jdX4_closeHeavier, List.forall_mem_cons.mpr ⟨jdX4_heavierThan, List.forall_mem_cons.mpr ⟨jdX4_weigh, List.forall_mem_cons.mpr ⟨jdX4_listCases, List.forall_mem_cons.mpr ⟨jdX4_canTake, List.forall_mem_cons.mpr ⟨jdX4_weighFrom, List.forall_mem_cons.mpr ⟨jdX4_leads, List.forall_mem_cons.mpr ⟨jdX4_firstLead, List.forall_mem_cons.mpr ⟨jdX4_pick, List.forall_mem_cons.mpr ⟨jdX4_share, List.forall_mem_cons.mpr ⟨jdX4_shareFrom, List.forall_mem_cons.mpr ⟨jdX4_follows, List.forall_mem_cons.mpr ⟨jdX4_sumOf, List.forall_mem_cons.mpr ⟨jdX4_sharedOf, fun _ h => absurd h List.not_mem_nil⟩⟩⟩⟩⟩⟩⟩⟩⟩⟩⟩⟩⟩⟩⟩⟩⟩⟩⟩⟩⟩⟩⟩⟩⟩
theorem jDs_2 : ∀ z ∈ [zX5_init, zX5_make, zX5_firstPay, zX5_slack, zX5_findTight, zX5_leastSlack, zX5_keep, zX5_raise, zX6_init, zX6_clear, zX6_take, zX6_add, zX6_landHere, zX6_names, zX6_weightBy, zX7_init, zX7_become, zX7_holds, zX7_set, zX8_init, zX8_add, zX8_parse, zX8_expr, zX8_sum, zX8_product], jDc z := List.forall_mem_cons.mpr ⟨jdX5_init, List.forall_mem_cons.mpr ⟨jdX5_make, List.forall_mem_cons.mpr ⟨jdX5_firstPay, List.forall_mem_cons.mpr ⟨jdX5_slack, List.forall_mem_cons.mpr ⟨jdX5_findTight, List.forall_mem_cons.mpr ⟨jdX5_leastSlack, List.forall_mem_cons.mpr ⟨jdX5_keep, List.forall_mem_cons.mpr ⟨jdX5_raise, List.forall_mem_cons.mpr ⟨jdX6_init, List.forall_mem_cons.mpr ⟨jdX6_clear, List.forall_mem_cons.mpr ⟨jdX6_take, List.forall_mem_cons.mpr ⟨jdX6_add, List.forall_mem_cons.mpr ⟨jdX6_landHere, List.forall_mem_cons.mpr ⟨jdX6_names, List.forall_mem_cons.mpr ⟨jdX6_weightBy, List.forall_mem_cons.mpr ⟨jdX7_init, List.forall_mem_cons.mpr ⟨jdX7_become, List.forall_mem_cons.mpr ⟨jdX7_holds, List.forall_mem_cons.mpr ⟨jdX7_set, List.forall_mem_cons.mpr ⟨jdX8_init, List.forall_mem_cons.mpr ⟨jdX8_add, List.forall_mem_cons.mpr ⟨jdX8_parse, List.forall_mem_cons.mpr ⟨jdX8_expr, List.forall_mem_cons.mpr ⟨jdX8_sum, List.forall_mem_cons.mpr ⟨jdX8_product, fun _ h => absurd h List.not_mem_nil⟩⟩⟩⟩⟩⟩⟩⟩⟩⟩⟩⟩⟩⟩⟩⟩⟩⟩⟩⟩⟩⟩⟩⟩⟩
theorem jDs_3 : ∀ z ∈ [zX8_factor, zX8_atom, zX8_function, zX8_part, zX8_enter, zX8_leave, zX8_step, zX8_word, zX8_nameOfOne, zX8_nameOfThree, zX8_digits, zX8_isLetter, zX8_isDigit, zX8_isSign, zX9_init, zX9_burdenOf, zX9_tellBy, zX9_read, zX9_operand, zX9_join, zX9_fail, zX10_init, zX10_here, zX10_trait, zX10_tell], jDc z := List.forall_mem_cons.mpr ⟨jdX8_factor, List.forall_mem_cons.mpr ⟨jdX8_atom, List.forall_mem_cons.mpr ⟨jdX8_function, List.forall_mem_cons.mpr ⟨jdX8_part, List.forall_mem_cons.mpr ⟨jdX8_enter, List.forall_mem_cons.mpr ⟨jdX8_leave, List.forall_mem_cons.mpr ⟨jdX8_step, List.forall_mem_cons.mpr ⟨jdX8_word, List.forall_mem_cons.mpr ⟨jdX8_nameOfOne, List.forall_mem_cons.mpr ⟨jdX8_nameOfThree, List.forall_mem_cons.mpr ⟨jdX8_digits, List.forall_mem_cons.mpr ⟨jdX8_isLetter, List.forall_mem_cons.mpr ⟨jdX8_isDigit, List.forall_mem_cons.mpr ⟨jdX8_isSign, List.forall_mem_cons.mpr ⟨jdX9_init, List.forall_mem_cons.mpr ⟨jdX9_burdenOf, List.forall_mem_cons.mpr ⟨jdX9_tellBy, List.forall_mem_cons.mpr ⟨jdX9_read, List.forall_mem_cons.mpr ⟨jdX9_operand, List.forall_mem_cons.mpr ⟨jdX9_join, List.forall_mem_cons.mpr ⟨jdX9_fail, List.forall_mem_cons.mpr ⟨jdX10_init, List.forall_mem_cons.mpr ⟨jdX10_here, List.forall_mem_cons.mpr ⟨jdX10_trait, List.forall_mem_cons.mpr ⟨jdX10_tell, fun _ h => absurd h List.not_mem_nil⟩⟩⟩⟩⟩⟩⟩⟩⟩⟩⟩⟩⟩⟩⟩⟩⟩⟩⟩⟩⟩⟩⟩⟩⟩
theorem jDs_4 : ∀ z ∈ [zX10_burden, zX10_mark, zX10_open, zX10_feed, zX10_text, zX10_empty, zX10_told, zX10_value, zX10_why, zX10_solve, zX10_round, zX10_price, zX10_total, zX10_many, zX10_best, zX10_kind, zX10_room, zX10_next, zX10_fair, zX10_days, zX10_day, zX10_lack, zX10_without, zX10_tells, zX10_film], jDc z := List.forall_mem_cons.mpr ⟨jdX10_burden, List.forall_mem_cons.mpr ⟨jdX10_mark, List.forall_mem_cons.mpr ⟨jdX10_open, List.forall_mem_cons.mpr ⟨jdX10_feed, List.forall_mem_cons.mpr ⟨jdX10_text, List.forall_mem_cons.mpr ⟨jdX10_empty, List.forall_mem_cons.mpr ⟨jdX10_told, List.forall_mem_cons.mpr ⟨jdX10_value, List.forall_mem_cons.mpr ⟨jdX10_why, List.forall_mem_cons.mpr ⟨jdX10_solve, List.forall_mem_cons.mpr ⟨jdX10_round, List.forall_mem_cons.mpr ⟨jdX10_price, List.forall_mem_cons.mpr ⟨jdX10_total, List.forall_mem_cons.mpr ⟨jdX10_many, List.forall_mem_cons.mpr ⟨jdX10_best, List.forall_mem_cons.mpr ⟨jdX10_kind, List.forall_mem_cons.mpr ⟨jdX10_room, List.forall_mem_cons.mpr ⟨jdX10_next, List.forall_mem_cons.mpr ⟨jdX10_fair, List.forall_mem_cons.mpr ⟨jdX10_days, List.forall_mem_cons.mpr ⟨jdX10_day, List.forall_mem_cons.mpr ⟨jdX10_lack, List.forall_mem_cons.mpr ⟨jdX10_without, List.forall_mem_cons.mpr ⟨jdX10_tells, List.forall_mem_cons.mpr ⟨jdX10_film, fun _ h => absurd h List.not_mem_nil⟩⟩⟩⟩⟩⟩⟩⟩⟩⟩⟩⟩⟩⟩⟩⟩⟩⟩⟩⟩⟩⟩⟩⟩⟩
theorem jDs_5 : ∀ z ∈ [zX10_image, zX10_back, zX10_count, zX10_sheet, zX10_put, zX10_item, zX10_copy, zX10_lay, zX10_isSide, zX10_isSeat, zX10_isPair, zX10_isRule, zX10_isSheet, zX10_changed, zX10_refreshPlan, zX10_refreshShares, zX10_refreshNextOnes, zX10_refreshDiary, zX11_in, zX11_init, zX11_isWho, zX11_isPair, zX11_isJudge, zX11_isCase, zX11_here], jDc z := List.forall_mem_cons.mpr ⟨jdX10_image, List.forall_mem_cons.mpr ⟨jdX10_back, List.forall_mem_cons.mpr ⟨jdX10_count, List.forall_mem_cons.mpr ⟨jdX10_sheet, List.forall_mem_cons.mpr ⟨jdX10_put, List.forall_mem_cons.mpr ⟨jdX10_item, List.forall_mem_cons.mpr ⟨jdX10_copy, List.forall_mem_cons.mpr ⟨jdX10_lay, List.forall_mem_cons.mpr ⟨jdX10_isSide, List.forall_mem_cons.mpr ⟨jdX10_isSeat, List.forall_mem_cons.mpr ⟨jdX10_isPair, List.forall_mem_cons.mpr ⟨jdX10_isRule, List.forall_mem_cons.mpr ⟨jdX10_isSheet, List.forall_mem_cons.mpr ⟨jdX10_changed, List.forall_mem_cons.mpr ⟨jdX10_refreshPlan, List.forall_mem_cons.mpr ⟨jdX10_refreshShares, List.forall_mem_cons.mpr ⟨jdX10_refreshNextOnes, List.forall_mem_cons.mpr ⟨jdX10_refreshDiary, List.forall_mem_cons.mpr ⟨jdX11_in, List.forall_mem_cons.mpr ⟨jdX11_init, List.forall_mem_cons.mpr ⟨jdX11_isWho, List.forall_mem_cons.mpr ⟨jdX11_isPair, List.forall_mem_cons.mpr ⟨jdX11_isJudge, List.forall_mem_cons.mpr ⟨jdX11_isCase, List.forall_mem_cons.mpr ⟨jdX11_here, fun _ h => absurd h List.not_mem_nil⟩⟩⟩⟩⟩⟩⟩⟩⟩⟩⟩⟩⟩⟩⟩⟩⟩⟩⟩⟩⟩⟩⟩⟩⟩
theorem jDs_6 : ∀ z ∈ [zX11_trait, zX11_feed, zX11_byteAt, zX11_isLetter, zX11_isDigit, zX11_isThree, zX11_word, zX11_isSignByte, zX11_next, zX11_fail, zX11_isSign, zX11_takes, zX11_part, zX11_opens, zX11_expression, zX11_sum, zX11_product, zX11_factor, zX11_ofTwo, zX11_names, zX11_comesTo, zX11_weight, zX11_trades, zX11_isHeavy, zX11_text], jDc z := List.forall_mem_cons.mpr ⟨jdX11_trait, List.forall_mem_cons.mpr ⟨jdX11_feed, List.forall_mem_cons.mpr ⟨jdX11_byteAt, List.forall_mem_cons.mpr ⟨jdX11_isLetter, List.forall_mem_cons.mpr ⟨jdX11_isDigit, List.forall_mem_cons.mpr ⟨jdX11_isThree, List.forall_mem_cons.mpr ⟨jdX11_word, List.forall_mem_cons.mpr ⟨jdX11_isSignByte, List.forall_mem_cons.mpr ⟨jdX11_next, List.forall_mem_cons.mpr ⟨jdX11_fail, List.forall_mem_cons.mpr ⟨jdX11_isSign, List.forall_mem_cons.mpr ⟨jdX11_takes, List.forall_mem_cons.mpr ⟨jdX11_part, List.forall_mem_cons.mpr ⟨jdX11_opens, List.forall_mem_cons.mpr ⟨jdX11_expression, List.forall_mem_cons.mpr ⟨jdX11_sum, List.forall_mem_cons.mpr ⟨jdX11_product, List.forall_mem_cons.mpr ⟨jdX11_factor, List.forall_mem_cons.mpr ⟨jdX11_ofTwo, List.forall_mem_cons.mpr ⟨jdX11_names, List.forall_mem_cons.mpr ⟨jdX11_comesTo, List.forall_mem_cons.mpr ⟨jdX11_weight, List.forall_mem_cons.mpr ⟨jdX11_trades, List.forall_mem_cons.mpr ⟨jdX11_isHeavy, List.forall_mem_cons.mpr ⟨jdX11_text, fun _ h => absurd h List.not_mem_nil⟩⟩⟩⟩⟩⟩⟩⟩⟩⟩⟩⟩⟩⟩⟩⟩⟩⟩⟩⟩⟩⟩⟩⟩⟩
theorem jDs_7 : ∀ z ∈ [zX11_empty, zX11_told, zX11_fails, zX11_valueOf, zX11_named, zX11_limited, zX11_valueOf_, zX11_asked, zX11_value, zX11_why, zX11_burdenOf, zX11_forcedOf, zX11_isOpen, zX11_tellsBurdens, zX11_opens_, zX11_costs, zX11_burden, zX11_mark, zX11_open, zX11_openMany, zX11_least, zX11_toldOr, zX11_picks, zX11_tell, zX11_total], jDc z := List.forall_mem_cons.mpr ⟨jdX11_empty, List.forall_mem_cons.mpr ⟨jdX11_told, List.forall_mem_cons.mpr ⟨jdX11_fails, List.forall_mem_cons.mpr ⟨jdX11_valueOf, List.forall_mem_cons.mpr ⟨jdX11_named, List.forall_mem_cons.mpr ⟨jdX11_limited, List.forall_mem_cons.mpr ⟨jdX11_valueOf_, List.forall_mem_cons.mpr ⟨jdX11_asked, List.forall_mem_cons.mpr ⟨jdX11_value, List.forall_mem_cons.mpr ⟨jdX11_why, List.forall_mem_cons.mpr ⟨jdX11_burdenOf, List.forall_mem_cons.mpr ⟨jdX11_forcedOf, List.forall_mem_cons.mpr ⟨jdX11_isOpen, List.forall_mem_cons.mpr ⟨jdX11_tellsBurdens, List.forall_mem_cons.mpr ⟨jdX11_opens_, List.forall_mem_cons.mpr ⟨jdX11_costs, List.forall_mem_cons.mpr ⟨jdX11_burden, List.forall_mem_cons.mpr ⟨jdX11_mark, List.forall_mem_cons.mpr ⟨jdX11_open, List.forall_mem_cons.mpr ⟨jdX11_openMany, List.forall_mem_cons.mpr ⟨jdX11_least, List.forall_mem_cons.mpr ⟨jdX11_toldOr, List.forall_mem_cons.mpr ⟨jdX11_picks, List.forall_mem_cons.mpr ⟨jdX11_tell, List.forall_mem_cons.mpr ⟨jdX11_total, fun _ h => absurd h List.not_mem_nil⟩⟩⟩⟩⟩⟩⟩⟩⟩⟩⟩⟩⟩⟩⟩⟩⟩⟩⟩⟩⟩⟩⟩⟩⟩
theorem jDs_8 : ∀ z ∈ [zX11_many, zX11_best, zX11_with, zX11_lacking, zX11_kind, zX11_room, zX11_enters, zX11_walks, zX11_lists, zX11_next_, zX11_heaviest, zX11_fair, zX11_finds, zX11_greatest, zX11_marking, zX11_casesIn, zX11_slack, zX11_rise, zX11_begins, zX11_isLast, zX11_solve, zX11_round, zX11_price, zX11_daysOf, zX11_days], jDc z := List.forall_mem_cons.mpr ⟨jdX11_many, List.forall_mem_cons.mpr ⟨jdX11_best, List.forall_mem_cons.mpr ⟨jdX11_with, List.forall_mem_cons.mpr ⟨jdX11_lacking, List.forall_mem_cons.mpr ⟨jdX11_kind, List.forall_mem_cons.mpr ⟨jdX11_room, List.forall_mem_cons.mpr ⟨jdX11_enters, List.forall_mem_cons.mpr ⟨jdX11_walks, List.forall_mem_cons.mpr ⟨jdX11_lists, List.forall_mem_cons.mpr ⟨jdX11_next_, List.forall_mem_cons.mpr ⟨jdX11_heaviest, List.forall_mem_cons.mpr ⟨jdX11_fair, List.forall_mem_cons.mpr ⟨jdX11_finds, List.forall_mem_cons.mpr ⟨jdX11_greatest, List.forall_mem_cons.mpr ⟨jdX11_marking, List.forall_mem_cons.mpr ⟨jdX11_casesIn, List.forall_mem_cons.mpr ⟨jdX11_slack, List.forall_mem_cons.mpr ⟨jdX11_rise, List.forall_mem_cons.mpr ⟨jdX11_begins, List.forall_mem_cons.mpr ⟨jdX11_isLast, List.forall_mem_cons.mpr ⟨jdX11_solve, List.forall_mem_cons.mpr ⟨jdX11_round, List.forall_mem_cons.mpr ⟨jdX11_price, List.forall_mem_cons.mpr ⟨jdX11_daysOf, List.forall_mem_cons.mpr ⟨jdX11_days, fun _ h => absurd h List.not_mem_nil⟩⟩⟩⟩⟩⟩⟩⟩⟩⟩⟩⟩⟩⟩⟩⟩⟩⟩⟩⟩⟩⟩⟩⟩⟩
theorem jDs_9 : ∀ z ∈ [zX11_day, zX11_lack, zX11_without, zX11_casesMany, zX11_reads, zX11_tells, zX11_placeOf, zX11_film, zX11_copies, zX11_keeps, zX11_image, zX11_back, zX11_marksOf, zX11_count, zX11_isSheet, zX11_sheet, zX11_put, zX11_item, zX11_copy, zX11_lay, zJ6_bitCount_0f7a4, zJ9_floorDiv_f86c9, zJ9_floorMod_f86c9, zJ9_abs_067f4, zJ9_max_f86c9], jDc z := List.forall_mem_cons.mpr ⟨jdX11_day, List.forall_mem_cons.mpr ⟨jdX11_lack, List.forall_mem_cons.mpr ⟨jdX11_without, List.forall_mem_cons.mpr ⟨jdX11_casesMany, List.forall_mem_cons.mpr ⟨jdX11_reads, List.forall_mem_cons.mpr ⟨jdX11_tells, List.forall_mem_cons.mpr ⟨jdX11_placeOf, List.forall_mem_cons.mpr ⟨jdX11_film, List.forall_mem_cons.mpr ⟨jdX11_copies, List.forall_mem_cons.mpr ⟨jdX11_keeps, List.forall_mem_cons.mpr ⟨jdX11_image, List.forall_mem_cons.mpr ⟨jdX11_back, List.forall_mem_cons.mpr ⟨jdX11_marksOf, List.forall_mem_cons.mpr ⟨jdX11_count, List.forall_mem_cons.mpr ⟨jdX11_isSheet, List.forall_mem_cons.mpr ⟨jdX11_sheet, List.forall_mem_cons.mpr ⟨jdX11_put, List.forall_mem_cons.mpr ⟨jdX11_item, List.forall_mem_cons.mpr ⟨jdX11_copy, List.forall_mem_cons.mpr ⟨jdX11_lay, List.forall_mem_cons.mpr ⟨jdJ6_bitCount_0f7a4, List.forall_mem_cons.mpr ⟨jdJ9_floorDiv_f86c9, List.forall_mem_cons.mpr ⟨jdJ9_floorMod_f86c9, List.forall_mem_cons.mpr ⟨jdJ9_abs_067f4, List.forall_mem_cons.mpr ⟨jdJ9_max_f86c9, fun _ h => absurd h List.not_mem_nil⟩⟩⟩⟩⟩⟩⟩⟩⟩⟩⟩⟩⟩⟩⟩⟩⟩⟩⟩⟩⟩⟩⟩⟩⟩
theorem jDs_10 : ∀ z ∈ [zJ9_min_f86c9, zJ7_fill_d0a16, zJ7_fill_53178], jDc z := List.forall_mem_cons.mpr ⟨jdJ9_min_f86c9, List.forall_mem_cons.mpr ⟨jdJ7_fill_d0a16, List.forall_mem_cons.mpr ⟨jdJ7_fill_53178, fun _ h => absurd h List.not_mem_nil⟩⟩⟩
theorem jDc_of {z : Nat} (hy : z ∈ jZs) (hl : z ≠ zL_law) : jDc z := by
  obtain ⟨q, hq, rfl⟩ := jMw_of hy hl
  have hm : q.1 ∈ jMw.map (fun q => q.1) := List.mem_map.mpr ⟨q, hq, rfl⟩
  refine jPc_25 (P := jDc) 11 (by decide +kernel) (fun k hk => ?_) hm
  match k, hk with
  | 0, _ => exact jDs_0
  | 1, _ => exact jDs_1
  | 2, _ => exact jDs_2
  | 3, _ => exact jDs_3
  | 4, _ => exact jDs_4
  | 5, _ => exact jDs_5
  | 6, _ => exact jDs_6
  | 7, _ => exact jDs_7
  | 8, _ => exact jDs_8
  | 9, _ => exact jDs_9
  | 10, _ => exact jDs_10
theorem jCk_ok {own i w : Nat} {v : Int} (ho : own < 16) (h : (jCks.getD own []).lookup i = some (v, w)) : Jvm.Cond.constantLong (jRn own) i (Int64.ofInt v) ∈ jBW ∧ (Int64.ofInt v).toInt = v := by
  have := jAll16 jCk_all ho (jLookup_mem h)
  simp only [Bool.and_eq_true, decide_eq_true_eq] at this
  exact ⟨jHas_BW (jHas_mem this.1) rfl, this.2⟩
theorem jCi_ok {own i w : Nat} {v : Int} (ho : own < 16) (h : (jCis.getD own []).lookup i = some (v, w)) : Jvm.Cond.constant (jRn own) i (Int32.ofInt v) ∈ jBW ∧ (Int32.ofInt v).toInt = v := by
  have := jAll16 jCi_all ho (jLookup_mem h)
  simp only [Bool.and_eq_true, decide_eq_true_eq] at this
  exact ⟨jHas_BW (jHas_mem this.1) rfl, this.2⟩
theorem jCc_ok {own i w f : Nat} (ho : own < 16) (h : (jCcs.getD own []).lookup i = some (f, w)) : Jvm.Cond.classLink (jRn own) i (jRn f) ∈ jBW ∧ f < 12 := by
  have := jAll16 jCc_all ho (jLookup_mem h)
  simp only [Bool.and_eq_true, decide_eq_true_eq] at this
  exact ⟨jHas_BW (jHas_mem this.1) rfl, this.2⟩
theorem jCy_ok {own i w f : Nat} (ho : own < 16) (h : (jCys.getD own []).lookup i = some (f, w)) : Jvm.Cond.classLink (jRn own) i (jRn (f + 4)) ∈ jBW ∧ (f = 2 ∨ f = 3) := by
  have := jAll16 jCy_all ho (jLookup_mem h)
  simp only [Bool.and_eq_true, decide_eq_true_eq] at this
  exact ⟨jHas_BW (jHas_mem this.1) rfl, this.2⟩
theorem jCo_ok {own i : Nat} {u : Nat × Nat} (ho : own < 16) (h : (jCos.getD own []).lookup i = some u) : Jvm.Cond.methodLink (jRn own) i Jvm.Lib.objectInit ∈ jBW := jHas_BW (jHas_mem (jAll16 jCo_all ho (jLookup_mem h))) rfl
theorem jCq_ok {own i : Nat} {u : Nat × Nat} (ho : own < 16) (h : (jCqs.getD own []).lookup i = some u) : Jvm.Cond.methodLink (jRn own) i arraycopyName ∈ jBW := jHas_BW (jHas_mem (jAll16 jCq_all ho (jLookup_mem h))) rfl
theorem jCm_nl : (List.range 16).all (fun own => (jCms.getD own []).all (fun q => decide (q.2.1 ≠ zL_law))) = true := by decide +kernel
theorem jCm_ok {own i y w ne : Nat} (ho : own < 16) (h : (jCms.getD own []).lookup i = some (y, w, ne)) : y ∈ jZs ∧ y ≠ zL_law ∧ (ne = 0 → Jvm.Cond.methodLink (jRn own) i (jYn y) ∈ jBW) ∧ (ne ≠ 0 → Jvm.Cond.methodLinkNest (jRn own) i (jYn y) "CourtMatcher" ∈ jNests) := by
  have h1 := jAll16 jCm_all ho (jLookup_mem h)
  have h2 := of_decide_eq_true (jAll16 jCm_nl ho (jLookup_mem h))
  simp only [Bool.and_eq_true, decide_eq_true_eq] at h1
  refine ⟨h1.1.1, h2, fun q => ?_, fun q => ?_⟩
  · have := h1.2
    rw [if_pos q] at this
    exact jHas_BW (jHas_mem this) rfl
  · have := h1.2
    rw [if_neg q] at this
    simp only [Bool.and_eq_true, decide_eq_true_eq] at this
    exact this.2
theorem jIns_ok {f : Nat} (h : f < 12) : Jvm.Cond.instantiable (jRn f) (jNf f) ∈ jBW ∧ Jvm.Cond.initialized (jRn f) ∈ jBW := by
  have := List.all_eq_true.mp jIns_all f (List.mem_range.mpr h)
  simp only [Bool.and_eq_true, decide_eq_true_eq] at this
  exact ⟨jHas_BW (jHas_mem this.1.1) rfl, jHas_BW (jHas_mem this.1.2) rfl⟩
theorem jOdd_ok : Jvm.Cond.instanceMethod Jvm.Lib.objectInit ∈ jBW ∧ Jvm.Cond.code Jvm.Lib.objectInit ⟨#[0xb1]⟩ 1 none ∈ jBW ∧ Jvm.Cond.native arraycopyName ∈ jBW ∧ Jvm.Cond.static arraycopyName ∈ jBW ∧ Jvm.Cond.initialized "java/lang/System" ∈ jBW ∧ Jvm.Cond.arrayClass .int ∈ jBW ∧ Jvm.Cond.arrayClass .long ∈ jBW := by
  have h := jOdd_all
  simp only [Bool.and_eq_true] at h
  obtain ⟨⟨⟨⟨⟨⟨⟨⟨a1, a2⟩, a3⟩, a4⟩, a5⟩, a6⟩, a7⟩, a8⟩, a9⟩ := h
  exact ⟨jHas_BW (jHas_mem a1) rfl, jHas_BW (jHas_mem a2) rfl, jHas_BW (jHas_mem a3) rfl, jHas_BW (jHas_mem a4) rfl, jHas_BW (jHas_mem a5) rfl, jHas_BW (jHas_mem a6) rfl, jHas_BW (jHas_mem a7) rfl⟩
section SOUND
variable {p : Program} {l : Launch} {e : Env} {R : Room} {s : State} {mi : MethodId} {args : Array Value} {below : List Frame} {meth : Method} {c : Code} {Qf : State → Prop} {D : va_G} {A : Nat → Prop} {H0 : Heap} {Ts : List Jvm.Cond} {z : Nat} {fu : Bool} {sb : Option (Nat × Nat)} {g : Int → Int} {n0 : Nat} {ws0 : va_W}
variable {pc : Nat} {ls : jS} {st : List jV} {m : jM} {C : Nat → List jV → jM → (Int → jM → Prop) → Prop} {Q : Int → jM → Prop}
/-- the ends of a method -/
def jEnds (p : Program) (l : Launch) (e : Env) (R : Room) (s : State) (mi : MethodId) (args : Array Value) (below : List Frame) (meth : Method) (c : Code) (Qf : State → Prop) (D : va_G) (A : Nat → Prop) (H0 : Heap) (z : Nat) (fu : Bool) (sb : Option (Nat × Nat)) (g : Int → Int) (n0 : Nat) (ws0 : va_W) (Q : Int → jM → Prop) : Prop :=
  (∀ (pc : Nat) (H : Heap) (locs : List Loc) (cells slots : Nat) (ws : va_W) (tys : List (ClassId × FieldType)) (lsR : Array Slot) (ls : jS) (m : jM) (x : Int32), decode (jBy z) pc = .ok (.ireturn, 1) → (jRt z = 1 ∨ jRt z = 3) → jRel R s D A H0 z fu sb g n0 ws0 H locs cells slots ws tys lsR [] ls [] m → jRet z x.toInt m Q → W p l e R s mi args below meth c H locs cells slots Qf (F0 mi pc lsR [.int x])) ∧
  (∀ (pc : Nat) (H : Heap) (locs : List Loc) (cells slots : Nat) (ws : va_W) (tys : List (ClassId × FieldType)) (lsR : Array Slot) (ls : jS) (m : jM) (x : Int64), decode (jBy z) pc = .ok (.lreturn, 1) → jRt z = 2 → jRel R s D A H0 z fu sb g n0 ws0 H locs cells slots ws tys lsR [] ls [] m → jRet z x.toInt m Q → W p l e R s mi args below meth c H locs cells slots Qf (F0 mi pc lsR [.long x])) ∧
  (∀ (pc : Nat) (H : Heap) (locs : List Loc) (cells slots : Nat) (ws : va_W) (tys : List (ClassId × FieldType)) (lsR : Array Slot) (ls : jS) (m : jM), decode (jBy z) pc = .ok (.return_, 1) → jRt z = 0 → jRel R s D A H0 z fu sb g n0 ws0 H locs cells slots ws tys lsR [] ls [] m → jRet z 0 m Q → W p l e R s mi args below meth c H locs cells slots Qf (F0 mi pc lsR []))
theorem jSr_nil {ws : va_W} {b : List Value} (h : jSr ws sb [] b) : b = [] := by
  match b, h with
  | [], _ => rfl
theorem jr_ireturn (hE : ∀ (pc : Nat) (H : Heap) (locs : List Loc) (cells slots : Nat) (ws : va_W) (tys : List (ClassId × FieldType)) (lsR : Array Slot) (ls : jS) (m : jM) (x : Int32), decode (jBy z) pc = .ok (.ireturn, 1) → (jRt z = 1 ∨ jRt z = 3) → jRel R s D A H0 z fu sb g n0 ws0 H locs cells slots ws tys lsR [] ls [] m → jRet z x.toInt m Q → W p l e R s mi args below meth c H locs cells slots Qf (F0 mi pc lsR [.int x])) (hd : decode (jBy z) pc = .ok (.ireturn, 1)) (h : jStp z C (jP p l e R s mi args below meth c Qf D A H0 z fu sb g n0 ws0) Q pc 1 ls m (jEff z .ireturn 1 pc ls st m)) : jP p l e R s mi args below meth c Qf D A H0 z fu sb g n0 ws0 pc ls st m := by
  obtain ⟨a, r, rfl, h1⟩ := jI1_inv h
  obtain ⟨⟨he, hrt⟩, h2⟩ := jIf_inv h1
  have hr0 : r = [] := List.isEmpty_iff.mp he
  subst hr0
  intro H locs cells slots ws tys lsR stR hr
  obtain ⟨x, rR, rfl, rfl, hr1⟩ := jRel_i hr
  have hn := jSr_nil hr1.2.2.1
  subst hn
  exact hE _ _ _ _ _ _ _ _ _ _ _ hd hrt hr1 h2
theorem jr_lreturn (hE : ∀ (pc : Nat) (H : Heap) (locs : List Loc) (cells slots : Nat) (ws : va_W) (tys : List (ClassId × FieldType)) (lsR : Array Slot) (ls : jS) (m : jM) (x : Int64), decode (jBy z) pc = .ok (.lreturn, 1) → jRt z = 2 → jRel R s D A H0 z fu sb g n0 ws0 H locs cells slots ws tys lsR [] ls [] m → jRet z x.toInt m Q → W p l e R s mi args below meth c H locs cells slots Qf (F0 mi pc lsR [.long x])) (hd : decode (jBy z) pc = .ok (.lreturn, 1)) (h : jStp z C (jP p l e R s mi args below meth c Qf D A H0 z fu sb g n0 ws0) Q pc 1 ls m (jEff z .lreturn 1 pc ls st m)) : jP p l e R s mi args below meth c Qf D A H0 z fu sb g n0 ws0 pc ls st m := by
  obtain ⟨a, r, rfl, h1⟩ := jL1_inv h
  obtain ⟨⟨he, hrt⟩, h2⟩ := jIf_inv h1
  have hr0 : r = [] := List.isEmpty_iff.mp he
  subst hr0
  intro H locs cells slots ws tys lsR stR hr
  obtain ⟨x, rR, rfl, rfl, hr1⟩ := jRel_l hr
  have hn := jSr_nil hr1.2.2.1
  subst hn
  exact hE _ _ _ _ _ _ _ _ _ _ _ hd hrt hr1 h2
theorem jr_return_ (hE : ∀ (pc : Nat) (H : Heap) (locs : List Loc) (cells slots : Nat) (ws : va_W) (tys : List (ClassId × FieldType)) (lsR : Array Slot) (ls : jS) (m : jM), decode (jBy z) pc = .ok (.return_, 1) → jRt z = 0 → jRel R s D A H0 z fu sb g n0 ws0 H locs cells slots ws tys lsR [] ls [] m → jRet z 0 m Q → W p l e R s mi args below meth c H locs cells slots Qf (F0 mi pc lsR [])) (hd : decode (jBy z) pc = .ok (.return_, 1)) (h : jStp z C (jP p l e R s mi args below meth c Qf D A H0 z fu sb g n0 ws0) Q pc 1 ls m (jEff z .return_ 1 pc ls st m)) : jP p l e R s mi args below meth c Qf D A H0 z fu sb g n0 ws0 pc ls st m := by
  obtain ⟨⟨he, hrt⟩, h2⟩ := jIf_inv h
  have hr0 : st = [] := List.isEmpty_iff.mp he
  subst hr0
  intro H locs cells slots ws tys lsR stR hr
  have hn := jSr_nil hr.2.2.1
  subst hn
  exact hE _ _ _ _ _ _ _ _ _ _ hd hrt hr h2
theorem jr_callO {e0 y i : Nat} (r : Instr) (hc : jCx p R s mi args meth c A H0 Ts z fu sb g) (hroom : (∀ y a m K, ¬ C y a m K) ∨ (e0 + 2 ≤ R.frames ∧ 60 * (e0 + 2) ≤ R.locals)) (hC : ∀ y a m K, y ∈ jZs → y ≠ zL_law → C y a m K → jGood l e0 y a m K)
    (hy : y ∈ jZs) (hyl : y ≠ zL_law) (hz2 : jMd z ≤ 2) (hlink : jLink z i y) (hk : (jKi y = 0 ∧ r = .invokestatic i ∧ Jvm.Cond.methodLink (jRn (jCl z)) i (jYn y) ∈ jBW) ∨ (jKi y = 1 ∧ r = .invokevirtual i ∧ Jvm.Cond.methodLink (jRn (jCl z)) i (jYn y) ∈ jBW) ∨ (jKi y = 2 ∧ r = .invokespecial i)) (hd : decode (jBy z) pc = .ok (r, 3))
    (h : jStp z C (jP p l e R s mi args below meth c Qf D A H0 z fu sb g n0 ws0) Q pc 3 ls m (jEff z (.invokestatic y) 3 pc ls st m)) : jP p l e R s mi args below meth c Qf D A H0 z fu sb g n0 ws0 pc ls st m := by
  rcases hroom with hno | hr
  · obtain ⟨-, h1⟩ := jIf_inv h
    have h1 : jCal z y C (st.take (jNa y)).reverse m (fun v m' => jP p l e R s mi args below meth c Qf D A H0 z fu sb g n0 ws0 (pc + 3) ls (jPush (jRt y) v (st.drop (jNa y))) m') := h1
    unfold jCal at h1
    split at h1
    · exact absurd h1 (hno _ _ _ _)
    · exact absurd h1 (hno _ _ _ _)
    · exact absurd h1 (hno _ _ _ _)
    · exact absurd h1.2 (hno _ _ _ _)
    · exact absurd h1.2 (hno _ _ _ _)
    · exact h1.elim
  · exact jr_call r hc hr hC hy hyl hz2 hlink hk hd h
theorem jr_all {e0 : Nat} {r ai : Instr} {n len : Nat} (hc : jCx p R s mi args meth c A H0 Ts z fu sb g) (hroom : (∀ y a m K, ¬ C y a m K) ∨ (e0 + 2 ≤ R.frames ∧ 60 * (e0 + 2) ≤ R.locals)) (hC : ∀ y a m K, y ∈ jZs → y ≠ zL_law → C y a m K → jGood l e0 y a m K) (hE : jEnds p l e R s mi args below meth c Qf D A H0 z fu sb g n0 ws0 Q) (hz16 : jCl z < 16) (hz2 : jMd z ≤ 2) (hd : decode (jBy z) pc = .ok (r, n)) (hlen : jLen r n = true) (hres : jRes (jCl z) pc (jBy z) r n = some (ai, len)) (h : jStp z C (jP p l e R s mi args below meth c Qf D A H0 z fu sb g n0 ws0) Q pc len ls m (jEff z ai len pc ls st m)) : jP p l e R s mi args below meth c Qf D A H0 z fu sb g n0 ws0 pc ls st m := by
  cases r
  case iadd => 
    simp only [jRes, Option.some.injEq, Prod.mk.injEq] at hres
    obtain ⟨rfl, rfl⟩ := hres
    have hn : n = 1 := Nat.eq_of_beq_eq_true hlen
    subst hn
    exact jr_iadd hc hd h
  case isub => 
    simp only [jRes, Option.some.injEq, Prod.mk.injEq] at hres
    obtain ⟨rfl, rfl⟩ := hres
    have hn : n = 1 := Nat.eq_of_beq_eq_true hlen
    subst hn
    exact jr_isub hc hd h
  case imul => 
    simp only [jRes, Option.some.injEq, Prod.mk.injEq] at hres
    obtain ⟨rfl, rfl⟩ := hres
    have hn : n = 1 := Nat.eq_of_beq_eq_true hlen
    subst hn
    exact jr_imul hc hd h
  case iand => 
    simp only [jRes, Option.some.injEq, Prod.mk.injEq] at hres
    obtain ⟨rfl, rfl⟩ := hres
    have hn : n = 1 := Nat.eq_of_beq_eq_true hlen
    subst hn
    exact jr_iand hc hd h
  case ior => 
    simp only [jRes, Option.some.injEq, Prod.mk.injEq] at hres
    obtain ⟨rfl, rfl⟩ := hres
    have hn : n = 1 := Nat.eq_of_beq_eq_true hlen
    subst hn
    exact jr_ior hc hd h
  case ixor => 
    simp only [jRes, Option.some.injEq, Prod.mk.injEq] at hres
    obtain ⟨rfl, rfl⟩ := hres
    have hn : n = 1 := Nat.eq_of_beq_eq_true hlen
    subst hn
    exact jr_ixor hc hd h
  case ishl => 
    simp only [jRes, Option.some.injEq, Prod.mk.injEq] at hres
    obtain ⟨rfl, rfl⟩ := hres
    have hn : n = 1 := Nat.eq_of_beq_eq_true hlen
    subst hn
    exact jr_ishl hc hd h
  case ishr => 
    simp only [jRes, Option.some.injEq, Prod.mk.injEq] at hres
    obtain ⟨rfl, rfl⟩ := hres
    have hn : n = 1 := Nat.eq_of_beq_eq_true hlen
    subst hn
    exact jr_ishr hc hd h
  case iushr => 
    simp only [jRes, Option.some.injEq, Prod.mk.injEq] at hres
    obtain ⟨rfl, rfl⟩ := hres
    have hn : n = 1 := Nat.eq_of_beq_eq_true hlen
    subst hn
    exact jr_iushr hc hd h
  case idiv => 
    simp only [jRes, Option.some.injEq, Prod.mk.injEq] at hres
    obtain ⟨rfl, rfl⟩ := hres
    have hn : n = 1 := Nat.eq_of_beq_eq_true hlen
    subst hn
    exact jr_idiv hc hd h
  case irem => 
    simp only [jRes, Option.some.injEq, Prod.mk.injEq] at hres
    obtain ⟨rfl, rfl⟩ := hres
    have hn : n = 1 := Nat.eq_of_beq_eq_true hlen
    subst hn
    exact jr_irem hc hd h
  case i2l => 
    simp only [jRes, Option.some.injEq, Prod.mk.injEq] at hres
    obtain ⟨rfl, rfl⟩ := hres
    have hn : n = 1 := Nat.eq_of_beq_eq_true hlen
    subst hn
    exact jr_i2l hc hd h
  case l2i => 
    simp only [jRes, Option.some.injEq, Prod.mk.injEq] at hres
    obtain ⟨rfl, rfl⟩ := hres
    have hn : n = 1 := Nat.eq_of_beq_eq_true hlen
    subst hn
    exact jr_l2i hc hd h
  case i2b => 
    simp only [jRes, Option.some.injEq, Prod.mk.injEq] at hres
    obtain ⟨rfl, rfl⟩ := hres
    have hn : n = 1 := Nat.eq_of_beq_eq_true hlen
    subst hn
    exact jr_i2b hc hd h
  case lneg => 
    simp only [jRes, Option.some.injEq, Prod.mk.injEq] at hres
    obtain ⟨rfl, rfl⟩ := hres
    have hn : n = 1 := Nat.eq_of_beq_eq_true hlen
    subst hn
    exact jr_lneg hc hd h
  case ladd => 
    simp only [jRes, Option.some.injEq, Prod.mk.injEq] at hres
    obtain ⟨rfl, rfl⟩ := hres
    have hn : n = 1 := Nat.eq_of_beq_eq_true hlen
    subst hn
    exact jr_ladd hc hd h
  case lsub => 
    simp only [jRes, Option.some.injEq, Prod.mk.injEq] at hres
    obtain ⟨rfl, rfl⟩ := hres
    have hn : n = 1 := Nat.eq_of_beq_eq_true hlen
    subst hn
    exact jr_lsub hc hd h
  case lmul => 
    simp only [jRes, Option.some.injEq, Prod.mk.injEq] at hres
    obtain ⟨rfl, rfl⟩ := hres
    have hn : n = 1 := Nat.eq_of_beq_eq_true hlen
    subst hn
    exact jr_lmul hc hd h
  case land => 
    simp only [jRes, Option.some.injEq, Prod.mk.injEq] at hres
    obtain ⟨rfl, rfl⟩ := hres
    have hn : n = 1 := Nat.eq_of_beq_eq_true hlen
    subst hn
    exact jr_land hc hd h
  case lor => 
    simp only [jRes, Option.some.injEq, Prod.mk.injEq] at hres
    obtain ⟨rfl, rfl⟩ := hres
    have hn : n = 1 := Nat.eq_of_beq_eq_true hlen
    subst hn
    exact jr_lor hc hd h
  case lxor => 
    simp only [jRes, Option.some.injEq, Prod.mk.injEq] at hres
    obtain ⟨rfl, rfl⟩ := hres
    have hn : n = 1 := Nat.eq_of_beq_eq_true hlen
    subst hn
    exact jr_lxor hc hd h
  case lshl => 
    simp only [jRes, Option.some.injEq, Prod.mk.injEq] at hres
    obtain ⟨rfl, rfl⟩ := hres
    have hn : n = 1 := Nat.eq_of_beq_eq_true hlen
    subst hn
    exact jr_lshl hc hd h
  case ldiv => 
    simp only [jRes, Option.some.injEq, Prod.mk.injEq] at hres
    obtain ⟨rfl, rfl⟩ := hres
    have hn : n = 1 := Nat.eq_of_beq_eq_true hlen
    subst hn
    exact jr_ldiv hc hd h
  case lrem => 
    simp only [jRes, Option.some.injEq, Prod.mk.injEq] at hres
    obtain ⟨rfl, rfl⟩ := hres
    have hn : n = 1 := Nat.eq_of_beq_eq_true hlen
    subst hn
    exact jr_lrem hc hd h
  case dup => 
    simp only [jRes, Option.some.injEq, Prod.mk.injEq] at hres
    obtain ⟨rfl, rfl⟩ := hres
    have hn : n = 1 := Nat.eq_of_beq_eq_true hlen
    subst hn
    exact jr_dup hc hd h
  case dup2 => 
    simp only [jRes, Option.some.injEq, Prod.mk.injEq] at hres
    obtain ⟨rfl, rfl⟩ := hres
    have hn : n = 1 := Nat.eq_of_beq_eq_true hlen
    subst hn
    exact jr_dup2 hc hd h
  case pop2 => 
    simp only [jRes, Option.some.injEq, Prod.mk.injEq] at hres
    obtain ⟨rfl, rfl⟩ := hres
    have hn : n = 1 := Nat.eq_of_beq_eq_true hlen
    subst hn
    exact jr_pop2 hc hd h
  case arraylength => 
    simp only [jRes, Option.some.injEq, Prod.mk.injEq] at hres
    obtain ⟨rfl, rfl⟩ := hres
    have hn : n = 1 := Nat.eq_of_beq_eq_true hlen
    subst hn
    exact jr_arraylength hc hd h
  case iaload => 
    simp only [jRes, Option.some.injEq, Prod.mk.injEq] at hres
    obtain ⟨rfl, rfl⟩ := hres
    have hn : n = 1 := Nat.eq_of_beq_eq_true hlen
    subst hn
    exact jr_iaload hc hd h
  case laload => 
    simp only [jRes, Option.some.injEq, Prod.mk.injEq] at hres
    obtain ⟨rfl, rfl⟩ := hres
    have hn : n = 1 := Nat.eq_of_beq_eq_true hlen
    subst hn
    exact jr_laload hc hd h
  case aaload => 
    simp only [jRes, Option.some.injEq, Prod.mk.injEq] at hres
    obtain ⟨rfl, rfl⟩ := hres
    have hn : n = 1 := Nat.eq_of_beq_eq_true hlen
    subst hn
    exact jr_aaload hc hd h
  case iastore => 
    simp only [jRes, Option.some.injEq, Prod.mk.injEq] at hres
    obtain ⟨rfl, rfl⟩ := hres
    have hn : n = 1 := Nat.eq_of_beq_eq_true hlen
    subst hn
    exact jr_iastore hc hd h
  case lastore => 
    simp only [jRes, Option.some.injEq, Prod.mk.injEq] at hres
    obtain ⟨rfl, rfl⟩ := hres
    have hn : n = 1 := Nat.eq_of_beq_eq_true hlen
    subst hn
    exact jr_lastore hc hd h
  case aastore => 
    simp only [jRes, Option.some.injEq, Prod.mk.injEq] at hres
    obtain ⟨rfl, rfl⟩ := hres
    have hn : n = 1 := Nat.eq_of_beq_eq_true hlen
    subst hn
    exact jr_aastore hc hd h
  case iload_n k => 
    simp only [jRes, Option.some.injEq, Prod.mk.injEq] at hres
    obtain ⟨rfl, rfl⟩ := hres
    have hn : n = 1 := Nat.eq_of_beq_eq_true hlen
    subst hn
    exact jr_iload_n hc hd h
  case iload k => 
    simp only [jRes, Option.some.injEq, Prod.mk.injEq] at hres
    obtain ⟨rfl, rfl⟩ := hres
    have hn : n = 2 := Nat.eq_of_beq_eq_true hlen
    subst hn
    exact jr_iload hc hd h
  case istore_n k => 
    simp only [jRes, Option.some.injEq, Prod.mk.injEq] at hres
    obtain ⟨rfl, rfl⟩ := hres
    have hn : n = 1 := Nat.eq_of_beq_eq_true hlen
    subst hn
    exact jr_istore_n hc hd h
  case istore k => 
    simp only [jRes, Option.some.injEq, Prod.mk.injEq] at hres
    obtain ⟨rfl, rfl⟩ := hres
    have hn : n = 2 := Nat.eq_of_beq_eq_true hlen
    subst hn
    exact jr_istore hc hd h
  case lload_n k => 
    simp only [jRes, Option.some.injEq, Prod.mk.injEq] at hres
    obtain ⟨rfl, rfl⟩ := hres
    have hn : n = 1 := Nat.eq_of_beq_eq_true hlen
    subst hn
    exact jr_lload_n hc hd h
  case lload k => 
    simp only [jRes, Option.some.injEq, Prod.mk.injEq] at hres
    obtain ⟨rfl, rfl⟩ := hres
    have hn : n = 2 := Nat.eq_of_beq_eq_true hlen
    subst hn
    exact jr_lload hc hd h
  case lstore_n k => 
    simp only [jRes, Option.some.injEq, Prod.mk.injEq] at hres
    obtain ⟨rfl, rfl⟩ := hres
    have hn : n = 1 := Nat.eq_of_beq_eq_true hlen
    subst hn
    exact jr_lstore_n hc hd h
  case lstore k => 
    simp only [jRes, Option.some.injEq, Prod.mk.injEq] at hres
    obtain ⟨rfl, rfl⟩ := hres
    have hn : n = 2 := Nat.eq_of_beq_eq_true hlen
    subst hn
    exact jr_lstore hc hd h
  case aload_n k => 
    simp only [jRes, Option.some.injEq, Prod.mk.injEq] at hres
    obtain ⟨rfl, rfl⟩ := hres
    have hn : n = 1 := Nat.eq_of_beq_eq_true hlen
    subst hn
    exact jr_aload_n hc hd h
  case aload k => 
    simp only [jRes, Option.some.injEq, Prod.mk.injEq] at hres
    obtain ⟨rfl, rfl⟩ := hres
    have hn : n = 2 := Nat.eq_of_beq_eq_true hlen
    subst hn
    exact jr_aload hc hd h
  case astore_n k => 
    simp only [jRes, Option.some.injEq, Prod.mk.injEq] at hres
    obtain ⟨rfl, rfl⟩ := hres
    have hn : n = 1 := Nat.eq_of_beq_eq_true hlen
    subst hn
    exact jr_astore_n hc hd h
  case astore k => 
    simp only [jRes, Option.some.injEq, Prod.mk.injEq] at hres
    obtain ⟨rfl, rfl⟩ := hres
    have hn : n = 2 := Nat.eq_of_beq_eq_true hlen
    subst hn
    exact jr_astore hc hd h
  case iinc k v => 
    simp only [jRes, Option.some.injEq, Prod.mk.injEq] at hres
    obtain ⟨rfl, rfl⟩ := hres
    have hn : n = 3 := Nat.eq_of_beq_eq_true hlen
    subst hn
    exact jr_iinc hc hd h
  case lconst k => 
    simp only [jRes, Option.some.injEq, Prod.mk.injEq] at hres
    obtain ⟨rfl, rfl⟩ := hres
    have hn : n = 1 := Nat.eq_of_beq_eq_true hlen
    subst hn
    exact jr_lconst hc hd h
  case iconst v => 
    simp only [jRes] at hres
    split at hres
    · rename_i hv
      cases hres
      have hn : n = 1 := Nat.eq_of_beq_eq_true hlen
      subst hn
      exact jr_iconst hv hc hd h
    · cases hres
  case bipush v => 
    simp only [jRes] at hres
    split at hres
    · rename_i hv
      cases hres
      have hn : n = 2 := Nat.eq_of_beq_eq_true hlen
      subst hn
      exact jr_bipush hv hc hd h
    · cases hres
  case sipush v => 
    simp only [jRes] at hres
    split at hres
    · rename_i hv
      cases hres
      have hn : n = 3 := Nat.eq_of_beq_eq_true hlen
      subst hn
      exact jr_sipush hv hc hd h
    · cases hres
  case goto off => 
    simp only [jRes] at hres
    split at hres
    · rename_i hv
      cases hres
      have hn : n = 3 := Nat.eq_of_beq_eq_true hlen
      subst hn
      exact jr_goto hv hc hd h
    · cases hres
  case ifCond cd off => 
    simp only [jRes] at hres
    split at hres
    · rename_i hv
      cases hres
      have hn : n = 3 := Nat.eq_of_beq_eq_true hlen
      subst hn
      cases cd
      · exact jr_if_eq hv hc hd h
      · exact jr_if_ne hv hc hd h
      · exact jr_if_lt hv hc hd h
      · exact jr_if_ge hv hc hd h
      · exact jr_if_gt hv hc hd h
      · exact jr_if_le hv hc hd h
    · cases hres
  case if_icmp cd off => 
    simp only [jRes] at hres
    split at hres
    · rename_i hv
      cases hres
      have hn : n = 3 := Nat.eq_of_beq_eq_true hlen
      subst hn
      cases cd
      · exact jr_icmp_eq hv hc hd h
      · exact jr_icmp_ne hv hc hd h
      · exact jr_icmp_lt hv hc hd h
      · exact jr_icmp_ge hv hc hd h
      · exact jr_icmp_gt hv hc hd h
      · exact jr_icmp_le hv hc hd h
    · cases hres
  case lcmp => 
    simp only [jRes] at hres
    split at hres
    · rename_i cd off hd2
      split at hres
      · rename_i hv
        cases hres
        have hn : n = 1 := Nat.eq_of_beq_eq_true hlen
        subst hn
        cases cd
        · exact jr_lcmp_eq hv hc hd hd2 h
        · exact jr_lcmp_ne hv hc hd hd2 h
        · exact jr_lcmp_lt hv hc hd hd2 h
        · exact jr_lcmp_ge hv hc hd hd2 h
        · exact jr_lcmp_gt hv hc hd hd2 h
        · exact jr_lcmp_le hv hc hd hd2 h
      · cases hres
    · cases hres
  case tableswitch d0 lo hi os => 
    simp only [jRes] at hres
    split at hres
    · rename_i hv
      cases hres
      exact jr_tableswitch hc hv hd h
    · cases hres
  case lookupswitch d0 ps => 
    simp only [jRes] at hres
    split at hres
    · rename_i hv
      cases hres
      exact jr_lookupswitch hc hv.1 hv.2 hd h
    · cases hres
  case ldc2_w i => 
    simp only [jRes, Option.map_eq_some_iff] at hres
    obtain ⟨⟨f, w⟩, hl, he⟩ := hres
    cases he
    have hn : n = 3 := Nat.eq_of_beq_eq_true hlen
    subst hn
    obtain ⟨q1, q2⟩ := jCk_ok hz16 hl
    exact jr_ldc2 q1 q2 hc hd h
  case ldc i => 
    simp only [jRes, Option.map_eq_some_iff] at hres
    obtain ⟨⟨f, w⟩, hl, he⟩ := hres
    cases he
    have hn : n = 2 := Nat.eq_of_beq_eq_true hlen
    subst hn
    obtain ⟨q1, q2⟩ := jCi_ok hz16 hl
    exact jr_ldc q1 q2 hc hd h
  case ldc_w i => 
    simp only [jRes, Option.map_eq_some_iff] at hres
    obtain ⟨⟨f, w⟩, hl, he⟩ := hres
    cases he
    have hn : n = 3 := Nat.eq_of_beq_eq_true hlen
    subst hn
    obtain ⟨q1, q2⟩ := jCi_ok hz16 hl
    exact jr_ldc_w q1 q2 hc hd h
  case getfield i => 
    simp only [jRes, Option.map_eq_some_iff] at hres
    obtain ⟨⟨f, w⟩, hl, he⟩ := hres
    cases he
    have hn : n = 3 := Nat.eq_of_beq_eq_true hlen
    subst hn
    obtain ⟨q1, q2, q3, q4⟩ := jCf_ok hz16 hl
    exact jr_getfield hc hz16 q1 q2 q3 q4 hd h
  case putfield i => 
    simp only [jRes, Option.bind_eq_some_iff] at hres
    obtain ⟨⟨f, w⟩, hl, he⟩ := hres
    split at he
    · rename_i hown
      cases he
      have hn : n = 3 := Nat.eq_of_beq_eq_true hlen
      subst hn
      obtain ⟨q1, q2, q3, q4⟩ := jCf_ok hz16 hl
      exact jr_putfield hc q1 q2 q3 q4 hown hd h
    · cases he
  case new i => 
    simp only [jRes, Option.map_eq_some_iff] at hres
    obtain ⟨⟨f, w⟩, hl, he⟩ := hres
    cases he
    have hn : n = 3 := Nat.eq_of_beq_eq_true hlen
    subst hn
    obtain ⟨q1, q2⟩ := jCc_ok hz16 hl
    obtain ⟨q3, q4⟩ := jIns_ok q2
    exact jr_new hc q2 q1 q3 q4 hd h
  case anewarray i => 
    simp only [jRes, Option.map_eq_some_iff] at hres
    obtain ⟨⟨f, w⟩, hl, he⟩ := hres
    cases he
    have hn : n = 3 := Nat.eq_of_beq_eq_true hlen
    subst hn
    obtain ⟨q1, q2⟩ := jCy_ok hz16 hl
    exact jr_anewarray hc q2 q1 hd h
  case newarray ty => 
    simp only [jRes, Option.some.injEq, Prod.mk.injEq] at hres
    obtain ⟨rfl, rfl⟩ := hres
    have hn : n = 2 := Nat.eq_of_beq_eq_true hlen
    subst hn
    cases ty
    case int => exact jr_newarrayI hc hd h jOdd_ok.2.2.2.2.2.1
    case long => exact jr_newarrayL hc hd h jOdd_ok.2.2.2.2.2.2
    all_goals exact False.elim h
  case invokevirtual i => 
    simp only [jRes, Option.bind_eq_some_iff] at hres
    obtain ⟨⟨y, w, ne⟩, hl, he⟩ := hres
    split at he
    · rename_i hk
      cases he
      have hn : n = 3 := Nat.eq_of_beq_eq_true hlen
      subst hn
      obtain ⟨q1, q2, q3, q4⟩ := jCm_ok hz16 hl
      have q5 := q3 hk.2
      exact jr_callO _ hc hroom hC q1 q2 hz2 (Or.inl q5) (Or.inr (Or.inl ⟨hk.1, rfl, q5⟩)) hd h
    · cases he
  case invokestatic i => 
    simp only [jRes] at hres
    split at hres
    · rename_i u hl
      cases hres
      have hn : n = 3 := Nat.eq_of_beq_eq_true hlen
      subst hn
      exact jr_swap hc (jCq_ok hz16 hl) jOdd_ok.2.2.1 jOdd_ok.2.2.2.1 jOdd_ok.2.2.2.2.1 hd h
    · simp only [Option.bind_eq_some_iff] at hres
      obtain ⟨⟨y, w, ne⟩, hl, he⟩ := hres
      split at he
      · rename_i hk
        cases he
        have hn : n = 3 := Nat.eq_of_beq_eq_true hlen
        subst hn
        obtain ⟨q1, q2, q3, q4⟩ := jCm_ok hz16 hl
        have q5 := q3 hk.2
        exact jr_callO _ hc hroom hC q1 q2 hz2 (Or.inl q5) (Or.inl ⟨hk.1, rfl, q5⟩) hd h
      · cases he
  case invokespecial i => 
    simp only [jRes] at hres
    split at hres
    · rename_i u hl
      cases hres
      have hn : n = 3 := Nat.eq_of_beq_eq_true hlen
      subst hn
      exact jr_pop hc (jCo_ok hz16 hl) jOdd_ok.1 jOdd_ok.2.1 hd h
    · simp only [Option.bind_eq_some_iff] at hres
      obtain ⟨⟨y, w, ne⟩, hl, he⟩ := hres
      split at he
      · rename_i hk
        cases he
        have hn : n = 3 := Nat.eq_of_beq_eq_true hlen
        subst hn
        obtain ⟨q1, q2, q3, q4⟩ := jCm_ok hz16 hl
        refine jr_callO _ hc hroom hC q1 q2 hz2 ?_ (Or.inr (Or.inr ⟨hk, rfl⟩)) hd h
        by_cases h0 : ne = 0
        · exact Or.inl (q3 h0)
        · exact Or.inr ⟨hk, q4 h0⟩
      · cases he
  case ireturn => 
    simp only [jRes, Option.some.injEq, Prod.mk.injEq] at hres
    obtain ⟨rfl, rfl⟩ := hres
    have hn : n = 1 := Nat.eq_of_beq_eq_true hlen
    subst hn
    exact jr_ireturn hE.1 hd h
  case lreturn => 
    simp only [jRes, Option.some.injEq, Prod.mk.injEq] at hres
    obtain ⟨rfl, rfl⟩ := hres
    have hn : n = 1 := Nat.eq_of_beq_eq_true hlen
    subst hn
    exact jr_lreturn hE.2.1 hd h
  case return_ => 
    simp only [jRes, Option.some.injEq, Prod.mk.injEq] at hres
    obtain ⟨rfl, rfl⟩ := hres
    have hn : n = 1 := Nat.eq_of_beq_eq_true hlen
    subst hn
    exact jr_return_ hE.2.2 hd h
  all_goals (simp only [jRes, reduceCtorEq] at hres)
/-- what is checked of a code at a place -/
theorem jChk_at {own : Nat} {cc : ByteArray} {l : List (Nat × Instr × Nat)} (h : jChk own cc l = true) {pc : Nat} {ai : Instr} {len : Nat} (hl : l.lookup pc = some (ai, len)) : ∃ r n, decode cc pc = .ok (r, n) ∧ jLen r n = true ∧ jRes own pc cc r n = some (ai, len) := by
  have h1 := List.all_eq_true.mp h _ (jLookup_mem hl)
  dsimp only at h1
  cases hd : decode cc pc with
  | error e => rw [hd] at h1; cases h1
  | ok q =>
    obtain ⟨r, n⟩ := q
    rw [hd] at h1
    simp only [Bool.and_eq_true] at h1
    refine ⟨r, n, rfl, h1.1, ?_⟩
    have h2 := h1.2
    unfold jIs at h2
    split at h2
    · rename_i a k hq
      simp only [Bool.and_eq_true, decide_eq_true_eq] at h2
      rw [hq, h2.1, Nat.eq_of_beq_eq_true h2.2]
    · cases h2
/-- a frame: from where the abstract run ends, the machine's walk ends -/
theorem jFrame {d : Nat} (hc : jCx p R s mi args meth c A H0 Ts z fu sb g) (hroom : d + 1 ≤ R.frames ∧ 60 * (d + 1) ≤ R.locals) (hC : ∀ e0, d = e0 + 1 → ∀ y a m K, y ∈ jZs → y ≠ zL_law → jK e0 y a m K → jGood l e0 y a m K) (hE : jEnds p l e R s mi args below meth c Qf D A H0 z fu sb g n0 ws0 Q) (hz16 : jCl z < 16) (hz2 : jMd z ≤ 2) (hdc : jDc z) (h : jA d z pc ls st m Q) : jP p l e R s mi args below meth c Qf D A H0 z fu sb g n0 ws0 pc ls st m := by
  rw [jA_eq] at h
  refine h _ ⟨fun pc ls st m hs => ?_, fun pc l0 ls st m hl hP => ?_⟩
  · unfold jAt at hs
    cases hi : jIns z pc with
    | none => rw [hi] at hs; exact hs.elim
    | some q =>
      obtain ⟨ai, len⟩ := q
      rw [hi] at hs
      obtain ⟨r, n, h1, h2, h3⟩ := jChk_at hdc hi
      cases d with
      | zero => exact jr_all (e0 := 0) hc (Or.inl (fun y a m K f => f)) (fun y a m K _ _ f => f.elim) hE hz16 hz2 h1 h2 h3 hs
      | succ e0 => exact jr_all hc (Or.inr ⟨by omega, by omega⟩) (fun y a m K hy hl hk => hC e0 rfl y a m K hy hl hk) hE hz16 hz2 h1 h2 h3 hs
  · intro H locs cells slots ws tys lsR stR hr
    exact hP _ _ _ _ _ _ _ _ ⟨hr.1, jLr_le hl hr.2.1, hr.2.2⟩
end SOUND
