/-! THE TIES, by program: bytes, names, the words of the tables by their places; each is decided below -/
def jRns : List String := [RX0, RX1, RX2, RX3, RX4, RX5, RX6, RX7, RX8, RX9, RX10, RX11, RL, RJ6, RJ9, RJ7]
def jRn (c : Nat) : String := jRns.getD c ""
def jVc : List vw_C := [(RX0, TX0, 7), (RX1, TX1, 5), (RX2, TX2, 7), (RX3, TX3, 7), (RX4, TX4, 10), (RX5, TX5, 6), (RX6, TX6, 5), (RX7, TX7, 3), (RX8, TX8, 9), (RX9, TX9, 7), (RX10, TX10, 17), (RX11, TX11, 80)]
def jTy (c : Nat) : Nat → FieldType := match c with
  | 0 => tyX0
  | 1 => tyX1
  | 2 => tyX2
  | 3 => tyX3
  | 4 => tyX4
  | 5 => tyX5
  | 6 => tyX6
  | 7 => tyX7
  | 8 => tyX8
  | 9 => tyX9
  | 10 => tyX10
  | _ => tyX11
def jFs : List (List Nat) := [[0, 16, 25770336288, 34360811568, 34361319488, 2149621840, 2150113376], [1, 4295516177, 34360795169, 4296548401, 34361843777], [2, 18, 34, 4295499826, 4296024130, 4296548434, 4297072738], [137439485955, 1649268514835, 1649269022755, 1649269547059, 4297596995, 4298137683, 51543285859], [4, 20, 4295499812, 52, 34360811588, 4296548436, 137441075300, 137441583220, 137442107524, 34363416724], [5, 206158979093, 549756887077, 4296564789, 4297089093, 4297597013], [6, 22, 21475368998, 21475893302, 21476417606], [7, 23, 21475385383], [32212787208, 24, 108584, 56, 72, 88, 104, 120, 136], [85899894793, 2148540441, 41, 57, 73, 89, 105], [530442, 12064794, 4138, 23730234, 26892362, 28383322, 32577642, 36739194, 39409802, 42522778, 46684330, 4344258746, 4298, 4314, 4330, 4346, 2197348618], [11, 8590467099, 25770860587, 34361335867, 34361843787, 2150113371, 2150637675, 8593612923, 51543810187, 51544334491, 51544858795, 51545383099, 51545907403, 51546431707, 51546956011, 32220127483, 267, 283, 299, 315, 331, 347, 4459, 379, 395, 12893299099, 12893823403, 12894347707, 12894872011, 12895396315, 12895920619, 12896444923, 2159550987, 539, 555, 571, 587, 603, 619, 635, 34372346507, 34372870811, 1236964237995, 1236964745915, 4309656267, 4310196955, 6995075819, 55850836731, 779, 1236967383835, 811, 4312294203, 4312818507, 64442868571, 64443392875, 64443917179, 64444441483, 64444982171, 1030813148075, 4316472251, 4316996555, 987, 1003, 1019, 1035, 64447063067, 34382816299, 4318569531, 5195, 8614061147, 25794454635, 34384929915, 34385437835, 2173707419, 2174231723, 8617206971, 360805049547, 2175804635, 2176328939, 85928731899]]
def jFf (c j : Nat) : Nat := (jFs.getD c []).getD j 0
def jNf (c : Nat) : Nat := (jFs.getD c []).length
def jYs : List MethodName := [yX0_init, yX0_take, yX0_seat, yX0_isIn, yX0_forcedBeside, yX0_marked, yX0_owned, yX0_namersOf, yX0_reachOf, yX0_weighRules, yX0_refusalOf, yX1_init, yX1_write, yX1_hear, yX2_init, yX2_find, yX2_grow, yX2_turn, yX2_spread, yX3_init, yX3_find, yX3_merge, yX3_headTotal, yX3_firstJudge, yX3_follow, yX3_placeOf, yX4_init, yX4_load, yX4_take, yX4_openBy, yX4_force, yX4_isOpen, yX4_openPairs, yX4_closeJudge, yX4_closeHeavier, yX4_heavierThan, yX4_weigh, yX4_listCases, yX4_canTake, yX4_weighFrom, yX4_leads, yX4_pick, yX4_share, yX4_shareFrom, yX4_follows, yX4_sumOf, yX4_sharedOf, yX5_init, yX5_make, yX5_firstPay, yX5_slack, yX5_findTight, yX5_leastSlack, yX5_keep, yX5_raise, yX6_init, yX6_clear, yX6_take, yX6_add, yX6_landHere, yX6_names, yX6_weightBy, yX7_init, yX7_become, yX7_holds, yX7_set, yX8_init, yX8_add, yX8_parse, yX8_expr, yX8_sum, yX8_product, yX8_factor, yX8_atom, yX8_function, yX8_part, yX8_enter, yX8_leave, yX8_step, yX8_word, yX8_nameOfOne, yX8_nameOfThree, yX8_digits, yX8_isLetter, yX8_isDigit, yX8_isSign, yX9_init, yX9_burdenOf, yX9_tellBy, yX9_read, yX9_operand, yX9_join, yX9_fail, yX10_init, yX10_here, yX10_trait, yX10_tell, yX10_burden, yX10_mark, yX10_open, yX10_feed, yX10_text, yX10_empty, yX10_told, yX10_value, yX10_why, yX10_solve, yX10_round, yX10_price, yX10_total, yX10_many, yX10_best, yX10_kind, yX10_room, yX10_next, yX10_fair, yX10_days, yX10_day, yX10_lack, yX10_without, yX10_tells, yX10_film, yX10_image, yX10_back, yX10_count, yX10_sheet, yX10_put, yX10_item, yX10_copy, yX10_lay, yX10_isSide, yX10_isSeat, yX10_isPair, yX10_isRule, yX10_isSheet, yX10_changed, yX10_refreshPlan, yX10_refreshShares, yX10_refreshNextOnes, yX10_refreshDiary, yX11_in, yX11_init, yX11_isWho, yX11_isPair, yX11_isJudge, yX11_isCase, yX11_here, yX11_trait, yX11_feed, yX11_byteAt, yX11_isLetter, yX11_isDigit, yX11_isThree, yX11_word, yX11_isSignByte, yX11_next, yX11_fail, yX11_isSign, yX11_takes, yX11_part, yX11_opens, yX11_expression, yX11_sum, yX11_product, yX11_factor, yX11_ofTwo, yX11_names, yX11_comesTo, yX11_weight, yX11_trades, yX11_isHeavy, yX11_text, yX11_empty, yX11_told, yX11_fails, yX11_valueOf, yX11_named, yX11_limited, yX11_valueOf_, yX11_asked, yX11_value, yX11_why, yX11_burdenOf, yX11_forcedOf, yX11_isOpen, yX11_tellsBurdens, yX11_opens_, yX11_costs, yX11_burden, yX11_mark, yX11_open, yX11_openMany, yX11_least, yX11_toldOr, yX11_picks, yX11_tell, yX11_total, yX11_many, yX11_best, yX11_with, yX11_lacking, yX11_kind, yX11_room, yX11_enters, yX11_walks, yX11_lists, yX11_next_, yX11_heaviest, yX11_fair, yX11_finds, yX11_greatest, yX11_marking, yX11_casesIn, yX11_slack, yX11_rise, yX11_begins, yX11_isLast, yX11_solve, yX11_round, yX11_price, yX11_daysOf, yX11_days, yX11_day, yX11_lack, yX11_without, yX11_casesMany, yX11_reads, yX11_tells, yX11_placeOf, yX11_film, yX11_copies, yX11_keeps, yX11_image, yX11_back, yX11_marksOf, yX11_count, yX11_isSheet, yX11_sheet, yX11_put, yX11_item, yX11_copy, yX11_lay, yJ6_bitCount_0f7a4, yJ9_floorDiv_f86c9, yJ9_floorMod_f86c9, yJ9_abs_067f4, yJ9_max_f86c9, yJ9_min_f86c9, yJ7_fill_d0a16, yJ7_fill_53178, yL_law]
def jBs : List ByteArray := [cX0_init, cX0_take, cX0_seat, cX0_isIn, cX0_forcedBeside, cX0_marked, cX0_owned, cX0_namersOf, cX0_reachOf, cX0_weighRules, cX0_refusalOf, cX1_init, cX1_write, cX1_hear, cX2_init, cX2_find, cX2_grow, cX2_turn, cX2_spread, cX3_init, cX3_find, cX3_merge, cX3_headTotal, cX3_firstJudge, cX3_follow, cX3_placeOf, cX4_init, cX4_load, cX4_take, cX4_openBy, cX4_force, cX4_isOpen, cX4_openPairs, cX4_closeJudge, cX4_closeHeavier, cX4_heavierThan, cX4_weigh, cX4_listCases, cX4_canTake, cX4_weighFrom, cX4_leads, cX4_pick, cX4_share, cX4_shareFrom, cX4_follows, cX4_sumOf, cX4_sharedOf, cX5_init, cX5_make, cX5_firstPay, cX5_slack, cX5_findTight, cX5_leastSlack, cX5_keep, cX5_raise, cX6_init, cX6_clear, cX6_take, cX6_add, cX6_landHere, cX6_names, cX6_weightBy, cX7_init, cX7_become, cX7_holds, cX7_set, cX8_init, cX8_add, cX8_parse, cX8_expr, cX8_sum, cX8_product, cX8_factor, cX8_atom, cX8_function, cX8_part, cX8_enter, cX8_leave, cX8_step, cX8_word, cX8_nameOfOne, cX8_nameOfThree, cX8_digits, cX8_isLetter, cX8_isDigit, cX8_isSign, cX9_init, cX9_burdenOf, cX9_tellBy, cX9_read, cX9_operand, cX9_join, cX9_fail, cX10_init, cX10_here, cX10_trait, cX10_tell, cX10_burden, cX10_mark, cX10_open, cX10_feed, cX10_text, cX10_empty, cX10_told, cX10_value, cX10_why, cX10_solve, cX10_round, cX10_price, cX10_total, cX10_many, cX10_best, cX10_kind, cX10_room, cX10_next, cX10_fair, cX10_days, cX10_day, cX10_lack, cX10_without, cX10_tells, cX10_film, cX10_image, cX10_back, cX10_count, cX10_sheet, cX10_put, cX10_item, cX10_copy, cX10_lay, cX10_isSide, cX10_isSeat, cX10_isPair, cX10_isRule, cX10_isSheet, cX10_changed, cX10_refreshPlan, cX10_refreshShares, cX10_refreshNextOnes, cX10_refreshDiary, cX11_in, cX11_init, cX11_isWho, cX11_isPair, cX11_isJudge, cX11_isCase, cX11_here, cX11_trait, cX11_feed, cX11_byteAt, cX11_isLetter, cX11_isDigit, cX11_isThree, cX11_word, cX11_isSignByte, cX11_next, cX11_fail, cX11_isSign, cX11_takes, cX11_part, cX11_opens, cX11_expression, cX11_sum, cX11_product, cX11_factor, cX11_ofTwo, cX11_names, cX11_comesTo, cX11_weight, cX11_trades, cX11_isHeavy, cX11_text, cX11_empty, cX11_told, cX11_fails, cX11_valueOf, cX11_named, cX11_limited, cX11_valueOf_, cX11_asked, cX11_value, cX11_why, cX11_burdenOf, cX11_forcedOf, cX11_isOpen, cX11_tellsBurdens, cX11_opens_, cX11_costs, cX11_burden, cX11_mark, cX11_open, cX11_openMany, cX11_least, cX11_toldOr, cX11_picks, cX11_tell, cX11_total, cX11_many, cX11_best, cX11_with, cX11_lacking, cX11_kind, cX11_room, cX11_enters, cX11_walks, cX11_lists, cX11_next_, cX11_heaviest, cX11_fair, cX11_finds, cX11_greatest, cX11_marking, cX11_casesIn, cX11_slack, cX11_rise, cX11_begins, cX11_isLast, cX11_solve, cX11_round, cX11_price, cX11_daysOf, cX11_days, cX11_day, cX11_lack, cX11_without, cX11_casesMany, cX11_reads, cX11_tells, cX11_placeOf, cX11_film, cX11_copies, cX11_keeps, cX11_image, cX11_back, cX11_marksOf, cX11_count, cX11_isSheet, cX11_sheet, cX11_put, cX11_item, cX11_copy, cX11_lay, cJ6_bitCount_0f7a4, cJ9_floorDiv_f86c9, cJ9_floorMod_f86c9, cJ9_abs_067f4, cJ9_max_f86c9, cJ9_min_f86c9, cJ7_fill_d0a16, cJ7_fill_53178, cL_law]
def jRs : List (Option FieldType) := [none, none, (some .int), (some .boolean), (some .boolean), (some .int), (some .int), (some .int), (some .int), none, (some .int), none, none, none, none, none, (some .boolean), none, none, none, none, (some .int), (some .long), (some .int), none, (some .int), none, none, none, none, none, (some .boolean), (some .int), none, none, (some .int), none, none, (some .boolean), none, (some .boolean), none, none, none, (some .boolean), (some .long), (some .int), none, none, (some .long), (some .long), (some .int), (some .long), none, none, none, none, none, none, none, (some .int), (some .int), none, none, (some .boolean), none, none, (some .boolean), (some .int), (some .boolean), (some .boolean), (some .boolean), (some .boolean), (some .boolean), (some .boolean), (some .boolean), (some .boolean), (some .boolean), none, none, none, none, none, (some .boolean), (some .boolean), (some .boolean), none, (some .long), (some .long), (some .long), (some .long), (some .long), (some .long), none, (some .int), (some .int), (some .long), (some .long), (some .int), (some .int), (some .int), (some .int), (some .int), (some .int), (some .long), (some .int), (some .int), (some .long), (some .long), (some .long), (some .int), (some .int), (some .int), (some .long), (some .long), (some .long), (some .long), (some .int), (some .int), (some .long), (some .long), (some .int), (some .int), (some .int), (some .int), (some .int), (some .int), (some .long), (some .int), (some .int), (some .boolean), (some .boolean), (some .boolean), (some .boolean), (some .boolean), none, none, none, none, none, (some .boolean), none, (some .boolean), (some .boolean), (some .boolean), (some .boolean), (some .int), (some .int), (some .int), (some .int), (some .boolean), (some .boolean), (some .boolean), (some .int), (some .boolean), none, none, (some .boolean), none, (some .int), (some .boolean), (some .int), (some .int), (some .int), (some .int), (some .int), (some .int), (some .int), (some .int), none, (some .boolean), (some .int), (some .int), (some .int), (some .long), (some .long), (some .long), (some .long), (some .long), (some .long), (some .long), (some .int), (some .long), (some .int), (some .boolean), none, none, none, (some .long), (some .int), (some .int), (some .int), (some .long), (some .long), none, (some .long), (some .long), (some .int), (some .int), (some .long), (some .long), (some .int), (some .long), none, none, none, (some .long), (some .long), (some .long), (some .boolean), (some .int), (some .int), (some .int), (some .long), (some .long), none, (some .boolean), (some .int), (some .long), (some .long), (some .long), (some .long), (some .int), (some .int), (some .long), (some .int), (some .boolean), (some .long), (some .int), (some .int), none, none, (some .int), (some .int), (some .int), (some .int), (some .boolean), (some .int), (some .int), (some .long), (some .int), (some .int), (some .int), (some .long), (some .long), (some .long), (some .long), (some .long), none, none, (some .boolean)]
def jZs : List Nat := [zX0_init, zX0_take, zX0_seat, zX0_isIn, zX0_forcedBeside, zX0_marked, zX0_owned, zX0_namersOf, zX0_reachOf, zX0_weighRules, zX0_refusalOf, zX1_init, zX1_write, zX1_hear, zX2_init, zX2_find, zX2_grow, zX2_turn, zX2_spread, zX3_init, zX3_find, zX3_merge, zX3_headTotal, zX3_firstJudge, zX3_follow, zX3_placeOf, zX4_init, zX4_load, zX4_take, zX4_openBy, zX4_force, zX4_isOpen, zX4_openPairs, zX4_closeJudge, zX4_closeHeavier, zX4_heavierThan, zX4_weigh, zX4_listCases, zX4_canTake, zX4_weighFrom, zX4_leads, zX4_pick, zX4_share, zX4_shareFrom, zX4_follows, zX4_sumOf, zX4_sharedOf, zX5_init, zX5_make, zX5_firstPay, zX5_slack, zX5_findTight, zX5_leastSlack, zX5_keep, zX5_raise, zX6_init, zX6_clear, zX6_take, zX6_add, zX6_landHere, zX6_names, zX6_weightBy, zX7_init, zX7_become, zX7_holds, zX7_set, zX8_init, zX8_add, zX8_parse, zX8_expr, zX8_sum, zX8_product, zX8_factor, zX8_atom, zX8_function, zX8_part, zX8_enter, zX8_leave, zX8_step, zX8_word, zX8_nameOfOne, zX8_nameOfThree, zX8_digits, zX8_isLetter, zX8_isDigit, zX8_isSign, zX9_init, zX9_burdenOf, zX9_tellBy, zX9_read, zX9_operand, zX9_join, zX9_fail, zX10_init, zX10_here, zX10_trait, zX10_tell, zX10_burden, zX10_mark, zX10_open, zX10_feed, zX10_text, zX10_empty, zX10_told, zX10_value, zX10_why, zX10_solve, zX10_round, zX10_price, zX10_total, zX10_many, zX10_best, zX10_kind, zX10_room, zX10_next, zX10_fair, zX10_days, zX10_day, zX10_lack, zX10_without, zX10_tells, zX10_film, zX10_image, zX10_back, zX10_count, zX10_sheet, zX10_put, zX10_item, zX10_copy, zX10_lay, zX10_isSide, zX10_isSeat, zX10_isPair, zX10_isRule, zX10_isSheet, zX10_changed, zX10_refreshPlan, zX10_refreshShares, zX10_refreshNextOnes, zX10_refreshDiary, zX11_in, zX11_init, zX11_isWho, zX11_isPair, zX11_isJudge, zX11_isCase, zX11_here, zX11_trait, zX11_feed, zX11_byteAt, zX11_isLetter, zX11_isDigit, zX11_isThree, zX11_word, zX11_isSignByte, zX11_next, zX11_fail, zX11_isSign, zX11_takes, zX11_part, zX11_opens, zX11_expression, zX11_sum, zX11_product, zX11_factor, zX11_ofTwo, zX11_names, zX11_comesTo, zX11_weight, zX11_trades, zX11_isHeavy, zX11_text, zX11_empty, zX11_told, zX11_fails, zX11_valueOf, zX11_named, zX11_limited, zX11_valueOf_, zX11_asked, zX11_value, zX11_why, zX11_burdenOf, zX11_forcedOf, zX11_isOpen, zX11_tellsBurdens, zX11_opens_, zX11_costs, zX11_burden, zX11_mark, zX11_open, zX11_openMany, zX11_least, zX11_toldOr, zX11_picks, zX11_tell, zX11_total, zX11_many, zX11_best, zX11_with, zX11_lacking, zX11_kind, zX11_room, zX11_enters, zX11_walks, zX11_lists, zX11_next_, zX11_heaviest, zX11_fair, zX11_finds, zX11_greatest, zX11_marking, zX11_casesIn, zX11_slack, zX11_rise, zX11_begins, zX11_isLast, zX11_solve, zX11_round, zX11_price, zX11_daysOf, zX11_days, zX11_day, zX11_lack, zX11_without, zX11_casesMany, zX11_reads, zX11_tells, zX11_placeOf, zX11_film, zX11_copies, zX11_keeps, zX11_image, zX11_back, zX11_marksOf, zX11_count, zX11_isSheet, zX11_sheet, zX11_put, zX11_item, zX11_copy, zX11_lay, zJ6_bitCount_0f7a4, zJ9_floorDiv_f86c9, zJ9_floorMod_f86c9, zJ9_abs_067f4, zJ9_max_f86c9, zJ9_min_f86c9, zJ7_fill_d0a16, zJ7_fill_53178, zL_law]
def jYn (z : Nat) : MethodName := jYs.getD (jIx z) yL_law
def jBy (z : Nat) : ByteArray := jBs.getD (jIx z) code
def jRy (z : Nat) : Option FieldType := jRs.getD (jIx z) none
def jCfs : List (List (Nat × Nat × Nat)) := [[(9, 0, 163), (15, 16, 165), (18, 25770336288, 168), (22, 34360811568, 171), (26, 34361319488, 174), (31, 2149621840, 177), (35, 2150113376, 180)], [(9, 1, 419), (15, 4295516177, 421), (19, 34360795169, 423), (23, 4296548401, 425), (26, 34361843777, 426), (49, 137441075300, 292)], [(9, 2, 326), (15, 18, 329), (18, 34, 332), (21, 4295499826, 335), (25, 4296024130, 336), (28, 4296548434, 337), (31, 4297072738, 338)], [(9, 137439485955, 388), (15, 1649268514835, 390), (19, 1649269022755, 392), (22, 1649269547059, 393), (25, 4297596995, 394), (28, 4298137683, 395), (31, 51543285859, 396), (46, 20, 278), (50, 137441075300, 291), (55, 4295499812, 281), (80, 4296548436, 288), (83, 34360811588, 286)], [(9, 4, 274), (15, 20, 277), (18, 4295499812, 280), (22, 52, 283), (25, 34360811588, 284), (29, 4296548436, 287), (32, 137441075300, 290), (35, 137441583220, 294), (38, 137442107524, 296), (41, 34363416724, 297), (44, 16, 166), (59, 34361319488, 175), (115, 23, 448), (120, 21475385383, 450)], [(9, 5, 360), (15, 206158979093, 362), (19, 549756887077, 364), (22, 4296564789, 366), (25, 4297089093, 367), (28, 4297597013, 368), (48, 4, 275), (59, 18, 330), (62, 34, 333), (81, 34360811588, 285), (95, 2, 327)], [(9, 6, 138), (15, 22, 141), (18, 21475368998, 144), (22, 21475893302, 146), (25, 21476417606, 148)], [(9, 7, 445), (15, 23, 447), (18, 21475385383, 449)], [(9, 32212787208, 205), (15, 24, 206), (22, 108584, 208), (26, 56, 210), (29, 72, 211), (32, 88, 212), (35, 104, 213), (38, 120, 214), (41, 136, 215), (60, 22, 142), (87, 6, 139)], [(9, 85899894793, 241), (15, 2148540441, 242), (19, 41, 243), (23, 57, 245), (26, 73, 247), (29, 89, 249), (32, 105, 251), (35, 34360811568, 172), (58, 2149621840, 178), (62, 22, 143), (67, 21475368998, 145), (70, 21475893302, 147), (73, 21476417606, 149), (96, 25770336288, 170)], [(10, 530442, 459), (16, 12064794, 460), (19, 4138, 461), (26, 23730234, 462), (33, 26892362, 463), (40, 28383322, 464), (44, 32577642, 465), (50, 36739194, 466), (57, 39409802, 467), (64, 42522778, 468), (71, 46684330, 469), (75, 4344258746, 470), (79, 4298, 471), (82, 4314, 472), (85, 4330, 473), (88, 4346, 474), (93, 2197348618, 475), (112, 25770336288, 169), (125, 34360811568, 173), (132, 137441075300, 293), (144, 34361319488, 176), (153, 24, 207), (164, 2149621840, 179), (168, 108584, 209), (176, 6, 140), (187, 2150113376, 181), (203, 41, 244), (206, 57, 246), (209, 73, 248), (212, 89, 250), (215, 105, 252), (222, 5, 361), (225, 206158979093, 363), (228, 549756887077, 365), (231, 137441583220, 295), (241, 34363416724, 298), (248, 4296548436, 289), (258, 137439485955, 389), (261, 1649268514835, 391), (264, 51543285859, 397), (278, 1, 420), (280, 4295516177, 422), (281, 34360795169, 424), (282, 4, 276), (289, 20, 279), (292, 2, 328), (293, 18, 331), (296, 34, 334), (306, 7, 446), (332, 4295499812, 282), (345, 0, 164), (352, 16, 167), (362, 21475385383, 451)], [(13, 8590467099, 1097), (17, 25770860587, 1098), (20, 34361335867, 1099), (24, 34361843787, 1100), (27, 2150113371, 1101), (30, 2150637675, 1102), (33, 8593612923, 1103), (36, 51543810187, 1104), (39, 51544334491, 1105), (42, 51544858795, 1106), (45, 51545383099, 1107), (48, 51545907403, 1108), (51, 51546431707, 1109), (54, 51546956011, 1110), (57, 32220127483, 1111), (60, 12893299099, 1121), (63, 12893823403, 1122), (66, 12894347707, 1123), (69, 12894872011, 1124), (72, 12895396315, 1125), (75, 12895920619, 1126), (78, 12896444923, 1127), (81, 2159550987, 1128), (84, 34372346507, 1136), (87, 34372870811, 1137), (90, 1236964237995, 1138), (93, 1236964745915, 1139), (96, 4309656267, 1140), (99, 4310196955, 1141), (102, 6995075819, 1142), (105, 55850836731, 1143), (108, 1236967383835, 1145), (111, 4312294203, 1147), (114, 4312818507, 1148), (117, 64442868571, 1149), (120, 64443392875, 1150), (123, 64443917179, 1151), (126, 64444441483, 1152), (129, 64444982171, 1153), (132, 1030813148075, 1154), (135, 4316472251, 1155), (138, 4316996555, 1156), (141, 64447063067, 1161), (144, 34382816299, 1162), (147, 4318569531, 1163), (150, 8614061147, 1165), (153, 25794454635, 1166), (156, 34384929915, 1167), (159, 34385437835, 1168), (162, 2173707419, 1169), (165, 2174231723, 1170), (168, 8617206971, 1171), (171, 360805049547, 1172), (174, 2175804635, 1173), (177, 2176328939, 1174), (180, 85928731899, 1175), (203, 267, 1112), (214, 283, 1113), (217, 315, 1115), (236, 299, 1114), (239, 331, 1116), (256, 4459, 1118), (260, 379, 1119), (272, 395, 1120), (275, 347, 1117), (324, 539, 1129), (327, 555, 1130), (330, 571, 1131), (333, 587, 1132), (336, 603, 1133), (354, 619, 1134), (357, 635, 1135), (433, 779, 1144), (458, 987, 1157), (467, 1003, 1158), (470, 1019, 1159), (476, 811, 1146), (482, 1035, 1160), (533, 5195, 1164)], [], [], [], []]
def jCcs : List (List (Nat × Nat × Nat)) := [[(29, 6, 127)], [], [], [], [], [], [], [], [(19, 6, 203)], [], [(7, 0, 121), (23, 8, 197), (30, 9, 235), (37, 4, 268), (47, 2, 320), (54, 5, 354), (61, 3, 382), (68, 1, 413), (91, 7, 438)], [], [(7, 10, 113), (10, 11, 1090)], [], [], []]
def jCys : List (List (Nat × Nat × Nat)) := [[(29, 2, 127)], [], [], [], [], [], [], [], [], [], [(91, 3, 438)], [], [], [], [], []]
def jCks : List (List (Nat × Int × Nat)) := [[(38, (-1), 129)], [(52, (-4611686018427387904), 967)], [], [(53, (-4611686018427387904), 920)], [(57, (-4611686018427387904), 597), (123, 8, 1002)], [(42, (-1), 809)], [], [], [], [(40, (-1), 559), (46, (-4611686018427387904), 568), (88, (-1000000000), 591), (90, 1000000000, 592)], [(119, (-1), 540), (121, 1000000000, 541), (123, (-2), 542), (135, (-4611686018427387904), 636), (309, (-11), 997), (315, (-3), 1003)], [(183, (-1), 1096), (189, 7, 1347), (195, 2, 1352), (197, (-999), 1353), (199, 999, 1354), (201, 255, 1359), (206, 97, 1376), (208, 122, 1377), (210, 48, 1393), (212, 57, 1394), (228, 99, 1386), (230, 120, 1387), (232, 112, 1388), (234, 115, 1389), (311, 3, 1364), (322, 4, 1466), (346, (-1000000000), 1495), (348, 1000000000, 1496), (379, (-4611686018427387904), 1474), (409, 1125899906842624, 1563), (411, (-2), 1554), (444, 11, 1600), (497, 5, 1663), (499, 8, 1672), (515, (-11), 1697), (520, (-3), 1706)], [(23, 4294967295, 1762)], [], [], []]
def jCis : List (List (Nat × Int × Nat)) := [[], [], [], [], [], [], [], [], [], [], [], [], [], [(265, 1431655765, 624), (266, 858993459, 625), (267, 252645135, 626)], [], []]
def jCos : List (List (Nat × Nat × Nat)) := [[(3, 0, 126)], [(3, 0, 418)], [(3, 0, 325)], [(3, 0, 387)], [(3, 0, 273)], [(3, 0, 359)], [(3, 0, 137)], [(3, 0, 444)], [(3, 0, 202)], [(3, 0, 240)], [(1, 0, 118)], [(7, 0, 1095)], [], [], [], []]
def jCqs : List (List (Nat × Nat × Nat)) := [[(47, 0, 1037)], [(29, 0, 963)], [], [], [(66, 0, 905)], [(98, 0, 846)], [(28, 0, 1042)], [], [], [], [(365, 0, 1084)], [], [], [], [], []]
def jCms : List (List (Nat × Nat × Nat × Nat)) := [[(40, zJ7_fill_d0a16, 130, 0), (46, zX6_init, 134, 1), (53, zX6_take, 1038, 0), (57, zX6_names, 758, 0), (61, zJ7_fill_53178, 766, 0), (64, zX6_weightBy, 767, 0), (68, zX0_reachOf, 754, 0), (72, zX0_weighRules, 762, 0)], [(35, zX4_take, 964, 0), (41, zX4_openBy, 965, 0), (45, zX4_weigh, 966, 0), (54, zX1_hear, 968, 0), (58, zX4_pick, 972, 0)], [(34, zJ7_fill_53178, 825, 0), (40, zX2_grow, 826, 0), (44, zX2_spread, 834, 0), (47, zX2_turn, 830, 0)], [(34, zX4_canTake, 918, 0), (40, zJ6_bitCount_0f7a4, 919, 0), (58, zX3_merge, 921, 0), (62, zJ7_fill_53178, 925, 0), (68, zX3_follow, 934, 0), (72, zX3_headTotal, 926, 0), (76, zX3_firstJudge, 930, 0)], [(47, zX0_isIn, 551, 0), (51, zX9_burdenOf, 555, 0), (62, zX4_openBy, 598, 0), (72, zJ7_fill_53178, 602, 0), (78, zX4_force, 605, 0), (82, zJ6_bitCount_0f7a4, 621, 0), (88, zX4_isOpen, 946, 0), (92, zX4_listCases, 613, 0), (95, zX4_canTake, 617, 0), (98, zX4_weighFrom, 627, 0), (102, zJ9_max_f86c9, 631, 0), (108, zX4_leads, 877, 0), (112, zX4_shareFrom, 893, 0)], [(32, zJ7_fill_d0a16, 804, 0), (38, zX5_firstPay, 805, 0), (44, zX5_findTight, 812, 0), (53, zX2_find, 821, 0), (65, zX5_leastSlack, 838, 0), (69, zX5_keep, 842, 0), (73, zX5_raise, 849, 0), (77, zX4_isOpen, 810, 0), (84, zJ9_min_f86c9, 811, 0), (90, zJ7_fill_53178, 816, 0), (92, zX5_slack, 817, 0)], [], [(22, zJ7_fill_d0a16, 1024, 0)], [(21, zX6_init, 204, 1), (44, zX6_clear, 673, 0), (47, zX8_step, 677, 0), (50, zX8_expr, 706, 0), (54, zX8_sum, 710, 0), (57, zX8_part, 722, 0), (63, zX6_add, 730, 0), (67, zX6_landHere, 746, 0), (71, zX8_product, 714, 0), (74, zX8_factor, 718, 0), (77, zX8_atom, 726, 0), (80, zX8_enter, 734, 0), (83, zX8_leave, 738, 0), (90, zX8_function, 742, 0), (93, zX8_isLetter, 681, 0), (96, zX8_word, 684, 0), (99, zX8_isDigit, 696, 0), (102, zX8_digits, 699, 0), (105, zX8_isSign, 703, 0), (108, zX8_nameOfOne, 688, 0), (111, zX8_nameOfThree, 692, 0)], [(42, zX9_tellBy, 560, 0), (48, zJ9_max_f86c9, 582, 0), (54, zX9_read, 564, 0), (76, zX9_operand, 569, 0), (80, zJ9_abs_067f4, 573, 0), (84, zX9_join, 576, 0), (92, zX9_fail, 593, 0), (99, zJ9_min_f86c9, 579, 0), (102, zJ9_floorDiv_f86c9, 585, 0), (105, zJ9_floorMod_f86c9, 588, 0)], [(9, zX0_init, 123, 0), (25, zX8_init, 199, 1), (32, zX9_init, 237, 1), (39, zX4_init, 270, 1), (49, zX2_init, 322, 1), (56, zX5_init, 356, 1), (63, zX3_init, 384, 1), (70, zX1_init, 415, 1), (97, zX7_init, 441, 1), (98, zX10_isSide, 515, 0), (102, zX10_isSeat, 518, 0), (105, zX10_changed, 521, 0), (108, zX0_seat, 525, 0), (115, zX10_isPair, 537, 0), (129, zX10_refreshPlan, 543, 0), (137, zX9_burdenOf, 637, 0), (141, zX0_forcedBeside, 642, 0), (147, zX4_isOpen, 650, 0), (150, zX8_add, 658, 0), (157, zX10_isRule, 666, 0), (160, zX8_parse, 669, 0), (172, zX0_refusalOf, 750, 0), (181, zX6_clear, 775, 0), (184, zX0_weighRules, 780, 0), (190, zX6_names, 781, 0), (193, zX0_namersOf, 782, 0), (196, zX0_reachOf, 786, 0), (199, zX9_tellBy, 791, 0), (218, zX5_make, 800, 0), (234, zX4_pick, 873, 0), (238, zX10_refreshShares, 885, 0), (244, zX4_take, 901, 0), (251, zX4_weigh, 609, 0), (255, zX10_refreshNextOnes, 910, 0), (267, zX4_heavierThan, 942, 0), (271, zX4_closeHeavier, 947, 0), (275, zX10_refreshDiary, 955, 0), (285, zX2_find, 981, 0), (299, zX4_closeJudge, 986, 0), (303, zX10_isSheet, 994, 0), (311, zX4_follows, 998, 0), (317, zX4_sumOf, 1004, 0), (321, zX3_placeOf, 1008, 0), (325, zX4_sharedOf, 1012, 0), (328, zX7_become, 1020, 0), (335, zX7_set, 1025, 0), (339, zX0_take, 1033, 0), (342, zX4_openPairs, 1043, 0), (347, zJ6_bitCount_0f7a4, 1055, 0), (353, zX0_marked, 1056, 0), (356, zX0_owned, 1060, 0), (359, zX7_holds, 1072, 0), (371, zJ9_abs_067f4, 1089, 0), (377, zX4_load, 547, 0), (381, zX4_share, 889, 0), (384, zX3_find, 914, 0), (386, zX1_write, 959, 0)], [(185, zX11_in, 1344, 0), (191, zX11_isWho, 1341, 0), (220, zX11_byteAt, 1369, 0), (224, zX11_isThree, 1382, 0), (242, zX11_isLetter, 1373, 0), (246, zX11_word, 1378, 0), (250, zX11_isDigit, 1390, 0), (253, zX11_isSignByte, 1395, 0), (263, zX11_isSign, 1426, 0), (266, zX11_fail, 1418, 0), (269, zX11_next, 1365, 0), (278, zX11_sum, 1402, 0), (281, zX11_part, 1414, 0), (285, zX11_takes, 1434, 0), (289, zX11_expression, 1398, 0), (292, zX11_product, 1406, 0), (295, zX11_factor, 1410, 0), (298, zX11_ofTwo, 1422, 0), (301, zX11_opens, 1430, 0), (305, zX11_names, 1446, 0), (308, zX11_weight, 1454, 0), (313, zX11_trades, 1438, 0), (316, zX11_comesTo, 1442, 0), (319, zX11_isHeavy, 1450, 0), (339, zX11_valueOf_, 1483, 0), (343, zX11_valueOf, 1479, 0), (350, zX11_fails, 1497, 0), (360, zX11_named, 1487, 0), (363, zX11_limited, 1491, 0), (367, zJ9_floorDiv_f86c9, 1501, 0), (373, zJ9_floorMod_f86c9, 1502, 0), (376, zX11_isPair, 1471, 0), (381, zX11_asked, 1475, 0), (384, zX11_isJudge, 1542, 0), (387, zX11_isCase, 1546, 0), (390, zX11_forcedOf, 1519, 0), (394, zX11_burdenOf, 1511, 0), (397, zX11_isOpen, 1538, 0), (401, zX11_tellsBurdens, 1530, 0), (404, zX11_opens_, 1534, 0), (407, zX11_costs, 1526, 0), (413, zX11_total, 1555, 0), (417, zX11_least, 1559, 0), (420, zX11_toldOr, 1564, 0), (424, zX11_picks, 1576, 0), (427, zX11_with, 1584, 0), (430, zX11_lacking, 1588, 0), (436, zX11_enters, 1609, 0), (440, zX11_walks, 1605, 0), (446, zX11_lists, 1601, 0), (449, zJ9_max_f86c9, 1621, 0), (452, zJ9_min_f86c9, 1622, 0), (455, zX11_heaviest, 1617, 0), (461, zX11_finds, 1651, 0), (464, zX11_greatest, 1647, 0), (473, zX11_slack, 1639, 0), (479, zX11_casesIn, 1631, 0), (485, zX11_marking, 1643, 0), (488, zX11_rise, 1655, 0), (491, zX11_begins, 1627, 0), (494, zX11_isLast, 1635, 0), (501, zX11_daysOf, 1673, 0), (504, zJ6_bitCount_0f7a4, 1685, 0), (509, zX11_casesMany, 1702, 0), (512, zX11_isSheet, 1694, 0), (517, zX11_reads, 1698, 0), (522, zX11_placeOf, 1707, 0), (525, zX11_copies, 1723, 0), (529, zX11_keeps, 1719, 0), (536, zX11_openMany, 1726, 0), (539, zX11_marksOf, 1738, 0)], [(9, zX10_init, 115, 0), (12, zX11_init, 1092, 0), (13, zX10_here, 511, 0), (17, zX11_here, 1337, 0), (18, zX10_trait, 529, 0), (22, zX11_trait, 1348, 0), (25, zX10_tell, 533, 0), (29, zX11_tell, 1550, 0), (30, zX10_burden, 632, 0), (34, zX11_burden, 1507, 0), (35, zX10_mark, 638, 0), (38, zX11_mark, 1515, 0), (39, zX10_open, 646, 0), (43, zX11_open, 1522, 0), (44, zX10_feed, 654, 0), (48, zX11_feed, 1355, 0), (49, zX10_text, 662, 0), (52, zX11_text, 1360, 0), (53, zX10_empty, 771, 0), (56, zX11_empty, 1458, 0), (57, zX10_told, 776, 0), (60, zX11_told, 1462, 0), (61, zX10_value, 787, 0), (65, zX11_value, 1467, 0), (66, zX10_why, 792, 0), (69, zX11_why, 1503, 0), (70, zX10_solve, 796, 0), (74, zX11_solve, 1623, 0), (75, zX10_round, 853, 0), (78, zX11_round, 1659, 0), (79, zX10_price, 857, 0), (82, zX11_price, 1664, 0), (83, zX10_total, 861, 0), (87, zX11_total, 1567, 0), (88, zX10_many, 865, 0), (91, zX11_many, 1568, 0), (92, zX10_best, 869, 0), (95, zX11_best, 1572, 0), (96, zX10_kind, 881, 0), (99, zX11_kind, 1580, 0), (100, zX10_room, 897, 0), (103, zX11_room, 1592, 0), (104, zX10_next, 906, 0), (107, zX11_next_, 1596, 0), (108, zX10_fair, 938, 0), (112, zX11_fair, 1613, 0), (113, zX10_days, 951, 0), (116, zX11_days, 1668, 0), (117, zX10_day, 973, 0), (120, zX11_day, 1677, 0), (121, zX10_lack, 977, 0), (124, zX11_lack, 1681, 0), (125, zX10_without, 982, 0), (128, zX11_without, 1686, 0), (129, zX10_tells, 990, 0), (132, zX11_tells, 1690, 0), (133, zX10_film, 1016, 0), (136, zX11_film, 1711, 0), (137, zX10_image, 1029, 0), (140, zX11_image, 1715, 0), (141, zX10_back, 1047, 0), (144, zX11_back, 1730, 0), (145, zX10_count, 1051, 0), (148, zX11_count, 1734, 0), (149, zX10_sheet, 1064, 0), (152, zX11_sheet, 1742, 0), (153, zX10_put, 1068, 0), (157, zX11_put, 1746, 0), (158, zX10_item, 1076, 0), (161, zX11_item, 1750, 0), (162, zX10_copy, 1080, 0), (166, zX11_copy, 1754, 0), (167, zX10_lay, 1085, 0), (170, zX11_lay, 1758, 0)], [], [], []]
/-- the methods that are called: number; the places of: its code, static or instanceMethod, selects, initialized -/
def jMw : List (Nat × Nat × Nat × Nat × Nat) := [(zX0_init, 125, 124, 0, 98), (zX0_take, 1036, 1034, 1035, 98), (zX0_seat, 528, 526, 527, 98), (zX0_isIn, 554, 552, 553, 98), (zX0_forcedBeside, 645, 643, 644, 98), (zX0_marked, 1059, 1057, 1058, 98), (zX0_owned, 1063, 1061, 1062, 98), (zX0_namersOf, 785, 783, 784, 98), (zX0_reachOf, 757, 755, 756, 98), (zX0_weighRules, 765, 763, 764, 98), (zX0_refusalOf, 753, 751, 752, 98), (zX1_init, 417, 416, 0, 107), (zX1_write, 962, 960, 961, 107), (zX1_hear, 971, 970, 40, 107), (zX2_init, 324, 323, 0, 104), (zX2_find, 824, 822, 823, 104), (zX2_grow, 829, 828, 25, 104), (zX2_turn, 833, 832, 26, 104), (zX2_spread, 837, 836, 27, 104), (zX3_init, 386, 385, 0, 106), (zX3_find, 917, 915, 916, 106), (zX3_merge, 924, 923, 35, 106), (zX3_headTotal, 929, 928, 36, 106), (zX3_firstJudge, 933, 932, 37, 106), (zX3_follow, 937, 936, 38, 106), (zX3_placeOf, 1011, 1009, 1010, 106), (zX4_init, 272, 271, 0, 103), (zX4_load, 550, 548, 549, 103), (zX4_take, 904, 902, 903, 103), (zX4_openBy, 601, 599, 600, 103), (zX4_force, 608, 607, 5, 103), (zX4_isOpen, 653, 651, 652, 103), (zX4_openPairs, 1046, 1044, 1045, 103), (zX4_closeJudge, 989, 987, 988, 103), (zX4_closeHeavier, 950, 948, 949, 103), (zX4_heavierThan, 945, 943, 944, 103), (zX4_weigh, 612, 610, 611, 103), (zX4_listCases, 616, 615, 6, 103), (zX4_canTake, 620, 618, 619, 103), (zX4_weighFrom, 630, 629, 7, 103), (zX4_leads, 880, 879, 31, 103), (zX4_pick, 876, 874, 875, 103), (zX4_share, 892, 890, 891, 103), (zX4_shareFrom, 896, 895, 33, 103), (zX4_follows, 1001, 999, 1000, 103), (zX4_sumOf, 1007, 1005, 1006, 103), (zX4_sharedOf, 1015, 1013, 1014, 103), (zX5_init, 358, 357, 0, 105), (zX5_make, 803, 801, 802, 105), (zX5_firstPay, 808, 807, 22, 105), (zX5_slack, 820, 819, 24, 105), (zX5_findTight, 815, 814, 23, 105), (zX5_leastSlack, 841, 840, 28, 105), (zX5_keep, 845, 844, 29, 105), (zX5_raise, 852, 851, 30, 105), (zX6_init, 136, 135, 0, 100), (zX6_clear, 676, 674, 675, 100), (zX6_take, 1041, 1039, 1040, 100), (zX6_add, 733, 731, 732, 100), (zX6_landHere, 749, 747, 748, 100), (zX6_names, 761, 759, 760, 100), (zX6_weightBy, 770, 768, 769, 100), (zX7_init, 443, 442, 0, 108), (zX7_become, 1023, 1021, 1022, 108), (zX7_holds, 1075, 1073, 1074, 108), (zX7_set, 1028, 1026, 1027, 108), (zX8_init, 201, 200, 0, 101), (zX8_add, 661, 659, 660, 101), (zX8_parse, 672, 670, 671, 101), (zX8_expr, 709, 708, 13, 101), (zX8_sum, 713, 712, 14, 101), (zX8_product, 717, 716, 15, 101), (zX8_factor, 721, 720, 16, 101), (zX8_atom, 729, 728, 18, 101), (zX8_function, 745, 744, 21, 101), (zX8_part, 725, 724, 17, 101), (zX8_enter, 737, 736, 19, 101), (zX8_leave, 741, 740, 20, 101), (zX8_step, 680, 679, 8, 101), (zX8_word, 687, 686, 9, 101), (zX8_nameOfOne, 691, 690, 10, 101), (zX8_nameOfThree, 695, 694, 11, 101), (zX8_digits, 702, 701, 12, 101), (zX8_isLetter, 683, 682, 0, 101), (zX8_isDigit, 698, 697, 0, 101), (zX8_isSign, 705, 704, 0, 101), (zX9_init, 239, 238, 0, 102), (zX9_burdenOf, 558, 556, 557, 102), (zX9_tellBy, 563, 561, 562, 102), (zX9_read, 567, 566, 2, 102), (zX9_operand, 572, 571, 3, 102), (zX9_join, 578, 577, 0, 102), (zX9_fail, 596, 595, 4, 102), (zX10_init, 117, 116, 0, 97), (zX10_here, 514, 512, 513, 97), (zX10_trait, 532, 530, 531, 97), (zX10_tell, 536, 534, 535, 97), (zX10_burden, 635, 633, 634, 97), (zX10_mark, 641, 639, 640, 97), (zX10_open, 649, 647, 648, 97), (zX10_feed, 657, 655, 656, 97), (zX10_text, 665, 663, 664, 97), (zX10_empty, 774, 772, 773, 97), (zX10_told, 779, 777, 778, 97), (zX10_value, 790, 788, 789, 97), (zX10_why, 795, 793, 794, 97), (zX10_solve, 799, 797, 798, 97), (zX10_round, 856, 854, 855, 97), (zX10_price, 860, 858, 859, 97), (zX10_total, 864, 862, 863, 97), (zX10_many, 868, 866, 867, 97), (zX10_best, 872, 870, 871, 97), (zX10_kind, 884, 882, 883, 97), (zX10_room, 900, 898, 899, 97), (zX10_next, 909, 907, 908, 97), (zX10_fair, 941, 939, 940, 97), (zX10_days, 954, 952, 953, 97), (zX10_day, 976, 974, 975, 97), (zX10_lack, 980, 978, 979, 97), (zX10_without, 985, 983, 984, 97), (zX10_tells, 993, 991, 992, 97), (zX10_film, 1019, 1017, 1018, 97), (zX10_image, 1032, 1030, 1031, 97), (zX10_back, 1050, 1048, 1049, 97), (zX10_count, 1054, 1052, 1053, 97), (zX10_sheet, 1067, 1065, 1066, 97), (zX10_put, 1071, 1069, 1070, 97), (zX10_item, 1079, 1077, 1078, 97), (zX10_copy, 1083, 1081, 1082, 97), (zX10_lay, 1088, 1086, 1087, 97), (zX10_isSide, 517, 516, 0, 97), (zX10_isSeat, 520, 519, 0, 97), (zX10_isPair, 539, 538, 0, 97), (zX10_isRule, 668, 667, 0, 97), (zX10_isSheet, 996, 995, 0, 97), (zX10_changed, 524, 523, 0, 97), (zX10_refreshPlan, 546, 545, 1, 97), (zX10_refreshShares, 888, 887, 32, 97), (zX10_refreshNextOnes, 913, 912, 34, 97), (zX10_refreshDiary, 958, 957, 39, 97), (zX11_in, 1346, 1345, 0, 109), (zX11_init, 1094, 1093, 0, 109), (zX11_isWho, 1343, 1342, 0, 109), (zX11_isPair, 1473, 1472, 0, 109), (zX11_isJudge, 1545, 1544, 71, 109), (zX11_isCase, 1549, 1548, 72, 109), (zX11_here, 1340, 1338, 1339, 109), (zX11_trait, 1351, 1349, 1350, 109), (zX11_feed, 1358, 1356, 1357, 109), (zX11_byteAt, 1372, 1371, 42, 109), (zX11_isLetter, 1375, 1374, 0, 109), (zX11_isDigit, 1392, 1391, 0, 109), (zX11_isThree, 1385, 1384, 44, 109), (zX11_word, 1381, 1380, 43, 109), (zX11_isSignByte, 1397, 1396, 0, 109), (zX11_next, 1368, 1367, 41, 109), (zX11_fail, 1421, 1420, 50, 109), (zX11_isSign, 1429, 1428, 52, 109), (zX11_takes, 1437, 1436, 54, 109), (zX11_part, 1417, 1416, 49, 109), (zX11_opens, 1433, 1432, 53, 109), (zX11_expression, 1401, 1400, 45, 109), (zX11_sum, 1405, 1404, 46, 109), (zX11_product, 1409, 1408, 47, 109), (zX11_factor, 1413, 1412, 48, 109), (zX11_ofTwo, 1425, 1424, 51, 109), (zX11_names, 1449, 1448, 57, 109), (zX11_comesTo, 1445, 1444, 56, 109), (zX11_weight, 1457, 1456, 59, 109), (zX11_trades, 1441, 1440, 55, 109), (zX11_isHeavy, 1453, 1452, 58, 109), (zX11_text, 1363, 1361, 1362, 109), (zX11_empty, 1461, 1459, 1460, 109), (zX11_told, 1465, 1463, 1464, 109), (zX11_fails, 1500, 1499, 65, 109), (zX11_valueOf, 1482, 1481, 61, 109), (zX11_named, 1490, 1489, 63, 109), (zX11_limited, 1494, 1493, 64, 109), (zX11_valueOf_, 1486, 1485, 62, 109), (zX11_asked, 1478, 1477, 60, 109), (zX11_value, 1470, 1468, 1469, 109), (zX11_why, 1506, 1504, 1505, 109), (zX11_burdenOf, 1514, 1513, 66, 109), (zX11_forcedOf, 1521, 1520, 0, 109), (zX11_isOpen, 1541, 1540, 70, 109), (zX11_tellsBurdens, 1533, 1532, 68, 109), (zX11_opens_, 1537, 1536, 69, 109), (zX11_costs, 1529, 1528, 67, 109), (zX11_burden, 1510, 1508, 1509, 109), (zX11_mark, 1518, 1516, 1517, 109), (zX11_open, 1525, 1523, 1524, 109), (zX11_openMany, 1729, 1728, 94, 109), (zX11_least, 1562, 1561, 73, 109), (zX11_toldOr, 1566, 1565, 0, 109), (zX11_picks, 1579, 1578, 74, 109), (zX11_tell, 1553, 1551, 1552, 109), (zX11_total, 1558, 1556, 1557, 109), (zX11_many, 1571, 1569, 1570, 109), (zX11_best, 1575, 1573, 1574, 109), (zX11_with, 1587, 1586, 75, 109), (zX11_lacking, 1591, 1590, 76, 109), (zX11_kind, 1583, 1581, 1582, 109), (zX11_room, 1595, 1593, 1594, 109), (zX11_enters, 1612, 1611, 79, 109), (zX11_walks, 1608, 1607, 78, 109), (zX11_lists, 1604, 1603, 77, 109), (zX11_next_, 1599, 1597, 1598, 109), (zX11_heaviest, 1620, 1619, 80, 109), (zX11_fair, 1616, 1614, 1615, 109), (zX11_finds, 1654, 1653, 87, 109), (zX11_greatest, 1650, 1649, 86, 109), (zX11_marking, 1646, 1645, 85, 109), (zX11_casesIn, 1634, 1633, 82, 109), (zX11_slack, 1642, 1641, 84, 109), (zX11_rise, 1658, 1657, 88, 109), (zX11_begins, 1630, 1629, 81, 109), (zX11_isLast, 1638, 1637, 83, 109), (zX11_solve, 1626, 1624, 1625, 109), (zX11_round, 1662, 1660, 1661, 109), (zX11_price, 1667, 1665, 1666, 109), (zX11_daysOf, 1676, 1675, 89, 109), (zX11_days, 1671, 1669, 1670, 109), (zX11_day, 1680, 1678, 1679, 109), (zX11_lack, 1684, 1682, 1683, 109), (zX11_without, 1689, 1687, 1688, 109), (zX11_casesMany, 1705, 1704, 91, 109), (zX11_reads, 1701, 1700, 90, 109), (zX11_tells, 1693, 1691, 1692, 109), (zX11_placeOf, 1710, 1709, 92, 109), (zX11_film, 1714, 1712, 1713, 109), (zX11_copies, 1725, 1724, 0, 109), (zX11_keeps, 1722, 1721, 93, 109), (zX11_image, 1718, 1716, 1717, 109), (zX11_back, 1733, 1731, 1732, 109), (zX11_marksOf, 1741, 1740, 95, 109), (zX11_count, 1737, 1735, 1736, 109), (zX11_isSheet, 1696, 1695, 0, 109), (zX11_sheet, 1745, 1743, 1744, 109), (zX11_put, 1749, 1747, 1748, 109), (zX11_item, 1753, 1751, 1752, 109), (zX11_copy, 1757, 1755, 1756, 109), (zX11_lay, 1761, 1759, 1760, 109), (zJ6_bitCount_0f7a4, 623, 622, 0, 111), (zJ9_floorDiv_f86c9, 587, 586, 0, 110), (zJ9_floorMod_f86c9, 590, 589, 0, 110), (zJ9_abs_067f4, 575, 574, 0, 110), (zJ9_max_f86c9, 584, 583, 0, 110), (zJ9_min_f86c9, 581, 580, 0, 110), (zJ7_fill_d0a16, 132, 131, 0, 99), (zJ7_fill_53178, 604, 603, 0, 99)]
def jNests : List Jvm.Cond := [(Jvm.Cond.methodLinkNest "CourtMatcher$Court" (46 : Nat) ({ cls := "CourtMatcher$Rule", name := "<init>", desc := "()V" } : Jvm.MethodName) "CourtMatcher"), (Jvm.Cond.methodLinkNest "CourtMatcher$Tape" (21 : Nat) ({ cls := "CourtMatcher$Rule", name := "<init>", desc := "()V" } : Jvm.MethodName) "CourtMatcher"), (Jvm.Cond.methodLinkNest "CourtMatcher" (25 : Nat) ({ cls := "CourtMatcher$Tape", name := "<init>", desc := "()V" } : Jvm.MethodName) "CourtMatcher"), (Jvm.Cond.methodLinkNest "CourtMatcher" (32 : Nat) ({ cls := "CourtMatcher$Teller", name := "<init>", desc := "()V" } : Jvm.MethodName) "CourtMatcher"), (Jvm.Cond.methodLinkNest "CourtMatcher" (39 : Nat) ({ cls := "CourtMatcher$Plan", name := "<init>", desc := "()V" } : Jvm.MethodName) "CourtMatcher"), (Jvm.Cond.methodLinkNest "CourtMatcher" (49 : Nat) ({ cls := "CourtMatcher$Greatest", name := "<init>", desc := "()V" } : Jvm.MethodName) "CourtMatcher"), (Jvm.Cond.methodLinkNest "CourtMatcher" (56 : Nat) ({ cls := "CourtMatcher$Rounds", name := "<init>", desc := "()V" } : Jvm.MethodName) "CourtMatcher"), (Jvm.Cond.methodLinkNest "CourtMatcher" (63 : Nat) ({ cls := "CourtMatcher$NextOnes", name := "<init>", desc := "()V" } : Jvm.MethodName) "CourtMatcher"), (Jvm.Cond.methodLinkNest "CourtMatcher" (70 : Nat) ({ cls := "CourtMatcher$Diary", name := "<init>", desc := "()V" } : Jvm.MethodName) "CourtMatcher"), (Jvm.Cond.methodLinkNest "CourtMatcher" (97 : Nat) ({ cls := "CourtMatcher$Sheet", name := "<init>", desc := "()V" } : Jvm.MethodName) "CourtMatcher")]
def jNestP : List Nat := [134, 204, 199, 237, 270, 322, 356, 384, 415, 441]
def jInsP : List (Nat × Nat) := [(122, 98), (414, 107), (321, 104), (383, 106), (269, 103), (355, 105), (133, 100), (440, 108), (198, 101), (236, 102), (114, 97), (1091, 109)]
def jLayP : List (List Nat) := [[182, 184, 186, 188, 190, 192, 194], [427, 429, 431, 433, 435], [339, 341, 343, 345, 347, 349, 351], [398, 400, 402, 404, 406, 408, 410], [299, 301, 303, 305, 307, 309, 311, 313, 315, 317], [369, 371, 373, 375, 377, 379], [150, 152, 154, 156, 158], [452, 454, 456], [216, 218, 220, 222, 224, 226, 228, 230, 232], [253, 255, 257, 259, 261, 263, 265], [476, 478, 480, 482, 484, 486, 488, 490, 492, 494, 496, 498, 500, 502, 504, 506, 508], [1176, 1178, 1180, 1182, 1184, 1186, 1188, 1190, 1192, 1194, 1196, 1198, 1200, 1202, 1204, 1206, 1208, 1210, 1212, 1214, 1216, 1218, 1220, 1222, 1224, 1226, 1228, 1230, 1232, 1234, 1236, 1238, 1240, 1242, 1244, 1246, 1248, 1250, 1252, 1254, 1256, 1258, 1260, 1262, 1264, 1266, 1268, 1270, 1272, 1274, 1276, 1278, 1280, 1282, 1284, 1286, 1288, 1290, 1292, 1294, 1296, 1298, 1300, 1302, 1304, 1306, 1308, 1310, 1312, 1314, 1316, 1318, 1320, 1322, 1324, 1326, 1328, 1330, 1332, 1334]]
/-- a field's row in its class's table -/
def jTf (f : Nat) : String × String × String × Bool := (jVc.getD (jFc f) (RX0, TX0, 7)).2.1 (jFj f)
def jTo (pc : Nat) (off : Int) : Int := (pc : Int) + off
def jCn (c : Jvm.ClassFile.Cond) : Nat := match c with
  | .eq => 0
  | .ne => 1
  | .lt => 2
  | .ge => 3
  | .gt => 4
  | .le => 5
/-- what an instruction of the code is to the abstract machine -/
def jRes (own pc : Nat) (cc : ByteArray) (r : Instr) (n : Nat) : Option (Instr × Nat) := match r with
  | .iload_n k => some (.iload k.val, n)
  | .iload k => some (.iload k, n)
  | .lload_n k => some (.lload k.val, n)
  | .lload k => some (.lload k, n)
  | .aload_n k => some (.aload k.val, n)
  | .aload k => some (.aload k, n)
  | .istore_n k => some (.istore k.val, n)
  | .istore k => some (.istore k, n)
  | .lstore_n k => some (.lstore k.val, n)
  | .lstore k => some (.lstore k, n)
  | .astore_n k => some (.astore k.val, n)
  | .astore k => some (.astore k, n)
  | .iinc i v => some (.iinc i v, n)
  | .iconst v => if v.bmod 4294967296 = v then some (.iconst v, n) else none
  | .bipush v => if v.bmod 256 = v then some (.iconst v, n) else none
  | .sipush v => if v.bmod 65536 = v then some (.iconst v, n) else none
  | .lconst k => some (.sipush (k.val : Int), n)
  | .ldc2_w i => ((jCks.getD own []).lookup i).map (fun q => (.sipush q.1, n))
  | .ldc i => ((jCis.getD own []).lookup i).map (fun q => (.iconst q.1, n))
  | .ldc_w i => ((jCis.getD own []).lookup i).map (fun q => (.iconst q.1, n))
  | .goto off => if 0 ≤ jTo pc off then some (.goto (jTo pc off), n) else none
  | .ifCond c off => if 0 ≤ jTo pc off then some (.ifCond c (jTo pc off), n) else none
  | .if_icmp c off => if 0 ≤ jTo pc off then some (.if_icmp c (jTo pc off), n) else none
  | .tableswitch d lo hi os => if 0 ≤ jTo pc d ∧ os.toList.all (fun o => decide (0 ≤ jTo pc o)) = true then some (.tableswitch (jTo pc d) lo hi (os.map (jTo pc)), n) else none
  | .lookupswitch d ps => if (ps.toList.zip (ps.toList.drop 1)).all (fun (a, next) => a.1 < next.1) = true ∧ 0 ≤ jTo pc d ∧ ps.toList.all (fun q => decide (0 ≤ jTo pc q.2)) = true then some (.lookupswitch (jTo pc d) (ps.map (fun q => (q.1, jTo pc q.2))), n) else none
  | .lcmp => (match decode cc (pc + 1) with
    | .ok (.ifCond c off, 3) => if 0 ≤ jTo (pc + 1) off then some (.multianewarray (jCn c) (jTo (pc + 1) off).toNat, n + 3) else none
    | _ => none)
  | .getfield i => ((jCfs.getD own []).lookup i).map (fun q => (.getfield q.1, n))
  | .putfield i => ((jCfs.getD own []).lookup i).bind (fun q => if (jFg q.1 = 3 ∨ jFg q.1 = 4) → jFc q.1 = own then some (.putfield q.1, n) else none)
  | .new i => ((jCcs.getD own []).lookup i).map (fun q => (.new q.1, n))
  | .anewarray i => ((jCys.getD own []).lookup i).map (fun q => (.anewarray q.1, n))
  | .invokevirtual i => ((jCms.getD own []).lookup i).bind (fun q => if jKi q.1 = 1 ∧ q.2.2 = 0 then some (.invokestatic q.1, n) else none)
  | .invokestatic i => (match (jCqs.getD own []).lookup i with
    | some _ => some (.swap, n)
    | none => ((jCms.getD own []).lookup i).bind (fun q => if jKi q.1 = 0 ∧ q.2.2 = 0 then some (.invokestatic q.1, n) else none))
  | .invokespecial i => (match (jCos.getD own []).lookup i with
    | some _ => some (.pop, n)
    | none => ((jCms.getD own []).lookup i).bind (fun q => if jKi q.1 = 2 then some (.invokestatic q.1, n) else none))
  | .dup => some (.dup, n)
  | .dup2 => some (.dup2, n)
  | .pop2 => some (.pop2, n)
  | .iadd => some (.iadd, n)
  | .isub => some (.isub, n)
  | .imul => some (.imul, n)
  | .iand => some (.iand, n)
  | .ior => some (.ior, n)
  | .ixor => some (.ixor, n)
  | .ishl => some (.ishl, n)
  | .ishr => some (.ishr, n)
  | .iushr => some (.iushr, n)
  | .idiv => some (.idiv, n)
  | .irem => some (.irem, n)
  | .i2l => some (.i2l, n)
  | .l2i => some (.l2i, n)
  | .i2b => some (.i2b, n)
  | .lneg => some (.lneg, n)
  | .ladd => some (.ladd, n)
  | .lsub => some (.lsub, n)
  | .lmul => some (.lmul, n)
  | .land => some (.land, n)
  | .lor => some (.lor, n)
  | .lxor => some (.lxor, n)
  | .lshl => some (.lshl, n)
  | .ldiv => some (.ldiv, n)
  | .lrem => some (.lrem, n)
  | .arraylength => some (.arraylength, n)
  | .iaload => some (.iaload, n)
  | .laload => some (.laload, n)
  | .aaload => some (.aaload, n)
  | .iastore => some (.iastore, n)
  | .lastore => some (.lastore, n)
  | .aastore => some (.aastore, n)
  | .newarray ty => some (.newarray ty, n)
  | .ireturn => some (.ireturn, n)
  | .lreturn => some (.lreturn, n)
  | .return_ => some (.return_, n)
  | _ => none
/-- an instruction's length -/
def jLen (r : Instr) (n : Nat) : Bool := match r with
  | .tableswitch _ _ _ _ => true
  | .lookupswitch _ _ => true
  | .bipush _ => Nat.beq n 2
  | .iload _ => Nat.beq n 2
  | .lload _ => Nat.beq n 2
  | .aload _ => Nat.beq n 2
  | .istore _ => Nat.beq n 2
  | .lstore _ => Nat.beq n 2
  | .astore _ => Nat.beq n 2
  | .newarray _ => Nat.beq n 2
  | .ldc _ => Nat.beq n 2
  | .sipush _ => Nat.beq n 3
  | .ldc_w _ => Nat.beq n 3
  | .ldc2_w _ => Nat.beq n 3
  | .goto _ => Nat.beq n 3
  | .ifCond _ _ => Nat.beq n 3
  | .if_icmp _ _ => Nat.beq n 3
  | .getfield _ => Nat.beq n 3
  | .putfield _ => Nat.beq n 3
  | .new _ => Nat.beq n 3
  | .anewarray _ => Nat.beq n 3
  | .invokevirtual _ => Nat.beq n 3
  | .invokestatic _ => Nat.beq n 3
  | .invokespecial _ => Nat.beq n 3
  | .iinc _ _ => Nat.beq n 3
  | _ => Nat.beq n 1
def jIs (o : Option (Instr × Nat)) (ai : Instr) (n : Nat) : Bool := match o with
  | some (a, k) => decide (a = ai) && Nat.beq k n
  | none => false
def jChk (own : Nat) (cc : ByteArray) (l : List (Nat × Instr × Nat)) : Bool := l.all (fun q => match decode cc q.1 with
  | .ok (r, n) => jLen r n && jIs (jRes own q.1 cc r n) q.2.1 q.2.2
  | _ => false)
theorem jdX0_init : jChk 0 cX0_init jcX0_init = true := by decide +kernel
theorem jdX0_take : jChk 0 cX0_take jcX0_take = true := by decide +kernel
theorem jdX0_seat : jChk 0 cX0_seat jcX0_seat = true := by decide +kernel
theorem jdX0_isIn : jChk 0 cX0_isIn jcX0_isIn = true := by decide +kernel
theorem jdX0_forcedBeside : jChk 0 cX0_forcedBeside jcX0_forcedBeside = true := by decide +kernel
theorem jdX0_marked : jChk 0 cX0_marked jcX0_marked = true := by decide +kernel
theorem jdX0_owned : jChk 0 cX0_owned jcX0_owned = true := by decide +kernel
theorem jdX0_namersOf : jChk 0 cX0_namersOf jcX0_namersOf = true := by decide +kernel
theorem jdX0_reachOf : jChk 0 cX0_reachOf jcX0_reachOf = true := by decide +kernel
theorem jdX0_weighRules : jChk 0 cX0_weighRules jcX0_weighRules = true := by decide +kernel
theorem jdX0_refusalOf : jChk 0 cX0_refusalOf jcX0_refusalOf = true := by decide +kernel
theorem jdX1_init : jChk 1 cX1_init jcX1_init = true := by decide +kernel
theorem jdX1_write : jChk 1 cX1_write jcX1_write = true := by decide +kernel
theorem jdX1_hear : jChk 1 cX1_hear jcX1_hear = true := by decide +kernel
theorem jdX2_init : jChk 2 cX2_init jcX2_init = true := by decide +kernel
theorem jdX2_find : jChk 2 cX2_find jcX2_find = true := by decide +kernel
theorem jdX2_grow : jChk 2 cX2_grow jcX2_grow = true := by decide +kernel
theorem jdX2_turn : jChk 2 cX2_turn jcX2_turn = true := by decide +kernel
theorem jdX2_spread : jChk 2 cX2_spread jcX2_spread = true := by decide +kernel
theorem jdX3_init : jChk 3 cX3_init jcX3_init = true := by decide +kernel
theorem jdX3_find : jChk 3 cX3_find jcX3_find = true := by decide +kernel
theorem jdX3_merge : jChk 3 cX3_merge jcX3_merge = true := by decide +kernel
theorem jdX3_headTotal : jChk 3 cX3_headTotal jcX3_headTotal = true := by decide +kernel
theorem jdX3_firstJudge : jChk 3 cX3_firstJudge jcX3_firstJudge = true := by decide +kernel
theorem jdX3_follow : jChk 3 cX3_follow jcX3_follow = true := by decide +kernel
theorem jdX3_placeOf : jChk 3 cX3_placeOf jcX3_placeOf = true := by decide +kernel
theorem jdX4_init : jChk 4 cX4_init jcX4_init = true := by decide +kernel
theorem jdX4_load : jChk 4 cX4_load jcX4_load = true := by decide +kernel
theorem jdX4_take : jChk 4 cX4_take jcX4_take = true := by decide +kernel
theorem jdX4_openBy : jChk 4 cX4_openBy jcX4_openBy = true := by decide +kernel
theorem jdX4_force : jChk 4 cX4_force jcX4_force = true := by decide +kernel
theorem jdX4_isOpen : jChk 4 cX4_isOpen jcX4_isOpen = true := by decide +kernel
theorem jdX4_openPairs : jChk 4 cX4_openPairs jcX4_openPairs = true := by decide +kernel
theorem jdX4_closeJudge : jChk 4 cX4_closeJudge jcX4_closeJudge = true := by decide +kernel
theorem jdX4_closeHeavier : jChk 4 cX4_closeHeavier jcX4_closeHeavier = true := by decide +kernel
theorem jdX4_heavierThan : jChk 4 cX4_heavierThan jcX4_heavierThan = true := by decide +kernel
theorem jdX4_weigh : jChk 4 cX4_weigh jcX4_weigh = true := by decide +kernel
theorem jdX4_listCases : jChk 4 cX4_listCases jcX4_listCases = true := by decide +kernel
theorem jdX4_canTake : jChk 4 cX4_canTake jcX4_canTake = true := by decide +kernel
theorem jdX4_weighFrom : jChk 4 cX4_weighFrom jcX4_weighFrom = true := by decide +kernel
theorem jdX4_leads : jChk 4 cX4_leads jcX4_leads = true := by decide +kernel
theorem jdX4_pick : jChk 4 cX4_pick jcX4_pick = true := by decide +kernel
theorem jdX4_share : jChk 4 cX4_share jcX4_share = true := by decide +kernel
theorem jdX4_shareFrom : jChk 4 cX4_shareFrom jcX4_shareFrom = true := by decide +kernel
theorem jdX4_follows : jChk 4 cX4_follows jcX4_follows = true := by decide +kernel
theorem jdX4_sumOf : jChk 4 cX4_sumOf jcX4_sumOf = true := by decide +kernel
theorem jdX4_sharedOf : jChk 4 cX4_sharedOf jcX4_sharedOf = true := by decide +kernel
theorem jdX5_init : jChk 5 cX5_init jcX5_init = true := by decide +kernel
theorem jdX5_make : jChk 5 cX5_make jcX5_make = true := by decide +kernel
theorem jdX5_firstPay : jChk 5 cX5_firstPay jcX5_firstPay = true := by decide +kernel
theorem jdX5_slack : jChk 5 cX5_slack jcX5_slack = true := by decide +kernel
theorem jdX5_findTight : jChk 5 cX5_findTight jcX5_findTight = true := by decide +kernel
theorem jdX5_leastSlack : jChk 5 cX5_leastSlack jcX5_leastSlack = true := by decide +kernel
theorem jdX5_keep : jChk 5 cX5_keep jcX5_keep = true := by decide +kernel
theorem jdX5_raise : jChk 5 cX5_raise jcX5_raise = true := by decide +kernel
theorem jdX6_init : jChk 6 cX6_init jcX6_init = true := by decide +kernel
theorem jdX6_clear : jChk 6 cX6_clear jcX6_clear = true := by decide +kernel
theorem jdX6_take : jChk 6 cX6_take jcX6_take = true := by decide +kernel
theorem jdX6_add : jChk 6 cX6_add jcX6_add = true := by decide +kernel
theorem jdX6_landHere : jChk 6 cX6_landHere jcX6_landHere = true := by decide +kernel
theorem jdX6_names : jChk 6 cX6_names jcX6_names = true := by decide +kernel
theorem jdX6_weightBy : jChk 6 cX6_weightBy jcX6_weightBy = true := by decide +kernel
theorem jdX7_init : jChk 7 cX7_init jcX7_init = true := by decide +kernel
theorem jdX7_become : jChk 7 cX7_become jcX7_become = true := by decide +kernel
theorem jdX7_holds : jChk 7 cX7_holds jcX7_holds = true := by decide +kernel
theorem jdX7_set : jChk 7 cX7_set jcX7_set = true := by decide +kernel
theorem jdX8_init : jChk 8 cX8_init jcX8_init = true := by decide +kernel
theorem jdX8_add : jChk 8 cX8_add jcX8_add = true := by decide +kernel
theorem jdX8_parse : jChk 8 cX8_parse jcX8_parse = true := by decide +kernel
theorem jdX8_expr : jChk 8 cX8_expr jcX8_expr = true := by decide +kernel
theorem jdX8_sum : jChk 8 cX8_sum jcX8_sum = true := by decide +kernel
theorem jdX8_product : jChk 8 cX8_product jcX8_product = true := by decide +kernel
theorem jdX8_factor : jChk 8 cX8_factor jcX8_factor = true := by decide +kernel
theorem jdX8_atom : jChk 8 cX8_atom jcX8_atom = true := by decide +kernel
theorem jdX8_function : jChk 8 cX8_function jcX8_function = true := by decide +kernel
theorem jdX8_part : jChk 8 cX8_part jcX8_part = true := by decide +kernel
theorem jdX8_enter : jChk 8 cX8_enter jcX8_enter = true := by decide +kernel
theorem jdX8_leave : jChk 8 cX8_leave jcX8_leave = true := by decide +kernel
theorem jdX8_step : jChk 8 cX8_step jcX8_step = true := by decide +kernel
theorem jdX8_word : jChk 8 cX8_word jcX8_word = true := by decide +kernel
theorem jdX8_nameOfOne : jChk 8 cX8_nameOfOne jcX8_nameOfOne = true := by decide +kernel
theorem jdX8_nameOfThree : jChk 8 cX8_nameOfThree jcX8_nameOfThree = true := by decide +kernel
theorem jdX8_digits : jChk 8 cX8_digits jcX8_digits = true := by decide +kernel
theorem jdX8_isLetter : jChk 8 cX8_isLetter jcX8_isLetter = true := by decide +kernel
theorem jdX8_isDigit : jChk 8 cX8_isDigit jcX8_isDigit = true := by decide +kernel
theorem jdX8_isSign : jChk 8 cX8_isSign jcX8_isSign = true := by decide +kernel
theorem jdX9_init : jChk 9 cX9_init jcX9_init = true := by decide +kernel
theorem jdX9_burdenOf : jChk 9 cX9_burdenOf jcX9_burdenOf = true := by decide +kernel
theorem jdX9_tellBy : jChk 9 cX9_tellBy jcX9_tellBy = true := by decide +kernel
theorem jdX9_read : jChk 9 cX9_read jcX9_read = true := by decide +kernel
theorem jdX9_operand : jChk 9 cX9_operand jcX9_operand = true := by decide +kernel
theorem jdX9_join : jChk 9 cX9_join jcX9_join = true := by decide +kernel
theorem jdX9_fail : jChk 9 cX9_fail jcX9_fail = true := by decide +kernel
theorem jdX10_init : jChk 10 cX10_init jcX10_init = true := by decide +kernel
theorem jdX10_here : jChk 10 cX10_here jcX10_here = true := by decide +kernel
theorem jdX10_trait : jChk 10 cX10_trait jcX10_trait = true := by decide +kernel
theorem jdX10_tell : jChk 10 cX10_tell jcX10_tell = true := by decide +kernel
theorem jdX10_burden : jChk 10 cX10_burden jcX10_burden = true := by decide +kernel
theorem jdX10_mark : jChk 10 cX10_mark jcX10_mark = true := by decide +kernel
theorem jdX10_open : jChk 10 cX10_open jcX10_open = true := by decide +kernel
theorem jdX10_feed : jChk 10 cX10_feed jcX10_feed = true := by decide +kernel
theorem jdX10_text : jChk 10 cX10_text jcX10_text = true := by decide +kernel
theorem jdX10_empty : jChk 10 cX10_empty jcX10_empty = true := by decide +kernel
theorem jdX10_told : jChk 10 cX10_told jcX10_told = true := by decide +kernel
theorem jdX10_value : jChk 10 cX10_value jcX10_value = true := by decide +kernel
theorem jdX10_why : jChk 10 cX10_why jcX10_why = true := by decide +kernel
theorem jdX10_solve : jChk 10 cX10_solve jcX10_solve = true := by decide +kernel
theorem jdX10_round : jChk 10 cX10_round jcX10_round = true := by decide +kernel
theorem jdX10_price : jChk 10 cX10_price jcX10_price = true := by decide +kernel
theorem jdX10_total : jChk 10 cX10_total jcX10_total = true := by decide +kernel
theorem jdX10_many : jChk 10 cX10_many jcX10_many = true := by decide +kernel
theorem jdX10_best : jChk 10 cX10_best jcX10_best = true := by decide +kernel
theorem jdX10_kind : jChk 10 cX10_kind jcX10_kind = true := by decide +kernel
theorem jdX10_room : jChk 10 cX10_room jcX10_room = true := by decide +kernel
theorem jdX10_next : jChk 10 cX10_next jcX10_next = true := by decide +kernel
theorem jdX10_fair : jChk 10 cX10_fair jcX10_fair = true := by decide +kernel
theorem jdX10_days : jChk 10 cX10_days jcX10_days = true := by decide +kernel
theorem jdX10_day : jChk 10 cX10_day jcX10_day = true := by decide +kernel
theorem jdX10_lack : jChk 10 cX10_lack jcX10_lack = true := by decide +kernel
theorem jdX10_without : jChk 10 cX10_without jcX10_without = true := by decide +kernel
theorem jdX10_tells : jChk 10 cX10_tells jcX10_tells = true := by decide +kernel
theorem jdX10_film : jChk 10 cX10_film jcX10_film = true := by decide +kernel
theorem jdX10_image : jChk 10 cX10_image jcX10_image = true := by decide +kernel
theorem jdX10_back : jChk 10 cX10_back jcX10_back = true := by decide +kernel
theorem jdX10_count : jChk 10 cX10_count jcX10_count = true := by decide +kernel
theorem jdX10_sheet : jChk 10 cX10_sheet jcX10_sheet = true := by decide +kernel
theorem jdX10_put : jChk 10 cX10_put jcX10_put = true := by decide +kernel
theorem jdX10_item : jChk 10 cX10_item jcX10_item = true := by decide +kernel
theorem jdX10_copy : jChk 10 cX10_copy jcX10_copy = true := by decide +kernel
theorem jdX10_lay : jChk 10 cX10_lay jcX10_lay = true := by decide +kernel
theorem jdX10_isSide : jChk 10 cX10_isSide jcX10_isSide = true := by decide +kernel
theorem jdX10_isSeat : jChk 10 cX10_isSeat jcX10_isSeat = true := by decide +kernel
theorem jdX10_isPair : jChk 10 cX10_isPair jcX10_isPair = true := by decide +kernel
theorem jdX10_isRule : jChk 10 cX10_isRule jcX10_isRule = true := by decide +kernel
theorem jdX10_isSheet : jChk 10 cX10_isSheet jcX10_isSheet = true := by decide +kernel
theorem jdX10_changed : jChk 10 cX10_changed jcX10_changed = true := by decide +kernel
theorem jdX10_refreshPlan : jChk 10 cX10_refreshPlan jcX10_refreshPlan = true := by decide +kernel
theorem jdX10_refreshShares : jChk 10 cX10_refreshShares jcX10_refreshShares = true := by decide +kernel
theorem jdX10_refreshNextOnes : jChk 10 cX10_refreshNextOnes jcX10_refreshNextOnes = true := by decide +kernel
theorem jdX10_refreshDiary : jChk 10 cX10_refreshDiary jcX10_refreshDiary = true := by decide +kernel
theorem jdX11_in : jChk 11 cX11_in jcX11_in = true := by decide +kernel
theorem jdX11_init : jChk 11 cX11_init jcX11_init = true := by decide +kernel
theorem jdX11_isWho : jChk 11 cX11_isWho jcX11_isWho = true := by decide +kernel
theorem jdX11_isPair : jChk 11 cX11_isPair jcX11_isPair = true := by decide +kernel
theorem jdX11_isJudge : jChk 11 cX11_isJudge jcX11_isJudge = true := by decide +kernel
theorem jdX11_isCase : jChk 11 cX11_isCase jcX11_isCase = true := by decide +kernel
theorem jdX11_here : jChk 11 cX11_here jcX11_here = true := by decide +kernel
theorem jdX11_trait : jChk 11 cX11_trait jcX11_trait = true := by decide +kernel
theorem jdX11_feed : jChk 11 cX11_feed jcX11_feed = true := by decide +kernel
theorem jdX11_byteAt : jChk 11 cX11_byteAt jcX11_byteAt = true := by decide +kernel
theorem jdX11_isLetter : jChk 11 cX11_isLetter jcX11_isLetter = true := by decide +kernel
theorem jdX11_isDigit : jChk 11 cX11_isDigit jcX11_isDigit = true := by decide +kernel
theorem jdX11_isThree : jChk 11 cX11_isThree jcX11_isThree = true := by decide +kernel
theorem jdX11_word : jChk 11 cX11_word jcX11_word = true := by decide +kernel
theorem jdX11_isSignByte : jChk 11 cX11_isSignByte jcX11_isSignByte = true := by decide +kernel
theorem jdX11_next : jChk 11 cX11_next jcX11_next = true := by decide +kernel
theorem jdX11_fail : jChk 11 cX11_fail jcX11_fail = true := by decide +kernel
theorem jdX11_isSign : jChk 11 cX11_isSign jcX11_isSign = true := by decide +kernel
theorem jdX11_takes : jChk 11 cX11_takes jcX11_takes = true := by decide +kernel
theorem jdX11_part : jChk 11 cX11_part jcX11_part = true := by decide +kernel
theorem jdX11_opens : jChk 11 cX11_opens jcX11_opens = true := by decide +kernel
theorem jdX11_expression : jChk 11 cX11_expression jcX11_expression = true := by decide +kernel
theorem jdX11_sum : jChk 11 cX11_sum jcX11_sum = true := by decide +kernel
theorem jdX11_product : jChk 11 cX11_product jcX11_product = true := by decide +kernel
theorem jdX11_factor : jChk 11 cX11_factor jcX11_factor = true := by decide +kernel
theorem jdX11_ofTwo : jChk 11 cX11_ofTwo jcX11_ofTwo = true := by decide +kernel
theorem jdX11_names : jChk 11 cX11_names jcX11_names = true := by decide +kernel
theorem jdX11_comesTo : jChk 11 cX11_comesTo jcX11_comesTo = true := by decide +kernel
theorem jdX11_weight : jChk 11 cX11_weight jcX11_weight = true := by decide +kernel
theorem jdX11_trades : jChk 11 cX11_trades jcX11_trades = true := by decide +kernel
theorem jdX11_isHeavy : jChk 11 cX11_isHeavy jcX11_isHeavy = true := by decide +kernel
theorem jdX11_text : jChk 11 cX11_text jcX11_text = true := by decide +kernel
theorem jdX11_empty : jChk 11 cX11_empty jcX11_empty = true := by decide +kernel
theorem jdX11_told : jChk 11 cX11_told jcX11_told = true := by decide +kernel
theorem jdX11_fails : jChk 11 cX11_fails jcX11_fails = true := by decide +kernel
theorem jdX11_valueOf : jChk 11 cX11_valueOf jcX11_valueOf = true := by decide +kernel
theorem jdX11_named : jChk 11 cX11_named jcX11_named = true := by decide +kernel
theorem jdX11_limited : jChk 11 cX11_limited jcX11_limited = true := by decide +kernel
theorem jdX11_valueOf_ : jChk 11 cX11_valueOf_ jcX11_valueOf_ = true := by decide +kernel
theorem jdX11_asked : jChk 11 cX11_asked jcX11_asked = true := by decide +kernel
theorem jdX11_value : jChk 11 cX11_value jcX11_value = true := by decide +kernel
theorem jdX11_why : jChk 11 cX11_why jcX11_why = true := by decide +kernel
theorem jdX11_burdenOf : jChk 11 cX11_burdenOf jcX11_burdenOf = true := by decide +kernel
theorem jdX11_forcedOf : jChk 11 cX11_forcedOf jcX11_forcedOf = true := by decide +kernel
theorem jdX11_isOpen : jChk 11 cX11_isOpen jcX11_isOpen = true := by decide +kernel
theorem jdX11_tellsBurdens : jChk 11 cX11_tellsBurdens jcX11_tellsBurdens = true := by decide +kernel
theorem jdX11_opens_ : jChk 11 cX11_opens_ jcX11_opens_ = true := by decide +kernel
theorem jdX11_costs : jChk 11 cX11_costs jcX11_costs = true := by decide +kernel
theorem jdX11_burden : jChk 11 cX11_burden jcX11_burden = true := by decide +kernel
theorem jdX11_mark : jChk 11 cX11_mark jcX11_mark = true := by decide +kernel
theorem jdX11_open : jChk 11 cX11_open jcX11_open = true := by decide +kernel
theorem jdX11_openMany : jChk 11 cX11_openMany jcX11_openMany = true := by decide +kernel
theorem jdX11_least : jChk 11 cX11_least jcX11_least = true := by decide +kernel
theorem jdX11_toldOr : jChk 11 cX11_toldOr jcX11_toldOr = true := by decide +kernel
theorem jdX11_picks : jChk 11 cX11_picks jcX11_picks = true := by decide +kernel
theorem jdX11_tell : jChk 11 cX11_tell jcX11_tell = true := by decide +kernel
theorem jdX11_total : jChk 11 cX11_total jcX11_total = true := by decide +kernel
theorem jdX11_many : jChk 11 cX11_many jcX11_many = true := by decide +kernel
theorem jdX11_best : jChk 11 cX11_best jcX11_best = true := by decide +kernel
theorem jdX11_with : jChk 11 cX11_with jcX11_with = true := by decide +kernel
theorem jdX11_lacking : jChk 11 cX11_lacking jcX11_lacking = true := by decide +kernel
theorem jdX11_kind : jChk 11 cX11_kind jcX11_kind = true := by decide +kernel
theorem jdX11_room : jChk 11 cX11_room jcX11_room = true := by decide +kernel
theorem jdX11_enters : jChk 11 cX11_enters jcX11_enters = true := by decide +kernel
theorem jdX11_walks : jChk 11 cX11_walks jcX11_walks = true := by decide +kernel
theorem jdX11_lists : jChk 11 cX11_lists jcX11_lists = true := by decide +kernel
theorem jdX11_next_ : jChk 11 cX11_next_ jcX11_next_ = true := by decide +kernel
theorem jdX11_heaviest : jChk 11 cX11_heaviest jcX11_heaviest = true := by decide +kernel
theorem jdX11_fair : jChk 11 cX11_fair jcX11_fair = true := by decide +kernel
theorem jdX11_finds : jChk 11 cX11_finds jcX11_finds = true := by decide +kernel
theorem jdX11_greatest : jChk 11 cX11_greatest jcX11_greatest = true := by decide +kernel
theorem jdX11_marking : jChk 11 cX11_marking jcX11_marking = true := by decide +kernel
theorem jdX11_casesIn : jChk 11 cX11_casesIn jcX11_casesIn = true := by decide +kernel
theorem jdX11_slack : jChk 11 cX11_slack jcX11_slack = true := by decide +kernel
theorem jdX11_rise : jChk 11 cX11_rise jcX11_rise = true := by decide +kernel
theorem jdX11_begins : jChk 11 cX11_begins jcX11_begins = true := by decide +kernel
theorem jdX11_isLast : jChk 11 cX11_isLast jcX11_isLast = true := by decide +kernel
theorem jdX11_solve : jChk 11 cX11_solve jcX11_solve = true := by decide +kernel
theorem jdX11_round : jChk 11 cX11_round jcX11_round = true := by decide +kernel
theorem jdX11_price : jChk 11 cX11_price jcX11_price = true := by decide +kernel
theorem jdX11_daysOf : jChk 11 cX11_daysOf jcX11_daysOf = true := by decide +kernel
theorem jdX11_days : jChk 11 cX11_days jcX11_days = true := by decide +kernel
theorem jdX11_day : jChk 11 cX11_day jcX11_day = true := by decide +kernel
theorem jdX11_lack : jChk 11 cX11_lack jcX11_lack = true := by decide +kernel
theorem jdX11_without : jChk 11 cX11_without jcX11_without = true := by decide +kernel
theorem jdX11_casesMany : jChk 11 cX11_casesMany jcX11_casesMany = true := by decide +kernel
theorem jdX11_reads : jChk 11 cX11_reads jcX11_reads = true := by decide +kernel
theorem jdX11_tells : jChk 11 cX11_tells jcX11_tells = true := by decide +kernel
theorem jdX11_placeOf : jChk 11 cX11_placeOf jcX11_placeOf = true := by decide +kernel
theorem jdX11_film : jChk 11 cX11_film jcX11_film = true := by decide +kernel
theorem jdX11_copies : jChk 11 cX11_copies jcX11_copies = true := by decide +kernel
theorem jdX11_keeps : jChk 11 cX11_keeps jcX11_keeps = true := by decide +kernel
theorem jdX11_image : jChk 11 cX11_image jcX11_image = true := by decide +kernel
theorem jdX11_back : jChk 11 cX11_back jcX11_back = true := by decide +kernel
theorem jdX11_marksOf : jChk 11 cX11_marksOf jcX11_marksOf = true := by decide +kernel
theorem jdX11_count : jChk 11 cX11_count jcX11_count = true := by decide +kernel
theorem jdX11_isSheet : jChk 11 cX11_isSheet jcX11_isSheet = true := by decide +kernel
theorem jdX11_sheet : jChk 11 cX11_sheet jcX11_sheet = true := by decide +kernel
theorem jdX11_put : jChk 11 cX11_put jcX11_put = true := by decide +kernel
theorem jdX11_item : jChk 11 cX11_item jcX11_item = true := by decide +kernel
theorem jdX11_copy : jChk 11 cX11_copy jcX11_copy = true := by decide +kernel
theorem jdX11_lay : jChk 11 cX11_lay jcX11_lay = true := by decide +kernel
theorem jdJ6_bitCount_0f7a4 : jChk 13 cJ6_bitCount_0f7a4 jcJ6_bitCount_0f7a4 = true := by decide +kernel
theorem jdJ9_floorDiv_f86c9 : jChk 14 cJ9_floorDiv_f86c9 jcJ9_floorDiv_f86c9 = true := by decide +kernel
theorem jdJ9_floorMod_f86c9 : jChk 14 cJ9_floorMod_f86c9 jcJ9_floorMod_f86c9 = true := by decide +kernel
theorem jdJ9_abs_067f4 : jChk 14 cJ9_abs_067f4 jcJ9_abs_067f4 = true := by decide +kernel
theorem jdJ9_max_f86c9 : jChk 14 cJ9_max_f86c9 jcJ9_max_f86c9 = true := by decide +kernel
theorem jdJ9_min_f86c9 : jChk 14 cJ9_min_f86c9 jcJ9_min_f86c9 = true := by decide +kernel
theorem jdJ7_fill_d0a16 : jChk 15 cJ7_fill_d0a16 jcJ7_fill_d0a16 = true := by decide +kernel
theorem jdJ7_fill_53178 : jChk 15 cJ7_fill_53178 jcJ7_fill_53178 = true := by decide +kernel
def jBW : List Jvm.Cond := lw_tbl.filter goodWord
def jHas (p : Nat) (c : Jvm.Cond) : Bool := decide (lw_tbl[p]? = some c)
theorem jHas_mem {p : Nat} {c : Jvm.Cond} (h : jHas p c = true) : c ∈ lw_tbl := List.mem_of_getElem? (of_decide_eq_true h)
theorem jCf_all : (List.range 16).all (fun own => (jCfs.getD own []).all (fun q => jHas q.2.2 (.fieldLink (jRn own) q.1 (jTf q.2.1).1 (jTf q.2.1).2.1 (jTf q.2.1).2.2.1) && decide (jFc q.2.1 < 12 ∧ jFj q.2.1 < jNf (jFc q.2.1) ∧ jFf (jFc q.2.1) (jFj q.2.1) = q.2.1))) = true := by decide +kernel
theorem jCc_all : (List.range 16).all (fun own => (jCcs.getD own []).all (fun q => jHas q.2.2 (.classLink (jRn own) q.1 (jRn q.2.1)) && decide (q.2.1 < 12))) = true := by decide +kernel
theorem jCy_all : (List.range 16).all (fun own => (jCys.getD own []).all (fun q => jHas q.2.2 (.classLink (jRn own) q.1 (jRn (q.2.1 + 4))) && decide (q.2.1 = 2 ∨ q.2.1 = 3))) = true := by decide +kernel
theorem jCk_all : (List.range 16).all (fun own => (jCks.getD own []).all (fun q => jHas q.2.2 (.constantLong (jRn own) q.1 (Int64.ofInt q.2.1)) && decide ((Int64.ofInt q.2.1).toInt = q.2.1))) = true := by decide +kernel
theorem jCi_all : (List.range 16).all (fun own => (jCis.getD own []).all (fun q => jHas q.2.2 (.constant (jRn own) q.1 (Int32.ofInt q.2.1)) && decide ((Int32.ofInt q.2.1).toInt = q.2.1))) = true := by decide +kernel
theorem jCo_all : (List.range 16).all (fun own => (jCos.getD own []).all (fun q => jHas q.2.2 (.methodLink (jRn own) q.1 Jvm.Lib.objectInit))) = true := by decide +kernel
theorem jCq_all : (List.range 16).all (fun own => (jCqs.getD own []).all (fun q => jHas q.2.2 (.methodLink (jRn own) q.1 arraycopyName))) = true := by decide +kernel
theorem jCm_all : (List.range 16).all (fun own => (jCms.getD own []).all (fun q => decide (q.2.1 ∈ jZs) && decide (jMd q.2.1 = 1 → jKi q.2.1 = 2) && (if q.2.2.2 = 0 then jHas q.2.2.1 (.methodLink (jRn own) q.1 (jYn q.2.1)) else (jHas q.2.2.1 (.methodLinkNest (jRn own) q.1 (jYn q.2.1) "CourtMatcher") && decide (Jvm.Cond.methodLinkNest (jRn own) q.1 (jYn q.2.1) "CourtMatcher" ∈ jNests))))) = true := by decide +kernel
theorem jMw_a : jMw.all (fun q => (if jKi q.1 = 0 then jHas q.2.2.1 (.static (jYn q.1)) else jHas q.2.2.1 (.instanceMethod (jYn q.1)))) = true := by decide +kernel
theorem jMw_b : jMw.all (fun q => (if jKi q.1 = 1 then jHas q.2.2.2.1 (.selects (jRn (jCl q.1)) (jYn q.1) (jYn q.1)) else true) && jHas q.2.2.2.2 (.initialized (jYn q.1).cls)) = true := by decide +kernel
theorem jMw_c : jMw.all (fun q => decide ((jYn q.1).cls = jRn (jCl q.1)) && decide (jKi q.1 = 2 → (jYn q.1).name = "<init>")) = true := by decide +kernel
theorem jMw_d : jMw.all (fun q => decide (jRy q.1 = (match jRt q.1 with
    | 0 => none
    | 1 => some .int
    | 2 => some .long
    | _ => some .boolean)) && decide (jMd q.1 ≠ 1 → jMc q.1 = 0) && decide (jKi q.1 ≠ 0 → jCl q.1 < 12 ∧ 1 ≤ jNa q.1) && decide (jMx q.1 ≤ 40) && decide (jRt q.1 ≤ 3) && decide (jKi q.1 ≤ 2) && decide (jMd q.1 ≤ 2) && decide (jCl q.1 < 16)) = true := by decide +kernel
theorem jRn_plain : jRns.all (fun c => decide (c ≠ "java/lang/invoke/MethodHandle") && decide (c ≠ "java/lang/invoke/VarHandle")) = true := by decide +kernel
theorem jMw_p : jMw.all (fun q => plainFor (jYn q.1)) = true := by decide +kernel
theorem jMw_e0 : ((jMw.drop 0).take 25).all (fun q => decide ((parseMethodDescriptor (jYn q.1).desc).map (fun d => d.parameters.length) = some (if jKi q.1 = 0 then jNa q.1 else jNa q.1 - 1))) = true := by decide +kernel
theorem jMw_e1 : ((jMw.drop 25).take 25).all (fun q => decide ((parseMethodDescriptor (jYn q.1).desc).map (fun d => d.parameters.length) = some (if jKi q.1 = 0 then jNa q.1 else jNa q.1 - 1))) = true := by decide +kernel
theorem jMw_e2 : ((jMw.drop 50).take 25).all (fun q => decide ((parseMethodDescriptor (jYn q.1).desc).map (fun d => d.parameters.length) = some (if jKi q.1 = 0 then jNa q.1 else jNa q.1 - 1))) = true := by decide +kernel
theorem jMw_e3 : ((jMw.drop 75).take 25).all (fun q => decide ((parseMethodDescriptor (jYn q.1).desc).map (fun d => d.parameters.length) = some (if jKi q.1 = 0 then jNa q.1 else jNa q.1 - 1))) = true := by decide +kernel
theorem jMw_e4 : ((jMw.drop 100).take 25).all (fun q => decide ((parseMethodDescriptor (jYn q.1).desc).map (fun d => d.parameters.length) = some (if jKi q.1 = 0 then jNa q.1 else jNa q.1 - 1))) = true := by decide +kernel
theorem jMw_e5 : ((jMw.drop 125).take 25).all (fun q => decide ((parseMethodDescriptor (jYn q.1).desc).map (fun d => d.parameters.length) = some (if jKi q.1 = 0 then jNa q.1 else jNa q.1 - 1))) = true := by decide +kernel
theorem jMw_e6 : ((jMw.drop 150).take 25).all (fun q => decide ((parseMethodDescriptor (jYn q.1).desc).map (fun d => d.parameters.length) = some (if jKi q.1 = 0 then jNa q.1 else jNa q.1 - 1))) = true := by decide +kernel
theorem jMw_e7 : ((jMw.drop 175).take 25).all (fun q => decide ((parseMethodDescriptor (jYn q.1).desc).map (fun d => d.parameters.length) = some (if jKi q.1 = 0 then jNa q.1 else jNa q.1 - 1))) = true := by decide +kernel
theorem jMw_e8 : ((jMw.drop 200).take 25).all (fun q => decide ((parseMethodDescriptor (jYn q.1).desc).map (fun d => d.parameters.length) = some (if jKi q.1 = 0 then jNa q.1 else jNa q.1 - 1))) = true := by decide +kernel
theorem jMw_e9 : ((jMw.drop 225).take 25).all (fun q => decide ((parseMethodDescriptor (jYn q.1).desc).map (fun d => d.parameters.length) = some (if jKi q.1 = 0 then jNa q.1 else jNa q.1 - 1))) = true := by decide +kernel
theorem jMw_zs : jZs.all (fun z => decide (z = zL_law) || (jMw.map (fun q => q.1)).contains z) = true := by decide +kernel
theorem jNest_all : (jNests.zip jNestP).all (fun q => jHas q.2 q.1) = true ∧ jNests.length = jNestP.length := by decide +kernel
theorem jIns_all : (List.range 12).all (fun c => jHas (jInsP.getD c (0, 0)).1 (.instantiable (jRn c) (jNf c)) && jHas (jInsP.getD c (0, 0)).2 (.initialized (jRn c)) && decide (((jVc.getD c (RX0, TX0, 7)).1, (jVc.getD c (RX0, TX0, 7)).2.2) = (jRn c, jNf c))) = true := by decide +kernel
theorem jLay_all : (List.range 12).all (fun c => (List.range (jNf c)).all (fun j => jHas ((jLayP.getD c []).getD j 0) (u_lay (jRn c) (jVc.getD c (RX0, TX0, 7)).2.1 j))) = true := by decide +kernel
theorem jOdd_all : (jHas 119 (.instanceMethod Jvm.Lib.objectInit) && jHas 120 (.code Jvm.Lib.objectInit ⟨#[0xb1]⟩ 1 none) && jHas 848 (.native arraycopyName) && jHas 847 (.static arraycopyName) && jHas 112 (.initialized "java/lang/System") && jHas 161 (.arrayClass .int) && jHas 162 (.arrayClass .long) && jHas 128 (.arrayOver (.object RX6)) && jHas 439 (.arrayOver (.object RX7))) = true := by decide +kernel
def jTc (c : Nat) : u_T := (jVc.getD c (RX0, TX0, 7)).2.1
theorem jLayR : (List.range 161).all (fun k => if jKd k < 12 then (List.range (jNf (jKd k))).all (fun j => decide ((jFg (jFf (jKd k) j) = 3 → jKd ((k : Int) + jFo (jFf (jKd k) j)) = jFt (jFf (jKd k) j)) ∧ (jFg (jFf (jKd k) j) = 4 → jKd ((k : Int) + jFo (jFf (jKd k) j)) = 20 + jFt (jFf (jKd k) j) ∧ jLn ((k : Int) + jFo (jFf (jKd k) j)) = jFl (jFf (jKd k) j) ∧ jFt (jFf (jKd k) j) < 4))) else true) = true := by decide +kernel
theorem jFlds : (List.range 12).all (fun c => (List.range (jNf c)).all (fun j => decide (jFc (jFf c j) = c ∧ jFj (jFf c j) = j ∧ jFg (jFf c j) ≤ 5 ∧ (jFg (jFf c j) = 0 → jTy c j = .int ∧ (jTc c j).2.2.2 = false) ∧ (jFg (jFf c j) = 1 → jTy c j = .long ∧ (jTc c j).2.2.2 = false) ∧ (jFg (jFf c j) = 2 → jTy c j = .boolean ∧ (jTc c j).2.2.2 = false) ∧ (jFg (jFf c j) = 5 → (jTy c j).isReference = true ∧ (jTc c j).2.2.2 = false) ∧ (3 ≤ jFg (jFf c j) ∧ jFg (jFf c j) ≤ 4 → (jTy c j).isReference = true ∧ (jTc c j).2.2.2 = true ∧ (jTc c j).1 = jRn c)))) = true := by decide +kernel
theorem jKd_ln : (List.range 161).all (fun k => decide (0 ≤ jLn k ∧ jLn k ≤ 20000 ∧ (jKd k < 12 → (jLn k).toNat = jNf (jKd k)) ∧ (jKd k < 12 ∨ jKd k = 20 ∨ jKd k = 21 ∨ jKd k = 22 ∨ jKd k = 23))) = true := by decide +kernel
theorem jTy_ok (c : Nat) (hc : c < 12) : ∀ k, k < jNf c → parseFieldDescriptor (jTc c k).2.2.1 = some (jTy c k) := by
  match c, hc with
  | 0, _ => exact tyX0_ok
  | 1, _ => exact tyX1_ok
  | 2, _ => exact tyX2_ok
  | 3, _ => exact tyX3_ok
  | 4, _ => exact tyX4_ok
  | 5, _ => exact tyX5_ok
  | 6, _ => exact tyX6_ok
  | 7, _ => exact tyX7_ok
  | 8, _ => exact tyX8_ok
  | 9, _ => exact tyX9_ok
  | 10, _ => exact tyX10_ok
  | 11, _ => exact tyX11_ok
theorem jNm_ok (c : Nat) (hc : c < 12) : ∀ a, a < jNf c → ∀ b, b < jNf c → a ≠ b → (jTc c a).2.1 ≠ (jTc c b).2.1 := by
  match c, hc with
  | 0, _ => exact nmX0
  | 1, _ => exact nmX1
  | 2, _ => exact nmX2
  | 3, _ => exact nmX3
  | 4, _ => exact nmX4
  | 5, _ => exact nmX5
  | 6, _ => exact nmX6
  | 7, _ => exact nmX7
  | 8, _ => exact nmX8
  | 9, _ => exact nmX9
  | 10, _ => exact nmX10
  | 11, _ => exact nmX11
def jPc (z : Nat) : Prop := Jvm.Cond.code (jYn z) (jBy z) (jMx z) (jRy z) ∈ lw_tbl
theorem jSub_1 {c : Jvm.Cond} (h : c ∈ tables_1_1) : c ∈ lw_tbl := List.mem_append_right _ (List.mem_append_left _ h)
theorem jSub_2 {c : Jvm.Cond} (h : c ∈ tables_1_2) : c ∈ lw_tbl := List.mem_append_right _ (List.mem_append_right _ (List.mem_append_left _ h))
theorem jSub_3 {c : Jvm.Cond} (h : c ∈ tables_1_3) : c ∈ lw_tbl := List.mem_append_right _ (List.mem_append_right _ (List.mem_append_right _ (List.mem_append_left _ h)))
theorem jSub_4 {c : Jvm.Cond} (h : c ∈ tables_1_4) : c ∈ lw_tbl := List.mem_append_right _ (List.mem_append_right _ (List.mem_append_right _ (List.mem_append_right _ (List.mem_append_left _ h))))
theorem jSub_5 {c : Jvm.Cond} (h : c ∈ tables_1_5) : c ∈ lw_tbl := List.mem_append_right _ (List.mem_append_right _ (List.mem_append_right _ (List.mem_append_right _ (List.mem_append_right _ (List.mem_append_left _ h)))))
theorem jSub_6 {c : Jvm.Cond} (h : c ∈ tables_1_6) : c ∈ lw_tbl := List.mem_append_right _ (List.mem_append_right _ (List.mem_append_right _ (List.mem_append_right _ (List.mem_append_right _ (List.mem_append_right _ (List.mem_append_left _ h))))))
theorem jSub_7 {c : Jvm.Cond} (h : c ∈ tables_1_7) : c ∈ lw_tbl := List.mem_append_right _ (List.mem_append_right _ (List.mem_append_right _ (List.mem_append_right _ (List.mem_append_right _ (List.mem_append_right _ (List.mem_append_right _ h))))))
theorem jpX0_init : jPc zX0_init := jSub_1 (List.mem_of_getElem? (i := 29) rfl)
theorem jpX0_take : jPc zX0_take := jSub_4 (List.mem_of_getElem? (i := 220) rfl)
theorem jpX0_seat : jPc zX0_seat := jSub_2 (List.mem_of_getElem? (i := 192) rfl)
theorem jpX0_isIn : jPc zX0_isIn := jSub_2 (List.mem_of_getElem? (i := 218) rfl)
theorem jpX0_forcedBeside : jPc zX0_forcedBeside := jSub_3 (List.mem_of_getElem? (i := 69) rfl)
theorem jpX0_marked : jPc zX0_marked := jSub_5 (List.mem_of_getElem? (i := 3) rfl)
theorem jpX0_owned : jPc zX0_owned := jSub_5 (List.mem_of_getElem? (i := 7) rfl)
theorem jpX0_namersOf : jPc zX0_namersOf := jSub_3 (List.mem_of_getElem? (i := 209) rfl)
theorem jpX0_reachOf : jPc zX0_reachOf := jSub_3 (List.mem_of_getElem? (i := 181) rfl)
theorem jpX0_weighRules : jPc zX0_weighRules := jSub_3 (List.mem_of_getElem? (i := 189) rfl)
theorem jpX0_refusalOf : jPc zX0_refusalOf := jSub_3 (List.mem_of_getElem? (i := 177) rfl)
theorem jpX1_init : jPc zX1_init := jSub_2 (List.mem_of_getElem? (i := 81) rfl)
theorem jpX1_write : jPc zX1_write := jSub_4 (List.mem_of_getElem? (i := 146) rfl)
theorem jpX1_hear : jPc zX1_hear := jSub_4 (List.mem_of_getElem? (i := 155) rfl)
theorem jpX2_init : jPc zX2_init := jSub_1 (List.mem_of_getElem? (i := 228) rfl)
theorem jpX2_find : jPc zX2_find := jSub_4 (List.mem_of_getElem? (i := 8) rfl)
theorem jpX2_grow : jPc zX2_grow := jSub_4 (List.mem_of_getElem? (i := 13) rfl)
theorem jpX2_turn : jPc zX2_turn := jSub_4 (List.mem_of_getElem? (i := 17) rfl)
theorem jpX2_spread : jPc zX2_spread := jSub_4 (List.mem_of_getElem? (i := 21) rfl)
theorem jpX3_init : jPc zX3_init := jSub_2 (List.mem_of_getElem? (i := 50) rfl)
theorem jpX3_find : jPc zX3_find := jSub_4 (List.mem_of_getElem? (i := 101) rfl)
theorem jpX3_merge : jPc zX3_merge := jSub_4 (List.mem_of_getElem? (i := 108) rfl)
theorem jpX3_headTotal : jPc zX3_headTotal := jSub_4 (List.mem_of_getElem? (i := 113) rfl)
theorem jpX3_firstJudge : jPc zX3_firstJudge := jSub_4 (List.mem_of_getElem? (i := 117) rfl)
theorem jpX3_follow : jPc zX3_follow := jSub_4 (List.mem_of_getElem? (i := 121) rfl)
theorem jpX3_placeOf : jPc zX3_placeOf := jSub_4 (List.mem_of_getElem? (i := 195) rfl)
theorem jpX4_init : jPc zX4_init := jSub_1 (List.mem_of_getElem? (i := 176) rfl)
theorem jpX4_load : jPc zX4_load := jSub_2 (List.mem_of_getElem? (i := 214) rfl)
theorem jpX4_take : jPc zX4_take := jSub_4 (List.mem_of_getElem? (i := 88) rfl)
theorem jpX4_openBy : jPc zX4_openBy := jSub_3 (List.mem_of_getElem? (i := 25) rfl)
theorem jpX4_force : jPc zX4_force := jSub_3 (List.mem_of_getElem? (i := 32) rfl)
theorem jpX4_isOpen : jPc zX4_isOpen := jSub_3 (List.mem_of_getElem? (i := 77) rfl)
theorem jpX4_openPairs : jPc zX4_openPairs := jSub_4 (List.mem_of_getElem? (i := 230) rfl)
theorem jpX4_closeJudge : jPc zX4_closeJudge := jSub_4 (List.mem_of_getElem? (i := 173) rfl)
theorem jpX4_closeHeavier : jPc zX4_closeHeavier := jSub_4 (List.mem_of_getElem? (i := 134) rfl)
theorem jpX4_heavierThan : jPc zX4_heavierThan := jSub_4 (List.mem_of_getElem? (i := 129) rfl)
theorem jpX4_weigh : jPc zX4_weigh := jSub_3 (List.mem_of_getElem? (i := 36) rfl)
theorem jpX4_listCases : jPc zX4_listCases := jSub_3 (List.mem_of_getElem? (i := 40) rfl)
theorem jpX4_canTake : jPc zX4_canTake := jSub_3 (List.mem_of_getElem? (i := 44) rfl)
theorem jpX4_weighFrom : jPc zX4_weighFrom := jSub_3 (List.mem_of_getElem? (i := 54) rfl)
theorem jpX4_leads : jPc zX4_leads := jSub_4 (List.mem_of_getElem? (i := 64) rfl)
theorem jpX4_pick : jPc zX4_pick := jSub_4 (List.mem_of_getElem? (i := 60) rfl)
theorem jpX4_share : jPc zX4_share := jSub_4 (List.mem_of_getElem? (i := 76) rfl)
theorem jpX4_shareFrom : jPc zX4_shareFrom := jSub_4 (List.mem_of_getElem? (i := 80) rfl)
theorem jpX4_follows : jPc zX4_follows := jSub_4 (List.mem_of_getElem? (i := 185) rfl)
theorem jpX4_sumOf : jPc zX4_sumOf := jSub_4 (List.mem_of_getElem? (i := 191) rfl)
theorem jpX4_sharedOf : jPc zX4_sharedOf := jSub_4 (List.mem_of_getElem? (i := 199) rfl)
theorem jpX5_init : jPc zX5_init := jSub_2 (List.mem_of_getElem? (i := 22) rfl)
theorem jpX5_make : jPc zX5_make := jSub_3 (List.mem_of_getElem? (i := 227) rfl)
theorem jpX5_firstPay : jPc zX5_firstPay := jSub_3 (List.mem_of_getElem? (i := 232) rfl)
theorem jpX5_slack : jPc zX5_slack := jSub_4 (List.mem_of_getElem? (i := 4) rfl)
theorem jpX5_findTight : jPc zX5_findTight := jSub_3 (List.mem_of_getElem? (i := 239) rfl)
theorem jpX5_leastSlack : jPc zX5_leastSlack := jSub_4 (List.mem_of_getElem? (i := 25) rfl)
theorem jpX5_keep : jPc zX5_keep := jSub_4 (List.mem_of_getElem? (i := 29) rfl)
theorem jpX5_raise : jPc zX5_raise := jSub_4 (List.mem_of_getElem? (i := 36) rfl)
theorem jpX6_init : jPc zX6_init := jSub_1 (List.mem_of_getElem? (i := 40) rfl)
theorem jpX6_clear : jPc zX6_clear := jSub_3 (List.mem_of_getElem? (i := 100) rfl)
theorem jpX6_take : jPc zX6_take := jSub_4 (List.mem_of_getElem? (i := 225) rfl)
theorem jpX6_add : jPc zX6_add := jSub_3 (List.mem_of_getElem? (i := 157) rfl)
theorem jpX6_landHere : jPc zX6_landHere := jSub_3 (List.mem_of_getElem? (i := 173) rfl)
theorem jpX6_names : jPc zX6_names := jSub_3 (List.mem_of_getElem? (i := 185) rfl)
theorem jpX6_weightBy : jPc zX6_weightBy := jSub_3 (List.mem_of_getElem? (i := 194) rfl)
theorem jpX7_init : jPc zX7_init := jSub_2 (List.mem_of_getElem? (i := 107) rfl)
theorem jpX7_become : jPc zX7_become := jSub_4 (List.mem_of_getElem? (i := 207) rfl)
theorem jpX7_holds : jPc zX7_holds := jSub_5 (List.mem_of_getElem? (i := 19) rfl)
theorem jpX7_set : jPc zX7_set := jSub_4 (List.mem_of_getElem? (i := 212) rfl)
theorem jpX8_init : jPc zX8_init := jSub_1 (List.mem_of_getElem? (i := 105) rfl)
theorem jpX8_add : jPc zX8_add := jSub_3 (List.mem_of_getElem? (i := 85) rfl)
theorem jpX8_parse : jPc zX8_parse := jSub_3 (List.mem_of_getElem? (i := 96) rfl)
theorem jpX8_expr : jPc zX8_expr := jSub_3 (List.mem_of_getElem? (i := 133) rfl)
theorem jpX8_sum : jPc zX8_sum := jSub_3 (List.mem_of_getElem? (i := 137) rfl)
theorem jpX8_product : jPc zX8_product := jSub_3 (List.mem_of_getElem? (i := 141) rfl)
theorem jpX8_factor : jPc zX8_factor := jSub_3 (List.mem_of_getElem? (i := 145) rfl)
theorem jpX8_atom : jPc zX8_atom := jSub_3 (List.mem_of_getElem? (i := 153) rfl)
theorem jpX8_function : jPc zX8_function := jSub_3 (List.mem_of_getElem? (i := 169) rfl)
theorem jpX8_part : jPc zX8_part := jSub_3 (List.mem_of_getElem? (i := 149) rfl)
theorem jpX8_enter : jPc zX8_enter := jSub_3 (List.mem_of_getElem? (i := 161) rfl)
theorem jpX8_leave : jPc zX8_leave := jSub_3 (List.mem_of_getElem? (i := 165) rfl)
theorem jpX8_step : jPc zX8_step := jSub_3 (List.mem_of_getElem? (i := 104) rfl)
theorem jpX8_word : jPc zX8_word := jSub_3 (List.mem_of_getElem? (i := 111) rfl)
theorem jpX8_nameOfOne : jPc zX8_nameOfOne := jSub_3 (List.mem_of_getElem? (i := 115) rfl)
theorem jpX8_nameOfThree : jPc zX8_nameOfThree := jSub_3 (List.mem_of_getElem? (i := 119) rfl)
theorem jpX8_digits : jPc zX8_digits := jSub_3 (List.mem_of_getElem? (i := 126) rfl)
theorem jpX8_isLetter : jPc zX8_isLetter := jSub_3 (List.mem_of_getElem? (i := 107) rfl)
theorem jpX8_isDigit : jPc zX8_isDigit := jSub_3 (List.mem_of_getElem? (i := 122) rfl)
theorem jpX8_isSign : jPc zX8_isSign := jSub_3 (List.mem_of_getElem? (i := 129) rfl)
theorem jpX9_init : jPc zX9_init := jSub_1 (List.mem_of_getElem? (i := 143) rfl)
theorem jpX9_burdenOf : jPc zX9_burdenOf := jSub_2 (List.mem_of_getElem? (i := 222) rfl)
theorem jpX9_tellBy : jPc zX9_tellBy := jSub_2 (List.mem_of_getElem? (i := 227) rfl)
theorem jpX9_read : jPc zX9_read := jSub_2 (List.mem_of_getElem? (i := 231) rfl)
theorem jpX9_operand : jPc zX9_operand := jSub_2 (List.mem_of_getElem? (i := 236) rfl)
theorem jpX9_join : jPc zX9_join := jSub_3 (List.mem_of_getElem? (i := 2) rfl)
theorem jpX9_fail : jPc zX9_fail := jSub_3 (List.mem_of_getElem? (i := 20) rfl)
theorem jpX10_init : jPc zX10_init := jSub_1 (List.mem_of_getElem? (i := 21) rfl)
theorem jpX10_here : jPc zX10_here := jSub_2 (List.mem_of_getElem? (i := 178) rfl)
theorem jpX10_trait : jPc zX10_trait := jSub_2 (List.mem_of_getElem? (i := 196) rfl)
theorem jpX10_tell : jPc zX10_tell := jSub_2 (List.mem_of_getElem? (i := 200) rfl)
theorem jpX10_burden : jPc zX10_burden := jSub_3 (List.mem_of_getElem? (i := 59) rfl)
theorem jpX10_mark : jPc zX10_mark := jSub_3 (List.mem_of_getElem? (i := 65) rfl)
theorem jpX10_open : jPc zX10_open := jSub_3 (List.mem_of_getElem? (i := 73) rfl)
theorem jpX10_feed : jPc zX10_feed := jSub_3 (List.mem_of_getElem? (i := 81) rfl)
theorem jpX10_text : jPc zX10_text := jSub_3 (List.mem_of_getElem? (i := 89) rfl)
theorem jpX10_empty : jPc zX10_empty := jSub_3 (List.mem_of_getElem? (i := 198) rfl)
theorem jpX10_told : jPc zX10_told := jSub_3 (List.mem_of_getElem? (i := 203) rfl)
theorem jpX10_value : jPc zX10_value := jSub_3 (List.mem_of_getElem? (i := 214) rfl)
theorem jpX10_why : jPc zX10_why := jSub_3 (List.mem_of_getElem? (i := 219) rfl)
theorem jpX10_solve : jPc zX10_solve := jSub_3 (List.mem_of_getElem? (i := 223) rfl)
theorem jpX10_round : jPc zX10_round := jSub_4 (List.mem_of_getElem? (i := 40) rfl)
theorem jpX10_price : jPc zX10_price := jSub_4 (List.mem_of_getElem? (i := 44) rfl)
theorem jpX10_total : jPc zX10_total := jSub_4 (List.mem_of_getElem? (i := 48) rfl)
theorem jpX10_many : jPc zX10_many := jSub_4 (List.mem_of_getElem? (i := 52) rfl)
theorem jpX10_best : jPc zX10_best := jSub_4 (List.mem_of_getElem? (i := 56) rfl)
theorem jpX10_kind : jPc zX10_kind := jSub_4 (List.mem_of_getElem? (i := 68) rfl)
theorem jpX10_room : jPc zX10_room := jSub_4 (List.mem_of_getElem? (i := 84) rfl)
theorem jpX10_next : jPc zX10_next := jSub_4 (List.mem_of_getElem? (i := 93) rfl)
theorem jpX10_fair : jPc zX10_fair := jSub_4 (List.mem_of_getElem? (i := 125) rfl)
theorem jpX10_days : jPc zX10_days := jSub_4 (List.mem_of_getElem? (i := 138) rfl)
theorem jpX10_day : jPc zX10_day := jSub_4 (List.mem_of_getElem? (i := 160) rfl)
theorem jpX10_lack : jPc zX10_lack := jSub_4 (List.mem_of_getElem? (i := 164) rfl)
theorem jpX10_without : jPc zX10_without := jSub_4 (List.mem_of_getElem? (i := 169) rfl)
theorem jpX10_tells : jPc zX10_tells := jSub_4 (List.mem_of_getElem? (i := 177) rfl)
theorem jpX10_film : jPc zX10_film := jSub_4 (List.mem_of_getElem? (i := 203) rfl)
theorem jpX10_image : jPc zX10_image := jSub_4 (List.mem_of_getElem? (i := 216) rfl)
theorem jpX10_back : jPc zX10_back := jSub_4 (List.mem_of_getElem? (i := 234) rfl)
theorem jpX10_count : jPc zX10_count := jSub_4 (List.mem_of_getElem? (i := 238) rfl)
theorem jpX10_sheet : jPc zX10_sheet := jSub_5 (List.mem_of_getElem? (i := 11) rfl)
theorem jpX10_put : jPc zX10_put := jSub_5 (List.mem_of_getElem? (i := 15) rfl)
theorem jpX10_item : jPc zX10_item := jSub_5 (List.mem_of_getElem? (i := 23) rfl)
theorem jpX10_copy : jPc zX10_copy := jSub_5 (List.mem_of_getElem? (i := 27) rfl)
theorem jpX10_lay : jPc zX10_lay := jSub_5 (List.mem_of_getElem? (i := 32) rfl)
theorem jpX10_isSide : jPc zX10_isSide := jSub_2 (List.mem_of_getElem? (i := 181) rfl)
theorem jpX10_isSeat : jPc zX10_isSeat := jSub_2 (List.mem_of_getElem? (i := 184) rfl)
theorem jpX10_isPair : jPc zX10_isPair := jSub_2 (List.mem_of_getElem? (i := 203) rfl)
theorem jpX10_isRule : jPc zX10_isRule := jSub_3 (List.mem_of_getElem? (i := 92) rfl)
theorem jpX10_isSheet : jPc zX10_isSheet := jSub_4 (List.mem_of_getElem? (i := 180) rfl)
theorem jpX10_changed : jPc zX10_changed := jSub_2 (List.mem_of_getElem? (i := 188) rfl)
theorem jpX10_refreshPlan : jPc zX10_refreshPlan := jSub_2 (List.mem_of_getElem? (i := 210) rfl)
theorem jpX10_refreshShares : jPc zX10_refreshShares := jSub_4 (List.mem_of_getElem? (i := 72) rfl)
theorem jpX10_refreshNextOnes : jPc zX10_refreshNextOnes := jSub_4 (List.mem_of_getElem? (i := 97) rfl)
theorem jpX10_refreshDiary : jPc zX10_refreshDiary := jSub_4 (List.mem_of_getElem? (i := 142) rfl)
theorem jpX11_in : jPc zX11_in := jSub_6 (List.mem_of_getElem? (i := 50) rfl)
theorem jpX11_init : jPc zX11_init := jSub_5 (List.mem_of_getElem? (i := 38) rfl)
theorem jpX11_isWho : jPc zX11_isWho := jSub_6 (List.mem_of_getElem? (i := 47) rfl)
theorem jpX11_isPair : jPc zX11_isPair := jSub_6 (List.mem_of_getElem? (i := 177) rfl)
theorem jpX11_isJudge : jPc zX11_isJudge := jSub_7 (List.mem_of_getElem? (i := 9) rfl)
theorem jpX11_isCase : jPc zX11_isCase := jSub_7 (List.mem_of_getElem? (i := 13) rfl)
theorem jpX11_here : jPc zX11_here := jSub_6 (List.mem_of_getElem? (i := 44) rfl)
theorem jpX11_trait : jPc zX11_trait := jSub_6 (List.mem_of_getElem? (i := 55) rfl)
theorem jpX11_feed : jPc zX11_feed := jSub_6 (List.mem_of_getElem? (i := 62) rfl)
theorem jpX11_byteAt : jPc zX11_byteAt := jSub_6 (List.mem_of_getElem? (i := 76) rfl)
theorem jpX11_isLetter : jPc zX11_isLetter := jSub_6 (List.mem_of_getElem? (i := 79) rfl)
theorem jpX11_isDigit : jPc zX11_isDigit := jSub_6 (List.mem_of_getElem? (i := 96) rfl)
theorem jpX11_isThree : jPc zX11_isThree := jSub_6 (List.mem_of_getElem? (i := 89) rfl)
theorem jpX11_word : jPc zX11_word := jSub_6 (List.mem_of_getElem? (i := 85) rfl)
theorem jpX11_isSignByte : jPc zX11_isSignByte := jSub_6 (List.mem_of_getElem? (i := 101) rfl)
theorem jpX11_next : jPc zX11_next := jSub_6 (List.mem_of_getElem? (i := 72) rfl)
theorem jpX11_fail : jPc zX11_fail := jSub_6 (List.mem_of_getElem? (i := 125) rfl)
theorem jpX11_isSign : jPc zX11_isSign := jSub_6 (List.mem_of_getElem? (i := 133) rfl)
theorem jpX11_takes : jPc zX11_takes := jSub_6 (List.mem_of_getElem? (i := 141) rfl)
theorem jpX11_part : jPc zX11_part := jSub_6 (List.mem_of_getElem? (i := 121) rfl)
theorem jpX11_opens : jPc zX11_opens := jSub_6 (List.mem_of_getElem? (i := 137) rfl)
theorem jpX11_expression : jPc zX11_expression := jSub_6 (List.mem_of_getElem? (i := 105) rfl)
theorem jpX11_sum : jPc zX11_sum := jSub_6 (List.mem_of_getElem? (i := 109) rfl)
theorem jpX11_product : jPc zX11_product := jSub_6 (List.mem_of_getElem? (i := 113) rfl)
theorem jpX11_factor : jPc zX11_factor := jSub_6 (List.mem_of_getElem? (i := 117) rfl)
theorem jpX11_ofTwo : jPc zX11_ofTwo := jSub_6 (List.mem_of_getElem? (i := 129) rfl)
theorem jpX11_names : jPc zX11_names := jSub_6 (List.mem_of_getElem? (i := 153) rfl)
theorem jpX11_comesTo : jPc zX11_comesTo := jSub_6 (List.mem_of_getElem? (i := 149) rfl)
theorem jpX11_weight : jPc zX11_weight := jSub_6 (List.mem_of_getElem? (i := 161) rfl)
theorem jpX11_trades : jPc zX11_trades := jSub_6 (List.mem_of_getElem? (i := 145) rfl)
theorem jpX11_isHeavy : jPc zX11_isHeavy := jSub_6 (List.mem_of_getElem? (i := 157) rfl)
theorem jpX11_text : jPc zX11_text := jSub_6 (List.mem_of_getElem? (i := 67) rfl)
theorem jpX11_empty : jPc zX11_empty := jSub_6 (List.mem_of_getElem? (i := 165) rfl)
theorem jpX11_told : jPc zX11_told := jSub_6 (List.mem_of_getElem? (i := 169) rfl)
theorem jpX11_fails : jPc zX11_fails := jSub_6 (List.mem_of_getElem? (i := 204) rfl)
theorem jpX11_valueOf : jPc zX11_valueOf := jSub_6 (List.mem_of_getElem? (i := 186) rfl)
theorem jpX11_named : jPc zX11_named := jSub_6 (List.mem_of_getElem? (i := 194) rfl)
theorem jpX11_limited : jPc zX11_limited := jSub_6 (List.mem_of_getElem? (i := 198) rfl)
theorem jpX11_valueOf_ : jPc zX11_valueOf_ := jSub_6 (List.mem_of_getElem? (i := 190) rfl)
theorem jpX11_asked : jPc zX11_asked := jSub_6 (List.mem_of_getElem? (i := 182) rfl)
theorem jpX11_value : jPc zX11_value := jSub_6 (List.mem_of_getElem? (i := 174) rfl)
theorem jpX11_why : jPc zX11_why := jSub_6 (List.mem_of_getElem? (i := 210) rfl)
theorem jpX11_burdenOf : jPc zX11_burdenOf := jSub_6 (List.mem_of_getElem? (i := 218) rfl)
theorem jpX11_forcedOf : jPc zX11_forcedOf := jSub_6 (List.mem_of_getElem? (i := 225) rfl)
theorem jpX11_isOpen : jPc zX11_isOpen := jSub_7 (List.mem_of_getElem? (i := 5) rfl)
theorem jpX11_tellsBurdens : jPc zX11_tellsBurdens := jSub_6 (List.mem_of_getElem? (i := 237) rfl)
theorem jpX11_opens_ : jPc zX11_opens_ := jSub_7 (List.mem_of_getElem? (i := 1) rfl)
theorem jpX11_costs : jPc zX11_costs := jSub_6 (List.mem_of_getElem? (i := 233) rfl)
theorem jpX11_burden : jPc zX11_burden := jSub_6 (List.mem_of_getElem? (i := 214) rfl)
theorem jpX11_mark : jPc zX11_mark := jSub_6 (List.mem_of_getElem? (i := 222) rfl)
theorem jpX11_open : jPc zX11_open := jSub_6 (List.mem_of_getElem? (i := 229) rfl)
theorem jpX11_openMany : jPc zX11_openMany := jSub_7 (List.mem_of_getElem? (i := 193) rfl)
theorem jpX11_least : jPc zX11_least := jSub_7 (List.mem_of_getElem? (i := 26) rfl)
theorem jpX11_toldOr : jPc zX11_toldOr := jSub_7 (List.mem_of_getElem? (i := 30) rfl)
theorem jpX11_picks : jPc zX11_picks := jSub_7 (List.mem_of_getElem? (i := 43) rfl)
theorem jpX11_tell : jPc zX11_tell := jSub_7 (List.mem_of_getElem? (i := 17) rfl)
theorem jpX11_total : jPc zX11_total := jSub_7 (List.mem_of_getElem? (i := 22) rfl)
theorem jpX11_many : jPc zX11_many := jSub_7 (List.mem_of_getElem? (i := 35) rfl)
theorem jpX11_best : jPc zX11_best := jSub_7 (List.mem_of_getElem? (i := 39) rfl)
theorem jpX11_with : jPc zX11_with := jSub_7 (List.mem_of_getElem? (i := 51) rfl)
theorem jpX11_lacking : jPc zX11_lacking := jSub_7 (List.mem_of_getElem? (i := 55) rfl)
theorem jpX11_kind : jPc zX11_kind := jSub_7 (List.mem_of_getElem? (i := 47) rfl)
theorem jpX11_room : jPc zX11_room := jSub_7 (List.mem_of_getElem? (i := 59) rfl)
theorem jpX11_enters : jPc zX11_enters := jSub_7 (List.mem_of_getElem? (i := 76) rfl)
theorem jpX11_walks : jPc zX11_walks := jSub_7 (List.mem_of_getElem? (i := 72) rfl)
theorem jpX11_lists : jPc zX11_lists := jSub_7 (List.mem_of_getElem? (i := 68) rfl)
theorem jpX11_next_ : jPc zX11_next_ := jSub_7 (List.mem_of_getElem? (i := 63) rfl)
theorem jpX11_heaviest : jPc zX11_heaviest := jSub_7 (List.mem_of_getElem? (i := 84) rfl)
theorem jpX11_fair : jPc zX11_fair := jSub_7 (List.mem_of_getElem? (i := 80) rfl)
theorem jpX11_finds : jPc zX11_finds := jSub_7 (List.mem_of_getElem? (i := 118) rfl)
theorem jpX11_greatest : jPc zX11_greatest := jSub_7 (List.mem_of_getElem? (i := 114) rfl)
theorem jpX11_marking : jPc zX11_marking := jSub_7 (List.mem_of_getElem? (i := 110) rfl)
theorem jpX11_casesIn : jPc zX11_casesIn := jSub_7 (List.mem_of_getElem? (i := 98) rfl)
theorem jpX11_slack : jPc zX11_slack := jSub_7 (List.mem_of_getElem? (i := 106) rfl)
theorem jpX11_rise : jPc zX11_rise := jSub_7 (List.mem_of_getElem? (i := 122) rfl)
theorem jpX11_begins : jPc zX11_begins := jSub_7 (List.mem_of_getElem? (i := 94) rfl)
theorem jpX11_isLast : jPc zX11_isLast := jSub_7 (List.mem_of_getElem? (i := 102) rfl)
theorem jpX11_solve : jPc zX11_solve := jSub_7 (List.mem_of_getElem? (i := 90) rfl)
theorem jpX11_round : jPc zX11_round := jSub_7 (List.mem_of_getElem? (i := 126) rfl)
theorem jpX11_price : jPc zX11_price := jSub_7 (List.mem_of_getElem? (i := 131) rfl)
theorem jpX11_daysOf : jPc zX11_daysOf := jSub_7 (List.mem_of_getElem? (i := 140) rfl)
theorem jpX11_days : jPc zX11_days := jSub_7 (List.mem_of_getElem? (i := 135) rfl)
theorem jpX11_day : jPc zX11_day := jSub_7 (List.mem_of_getElem? (i := 144) rfl)
theorem jpX11_lack : jPc zX11_lack := jSub_7 (List.mem_of_getElem? (i := 148) rfl)
theorem jpX11_without : jPc zX11_without := jSub_7 (List.mem_of_getElem? (i := 153) rfl)
theorem jpX11_casesMany : jPc zX11_casesMany := jSub_7 (List.mem_of_getElem? (i := 169) rfl)
theorem jpX11_reads : jPc zX11_reads := jSub_7 (List.mem_of_getElem? (i := 165) rfl)
theorem jpX11_tells : jPc zX11_tells := jSub_7 (List.mem_of_getElem? (i := 157) rfl)
theorem jpX11_placeOf : jPc zX11_placeOf := jSub_7 (List.mem_of_getElem? (i := 174) rfl)
theorem jpX11_film : jPc zX11_film := jSub_7 (List.mem_of_getElem? (i := 178) rfl)
theorem jpX11_copies : jPc zX11_copies := jSub_7 (List.mem_of_getElem? (i := 189) rfl)
theorem jpX11_keeps : jPc zX11_keeps := jSub_7 (List.mem_of_getElem? (i := 186) rfl)
theorem jpX11_image : jPc zX11_image := jSub_7 (List.mem_of_getElem? (i := 182) rfl)
theorem jpX11_back : jPc zX11_back := jSub_7 (List.mem_of_getElem? (i := 197) rfl)
theorem jpX11_marksOf : jPc zX11_marksOf := jSub_7 (List.mem_of_getElem? (i := 205) rfl)
theorem jpX11_count : jPc zX11_count := jSub_7 (List.mem_of_getElem? (i := 201) rfl)
theorem jpX11_isSheet : jPc zX11_isSheet := jSub_7 (List.mem_of_getElem? (i := 160) rfl)
theorem jpX11_sheet : jPc zX11_sheet := jSub_7 (List.mem_of_getElem? (i := 209) rfl)
theorem jpX11_put : jPc zX11_put := jSub_7 (List.mem_of_getElem? (i := 213) rfl)
theorem jpX11_item : jPc zX11_item := jSub_7 (List.mem_of_getElem? (i := 217) rfl)
theorem jpX11_copy : jPc zX11_copy := jSub_7 (List.mem_of_getElem? (i := 221) rfl)
theorem jpX11_lay : jPc zX11_lay := jSub_7 (List.mem_of_getElem? (i := 225) rfl)
theorem jpJ6_bitCount_0f7a4 : jPc zJ6_bitCount_0f7a4 := jSub_3 (List.mem_of_getElem? (i := 47) rfl)
theorem jpJ9_floorDiv_f86c9 : jPc zJ9_floorDiv_f86c9 := jSub_3 (List.mem_of_getElem? (i := 11) rfl)
theorem jpJ9_floorMod_f86c9 : jPc zJ9_floorMod_f86c9 := jSub_3 (List.mem_of_getElem? (i := 14) rfl)
theorem jpJ9_abs_067f4 : jPc zJ9_abs_067f4 := jSub_2 (List.mem_of_getElem? (i := 239) rfl)
theorem jpJ9_max_f86c9 : jPc zJ9_max_f86c9 := jSub_3 (List.mem_of_getElem? (i := 8) rfl)
theorem jpJ9_min_f86c9 : jPc zJ9_min_f86c9 := jSub_3 (List.mem_of_getElem? (i := 5) rfl)
theorem jpJ7_fill_d0a16 : jPc zJ7_fill_d0a16 := jSub_1 (List.mem_of_getElem? (i := 36) rfl)
theorem jpJ7_fill_53178 : jPc zJ7_fill_53178 := jSub_3 (List.mem_of_getElem? (i := 28) rfl)
theorem jPs_0 : ∀ z ∈ [zX0_init, zX0_take, zX0_seat, zX0_isIn, zX0_forcedBeside, zX0_marked, zX0_owned, zX0_namersOf, zX0_reachOf, zX0_weighRules, zX0_refusalOf, zX1_init, zX1_write, zX1_hear, zX2_init, zX2_find, zX2_grow, zX2_turn, zX2_spread, zX3_init, zX3_find, zX3_merge, zX3_headTotal, zX3_firstJudge, zX3_follow], jPc z := List.forall_mem_cons.mpr ⟨jpX0_init, List.forall_mem_cons.mpr ⟨jpX0_take, List.forall_mem_cons.mpr ⟨jpX0_seat, List.forall_mem_cons.mpr ⟨jpX0_isIn, List.forall_mem_cons.mpr ⟨jpX0_forcedBeside, List.forall_mem_cons.mpr ⟨jpX0_marked, List.forall_mem_cons.mpr ⟨jpX0_owned, List.forall_mem_cons.mpr ⟨jpX0_namersOf, List.forall_mem_cons.mpr ⟨jpX0_reachOf, List.forall_mem_cons.mpr ⟨jpX0_weighRules, List.forall_mem_cons.mpr ⟨jpX0_refusalOf, List.forall_mem_cons.mpr ⟨jpX1_init, List.forall_mem_cons.mpr ⟨jpX1_write, List.forall_mem_cons.mpr ⟨jpX1_hear, List.forall_mem_cons.mpr ⟨jpX2_init, List.forall_mem_cons.mpr ⟨jpX2_find, List.forall_mem_cons.mpr ⟨jpX2_grow, List.forall_mem_cons.mpr ⟨jpX2_turn, List.forall_mem_cons.mpr ⟨jpX2_spread, List.forall_mem_cons.mpr ⟨jpX3_init, List.forall_mem_cons.mpr ⟨jpX3_find, List.forall_mem_cons.mpr ⟨jpX3_merge, List.forall_mem_cons.mpr ⟨jpX3_headTotal, List.forall_mem_cons.mpr ⟨jpX3_firstJudge, List.forall_mem_cons.mpr ⟨jpX3_follow, fun _ h => absurd h List.not_mem_nil⟩⟩⟩⟩⟩⟩⟩⟩⟩⟩⟩⟩⟩⟩⟩⟩⟩⟩⟩⟩⟩⟩⟩⟩⟩
theorem jPs_1 : ∀ z ∈ [zX3_placeOf, zX4_init, zX4_load, zX4_take, zX4_openBy, zX4_force, zX4_isOpen, zX4_openPairs, zX4_closeJudge, zX4_closeHeavier, zX4_heavierThan, zX4_weigh, zX4_listCases, zX4_canTake, zX4_weighFrom, zX4_leads, zX4_pick, zX4_share, zX4_shareFrom, zX4_follows, zX4_sumOf, zX4_sharedOf, zX5_init, zX5_make, zX5_firstPay], jPc z := List.forall_mem_cons.mpr ⟨jpX3_placeOf, List.forall_mem_cons.mpr ⟨jpX4_init, List.forall_mem_cons.mpr ⟨jpX4_load, List.forall_mem_cons.mpr ⟨jpX4_take, List.forall_mem_cons.mpr ⟨jpX4_openBy, List.forall_mem_cons.mpr ⟨jpX4_force, List.forall_mem_cons.mpr ⟨jpX4_isOpen, List.forall_mem_cons.mpr ⟨jpX4_openPairs, List.forall_mem_cons.mpr ⟨jpX4_closeJudge, List.forall_mem_cons.mpr ⟨jpX4_closeHeavier, List.forall_mem_cons.mpr ⟨jpX4_heavierThan, List.forall_mem_cons.mpr ⟨jpX4_weigh, List.forall_mem_cons.mpr ⟨jpX4_listCases, List.forall_mem_cons.mpr ⟨jpX4_canTake, List.forall_mem_cons.mpr ⟨jpX4_weighFrom, List.forall_mem_cons.mpr ⟨jpX4_leads, List.forall_mem_cons.mpr ⟨jpX4_pick, List.forall_mem_cons.mpr ⟨jpX4_share, List.forall_mem_cons.mpr ⟨jpX4_shareFrom, List.forall_mem_cons.mpr ⟨jpX4_follows, List.forall_mem_cons.mpr ⟨jpX4_sumOf, List.forall_mem_cons.mpr ⟨jpX4_sharedOf, List.forall_mem_cons.mpr ⟨jpX5_init, List.forall_mem_cons.mpr ⟨jpX5_make, List.forall_mem_cons.mpr ⟨jpX5_firstPay, fun _ h => absurd h List.not_mem_nil⟩⟩⟩⟩⟩⟩⟩⟩⟩⟩⟩⟩⟩⟩⟩⟩⟩⟩⟩⟩⟩⟩⟩⟩⟩
theorem jPs_2 : ∀ z ∈ [zX5_slack, zX5_findTight, zX5_leastSlack, zX5_keep, zX5_raise, zX6_init, zX6_clear, zX6_take, zX6_add, zX6_landHere, zX6_names, zX6_weightBy, zX7_init, zX7_become, zX7_holds, zX7_set, zX8_init, zX8_add, zX8_parse, zX8_expr, zX8_sum, zX8_product, zX8_factor, zX8_atom, zX8_function], jPc z := List.forall_mem_cons.mpr ⟨jpX5_slack, List.forall_mem_cons.mpr ⟨jpX5_findTight, List.forall_mem_cons.mpr ⟨jpX5_leastSlack, List.forall_mem_cons.mpr ⟨jpX5_keep, List.forall_mem_cons.mpr ⟨jpX5_raise, List.forall_mem_cons.mpr ⟨jpX6_init, List.forall_mem_cons.mpr ⟨jpX6_clear, List.forall_mem_cons.mpr ⟨jpX6_take, List.forall_mem_cons.mpr ⟨jpX6_add, List.forall_mem_cons.mpr ⟨jpX6_landHere, List.forall_mem_cons.mpr ⟨jpX6_names, List.forall_mem_cons.mpr ⟨jpX6_weightBy, List.forall_mem_cons.mpr ⟨jpX7_init, List.forall_mem_cons.mpr ⟨jpX7_become, List.forall_mem_cons.mpr ⟨jpX7_holds, List.forall_mem_cons.mpr ⟨jpX7_set, List.forall_mem_cons.mpr ⟨jpX8_init, List.forall_mem_cons.mpr ⟨jpX8_add, List.forall_mem_cons.mpr ⟨jpX8_parse, List.forall_mem_cons.mpr ⟨jpX8_expr, List.forall_mem_cons.mpr ⟨jpX8_sum, List.forall_mem_cons.mpr ⟨jpX8_product, List.forall_mem_cons.mpr ⟨jpX8_factor, List.forall_mem_cons.mpr ⟨jpX8_atom, List.forall_mem_cons.mpr ⟨jpX8_function, fun _ h => absurd h List.not_mem_nil⟩⟩⟩⟩⟩⟩⟩⟩⟩⟩⟩⟩⟩⟩⟩⟩⟩⟩⟩⟩⟩⟩⟩⟩⟩
theorem jPs_3 : ∀ z ∈ [zX8_part, zX8_enter, zX8_leave, zX8_step, zX8_word, zX8_nameOfOne, zX8_nameOfThree, zX8_digits, zX8_isLetter, zX8_isDigit, zX8_isSign, zX9_init, zX9_burdenOf, zX9_tellBy, zX9_read, zX9_operand, zX9_join, zX9_fail, zX10_init, zX10_here, zX10_trait, zX10_tell, zX10_burden, zX10_mark, zX10_open], jPc z := List.forall_mem_cons.mpr ⟨jpX8_part, List.forall_mem_cons.mpr ⟨jpX8_enter, List.forall_mem_cons.mpr ⟨jpX8_leave, List.forall_mem_cons.mpr ⟨jpX8_step, List.forall_mem_cons.mpr ⟨jpX8_word, List.forall_mem_cons.mpr ⟨jpX8_nameOfOne, List.forall_mem_cons.mpr ⟨jpX8_nameOfThree, List.forall_mem_cons.mpr ⟨jpX8_digits, List.forall_mem_cons.mpr ⟨jpX8_isLetter, List.forall_mem_cons.mpr ⟨jpX8_isDigit, List.forall_mem_cons.mpr ⟨jpX8_isSign, List.forall_mem_cons.mpr ⟨jpX9_init, List.forall_mem_cons.mpr ⟨jpX9_burdenOf, List.forall_mem_cons.mpr ⟨jpX9_tellBy, List.forall_mem_cons.mpr ⟨jpX9_read, List.forall_mem_cons.mpr ⟨jpX9_operand, List.forall_mem_cons.mpr ⟨jpX9_join, List.forall_mem_cons.mpr ⟨jpX9_fail, List.forall_mem_cons.mpr ⟨jpX10_init, List.forall_mem_cons.mpr ⟨jpX10_here, List.forall_mem_cons.mpr ⟨jpX10_trait, List.forall_mem_cons.mpr ⟨jpX10_tell, List.forall_mem_cons.mpr ⟨jpX10_burden, List.forall_mem_cons.mpr ⟨jpX10_mark, List.forall_mem_cons.mpr ⟨jpX10_open, fun _ h => absurd h List.not_mem_nil⟩⟩⟩⟩⟩⟩⟩⟩⟩⟩⟩⟩⟩⟩⟩⟩⟩⟩⟩⟩⟩⟩⟩⟩⟩
theorem jPs_4 : ∀ z ∈ [zX10_feed, zX10_text, zX10_empty, zX10_told, zX10_value, zX10_why, zX10_solve, zX10_round, zX10_price, zX10_total, zX10_many, zX10_best, zX10_kind, zX10_room, zX10_next, zX10_fair, zX10_days, zX10_day, zX10_lack, zX10_without, zX10_tells, zX10_film, zX10_image, zX10_back, zX10_count], jPc z := List.forall_mem_cons.mpr ⟨jpX10_feed, List.forall_mem_cons.mpr ⟨jpX10_text, List.forall_mem_cons.mpr ⟨jpX10_empty, List.forall_mem_cons.mpr ⟨jpX10_told, List.forall_mem_cons.mpr ⟨jpX10_value, List.forall_mem_cons.mpr ⟨jpX10_why, List.forall_mem_cons.mpr ⟨jpX10_solve, List.forall_mem_cons.mpr ⟨jpX10_round, List.forall_mem_cons.mpr ⟨jpX10_price, List.forall_mem_cons.mpr ⟨jpX10_total, List.forall_mem_cons.mpr ⟨jpX10_many, List.forall_mem_cons.mpr ⟨jpX10_best, List.forall_mem_cons.mpr ⟨jpX10_kind, List.forall_mem_cons.mpr ⟨jpX10_room, List.forall_mem_cons.mpr ⟨jpX10_next, List.forall_mem_cons.mpr ⟨jpX10_fair, List.forall_mem_cons.mpr ⟨jpX10_days, List.forall_mem_cons.mpr ⟨jpX10_day, List.forall_mem_cons.mpr ⟨jpX10_lack, List.forall_mem_cons.mpr ⟨jpX10_without, List.forall_mem_cons.mpr ⟨jpX10_tells, List.forall_mem_cons.mpr ⟨jpX10_film, List.forall_mem_cons.mpr ⟨jpX10_image, List.forall_mem_cons.mpr ⟨jpX10_back, List.forall_mem_cons.mpr ⟨jpX10_count, fun _ h => absurd h List.not_mem_nil⟩⟩⟩⟩⟩⟩⟩⟩⟩⟩⟩⟩⟩⟩⟩⟩⟩⟩⟩⟩⟩⟩⟩⟩⟩
theorem jPs_5 : ∀ z ∈ [zX10_sheet, zX10_put, zX10_item, zX10_copy, zX10_lay, zX10_isSide, zX10_isSeat, zX10_isPair, zX10_isRule, zX10_isSheet, zX10_changed, zX10_refreshPlan, zX10_refreshShares, zX10_refreshNextOnes, zX10_refreshDiary, zX11_in, zX11_init, zX11_isWho, zX11_isPair, zX11_isJudge, zX11_isCase, zX11_here, zX11_trait, zX11_feed, zX11_byteAt], jPc z := List.forall_mem_cons.mpr ⟨jpX10_sheet, List.forall_mem_cons.mpr ⟨jpX10_put, List.forall_mem_cons.mpr ⟨jpX10_item, List.forall_mem_cons.mpr ⟨jpX10_copy, List.forall_mem_cons.mpr ⟨jpX10_lay, List.forall_mem_cons.mpr ⟨jpX10_isSide, List.forall_mem_cons.mpr ⟨jpX10_isSeat, List.forall_mem_cons.mpr ⟨jpX10_isPair, List.forall_mem_cons.mpr ⟨jpX10_isRule, List.forall_mem_cons.mpr ⟨jpX10_isSheet, List.forall_mem_cons.mpr ⟨jpX10_changed, List.forall_mem_cons.mpr ⟨jpX10_refreshPlan, List.forall_mem_cons.mpr ⟨jpX10_refreshShares, List.forall_mem_cons.mpr ⟨jpX10_refreshNextOnes, List.forall_mem_cons.mpr ⟨jpX10_refreshDiary, List.forall_mem_cons.mpr ⟨jpX11_in, List.forall_mem_cons.mpr ⟨jpX11_init, List.forall_mem_cons.mpr ⟨jpX11_isWho, List.forall_mem_cons.mpr ⟨jpX11_isPair, List.forall_mem_cons.mpr ⟨jpX11_isJudge, List.forall_mem_cons.mpr ⟨jpX11_isCase, List.forall_mem_cons.mpr ⟨jpX11_here, List.forall_mem_cons.mpr ⟨jpX11_trait, List.forall_mem_cons.mpr ⟨jpX11_feed, List.forall_mem_cons.mpr ⟨jpX11_byteAt, fun _ h => absurd h List.not_mem_nil⟩⟩⟩⟩⟩⟩⟩⟩⟩⟩⟩⟩⟩⟩⟩⟩⟩⟩⟩⟩⟩⟩⟩⟩⟩
theorem jPs_6 : ∀ z ∈ [zX11_isLetter, zX11_isDigit, zX11_isThree, zX11_word, zX11_isSignByte, zX11_next, zX11_fail, zX11_isSign, zX11_takes, zX11_part, zX11_opens, zX11_expression, zX11_sum, zX11_product, zX11_factor, zX11_ofTwo, zX11_names, zX11_comesTo, zX11_weight, zX11_trades, zX11_isHeavy, zX11_text, zX11_empty, zX11_told, zX11_fails], jPc z := List.forall_mem_cons.mpr ⟨jpX11_isLetter, List.forall_mem_cons.mpr ⟨jpX11_isDigit, List.forall_mem_cons.mpr ⟨jpX11_isThree, List.forall_mem_cons.mpr ⟨jpX11_word, List.forall_mem_cons.mpr ⟨jpX11_isSignByte, List.forall_mem_cons.mpr ⟨jpX11_next, List.forall_mem_cons.mpr ⟨jpX11_fail, List.forall_mem_cons.mpr ⟨jpX11_isSign, List.forall_mem_cons.mpr ⟨jpX11_takes, List.forall_mem_cons.mpr ⟨jpX11_part, List.forall_mem_cons.mpr ⟨jpX11_opens, List.forall_mem_cons.mpr ⟨jpX11_expression, List.forall_mem_cons.mpr ⟨jpX11_sum, List.forall_mem_cons.mpr ⟨jpX11_product, List.forall_mem_cons.mpr ⟨jpX11_factor, List.forall_mem_cons.mpr ⟨jpX11_ofTwo, List.forall_mem_cons.mpr ⟨jpX11_names, List.forall_mem_cons.mpr ⟨jpX11_comesTo, List.forall_mem_cons.mpr ⟨jpX11_weight, List.forall_mem_cons.mpr ⟨jpX11_trades, List.forall_mem_cons.mpr ⟨jpX11_isHeavy, List.forall_mem_cons.mpr ⟨jpX11_text, List.forall_mem_cons.mpr ⟨jpX11_empty, List.forall_mem_cons.mpr ⟨jpX11_told, List.forall_mem_cons.mpr ⟨jpX11_fails, fun _ h => absurd h List.not_mem_nil⟩⟩⟩⟩⟩⟩⟩⟩⟩⟩⟩⟩⟩⟩⟩⟩⟩⟩⟩⟩⟩⟩⟩⟩⟩
theorem jPs_7 : ∀ z ∈ [zX11_valueOf, zX11_named, zX11_limited, zX11_valueOf_, zX11_asked, zX11_value, zX11_why, zX11_burdenOf, zX11_forcedOf, zX11_isOpen, zX11_tellsBurdens, zX11_opens_, zX11_costs, zX11_burden, zX11_mark, zX11_open, zX11_openMany, zX11_least, zX11_toldOr, zX11_picks, zX11_tell, zX11_total, zX11_many, zX11_best, zX11_with], jPc z := List.forall_mem_cons.mpr ⟨jpX11_valueOf, List.forall_mem_cons.mpr ⟨jpX11_named, List.forall_mem_cons.mpr ⟨jpX11_limited, List.forall_mem_cons.mpr ⟨jpX11_valueOf_, List.forall_mem_cons.mpr ⟨jpX11_asked, List.forall_mem_cons.mpr ⟨jpX11_value, List.forall_mem_cons.mpr ⟨jpX11_why, List.forall_mem_cons.mpr ⟨jpX11_burdenOf, List.forall_mem_cons.mpr ⟨jpX11_forcedOf, List.forall_mem_cons.mpr ⟨jpX11_isOpen, List.forall_mem_cons.mpr ⟨jpX11_tellsBurdens, List.forall_mem_cons.mpr ⟨jpX11_opens_, List.forall_mem_cons.mpr ⟨jpX11_costs, List.forall_mem_cons.mpr ⟨jpX11_burden, List.forall_mem_cons.mpr ⟨jpX11_mark, List.forall_mem_cons.mpr ⟨jpX11_open, List.forall_mem_cons.mpr ⟨jpX11_openMany, List.forall_mem_cons.mpr ⟨jpX11_least, List.forall_mem_cons.mpr ⟨jpX11_toldOr, List.forall_mem_cons.mpr ⟨jpX11_picks, List.forall_mem_cons.mpr ⟨jpX11_tell, List.forall_mem_cons.mpr ⟨jpX11_total, List.forall_mem_cons.mpr ⟨jpX11_many, List.forall_mem_cons.mpr ⟨jpX11_best, List.forall_mem_cons.mpr ⟨jpX11_with, fun _ h => absurd h List.not_mem_nil⟩⟩⟩⟩⟩⟩⟩⟩⟩⟩⟩⟩⟩⟩⟩⟩⟩⟩⟩⟩⟩⟩⟩⟩⟩
theorem jPs_8 : ∀ z ∈ [zX11_lacking, zX11_kind, zX11_room, zX11_enters, zX11_walks, zX11_lists, zX11_next_, zX11_heaviest, zX11_fair, zX11_finds, zX11_greatest, zX11_marking, zX11_casesIn, zX11_slack, zX11_rise, zX11_begins, zX11_isLast, zX11_solve, zX11_round, zX11_price, zX11_daysOf, zX11_days, zX11_day, zX11_lack, zX11_without], jPc z := List.forall_mem_cons.mpr ⟨jpX11_lacking, List.forall_mem_cons.mpr ⟨jpX11_kind, List.forall_mem_cons.mpr ⟨jpX11_room, List.forall_mem_cons.mpr ⟨jpX11_enters, List.forall_mem_cons.mpr ⟨jpX11_walks, List.forall_mem_cons.mpr ⟨jpX11_lists, List.forall_mem_cons.mpr ⟨jpX11_next_, List.forall_mem_cons.mpr ⟨jpX11_heaviest, List.forall_mem_cons.mpr ⟨jpX11_fair, List.forall_mem_cons.mpr ⟨jpX11_finds, List.forall_mem_cons.mpr ⟨jpX11_greatest, List.forall_mem_cons.mpr ⟨jpX11_marking, List.forall_mem_cons.mpr ⟨jpX11_casesIn, List.forall_mem_cons.mpr ⟨jpX11_slack, List.forall_mem_cons.mpr ⟨jpX11_rise, List.forall_mem_cons.mpr ⟨jpX11_begins, List.forall_mem_cons.mpr ⟨jpX11_isLast, List.forall_mem_cons.mpr ⟨jpX11_solve, List.forall_mem_cons.mpr ⟨jpX11_round, List.forall_mem_cons.mpr ⟨jpX11_price, List.forall_mem_cons.mpr ⟨jpX11_daysOf, List.forall_mem_cons.mpr ⟨jpX11_days, List.forall_mem_cons.mpr ⟨jpX11_day, List.forall_mem_cons.mpr ⟨jpX11_lack, List.forall_mem_cons.mpr ⟨jpX11_without, fun _ h => absurd h List.not_mem_nil⟩⟩⟩⟩⟩⟩⟩⟩⟩⟩⟩⟩⟩⟩⟩⟩⟩⟩⟩⟩⟩⟩⟩⟩⟩
theorem jPs_9 : ∀ z ∈ [zX11_casesMany, zX11_reads, zX11_tells, zX11_placeOf, zX11_film, zX11_copies, zX11_keeps, zX11_image, zX11_back, zX11_marksOf, zX11_count, zX11_isSheet, zX11_sheet, zX11_put, zX11_item, zX11_copy, zX11_lay, zJ6_bitCount_0f7a4, zJ9_floorDiv_f86c9, zJ9_floorMod_f86c9, zJ9_abs_067f4, zJ9_max_f86c9, zJ9_min_f86c9, zJ7_fill_d0a16, zJ7_fill_53178], jPc z := List.forall_mem_cons.mpr ⟨jpX11_casesMany, List.forall_mem_cons.mpr ⟨jpX11_reads, List.forall_mem_cons.mpr ⟨jpX11_tells, List.forall_mem_cons.mpr ⟨jpX11_placeOf, List.forall_mem_cons.mpr ⟨jpX11_film, List.forall_mem_cons.mpr ⟨jpX11_copies, List.forall_mem_cons.mpr ⟨jpX11_keeps, List.forall_mem_cons.mpr ⟨jpX11_image, List.forall_mem_cons.mpr ⟨jpX11_back, List.forall_mem_cons.mpr ⟨jpX11_marksOf, List.forall_mem_cons.mpr ⟨jpX11_count, List.forall_mem_cons.mpr ⟨jpX11_isSheet, List.forall_mem_cons.mpr ⟨jpX11_sheet, List.forall_mem_cons.mpr ⟨jpX11_put, List.forall_mem_cons.mpr ⟨jpX11_item, List.forall_mem_cons.mpr ⟨jpX11_copy, List.forall_mem_cons.mpr ⟨jpX11_lay, List.forall_mem_cons.mpr ⟨jpJ6_bitCount_0f7a4, List.forall_mem_cons.mpr ⟨jpJ9_floorDiv_f86c9, List.forall_mem_cons.mpr ⟨jpJ9_floorMod_f86c9, List.forall_mem_cons.mpr ⟨jpJ9_abs_067f4, List.forall_mem_cons.mpr ⟨jpJ9_max_f86c9, List.forall_mem_cons.mpr ⟨jpJ9_min_f86c9, List.forall_mem_cons.mpr ⟨jpJ7_fill_d0a16, List.forall_mem_cons.mpr ⟨jpJ7_fill_53178, fun _ h => absurd h List.not_mem_nil⟩⟩⟩⟩⟩⟩⟩⟩⟩⟩⟩⟩⟩⟩⟩⟩⟩⟩⟩⟩⟩⟩⟩⟩⟩
