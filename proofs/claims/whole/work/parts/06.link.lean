/-! THE TIES, by program: bytes, names, the words of the tables by their places; each is decided below -/
def jRns : List String := [RX0, RX1, RX2, RX3, RX4, RX5, RX6, RX7, RX8, RX9, RX10, RX11, RL, RJ6, RJ9, RJ7]
def jRn (c : Nat) : String := jRns.getD c ""
def jVc : List vw_C := [(RX0, TX0, 7), (RX1, TX1, 5), (RX2, TX2, 7), (RX3, TX3, 8), (RX4, TX4, 10), (RX5, TX5, 6), (RX6, TX6, 5), (RX7, TX7, 3), (RX8, TX8, 9), (RX9, TX9, 7), (RX10, TX10, 17), (RX11, TX11, 80)]
def jTy (c : Nat) : Nat → FieldType := match c with
  | 0 => tyX0
  | 1 => tyX1
  | 2 => tyX2
  | 3 => tyX3
  | 4 => tyX4
  | 5 => tyX5
  | 6 => tyX6
  | 7 => tyX7
  | 8 => tyX8
  | 9 => tyX9
  | 10 => tyX10
  | _ => tyX11
def jFs : List (List Nat) := [[0, 16, 25770336288, 34360811568, 34361319488, 2149621840, 2150113376], [1, 4295516177, 34360795169, 4296548401, 34361843777], [2, 18, 34, 4295499826, 4296024130, 4296548434, 4297072738], [3, 6442999827, 51540664355, 51, 52078075971, 416613933139, 52079108195, 52079632499], [4, 20, 4295499812, 52, 34360811588, 4296548436, 137441075300, 137441583220, 137442107524, 34363416724], [5, 206158979093, 549756887077, 4296564789, 4297089093, 4297597013], [6, 22, 21475368998, 21475893302, 21476417606], [7, 23, 21475385383], [32212787208, 24, 108584, 56, 72, 88, 104, 120, 136], [85899894793, 2148540441, 41, 57, 73, 89, 105], [530442, 12064794, 4138, 23730234, 26892362, 28383322, 32577642, 36739194, 39409802, 42522778, 46160042, 4343734458, 4298, 4314, 4330, 4346, 2196824330], [11, 8590467099, 25770860587, 34361335867, 34361843787, 2150113371, 2150637675, 8593612923, 51543810187, 51544334491, 51544858795, 51545383099, 51545907403, 51546431707, 51546956011, 32220127483, 267, 283, 299, 315, 331, 347, 4459, 379, 395, 12893299099, 12893823403, 12894347707, 12894872011, 12895396315, 12895920619, 12896444923, 2159550987, 539, 555, 571, 587, 603, 619, 635, 34372346507, 34372870811, 1236964237995, 1236964745915, 4309656267, 4310196955, 6995075819, 55850836731, 779, 1236967383835, 811, 4312294203, 4312818507, 64442868571, 64443392875, 64443917179, 64444441483, 64444982171, 1030813148075, 4316472251, 4316996555, 987, 1003, 1019, 1035, 64447063067, 34382816299, 4318569531, 5195, 8614061147, 25794454635, 34384929915, 34385437835, 2173707419, 2174231723, 8617206971, 360805049547, 2175804635, 2176328939, 85928731899]]
def jFf (c j : Nat) : Nat := (jFs.getD c []).getD j 0
def jNf (c : Nat) : Nat := (jFs.getD c []).length
def jYs : List MethodName := [yX0_init, yX0_take, yX0_seat, yX0_isIn, yX0_forcedBeside, yX0_marked, yX0_owned, yX0_namersOf, yX0_reachOf, yX0_weighRules, yX0_refusalOf, yX1_init, yX1_write, yX1_hear, yX2_init, yX2_find, yX2_grow, yX2_turn, yX2_spread, yX3_init, yX3_find, yX3_firstPart, yX3_isAhead, yX3_keep, yX3_drop, yX3_split, yX3_propose, yX3_placeOf, yX4_init, yX4_load, yX4_take, yX4_openBy, yX4_force, yX4_isOpen, yX4_openPairs, yX4_closeJudge, yX4_closeHeavier, yX4_heavierThan, yX4_weigh, yX4_listCases, yX4_canTake, yX4_weighFrom, yX4_leads, yX4_firstLead, yX4_pick, yX4_share, yX4_shareFrom, yX4_follows, yX4_sumOf, yX4_sharedOf, yX5_init, yX5_make, yX5_firstPay, yX5_slack, yX5_findTight, yX5_leastSlack, yX5_keep, yX5_raise, yX6_init, yX6_clear, yX6_take, yX6_add, yX6_landHere, yX6_names, yX6_weightBy, yX7_init, yX7_become, yX7_holds, yX7_set, yX8_init, yX8_add, yX8_parse, yX8_expr, yX8_sum, yX8_product, yX8_factor, yX8_atom, yX8_function, yX8_part, yX8_enter, yX8_leave, yX8_step, yX8_word, yX8_nameOfOne, yX8_nameOfThree, yX8_digits, yX8_isLetter, yX8_isDigit, yX8_isSign, yX9_init, yX9_burdenOf, yX9_tellBy, yX9_read, yX9_operand, yX9_join, yX9_fail, yX10_init, yX10_here, yX10_trait, yX10_tell, yX10_burden, yX10_mark, yX10_open, yX10_feed, yX10_text, yX10_empty, yX10_told, yX10_value, yX10_why, yX10_solve, yX10_round, yX10_price, yX10_total, yX10_many, yX10_best, yX10_kind, yX10_room, yX10_next, yX10_fair, yX10_days, yX10_day, yX10_lack, yX10_without, yX10_tells, yX10_film, yX10_image, yX10_back, yX10_count, yX10_sheet, yX10_put, yX10_item, yX10_copy, yX10_lay, yX10_isSide, yX10_isSeat, yX10_isPair, yX10_isRule, yX10_isSheet, yX10_changed, yX10_refreshPlan, yX10_refreshShares, yX10_refreshNextOnes, yX10_refreshDiary, yX11_in, yX11_init, yX11_isWho, yX11_isPair, yX11_isJudge, yX11_isCase, yX11_here, yX11_trait, yX11_feed, yX11_byteAt, yX11_isLetter, yX11_isDigit, yX11_isThree, yX11_word, yX11_isSignByte, yX11_next, yX11_fail, yX11_isSign, yX11_takes, yX11_part, yX11_opens, yX11_expression, yX11_sum, yX11_product, yX11_factor, yX11_ofTwo, yX11_names, yX11_comesTo, yX11_weight, yX11_trades, yX11_isHeavy, yX11_text, yX11_empty, yX11_told, yX11_fails, yX11_valueOf, yX11_named, yX11_limited, yX11_valueOf_, yX11_asked, yX11_value, yX11_why, yX11_burdenOf, yX11_forcedOf, yX11_isOpen, yX11_tellsBurdens, yX11_opens_, yX11_costs, yX11_burden, yX11_mark, yX11_open, yX11_openMany, yX11_least, yX11_toldOr, yX11_picks, yX11_tell, yX11_total, yX11_many, yX11_best, yX11_with, yX11_lacking, yX11_kind, yX11_room, yX11_enters, yX11_walks, yX11_lists, yX11_next_, yX11_heaviest, yX11_fair, yX11_finds, yX11_greatest, yX11_marking, yX11_casesIn, yX11_slack, yX11_rise, yX11_begins, yX11_isLast, yX11_solve, yX11_round, yX11_price, yX11_daysOf, yX11_days, yX11_day, yX11_lack, yX11_without, yX11_casesMany, yX11_reads, yX11_tells, yX11_placeOf, yX11_film, yX11_copies, yX11_keeps, yX11_image, yX11_back, yX11_marksOf, yX11_count, yX11_isSheet, yX11_sheet, yX11_put, yX11_item, yX11_copy, yX11_lay, yJ6_bitCount_0f7a4, yJ9_floorDiv_f86c9, yJ9_floorMod_f86c9, yJ9_abs_067f4, yJ9_max_f86c9, yJ9_min_f86c9, yJ7_fill_d0a16, yJ7_fill_53178, yL_law]
def jBs : List ByteArray := [cX0_init, cX0_take, cX0_seat, cX0_isIn, cX0_forcedBeside, cX0_marked, cX0_owned, cX0_namersOf, cX0_reachOf, cX0_weighRules, cX0_refusalOf, cX1_init, cX1_write, cX1_hear, cX2_init, cX2_find, cX2_grow, cX2_turn, cX2_spread, cX3_init, cX3_find, cX3_firstPart, cX3_isAhead, cX3_keep, cX3_drop, cX3_split, cX3_propose, cX3_placeOf, cX4_init, cX4_load, cX4_take, cX4_openBy, cX4_force, cX4_isOpen, cX4_openPairs, cX4_closeJudge, cX4_closeHeavier, cX4_heavierThan, cX4_weigh, cX4_listCases, cX4_canTake, cX4_weighFrom, cX4_leads, cX4_firstLead, cX4_pick, cX4_share, cX4_shareFrom, cX4_follows, cX4_sumOf, cX4_sharedOf, cX5_init, cX5_make, cX5_firstPay, cX5_slack, cX5_findTight, cX5_leastSlack, cX5_keep, cX5_raise, cX6_init, cX6_clear, cX6_take, cX6_add, cX6_landHere, cX6_names, cX6_weightBy, cX7_init, cX7_become, cX7_holds, cX7_set, cX8_init, cX8_add, cX8_parse, cX8_expr, cX8_sum, cX8_product, cX8_factor, cX8_atom, cX8_function, cX8_part, cX8_enter, cX8_leave, cX8_step, cX8_word, cX8_nameOfOne, cX8_nameOfThree, cX8_digits, cX8_isLetter, cX8_isDigit, cX8_isSign, cX9_init, cX9_burdenOf, cX9_tellBy, cX9_read, cX9_operand, cX9_join, cX9_fail, cX10_init, cX10_here, cX10_trait, cX10_tell, cX10_burden, cX10_mark, cX10_open, cX10_feed, cX10_text, cX10_empty, cX10_told, cX10_value, cX10_why, cX10_solve, cX10_round, cX10_price, cX10_total, cX10_many, cX10_best, cX10_kind, cX10_room, cX10_next, cX10_fair, cX10_days, cX10_day, cX10_lack, cX10_without, cX10_tells, cX10_film, cX10_image, cX10_back, cX10_count, cX10_sheet, cX10_put, cX10_item, cX10_copy, cX10_lay, cX10_isSide, cX10_isSeat, cX10_isPair, cX10_isRule, cX10_isSheet, cX10_changed, cX10_refreshPlan, cX10_refreshShares, cX10_refreshNextOnes, cX10_refreshDiary, cX11_in, cX11_init, cX11_isWho, cX11_isPair, cX11_isJudge, cX11_isCase, cX11_here, cX11_trait, cX11_feed, cX11_byteAt, cX11_isLetter, cX11_isDigit, cX11_isThree, cX11_word, cX11_isSignByte, cX11_next, cX11_fail, cX11_isSign, cX11_takes, cX11_part, cX11_opens, cX11_expression, cX11_sum, cX11_product, cX11_factor, cX11_ofTwo, cX11_names, cX11_comesTo, cX11_weight, cX11_trades, cX11_isHeavy, cX11_text, cX11_empty, cX11_told, cX11_fails, cX11_valueOf, cX11_named, cX11_limited, cX11_valueOf_, cX11_asked, cX11_value, cX11_why, cX11_burdenOf, cX11_forcedOf, cX11_isOpen, cX11_tellsBurdens, cX11_opens_, cX11_costs, cX11_burden, cX11_mark, cX11_open, cX11_openMany, cX11_least, cX11_toldOr, cX11_picks, cX11_tell, cX11_total, cX11_many, cX11_best, cX11_with, cX11_lacking, cX11_kind, cX11_room, cX11_enters, cX11_walks, cX11_lists, cX11_next_, cX11_heaviest, cX11_fair, cX11_finds, cX11_greatest, cX11_marking, cX11_casesIn, cX11_slack, cX11_rise, cX11_begins, cX11_isLast, cX11_solve, cX11_round, cX11_price, cX11_daysOf, cX11_days, cX11_day, cX11_lack, cX11_without, cX11_casesMany, cX11_reads, cX11_tells, cX11_placeOf, cX11_film, cX11_copies, cX11_keeps, cX11_image, cX11_back, cX11_marksOf, cX11_count, cX11_isSheet, cX11_sheet, cX11_put, cX11_item, cX11_copy, cX11_lay, cJ6_bitCount_0f7a4, cJ9_floorDiv_f86c9, cJ9_floorMod_f86c9, cJ9_abs_067f4, cJ9_max_f86c9, cJ9_min_f86c9, cJ7_fill_d0a16, cJ7_fill_53178, cL_law]
def jRs : List (Option FieldType) := [none, none, (some .int), (some .boolean), (some .boolean), (some .int), (some .int), (some .int), (some .int), none, (some .int), none, none, none, none, none, (some .boolean), none, none, none, none, (some .int), (some .boolean), none, none, none, none, (some .int), none, none, none, none, none, (some .boolean), (some .int), none, none, (some .int), none, none, (some .boolean), none, (some .boolean), (some .int), none, none, none, (some .boolean), (some .long), (some .int), none, none, (some .long), (some .long), (some .int), (some .long), none, none, none, none, none, none, none, (some .int), (some .int), none, none, (some .boolean), none, none, (some .boolean), (some .int), (some .boolean), (some .boolean), (some .boolean), (some .boolean), (some .boolean), (some .boolean), (some .boolean), (some .boolean), (some .boolean), none, none, none, none, none, (some .boolean), (some .boolean), (some .boolean), none, (some .long), (some .long), (some .long), (some .long), (some .long), (some .long), none, (some .int), (some .int), (some .long), (some .long), (some .int), (some .int), (some .int), (some .int), (some .int), (some .int), (some .long), (some .int), (some .int), (some .long), (some .long), (some .long), (some .int), (some .int), (some .int), (some .long), (some .long), (some .long), (some .long), (some .int), (some .int), (some .long), (some .long), (some .int), (some .int), (some .int), (some .int), (some .int), (some .int), (some .long), (some .int), (some .int), (some .boolean), (some .boolean), (some .boolean), (some .boolean), (some .boolean), none, none, none, none, none, (some .boolean), none, (some .boolean), (some .boolean), (some .boolean), (some .boolean), (some .int), (some .int), (some .int), (some .int), (some .boolean), (some .boolean), (some .boolean), (some .int), (some .boolean), none, none, (some .boolean), none, (some .int), (some .boolean), (some .int), (some .int), (some .int), (some .int), (some .int), (some .int), (some .int), (some .int), none, (some .boolean), (some .int), (some .int), (some .int), (some .long), (some .long), (some .long), (some .long), (some .long), (some .long), (some .long), (some .int), (some .long), (some .int), (some .boolean), none, none, none, (some .long), (some .int), (some .int), (some .int), (some .long), (some .long), none, (some .long), (some .long), (some .int), (some .int), (some .long), (some .long), (some .int), (some .long), none, none, none, (some .long), (some .long), (some .long), (some .boolean), (some .int), (some .int), (some .int), (some .long), (some .long), none, (some .boolean), (some .int), (some .long), (some .long), (some .long), (some .long), (some .int), (some .int), (some .long), (some .int), (some .boolean), (some .long), (some .int), (some .int), none, none, (some .int), (some .int), (some .int), (some .int), (some .boolean), (some .int), (some .int), (some .long), (some .int), (some .int), (some .int), (some .long), (some .long), (some .long), (some .long), (some .long), none, none, (some .boolean)]
def jZs : List Nat := [zX0_init, zX0_take, zX0_seat, zX0_isIn, zX0_forcedBeside, zX0_marked, zX0_owned, zX0_namersOf, zX0_reachOf, zX0_weighRules, zX0_refusalOf, zX1_init, zX1_write, zX1_hear, zX2_init, zX2_find, zX2_grow, zX2_turn, zX2_spread, zX3_init, zX3_find, zX3_firstPart, zX3_isAhead, zX3_keep, zX3_drop, zX3_split, zX3_propose, zX3_placeOf, zX4_init, zX4_load, zX4_take, zX4_openBy, zX4_force, zX4_isOpen, zX4_openPairs, zX4_closeJudge, zX4_closeHeavier, zX4_heavierThan, zX4_weigh, zX4_listCases, zX4_canTake, zX4_weighFrom, zX4_leads, zX4_firstLead, zX4_pick, zX4_share, zX4_shareFrom, zX4_follows, zX4_sumOf, zX4_sharedOf, zX5_init, zX5_make, zX5_firstPay, zX5_slack, zX5_findTight, zX5_leastSlack, zX5_keep, zX5_raise, zX6_init, zX6_clear, zX6_take, zX6_add, zX6_landHere, zX6_names, zX6_weightBy, zX7_init, zX7_become, zX7_holds, zX7_set, zX8_init, zX8_add, zX8_parse, zX8_expr, zX8_sum, zX8_product, zX8_factor, zX8_atom, zX8_function, zX8_part, zX8_enter, zX8_leave, zX8_step, zX8_word, zX8_nameOfOne, zX8_nameOfThree, zX8_digits, zX8_isLetter, zX8_isDigit, zX8_isSign, zX9_init, zX9_burdenOf, zX9_tellBy, zX9_read, zX9_operand, zX9_join, zX9_fail, zX10_init, zX10_here, zX10_trait, zX10_tell, zX10_burden, zX10_mark, zX10_open, zX10_feed, zX10_text, zX10_empty, zX10_told, zX10_value, zX10_why, zX10_solve, zX10_round, zX10_price, zX10_total, zX10_many, zX10_best, zX10_kind, zX10_room, zX10_next, zX10_fair, zX10_days, zX10_day, zX10_lack, zX10_without, zX10_tells, zX10_film, zX10_image, zX10_back, zX10_count, zX10_sheet, zX10_put, zX10_item, zX10_copy, zX10_lay, zX10_isSide, zX10_isSeat, zX10_isPair, zX10_isRule, zX10_isSheet, zX10_changed, zX10_refreshPlan, zX10_refreshShares, zX10_refreshNextOnes, zX10_refreshDiary, zX11_in, zX11_init, zX11_isWho, zX11_isPair, zX11_isJudge, zX11_isCase, zX11_here, zX11_trait, zX11_feed, zX11_byteAt, zX11_isLetter, zX11_isDigit, zX11_isThree, zX11_word, zX11_isSignByte, zX11_next, zX11_fail, zX11_isSign, zX11_takes, zX11_part, zX11_opens, zX11_expression, zX11_sum, zX11_product, zX11_factor, zX11_ofTwo, zX11_names, zX11_comesTo, zX11_weight, zX11_trades, zX11_isHeavy, zX11_text, zX11_empty, zX11_told, zX11_fails, zX11_valueOf, zX11_named, zX11_limited, zX11_valueOf_, zX11_asked, zX11_value, zX11_why, zX11_burdenOf, zX11_forcedOf, zX11_isOpen, zX11_tellsBurdens, zX11_opens_, zX11_costs, zX11_burden, zX11_mark, zX11_open, zX11_openMany, zX11_least, zX11_toldOr, zX11_picks, zX11_tell, zX11_total, zX11_many, zX11_best, zX11_with, zX11_lacking, zX11_kind, zX11_room, zX11_enters, zX11_walks, zX11_lists, zX11_next_, zX11_heaviest, zX11_fair, zX11_finds, zX11_greatest, zX11_marking, zX11_casesIn, zX11_slack, zX11_rise, zX11_begins, zX11_isLast, zX11_solve, zX11_round, zX11_price, zX11_daysOf, zX11_days, zX11_day, zX11_lack, zX11_without, zX11_casesMany, zX11_reads, zX11_tells, zX11_placeOf, zX11_film, zX11_copies, zX11_keeps, zX11_image, zX11_back, zX11_marksOf, zX11_count, zX11_isSheet, zX11_sheet, zX11_put, zX11_item, zX11_copy, zX11_lay, zJ6_bitCount_0f7a4, zJ9_floorDiv_f86c9, zJ9_floorMod_f86c9, zJ9_abs_067f4, zJ9_max_f86c9, zJ9_min_f86c9, zJ7_fill_d0a16, zJ7_fill_53178, zL_law]
def jYn (z : Nat) : MethodName := jYs.getD (jIx z) yL_law
def jBy (z : Nat) : ByteArray := jBs.getD (jIx z) code
def jRy (z : Nat) : Option FieldType := jRs.getD (jIx z) none
def jCfs : List (List (Nat × Nat × Nat)) := [[(9, 0, 165), (15, 16, 167), (18, 25770336288, 170), (22, 34360811568, 173), (26, 34361319488, 176), (31, 2149621840, 179), (35, 2150113376, 182)], [(9, 1, 422), (15, 4295516177, 424), (19, 34360795169, 426), (23, 4296548401, 428), (26, 34361843777, 429), (49, 137441075300, 292)], [(9, 2, 326), (15, 18, 329), (18, 34, 332), (21, 4295499826, 335), (25, 4296024130, 336), (28, 4296548434, 337), (31, 4297072738, 338)], [(9, 3, 388), (15, 6442999827, 390), (19, 51540664355, 392), (23, 51, 394), (26, 52078075971, 395), (29, 416613933139, 396), (32, 52079108195, 397), (35, 52079632499, 398), (67, 20, 280), (72, 4295499812, 283), (79, 34360811588, 288)], [(9, 4, 276), (15, 20, 279), (18, 4295499812, 282), (22, 52, 285), (25, 34360811588, 286), (29, 4296548436, 289), (32, 137441075300, 291), (35, 137441583220, 294), (38, 137442107524, 296), (41, 34363416724, 297), (44, 16, 168), (59, 34361319488, 177), (115, 23, 451), (120, 21475385383, 453)], [(9, 5, 360), (15, 206158979093, 362), (19, 549756887077, 364), (22, 4296564789, 366), (25, 4297089093, 367), (28, 4297597013, 368), (48, 4, 277), (59, 18, 330), (62, 34, 333), (81, 34360811588, 287), (95, 2, 327)], [(9, 6, 140), (15, 22, 143), (18, 21475368998, 146), (22, 21475893302, 148), (25, 21476417606, 150)], [(9, 7, 448), (15, 23, 450), (18, 21475385383, 452)], [(9, 32212787208, 207), (15, 24, 208), (22, 108584, 210), (26, 56, 212), (29, 72, 213), (32, 88, 214), (35, 104, 215), (38, 120, 216), (41, 136, 217), (60, 22, 144), (87, 6, 141)], [(9, 85899894793, 243), (15, 2148540441, 244), (19, 41, 245), (23, 57, 247), (26, 73, 249), (29, 89, 251), (32, 105, 253), (35, 34360811568, 174), (54, 2149621840, 180), (58, 22, 145), (63, 21475368998, 147), (66, 21475893302, 149), (69, 21476417606, 151), (92, 25770336288, 172)], [(12, 530442, 462), (16, 12064794, 463), (19, 4138, 464), (26, 23730234, 465), (33, 26892362, 466), (40, 28383322, 467), (44, 32577642, 468), (50, 36739194, 469), (57, 39409802, 470), (64, 42522778, 471), (71, 46160042, 472), (75, 4343734458, 473), (79, 4298, 474), (82, 4314, 475), (85, 4330, 476), (88, 4346, 477), (93, 2196824330, 478), (112, 25770336288, 171), (125, 34360811568, 175), (132, 137441075300, 293), (144, 34361319488, 178), (153, 24, 209), (164, 2149621840, 181), (168, 108584, 211), (176, 6, 142), (187, 2150113376, 183), (203, 41, 246), (206, 57, 248), (209, 73, 250), (212, 89, 252), (215, 105, 254), (222, 5, 361), (225, 206158979093, 363), (228, 549756887077, 365), (231, 137441583220, 295), (241, 34363416724, 298), (248, 4296548436, 290), (258, 3, 389), (261, 6442999827, 391), (264, 51540664355, 393), (278, 1, 423), (280, 4295516177, 425), (281, 34360795169, 427), (282, 4, 278), (289, 20, 281), (292, 2, 328), (293, 18, 331), (296, 34, 334), (306, 7, 449), (332, 4295499812, 284), (345, 0, 166), (352, 16, 169), (362, 21475385383, 454)], [(13, 8590467099, 1108), (17, 25770860587, 1109), (20, 34361335867, 1110), (24, 34361843787, 1111), (27, 2150113371, 1112), (30, 2150637675, 1113), (33, 8593612923, 1114), (36, 51543810187, 1115), (39, 51544334491, 1116), (42, 51544858795, 1117), (45, 51545383099, 1118), (48, 51545907403, 1119), (51, 51546431707, 1120), (54, 51546956011, 1121), (57, 32220127483, 1122), (60, 12893299099, 1132), (63, 12893823403, 1133), (66, 12894347707, 1134), (69, 12894872011, 1135), (72, 12895396315, 1136), (75, 12895920619, 1137), (78, 12896444923, 1138), (81, 2159550987, 1139), (84, 34372346507, 1147), (87, 34372870811, 1148), (90, 1236964237995, 1149), (93, 1236964745915, 1150), (96, 4309656267, 1151), (99, 4310196955, 1152), (102, 6995075819, 1153), (105, 55850836731, 1154), (108, 1236967383835, 1156), (111, 4312294203, 1158), (114, 4312818507, 1159), (117, 64442868571, 1160), (120, 64443392875, 1161), (123, 64443917179, 1162), (126, 64444441483, 1163), (129, 64444982171, 1164), (132, 1030813148075, 1165), (135, 4316472251, 1166), (138, 4316996555, 1167), (141, 64447063067, 1172), (144, 34382816299, 1173), (147, 4318569531, 1174), (150, 8614061147, 1176), (153, 25794454635, 1177), (156, 34384929915, 1178), (159, 34385437835, 1179), (162, 2173707419, 1180), (165, 2174231723, 1181), (168, 8617206971, 1182), (171, 360805049547, 1183), (174, 2175804635, 1184), (177, 2176328939, 1185), (180, 85928731899, 1186), (203, 267, 1123), (214, 283, 1124), (217, 315, 1126), (236, 299, 1125), (239, 331, 1127), (256, 4459, 1129), (260, 379, 1130), (272, 395, 1131), (275, 347, 1128), (324, 539, 1140), (327, 555, 1141), (330, 571, 1142), (333, 587, 1143), (336, 603, 1144), (354, 619, 1145), (357, 635, 1146), (433, 779, 1155), (458, 987, 1168), (467, 1003, 1169), (470, 1019, 1170), (476, 811, 1157), (482, 1035, 1171), (533, 5195, 1175)], [], [], [], []]
def jCcs : List (List (Nat × Nat × Nat)) := [[(29, 6, 129)], [], [], [], [], [], [], [], [(19, 6, 205)], [], [(9, 0, 123), (23, 8, 199), (30, 9, 237), (37, 4, 270), (47, 2, 320), (54, 5, 354), (61, 3, 382), (68, 1, 416), (91, 7, 441)], [], [(7, 10, 115), (10, 11, 1101)], [], [], []]
def jCys : List (List (Nat × Nat × Nat)) := [[(29, 2, 129)], [], [], [], [], [], [], [], [], [], [(91, 3, 441)], [], [], [], [], []]
def jCks : List (List (Nat × Int × Nat)) := [[(38, (-1), 131)], [(52, (-4611686018427387904), 978)], [], [], [(57, (-4611686018427387904), 596), (123, 8, 1013)], [(42, (-1), 811)], [], [], [], [(40, (-1), 562), (46, (-4611686018427387904), 567), (84, (-1000000000), 590), (86, 1000000000, 591)], [(119, (-1), 543), (121, 1000000000, 544), (123, (-2), 545), (135, (-4611686018427387904), 635), (309, (-11), 1008), (315, (-3), 1014)], [(183, (-1), 1107), (189, 7, 1358), (195, 2, 1363), (197, (-999), 1364), (199, 999, 1365), (201, 255, 1370), (206, 97, 1387), (208, 122, 1388), (210, 48, 1404), (212, 57, 1405), (228, 99, 1397), (230, 120, 1398), (232, 112, 1399), (234, 115, 1400), (311, 3, 1375), (322, 4, 1477), (346, (-1000000000), 1506), (348, 1000000000, 1507), (379, (-4611686018427387904), 1485), (409, 1125899906842624, 1574), (411, (-2), 1565), (444, 11, 1611), (497, 5, 1674), (499, 8, 1683), (515, (-11), 1708), (520, (-3), 1717)], [(23, 4294967295, 1773)], [], [], []]
def jCis : List (List (Nat × Int × Nat)) := [[], [], [], [], [], [], [], [], [], [], [], [], [], [(265, 1431655765, 623), (266, 858993459, 624), (267, 252645135, 625)], [], []]
def jCos : List (List (Nat × Nat × Nat)) := [[(3, 0, 128)], [(3, 0, 421)], [(3, 0, 325)], [(3, 0, 387)], [(3, 0, 275)], [(3, 0, 359)], [(3, 0, 139)], [(3, 0, 447)], [(3, 0, 204)], [(3, 0, 242)], [(3, 0, 120)], [(7, 0, 1106)], [], [], [], []]
def jCqs : List (List (Nat × Nat × Nat)) := [[(47, 0, 1048)], [(29, 0, 974)], [], [(61, 0, 940)], [(66, 0, 907)], [(98, 0, 848)], [(28, 0, 1053)], [], [], [], [(365, 0, 1095)], [], [], [], [], []]
def jCms : List (List (Nat × Nat × Nat × Nat)) := [[(40, zJ7_fill_d0a16, 132, 0), (46, zX6_init, 136, 1), (53, zX6_take, 1049, 0), (57, zX6_names, 757, 0), (61, zJ7_fill_53178, 765, 0), (64, zX6_weightBy, 766, 0), (68, zX0_reachOf, 753, 0), (72, zX0_weighRules, 761, 0)], [(35, zX4_take, 975, 0), (41, zX4_openBy, 976, 0), (45, zX4_weigh, 977, 0), (54, zX1_hear, 979, 0), (58, zX4_pick, 983, 0)], [(34, zJ7_fill_53178, 827, 0), (40, zX2_grow, 828, 0), (44, zX2_spread, 836, 0), (47, zX2_turn, 832, 0)], [(38, zX3_propose, 920, 0), (42, zX3_firstPart, 928, 0), (46, zX3_keep, 936, 0), (50, zX3_drop, 941, 0), (53, zX3_split, 945, 0), (57, zX3_isAhead, 932, 0), (75, zX4_firstLead, 924, 0)], [(47, zX0_isIn, 554, 0), (51, zX9_burdenOf, 558, 0), (62, zX4_openBy, 597, 0), (72, zJ7_fill_53178, 601, 0), (78, zX4_force, 604, 0), (82, zJ6_bitCount_0f7a4, 620, 0), (88, zX4_isOpen, 957, 0), (92, zX4_listCases, 612, 0), (95, zX4_canTake, 616, 0), (98, zX4_weighFrom, 626, 0), (102, zJ9_max_f86c9, 630, 0), (108, zX4_leads, 879, 0), (112, zX4_shareFrom, 895, 0)], [(32, zJ7_fill_d0a16, 806, 0), (38, zX5_firstPay, 807, 0), (44, zX5_findTight, 814, 0), (53, zX2_find, 823, 0), (65, zX5_leastSlack, 840, 0), (69, zX5_keep, 844, 0), (73, zX5_raise, 851, 0), (77, zX4_isOpen, 812, 0), (84, zJ9_min_f86c9, 813, 0), (90, zJ7_fill_53178, 818, 0), (92, zX5_slack, 819, 0)], [], [(22, zJ7_fill_d0a16, 1035, 0)], [(21, zX6_init, 206, 1), (44, zX6_clear, 672, 0), (47, zX8_step, 676, 0), (50, zX8_expr, 705, 0), (54, zX8_sum, 709, 0), (57, zX8_part, 721, 0), (63, zX6_add, 729, 0), (67, zX6_landHere, 745, 0), (71, zX8_product, 713, 0), (74, zX8_factor, 717, 0), (77, zX8_atom, 725, 0), (80, zX8_enter, 733, 0), (83, zX8_leave, 737, 0), (90, zX8_function, 741, 0), (93, zX8_isLetter, 680, 0), (96, zX8_word, 683, 0), (99, zX8_isDigit, 695, 0), (102, zX8_digits, 698, 0), (105, zX8_isSign, 702, 0), (108, zX8_nameOfOne, 687, 0), (111, zX8_nameOfThree, 691, 0)], [(42, zX9_read, 563, 0), (48, zJ9_max_f86c9, 581, 0), (72, zX9_operand, 568, 0), (76, zJ9_abs_067f4, 572, 0), (80, zX9_join, 575, 0), (88, zX9_fail, 592, 0), (95, zJ9_min_f86c9, 578, 0), (98, zJ9_floorDiv_f86c9, 584, 0), (101, zJ9_floorMod_f86c9, 587, 0)], [(11, zX0_init, 125, 0), (25, zX8_init, 201, 1), (32, zX9_init, 239, 1), (39, zX4_init, 272, 1), (49, zX2_init, 322, 1), (56, zX5_init, 356, 1), (63, zX3_init, 384, 1), (70, zX1_init, 418, 1), (97, zX7_init, 444, 1), (98, zX10_isSide, 518, 0), (102, zX10_isSeat, 521, 0), (105, zX10_changed, 524, 0), (108, zX0_seat, 528, 0), (115, zX10_isPair, 540, 0), (129, zX10_refreshPlan, 546, 0), (137, zX9_burdenOf, 636, 0), (141, zX0_forcedBeside, 641, 0), (147, zX4_isOpen, 649, 0), (150, zX8_add, 657, 0), (157, zX10_isRule, 665, 0), (160, zX8_parse, 668, 0), (172, zX0_refusalOf, 749, 0), (181, zX6_clear, 774, 0), (184, zX0_weighRules, 779, 0), (190, zX6_names, 780, 0), (193, zX0_namersOf, 781, 0), (196, zX0_reachOf, 785, 0), (199, zX9_tellBy, 790, 0), (218, zX5_make, 802, 0), (234, zX4_pick, 875, 0), (238, zX10_refreshShares, 887, 0), (244, zX4_take, 903, 0), (251, zX4_weigh, 608, 0), (255, zX10_refreshNextOnes, 912, 0), (267, zX4_heavierThan, 953, 0), (271, zX4_closeHeavier, 958, 0), (275, zX10_refreshDiary, 966, 0), (285, zX2_find, 992, 0), (299, zX4_closeJudge, 997, 0), (303, zX10_isSheet, 1005, 0), (311, zX4_follows, 1009, 0), (317, zX4_sumOf, 1015, 0), (321, zX3_placeOf, 1019, 0), (325, zX4_sharedOf, 1023, 0), (328, zX7_become, 1031, 0), (335, zX7_set, 1036, 0), (339, zX0_take, 1044, 0), (342, zX4_openPairs, 1054, 0), (347, zJ6_bitCount_0f7a4, 1066, 0), (353, zX0_marked, 1067, 0), (356, zX0_owned, 1071, 0), (359, zX7_holds, 1083, 0), (371, zJ9_abs_067f4, 1100, 0), (377, zX4_load, 550, 0), (381, zX4_share, 891, 0), (384, zX3_find, 916, 0), (386, zX1_write, 970, 0)], [(185, zX11_in, 1355, 0), (191, zX11_isWho, 1352, 0), (220, zX11_byteAt, 1380, 0), (224, zX11_isThree, 1393, 0), (242, zX11_isLetter, 1384, 0), (246, zX11_word, 1389, 0), (250, zX11_isDigit, 1401, 0), (253, zX11_isSignByte, 1406, 0), (263, zX11_isSign, 1437, 0), (266, zX11_fail, 1429, 0), (269, zX11_next, 1376, 0), (278, zX11_sum, 1413, 0), (281, zX11_part, 1425, 0), (285, zX11_takes, 1445, 0), (289, zX11_expression, 1409, 0), (292, zX11_product, 1417, 0), (295, zX11_factor, 1421, 0), (298, zX11_ofTwo, 1433, 0), (301, zX11_opens, 1441, 0), (305, zX11_names, 1457, 0), (308, zX11_weight, 1465, 0), (313, zX11_trades, 1449, 0), (316, zX11_comesTo, 1453, 0), (319, zX11_isHeavy, 1461, 0), (339, zX11_valueOf_, 1494, 0), (343, zX11_valueOf, 1490, 0), (350, zX11_fails, 1508, 0), (360, zX11_named, 1498, 0), (363, zX11_limited, 1502, 0), (367, zJ9_floorDiv_f86c9, 1512, 0), (373, zJ9_floorMod_f86c9, 1513, 0), (376, zX11_isPair, 1482, 0), (381, zX11_asked, 1486, 0), (384, zX11_isJudge, 1553, 0), (387, zX11_isCase, 1557, 0), (390, zX11_forcedOf, 1530, 0), (394, zX11_burdenOf, 1522, 0), (397, zX11_isOpen, 1549, 0), (401, zX11_tellsBurdens, 1541, 0), (404, zX11_opens_, 1545, 0), (407, zX11_costs, 1537, 0), (413, zX11_total, 1566, 0), (417, zX11_least, 1570, 0), (420, zX11_toldOr, 1575, 0), (424, zX11_picks, 1587, 0), (427, zX11_with, 1595, 0), (430, zX11_lacking, 1599, 0), (436, zX11_enters, 1620, 0), (440, zX11_walks, 1616, 0), (446, zX11_lists, 1612, 0), (449, zJ9_max_f86c9, 1632, 0), (452, zJ9_min_f86c9, 1633, 0), (455, zX11_heaviest, 1628, 0), (461, zX11_finds, 1662, 0), (464, zX11_greatest, 1658, 0), (473, zX11_slack, 1650, 0), (479, zX11_casesIn, 1642, 0), (485, zX11_marking, 1654, 0), (488, zX11_rise, 1666, 0), (491, zX11_begins, 1638, 0), (494, zX11_isLast, 1646, 0), (501, zX11_daysOf, 1684, 0), (504, zJ6_bitCount_0f7a4, 1696, 0), (509, zX11_casesMany, 1713, 0), (512, zX11_isSheet, 1705, 0), (517, zX11_reads, 1709, 0), (522, zX11_placeOf, 1718, 0), (525, zX11_copies, 1734, 0), (529, zX11_keeps, 1730, 0), (536, zX11_openMany, 1737, 0), (539, zX11_marksOf, 1749, 0)], [(9, zX10_init, 117, 0), (12, zX11_init, 1103, 0), (13, zX10_here, 514, 0), (17, zX11_here, 1348, 0), (18, zX10_trait, 532, 0), (22, zX11_trait, 1359, 0), (25, zX10_tell, 536, 0), (29, zX11_tell, 1561, 0), (30, zX10_burden, 631, 0), (34, zX11_burden, 1518, 0), (35, zX10_mark, 637, 0), (38, zX11_mark, 1526, 0), (39, zX10_open, 645, 0), (43, zX11_open, 1533, 0), (44, zX10_feed, 653, 0), (48, zX11_feed, 1366, 0), (49, zX10_text, 661, 0), (52, zX11_text, 1371, 0), (53, zX10_empty, 770, 0), (56, zX11_empty, 1469, 0), (57, zX10_told, 775, 0), (60, zX11_told, 1473, 0), (61, zX10_value, 786, 0), (65, zX11_value, 1478, 0), (66, zX10_why, 794, 0), (69, zX11_why, 1514, 0), (70, zX10_solve, 798, 0), (74, zX11_solve, 1634, 0), (75, zX10_round, 855, 0), (78, zX11_round, 1670, 0), (79, zX10_price, 859, 0), (82, zX11_price, 1675, 0), (83, zX10_total, 863, 0), (87, zX11_total, 1578, 0), (88, zX10_many, 867, 0), (91, zX11_many, 1579, 0), (92, zX10_best, 871, 0), (95, zX11_best, 1583, 0), (96, zX10_kind, 883, 0), (99, zX11_kind, 1591, 0), (100, zX10_room, 899, 0), (103, zX11_room, 1603, 0), (104, zX10_next, 908, 0), (107, zX11_next_, 1607, 0), (108, zX10_fair, 949, 0), (112, zX11_fair, 1624, 0), (113, zX10_days, 962, 0), (116, zX11_days, 1679, 0), (117, zX10_day, 984, 0), (120, zX11_day, 1688, 0), (121, zX10_lack, 988, 0), (124, zX11_lack, 1692, 0), (125, zX10_without, 993, 0), (128, zX11_without, 1697, 0), (129, zX10_tells, 1001, 0), (132, zX11_tells, 1701, 0), (133, zX10_film, 1027, 0), (136, zX11_film, 1722, 0), (137, zX10_image, 1040, 0), (140, zX11_image, 1726, 0), (141, zX10_back, 1058, 0), (144, zX11_back, 1741, 0), (145, zX10_count, 1062, 0), (148, zX11_count, 1745, 0), (149, zX10_sheet, 1075, 0), (152, zX11_sheet, 1753, 0), (153, zX10_put, 1079, 0), (157, zX11_put, 1757, 0), (158, zX10_item, 1087, 0), (161, zX11_item, 1761, 0), (162, zX10_copy, 1091, 0), (166, zX11_copy, 1765, 0), (167, zX10_lay, 1096, 0), (170, zX11_lay, 1769, 0)], [], [], []]
/-- the methods that are called: number; the places of: its code, static or instanceMethod, selects, initialized -/
def jMw : List (Nat × Nat × Nat × Nat × Nat) := [(zX0_init, 127, 126, 0, 100), (zX0_take, 1047, 1045, 1046, 100), (zX0_seat, 531, 529, 530, 100), (zX0_isIn, 557, 555, 556, 100), (zX0_forcedBeside, 644, 642, 643, 100), (zX0_marked, 1070, 1068, 1069, 100), (zX0_owned, 1074, 1072, 1073, 100), (zX0_namersOf, 784, 782, 783, 100), (zX0_reachOf, 756, 754, 755, 100), (zX0_weighRules, 764, 762, 763, 100), (zX0_refusalOf, 752, 750, 751, 100), (zX1_init, 420, 419, 0, 109), (zX1_write, 973, 971, 972, 109), (zX1_hear, 982, 981, 42, 109), (zX2_init, 324, 323, 0, 106), (zX2_find, 826, 824, 825, 106), (zX2_grow, 831, 830, 25, 106), (zX2_turn, 835, 834, 26, 106), (zX2_spread, 839, 838, 27, 106), (zX3_init, 386, 385, 0, 108), (zX3_find, 919, 917, 918, 108), (zX3_firstPart, 931, 930, 36, 108), (zX3_isAhead, 935, 934, 37, 108), (zX3_keep, 939, 938, 38, 108), (zX3_drop, 944, 943, 39, 108), (zX3_split, 948, 947, 40, 108), (zX3_propose, 923, 922, 35, 108), (zX3_placeOf, 1022, 1020, 1021, 108), (zX4_init, 274, 273, 0, 105), (zX4_load, 553, 551, 552, 105), (zX4_take, 906, 904, 905, 105), (zX4_openBy, 600, 598, 599, 105), (zX4_force, 607, 606, 5, 105), (zX4_isOpen, 652, 650, 651, 105), (zX4_openPairs, 1057, 1055, 1056, 105), (zX4_closeJudge, 1000, 998, 999, 105), (zX4_closeHeavier, 961, 959, 960, 105), (zX4_heavierThan, 956, 954, 955, 105), (zX4_weigh, 611, 609, 610, 105), (zX4_listCases, 615, 614, 6, 105), (zX4_canTake, 619, 617, 618, 105), (zX4_weighFrom, 629, 628, 7, 105), (zX4_leads, 882, 881, 31, 105), (zX4_firstLead, 927, 925, 926, 105), (zX4_pick, 878, 876, 877, 105), (zX4_share, 894, 892, 893, 105), (zX4_shareFrom, 898, 897, 33, 105), (zX4_follows, 1012, 1010, 1011, 105), (zX4_sumOf, 1018, 1016, 1017, 105), (zX4_sharedOf, 1026, 1024, 1025, 105), (zX5_init, 358, 357, 0, 107), (zX5_make, 805, 803, 804, 107), (zX5_firstPay, 810, 809, 22, 107), (zX5_slack, 822, 821, 24, 107), (zX5_findTight, 817, 816, 23, 107), (zX5_leastSlack, 843, 842, 28, 107), (zX5_keep, 847, 846, 29, 107), (zX5_raise, 854, 853, 30, 107), (zX6_init, 138, 137, 0, 102), (zX6_clear, 675, 673, 674, 102), (zX6_take, 1052, 1050, 1051, 102), (zX6_add, 732, 730, 731, 102), (zX6_landHere, 748, 746, 747, 102), (zX6_names, 760, 758, 759, 102), (zX6_weightBy, 769, 767, 768, 102), (zX7_init, 446, 445, 0, 110), (zX7_become, 1034, 1032, 1033, 110), (zX7_holds, 1086, 1084, 1085, 110), (zX7_set, 1039, 1037, 1038, 110), (zX8_init, 203, 202, 0, 103), (zX8_add, 660, 658, 659, 103), (zX8_parse, 671, 669, 670, 103), (zX8_expr, 708, 707, 13, 103), (zX8_sum, 712, 711, 14, 103), (zX8_product, 716, 715, 15, 103), (zX8_factor, 720, 719, 16, 103), (zX8_atom, 728, 727, 18, 103), (zX8_function, 744, 743, 21, 103), (zX8_part, 724, 723, 17, 103), (zX8_enter, 736, 735, 19, 103), (zX8_leave, 740, 739, 20, 103), (zX8_step, 679, 678, 8, 103), (zX8_word, 686, 685, 9, 103), (zX8_nameOfOne, 690, 689, 10, 103), (zX8_nameOfThree, 694, 693, 11, 103), (zX8_digits, 701, 700, 12, 103), (zX8_isLetter, 682, 681, 0, 103), (zX8_isDigit, 697, 696, 0, 103), (zX8_isSign, 704, 703, 0, 103), (zX9_init, 241, 240, 0, 104), (zX9_burdenOf, 561, 559, 560, 104), (zX9_tellBy, 793, 791, 792, 104), (zX9_read, 566, 565, 2, 104), (zX9_operand, 571, 570, 3, 104), (zX9_join, 577, 576, 0, 104), (zX9_fail, 595, 594, 4, 104), (zX10_init, 119, 118, 0, 99), (zX10_here, 517, 515, 516, 99), (zX10_trait, 535, 533, 534, 99), (zX10_tell, 539, 537, 538, 99), (zX10_burden, 634, 632, 633, 99), (zX10_mark, 640, 638, 639, 99), (zX10_open, 648, 646, 647, 99), (zX10_feed, 656, 654, 655, 99), (zX10_text, 664, 662, 663, 99), (zX10_empty, 773, 771, 772, 99), (zX10_told, 778, 776, 777, 99), (zX10_value, 789, 787, 788, 99), (zX10_why, 797, 795, 796, 99), (zX10_solve, 801, 799, 800, 99), (zX10_round, 858, 856, 857, 99), (zX10_price, 862, 860, 861, 99), (zX10_total, 866, 864, 865, 99), (zX10_many, 870, 868, 869, 99), (zX10_best, 874, 872, 873, 99), (zX10_kind, 886, 884, 885, 99), (zX10_room, 902, 900, 901, 99), (zX10_next, 911, 909, 910, 99), (zX10_fair, 952, 950, 951, 99), (zX10_days, 965, 963, 964, 99), (zX10_day, 987, 985, 986, 99), (zX10_lack, 991, 989, 990, 99), (zX10_without, 996, 994, 995, 99), (zX10_tells, 1004, 1002, 1003, 99), (zX10_film, 1030, 1028, 1029, 99), (zX10_image, 1043, 1041, 1042, 99), (zX10_back, 1061, 1059, 1060, 99), (zX10_count, 1065, 1063, 1064, 99), (zX10_sheet, 1078, 1076, 1077, 99), (zX10_put, 1082, 1080, 1081, 99), (zX10_item, 1090, 1088, 1089, 99), (zX10_copy, 1094, 1092, 1093, 99), (zX10_lay, 1099, 1097, 1098, 99), (zX10_isSide, 520, 519, 0, 99), (zX10_isSeat, 523, 522, 0, 99), (zX10_isPair, 542, 541, 0, 99), (zX10_isRule, 667, 666, 0, 99), (zX10_isSheet, 1007, 1006, 0, 99), (zX10_changed, 527, 526, 0, 99), (zX10_refreshPlan, 549, 548, 1, 99), (zX10_refreshShares, 890, 889, 32, 99), (zX10_refreshNextOnes, 915, 914, 34, 99), (zX10_refreshDiary, 969, 968, 41, 99), (zX11_in, 1357, 1356, 0, 111), (zX11_init, 1105, 1104, 0, 111), (zX11_isWho, 1354, 1353, 0, 111), (zX11_isPair, 1484, 1483, 0, 111), (zX11_isJudge, 1556, 1555, 73, 111), (zX11_isCase, 1560, 1559, 74, 111), (zX11_here, 1351, 1349, 1350, 111), (zX11_trait, 1362, 1360, 1361, 111), (zX11_feed, 1369, 1367, 1368, 111), (zX11_byteAt, 1383, 1382, 44, 111), (zX11_isLetter, 1386, 1385, 0, 111), (zX11_isDigit, 1403, 1402, 0, 111), (zX11_isThree, 1396, 1395, 46, 111), (zX11_word, 1392, 1391, 45, 111), (zX11_isSignByte, 1408, 1407, 0, 111), (zX11_next, 1379, 1378, 43, 111), (zX11_fail, 1432, 1431, 52, 111), (zX11_isSign, 1440, 1439, 54, 111), (zX11_takes, 1448, 1447, 56, 111), (zX11_part, 1428, 1427, 51, 111), (zX11_opens, 1444, 1443, 55, 111), (zX11_expression, 1412, 1411, 47, 111), (zX11_sum, 1416, 1415, 48, 111), (zX11_product, 1420, 1419, 49, 111), (zX11_factor, 1424, 1423, 50, 111), (zX11_ofTwo, 1436, 1435, 53, 111), (zX11_names, 1460, 1459, 59, 111), (zX11_comesTo, 1456, 1455, 58, 111), (zX11_weight, 1468, 1467, 61, 111), (zX11_trades, 1452, 1451, 57, 111), (zX11_isHeavy, 1464, 1463, 60, 111), (zX11_text, 1374, 1372, 1373, 111), (zX11_empty, 1472, 1470, 1471, 111), (zX11_told, 1476, 1474, 1475, 111), (zX11_fails, 1511, 1510, 67, 111), (zX11_valueOf, 1493, 1492, 63, 111), (zX11_named, 1501, 1500, 65, 111), (zX11_limited, 1505, 1504, 66, 111), (zX11_valueOf_, 1497, 1496, 64, 111), (zX11_asked, 1489, 1488, 62, 111), (zX11_value, 1481, 1479, 1480, 111), (zX11_why, 1517, 1515, 1516, 111), (zX11_burdenOf, 1525, 1524, 68, 111), (zX11_forcedOf, 1532, 1531, 0, 111), (zX11_isOpen, 1552, 1551, 72, 111), (zX11_tellsBurdens, 1544, 1543, 70, 111), (zX11_opens_, 1548, 1547, 71, 111), (zX11_costs, 1540, 1539, 69, 111), (zX11_burden, 1521, 1519, 1520, 111), (zX11_mark, 1529, 1527, 1528, 111), (zX11_open, 1536, 1534, 1535, 111), (zX11_openMany, 1740, 1739, 96, 111), (zX11_least, 1573, 1572, 75, 111), (zX11_toldOr, 1577, 1576, 0, 111), (zX11_picks, 1590, 1589, 76, 111), (zX11_tell, 1564, 1562, 1563, 111), (zX11_total, 1569, 1567, 1568, 111), (zX11_many, 1582, 1580, 1581, 111), (zX11_best, 1586, 1584, 1585, 111), (zX11_with, 1598, 1597, 77, 111), (zX11_lacking, 1602, 1601, 78, 111), (zX11_kind, 1594, 1592, 1593, 111), (zX11_room, 1606, 1604, 1605, 111), (zX11_enters, 1623, 1622, 81, 111), (zX11_walks, 1619, 1618, 80, 111), (zX11_lists, 1615, 1614, 79, 111), (zX11_next_, 1610, 1608, 1609, 111), (zX11_heaviest, 1631, 1630, 82, 111), (zX11_fair, 1627, 1625, 1626, 111), (zX11_finds, 1665, 1664, 89, 111), (zX11_greatest, 1661, 1660, 88, 111), (zX11_marking, 1657, 1656, 87, 111), (zX11_casesIn, 1645, 1644, 84, 111), (zX11_slack, 1653, 1652, 86, 111), (zX11_rise, 1669, 1668, 90, 111), (zX11_begins, 1641, 1640, 83, 111), (zX11_isLast, 1649, 1648, 85, 111), (zX11_solve, 1637, 1635, 1636, 111), (zX11_round, 1673, 1671, 1672, 111), (zX11_price, 1678, 1676, 1677, 111), (zX11_daysOf, 1687, 1686, 91, 111), (zX11_days, 1682, 1680, 1681, 111), (zX11_day, 1691, 1689, 1690, 111), (zX11_lack, 1695, 1693, 1694, 111), (zX11_without, 1700, 1698, 1699, 111), (zX11_casesMany, 1716, 1715, 93, 111), (zX11_reads, 1712, 1711, 92, 111), (zX11_tells, 1704, 1702, 1703, 111), (zX11_placeOf, 1721, 1720, 94, 111), (zX11_film, 1725, 1723, 1724, 111), (zX11_copies, 1736, 1735, 0, 111), (zX11_keeps, 1733, 1732, 95, 111), (zX11_image, 1729, 1727, 1728, 111), (zX11_back, 1744, 1742, 1743, 111), (zX11_marksOf, 1752, 1751, 97, 111), (zX11_count, 1748, 1746, 1747, 111), (zX11_isSheet, 1707, 1706, 0, 111), (zX11_sheet, 1756, 1754, 1755, 111), (zX11_put, 1760, 1758, 1759, 111), (zX11_item, 1764, 1762, 1763, 111), (zX11_copy, 1768, 1766, 1767, 111), (zX11_lay, 1772, 1770, 1771, 111), (zJ6_bitCount_0f7a4, 622, 621, 0, 113), (zJ9_floorDiv_f86c9, 586, 585, 0, 112), (zJ9_floorMod_f86c9, 589, 588, 0, 112), (zJ9_abs_067f4, 574, 573, 0, 112), (zJ9_max_f86c9, 583, 582, 0, 112), (zJ9_min_f86c9, 580, 579, 0, 112), (zJ7_fill_d0a16, 134, 133, 0, 101), (zJ7_fill_53178, 603, 602, 0, 101)]
def jNests : List Jvm.Cond := [(Jvm.Cond.methodLinkNest "CourtMatcher$Court" (46 : Nat) ({ cls := "CourtMatcher$Rule", name := "<init>", desc := "()V" } : Jvm.MethodName) "CourtMatcher"), (Jvm.Cond.methodLinkNest "CourtMatcher$Tape" (21 : Nat) ({ cls := "CourtMatcher$Rule", name := "<init>", desc := "()V" } : Jvm.MethodName) "CourtMatcher"), (Jvm.Cond.methodLinkNest "CourtMatcher" (25 : Nat) ({ cls := "CourtMatcher$Tape", name := "<init>", desc := "()V" } : Jvm.MethodName) "CourtMatcher"), (Jvm.Cond.methodLinkNest "CourtMatcher" (32 : Nat) ({ cls := "CourtMatcher$Teller", name := "<init>", desc := "()V" } : Jvm.MethodName) "CourtMatcher"), (Jvm.Cond.methodLinkNest "CourtMatcher" (39 : Nat) ({ cls := "CourtMatcher$Plan", name := "<init>", desc := "()V" } : Jvm.MethodName) "CourtMatcher"), (Jvm.Cond.methodLinkNest "CourtMatcher" (49 : Nat) ({ cls := "CourtMatcher$Greatest", name := "<init>", desc := "()V" } : Jvm.MethodName) "CourtMatcher"), (Jvm.Cond.methodLinkNest "CourtMatcher" (56 : Nat) ({ cls := "CourtMatcher$Rounds", name := "<init>", desc := "()V" } : Jvm.MethodName) "CourtMatcher"), (Jvm.Cond.methodLinkNest "CourtMatcher" (63 : Nat) ({ cls := "CourtMatcher$NextOnes", name := "<init>", desc := "()V" } : Jvm.MethodName) "CourtMatcher"), (Jvm.Cond.methodLinkNest "CourtMatcher" (70 : Nat) ({ cls := "CourtMatcher$Diary", name := "<init>", desc := "()V" } : Jvm.MethodName) "CourtMatcher"), (Jvm.Cond.methodLinkNest "CourtMatcher" (97 : Nat) ({ cls := "CourtMatcher$Sheet", name := "<init>", desc := "()V" } : Jvm.MethodName) "CourtMatcher")]
def jNestP : List Nat := [136, 206, 201, 239, 272, 322, 356, 384, 418, 444]
def jInsP : List (Nat × Nat) := [(124, 100), (417, 109), (321, 106), (383, 108), (271, 105), (355, 107), (135, 102), (443, 110), (200, 103), (238, 104), (116, 99), (1102, 111)]
def jLayP : List (List Nat) := [[184, 186, 188, 190, 192, 194, 196], [430, 432, 434, 436, 438], [339, 341, 343, 345, 347, 349, 351], [399, 401, 403, 405, 407, 409, 411, 413], [299, 301, 303, 305, 307, 309, 311, 313, 315, 317], [369, 371, 373, 375, 377, 379], [152, 154, 156, 158, 160], [455, 457, 459], [218, 220, 222, 224, 226, 228, 230, 232, 234], [255, 257, 259, 261, 263, 265, 267], [479, 481, 483, 485, 487, 489, 491, 493, 495, 497, 499, 501, 503, 505, 507, 509, 511], [1187, 1189, 1191, 1193, 1195, 1197, 1199, 1201, 1203, 1205, 1207, 1209, 1211, 1213, 1215, 1217, 1219, 1221, 1223, 1225, 1227, 1229, 1231, 1233, 1235, 1237, 1239, 1241, 1243, 1245, 1247, 1249, 1251, 1253, 1255, 1257, 1259, 1261, 1263, 1265, 1267, 1269, 1271, 1273, 1275, 1277, 1279, 1281, 1283, 1285, 1287, 1289, 1291, 1293, 1295, 1297, 1299, 1301, 1303, 1305, 1307, 1309, 1311, 1313, 1315, 1317, 1319, 1321, 1323, 1325, 1327, 1329, 1331, 1333, 1335, 1337, 1339, 1341, 1343, 1345]]
/-- a field's row in its class's table -/
def jTf (f : Nat) : String × String × String × Bool := (jVc.getD (jFc f) (RX0, TX0, 7)).2.1 (jFj f)
def jTo (pc : Nat) (off : Int) : Int := (pc : Int) + off
def jCn (c : Jvm.ClassFile.Cond) : Nat := match c with
  | .eq => 0
  | .ne => 1
  | .lt => 2
  | .ge => 3
  | .gt => 4
  | .le => 5
/-- what an instruction of the code is to the abstract machine -/
def jRes (own pc : Nat) (cc : ByteArray) (r : Instr) (n : Nat) : Option (Instr × Nat) := match r with
  | .iload_n k => some (.iload k.val, n)
  | .iload k => some (.iload k, n)
  | .lload_n k => some (.lload k.val, n)
  | .lload k => some (.lload k, n)
  | .aload_n k => some (.aload k.val, n)
  | .aload k => some (.aload k, n)
  | .istore_n k => some (.istore k.val, n)
  | .istore k => some (.istore k, n)
  | .lstore_n k => some (.lstore k.val, n)
  | .lstore k => some (.lstore k, n)
  | .astore_n k => some (.astore k.val, n)
  | .astore k => some (.astore k, n)
  | .iinc i v => some (.iinc i v, n)
  | .iconst v => if v.bmod 4294967296 = v then some (.iconst v, n) else none
  | .bipush v => if v.bmod 256 = v then some (.iconst v, n) else none
  | .sipush v => if v.bmod 65536 = v then some (.iconst v, n) else none
  | .lconst k => some (.sipush (k.val : Int), n)
  | .ldc2_w i => ((jCks.getD own []).lookup i).map (fun q => (.sipush q.1, n))
  | .ldc i => ((jCis.getD own []).lookup i).map (fun q => (.iconst q.1, n))
  | .ldc_w i => ((jCis.getD own []).lookup i).map (fun q => (.iconst q.1, n))
  | .goto off => if 0 ≤ jTo pc off then some (.goto (jTo pc off), n) else none
  | .ifCond c off => if 0 ≤ jTo pc off then some (.ifCond c (jTo pc off), n) else none
  | .if_icmp c off => if 0 ≤ jTo pc off then some (.if_icmp c (jTo pc off), n) else none
  | .tableswitch d lo hi os => if 0 ≤ jTo pc d ∧ os.toList.all (fun o => decide (0 ≤ jTo pc o)) = true then some (.tableswitch (jTo pc d) lo hi (os.map (jTo pc)), n) else none
  | .lookupswitch d ps => if (ps.toList.zip (ps.toList.drop 1)).all (fun (a, next) => a.1 < next.1) = true ∧ 0 ≤ jTo pc d ∧ ps.toList.all (fun q => decide (0 ≤ jTo pc q.2)) = true then some (.lookupswitch (jTo pc d) (ps.map (fun q => (q.1, jTo pc q.2))), n) else none
  | .lcmp => (match decode cc (pc + 1) with
    | .ok (.ifCond c off, 3) => if 0 ≤ jTo (pc + 1) off then some (.multianewarray (jCn c) (jTo (pc + 1) off).toNat, n + 3) else none
    | _ => none)
  | .getfield i => ((jCfs.getD own []).lookup i).map (fun q => (.getfield q.1, n))
  | .putfield i => ((jCfs.getD own []).lookup i).bind (fun q => if (jFg q.1 = 3 ∨ jFg q.1 = 4) → jFc q.1 = own then some (.putfield q.1, n) else none)
  | .new i => ((jCcs.getD own []).lookup i).map (fun q => (.new q.1, n))
  | .anewarray i => ((jCys.getD own []).lookup i).map (fun q => (.anewarray q.1, n))
  | .invokevirtual i => ((jCms.getD own []).lookup i).bind (fun q => if jKi q.1 = 1 ∧ q.2.2 = 0 then some (.invokestatic q.1, n) else none)
  | .invokestatic i => (match (jCqs.getD own []).lookup i with
    | some _ => some (.swap, n)
    | none => ((jCms.getD own []).lookup i).bind (fun q => if jKi q.1 = 0 ∧ q.2.2 = 0 then some (.invokestatic q.1, n) else none))
  | .invokespecial i => (match (jCos.getD own []).lookup i with
    | some _ => some (.pop, n)
    | none => ((jCms.getD own []).lookup i).bind (fun q => if jKi q.1 = 2 then some (.invokestatic q.1, n) else none))
  | .dup => some (.dup, n)
  | .dup2 => some (.dup2, n)
  | .pop2 => some (.pop2, n)
  | .iadd => some (.iadd, n)
  | .isub => some (.isub, n)
  | .imul => some (.imul, n)
  | .iand => some (.iand, n)
  | .ior => some (.ior, n)
  | .ixor => some (.ixor, n)
  | .ishl => some (.ishl, n)
  | .ishr => some (.ishr, n)
  | .iushr => some (.iushr, n)
  | .idiv => some (.idiv, n)
  | .irem => some (.irem, n)
  | .i2l => some (.i2l, n)
  | .l2i => some (.l2i, n)
  | .i2b => some (.i2b, n)
  | .lneg => some (.lneg, n)
  | .ladd => some (.ladd, n)
  | .lsub => some (.lsub, n)
  | .lmul => some (.lmul, n)
  | .land => some (.land, n)
  | .lor => some (.lor, n)
  | .lxor => some (.lxor, n)
  | .lshl => some (.lshl, n)
  | .ldiv => some (.ldiv, n)
  | .lrem => some (.lrem, n)
  | .arraylength => some (.arraylength, n)
  | .iaload => some (.iaload, n)
  | .laload => some (.laload, n)
  | .aaload => some (.aaload, n)
  | .iastore => some (.iastore, n)
  | .lastore => some (.lastore, n)
  | .aastore => some (.aastore, n)
  | .newarray ty => some (.newarray ty, n)
  | .ireturn => some (.ireturn, n)
  | .lreturn => some (.lreturn, n)
  | .return_ => some (.return_, n)
  | _ => none
/-- an instruction's length -/
def jLen (r : Instr) (n : Nat) : Bool := match r with
  | .tableswitch _ _ _ _ => true
  | .lookupswitch _ _ => true
  | .bipush _ => Nat.beq n 2
  | .iload _ => Nat.beq n 2
  | .lload _ => Nat.beq n 2
  | .aload _ => Nat.beq n 2
  | .istore _ => Nat.beq n 2
  | .lstore _ => Nat.beq n 2
  | .astore _ => Nat.beq n 2
  | .newarray _ => Nat.beq n 2
  | .ldc _ => Nat.beq n 2
  | .sipush _ => Nat.beq n 3
  | .ldc_w _ => Nat.beq n 3
  | .ldc2_w _ => Nat.beq n 3
  | .goto _ => Nat.beq n 3
  | .ifCond _ _ => Nat.beq n 3
  | .if_icmp _ _ => Nat.beq n 3
  | .getfield _ => Nat.beq n 3
  | .putfield _ => Nat.beq n 3
  | .new _ => Nat.beq n 3
  | .anewarray _ => Nat.beq n 3
  | .invokevirtual _ => Nat.beq n 3
  | .invokestatic _ => Nat.beq n 3
  | .invokespecial _ => Nat.beq n 3
  | .iinc _ _ => Nat.beq n 3
  | _ => Nat.beq n 1
def jIs (o : Option (Instr × Nat)) (ai : Instr) (n : Nat) : Bool := match o with
  | some (a, k) => decide (a = ai) && Nat.beq k n
  | none => false
def jChk (own : Nat) (cc : ByteArray) (l : List (Nat × Instr × Nat)) : Bool := l.all (fun q => match decode cc q.1 with
  | .ok (r, n) => jLen r n && jIs (jRes own q.1 cc r n) q.2.1 q.2.2
  | _ => false)
theorem jdX0_init : jChk 0 cX0_init jcX0_init = true := by decide +kernel
theorem jdX0_take : jChk 0 cX0_take jcX0_take = true := by decide +kernel
theorem jdX0_seat : jChk 0 cX0_seat jcX0_seat = true := by decide +kernel
theorem jdX0_isIn : jChk 0 cX0_isIn jcX0_isIn = true := by decide +kernel
theorem jdX0_forcedBeside : jChk 0 cX0_forcedBeside jcX0_forcedBeside = true := by decide +kernel
theorem jdX0_marked : jChk 0 cX0_marked jcX0_marked = true := by decide +kernel
theorem jdX0_owned : jChk 0 cX0_owned jcX0_owned = true := by decide +kernel
theorem jdX0_namersOf : jChk 0 cX0_namersOf jcX0_namersOf = true := by decide +kernel
theorem jdX0_reachOf : jChk 0 cX0_reachOf jcX0_reachOf = true := by decide +kernel
theorem jdX0_weighRules : jChk 0 cX0_weighRules jcX0_weighRules = true := by decide +kernel
theorem jdX0_refusalOf : jChk 0 cX0_refusalOf jcX0_refusalOf = true := by decide +kernel
theorem jdX1_init : jChk 1 cX1_init jcX1_init = true := by decide +kernel
theorem jdX1_write : jChk 1 cX1_write jcX1_write = true := by decide +kernel
theorem jdX1_hear : jChk 1 cX1_hear jcX1_hear = true := by decide +kernel
theorem jdX2_init : jChk 2 cX2_init jcX2_init = true := by decide +kernel
theorem jdX2_find : jChk 2 cX2_find jcX2_find = true := by decide +kernel
theorem jdX2_grow : jChk 2 cX2_grow jcX2_grow = true := by decide +kernel
theorem jdX2_turn : jChk 2 cX2_turn jcX2_turn = true := by decide +kernel
theorem jdX2_spread : jChk 2 cX2_spread jcX2_spread = true := by decide +kernel
theorem jdX3_init : jChk 3 cX3_init jcX3_init = true := by decide +kernel
theorem jdX3_find : jChk 3 cX3_find jcX3_find = true := by decide +kernel
theorem jdX3_firstPart : jChk 3 cX3_firstPart jcX3_firstPart = true := by decide +kernel
theorem jdX3_isAhead : jChk 3 cX3_isAhead jcX3_isAhead = true := by decide +kernel
theorem jdX3_keep : jChk 3 cX3_keep jcX3_keep = true := by decide +kernel
theorem jdX3_drop : jChk 3 cX3_drop jcX3_drop = true := by decide +kernel
theorem jdX3_split : jChk 3 cX3_split jcX3_split = true := by decide +kernel
theorem jdX3_propose : jChk 3 cX3_propose jcX3_propose = true := by decide +kernel
theorem jdX3_placeOf : jChk 3 cX3_placeOf jcX3_placeOf = true := by decide +kernel
theorem jdX4_init : jChk 4 cX4_init jcX4_init = true := by decide +kernel
theorem jdX4_load : jChk 4 cX4_load jcX4_load = true := by decide +kernel
theorem jdX4_take : jChk 4 cX4_take jcX4_take = true := by decide +kernel
theorem jdX4_openBy : jChk 4 cX4_openBy jcX4_openBy = true := by decide +kernel
theorem jdX4_force : jChk 4 cX4_force jcX4_force = true := by decide +kernel
theorem jdX4_isOpen : jChk 4 cX4_isOpen jcX4_isOpen = true := by decide +kernel
theorem jdX4_openPairs : jChk 4 cX4_openPairs jcX4_openPairs = true := by decide +kernel
theorem jdX4_closeJudge : jChk 4 cX4_closeJudge jcX4_closeJudge = true := by decide +kernel
theorem jdX4_closeHeavier : jChk 4 cX4_closeHeavier jcX4_closeHeavier = true := by decide +kernel
theorem jdX4_heavierThan : jChk 4 cX4_heavierThan jcX4_heavierThan = true := by decide +kernel
theorem jdX4_weigh : jChk 4 cX4_weigh jcX4_weigh = true := by decide +kernel
theorem jdX4_listCases : jChk 4 cX4_listCases jcX4_listCases = true := by decide +kernel
theorem jdX4_canTake : jChk 4 cX4_canTake jcX4_canTake = true := by decide +kernel
theorem jdX4_weighFrom : jChk 4 cX4_weighFrom jcX4_weighFrom = true := by decide +kernel
theorem jdX4_leads : jChk 4 cX4_leads jcX4_leads = true := by decide +kernel
theorem jdX4_firstLead : jChk 4 cX4_firstLead jcX4_firstLead = true := by decide +kernel
theorem jdX4_pick : jChk 4 cX4_pick jcX4_pick = true := by decide +kernel
theorem jdX4_share : jChk 4 cX4_share jcX4_share = true := by decide +kernel
theorem jdX4_shareFrom : jChk 4 cX4_shareFrom jcX4_shareFrom = true := by decide +kernel
theorem jdX4_follows : jChk 4 cX4_follows jcX4_follows = true := by decide +kernel
theorem jdX4_sumOf : jChk 4 cX4_sumOf jcX4_sumOf = true := by decide +kernel
theorem jdX4_sharedOf : jChk 4 cX4_sharedOf jcX4_sharedOf = true := by decide +kernel
theorem jdX5_init : jChk 5 cX5_init jcX5_init = true := by decide +kernel
theorem jdX5_make : jChk 5 cX5_make jcX5_make = true := by decide +kernel
theorem jdX5_firstPay : jChk 5 cX5_firstPay jcX5_firstPay = true := by decide +kernel
theorem jdX5_slack : jChk 5 cX5_slack jcX5_slack = true := by decide +kernel
theorem jdX5_findTight : jChk 5 cX5_findTight jcX5_findTight = true := by decide +kernel
theorem jdX5_leastSlack : jChk 5 cX5_leastSlack jcX5_leastSlack = true := by decide +kernel
theorem jdX5_keep : jChk 5 cX5_keep jcX5_keep = true := by decide +kernel
theorem jdX5_raise : jChk 5 cX5_raise jcX5_raise = true := by decide +kernel
theorem jdX6_init : jChk 6 cX6_init jcX6_init = true := by decide +kernel
theorem jdX6_clear : jChk 6 cX6_clear jcX6_clear = true := by decide +kernel
theorem jdX6_take : jChk 6 cX6_take jcX6_take = true := by decide +kernel
theorem jdX6_add : jChk 6 cX6_add jcX6_add = true := by decide +kernel
theorem jdX6_landHere : jChk 6 cX6_landHere jcX6_landHere = true := by decide +kernel
theorem jdX6_names : jChk 6 cX6_names jcX6_names = true := by decide +kernel
theorem jdX6_weightBy : jChk 6 cX6_weightBy jcX6_weightBy = true := by decide +kernel
theorem jdX7_init : jChk 7 cX7_init jcX7_init = true := by decide +kernel
theorem jdX7_become : jChk 7 cX7_become jcX7_become = true := by decide +kernel
theorem jdX7_holds : jChk 7 cX7_holds jcX7_holds = true := by decide +kernel
theorem jdX7_set : jChk 7 cX7_set jcX7_set = true := by decide +kernel
theorem jdX8_init : jChk 8 cX8_init jcX8_init = true := by decide +kernel
theorem jdX8_add : jChk 8 cX8_add jcX8_add = true := by decide +kernel
theorem jdX8_parse : jChk 8 cX8_parse jcX8_parse = true := by decide +kernel
theorem jdX8_expr : jChk 8 cX8_expr jcX8_expr = true := by decide +kernel
theorem jdX8_sum : jChk 8 cX8_sum jcX8_sum = true := by decide +kernel
theorem jdX8_product : jChk 8 cX8_product jcX8_product = true := by decide +kernel
theorem jdX8_factor : jChk 8 cX8_factor jcX8_factor = true := by decide +kernel
theorem jdX8_atom : jChk 8 cX8_atom jcX8_atom = true := by decide +kernel
theorem jdX8_function : jChk 8 cX8_function jcX8_function = true := by decide +kernel
theorem jdX8_part : jChk 8 cX8_part jcX8_part = true := by decide +kernel
theorem jdX8_enter : jChk 8 cX8_enter jcX8_enter = true := by decide +kernel
theorem jdX8_leave : jChk 8 cX8_leave jcX8_leave = true := by decide +kernel
theorem jdX8_step : jChk 8 cX8_step jcX8_step = true := by decide +kernel
theorem jdX8_word : jChk 8 cX8_word jcX8_word = true := by decide +kernel
theorem jdX8_nameOfOne : jChk 8 cX8_nameOfOne jcX8_nameOfOne = true := by decide +kernel
theorem jdX8_nameOfThree : jChk 8 cX8_nameOfThree jcX8_nameOfThree = true := by decide +kernel
theorem jdX8_digits : jChk 8 cX8_digits jcX8_digits = true := by decide +kernel
theorem jdX8_isLetter : jChk 8 cX8_isLetter jcX8_isLetter = true := by decide +kernel
theorem jdX8_isDigit : jChk 8 cX8_isDigit jcX8_isDigit = true := by decide +kernel
theorem jdX8_isSign : jChk 8 cX8_isSign jcX8_isSign = true := by decide +kernel
theorem jdX9_init : jChk 9 cX9_init jcX9_init = true := by decide +kernel
theorem jdX9_burdenOf : jChk 9 cX9_burdenOf jcX9_burdenOf = true := by decide +kernel
theorem jdX9_tellBy : jChk 9 cX9_tellBy jcX9_tellBy = true := by decide +kernel
theorem jdX9_read : jChk 9 cX9_read jcX9_read = true := by decide +kernel
theorem jdX9_operand : jChk 9 cX9_operand jcX9_operand = true := by decide +kernel
theorem jdX9_join : jChk 9 cX9_join jcX9_join = true := by decide +kernel
theorem jdX9_fail : jChk 9 cX9_fail jcX9_fail = true := by decide +kernel
theorem jdX10_init : jChk 10 cX10_init jcX10_init = true := by decide +kernel
theorem jdX10_here : jChk 10 cX10_here jcX10_here = true := by decide +kernel
theorem jdX10_trait : jChk 10 cX10_trait jcX10_trait = true := by decide +kernel
theorem jdX10_tell : jChk 10 cX10_tell jcX10_tell = true := by decide +kernel
theorem jdX10_burden : jChk 10 cX10_burden jcX10_burden = true := by decide +kernel
theorem jdX10_mark : jChk 10 cX10_mark jcX10_mark = true := by decide +kernel
theorem jdX10_open : jChk 10 cX10_open jcX10_open = true := by decide +kernel
theorem jdX10_feed : jChk 10 cX10_feed jcX10_feed = true := by decide +kernel
theorem jdX10_text : jChk 10 cX10_text jcX10_text = true := by decide +kernel
theorem jdX10_empty : jChk 10 cX10_empty jcX10_empty = true := by decide +kernel
theorem jdX10_told : jChk 10 cX10_told jcX10_told = true := by decide +kernel
theorem jdX10_value : jChk 10 cX10_value jcX10_value = true := by decide +kernel
theorem jdX10_why : jChk 10 cX10_why jcX10_why = true := by decide +kernel
theorem jdX10_solve : jChk 10 cX10_solve jcX10_solve = true := by decide +kernel
theorem jdX10_round : jChk 10 cX10_round jcX10_round = true := by decide +kernel
theorem jdX10_price : jChk 10 cX10_price jcX10_price = true := by decide +kernel
theorem jdX10_total : jChk 10 cX10_total jcX10_total = true := by decide +kernel
theorem jdX10_many : jChk 10 cX10_many jcX10_many = true := by decide +kernel
theorem jdX10_best : jChk 10 cX10_best jcX10_best = true := by decide +kernel
theorem jdX10_kind : jChk 10 cX10_kind jcX10_kind = true := by decide +kernel
theorem jdX10_room : jChk 10 cX10_room jcX10_room = true := by decide +kernel
theorem jdX10_next : jChk 10 cX10_next jcX10_next = true := by decide +kernel
theorem jdX10_fair : jChk 10 cX10_fair jcX10_fair = true := by decide +kernel
theorem jdX10_days : jChk 10 cX10_days jcX10_days = true := by decide +kernel
theorem jdX10_day : jChk 10 cX10_day jcX10_day = true := by decide +kernel
theorem jdX10_lack : jChk 10 cX10_lack jcX10_lack = true := by decide +kernel
theorem jdX10_without : jChk 10 cX10_without jcX10_without = true := by decide +kernel
theorem jdX10_tells : jChk 10 cX10_tells jcX10_tells = true := by decide +kernel
theorem jdX10_film : jChk 10 cX10_film jcX10_film = true := by decide +kernel
theorem jdX10_image : jChk 10 cX10_image jcX10_image = true := by decide +kernel
theorem jdX10_back : jChk 10 cX10_back jcX10_back = true := by decide +kernel
theorem jdX10_count : jChk 10 cX10_count jcX10_count = true := by decide +kernel
theorem jdX10_sheet : jChk 10 cX10_sheet jcX10_sheet = true := by decide +kernel
theorem jdX10_put : jChk 10 cX10_put jcX10_put = true := by decide +kernel
theorem jdX10_item : jChk 10 cX10_item jcX10_item = true := by decide +kernel
theorem jdX10_copy : jChk 10 cX10_copy jcX10_copy = true := by decide +kernel
theorem jdX10_lay : jChk 10 cX10_lay jcX10_lay = true := by decide +kernel
theorem jdX10_isSide : jChk 10 cX10_isSide jcX10_isSide = true := by decide +kernel
theorem jdX10_isSeat : jChk 10 cX10_isSeat jcX10_isSeat = true := by decide +kernel
theorem jdX10_isPair : jChk 10 cX10_isPair jcX10_isPair = true := by decide +kernel
theorem jdX10_isRule : jChk 10 cX10_isRule jcX10_isRule = true := by decide +kernel
theorem jdX10_isSheet : jChk 10 cX10_isSheet jcX10_isSheet = true := by decide +kernel
theorem jdX10_changed : jChk 10 cX10_changed jcX10_changed = true := by decide +kernel
theorem jdX10_refreshPlan : jChk 10 cX10_refreshPlan jcX10_refreshPlan = true := by decide +kernel
theorem jdX10_refreshShares : jChk 10 cX10_refreshShares jcX10_refreshShares = true := by decide +kernel
theorem jdX10_refreshNextOnes : jChk 10 cX10_refreshNextOnes jcX10_refreshNextOnes = true := by decide +kernel
theorem jdX10_refreshDiary : jChk 10 cX10_refreshDiary jcX10_refreshDiary = true := by decide +kernel
theorem jdX11_in : jChk 11 cX11_in jcX11_in = true := by decide +kernel
theorem jdX11_init : jChk 11 cX11_init jcX11_init = true := by decide +kernel
theorem jdX11_isWho : jChk 11 cX11_isWho jcX11_isWho = true := by decide +kernel
theorem jdX11_isPair : jChk 11 cX11_isPair jcX11_isPair = true := by decide +kernel
theorem jdX11_isJudge : jChk 11 cX11_isJudge jcX11_isJudge = true := by decide +kernel
theorem jdX11_isCase : jChk 11 cX11_isCase jcX11_isCase = true := by decide +kernel
theorem jdX11_here : jChk 11 cX11_here jcX11_here = true := by decide +kernel
theorem jdX11_trait : jChk 11 cX11_trait jcX11_trait = true := by decide +kernel
theorem jdX11_feed : jChk 11 cX11_feed jcX11_feed = true := by decide +kernel
theorem jdX11_byteAt : jChk 11 cX11_byteAt jcX11_byteAt = true := by decide +kernel
theorem jdX11_isLetter : jChk 11 cX11_isLetter jcX11_isLetter = true := by decide +kernel
theorem jdX11_isDigit : jChk 11 cX11_isDigit jcX11_isDigit = true := by decide +kernel
theorem jdX11_isThree : jChk 11 cX11_isThree jcX11_isThree = true := by decide +kernel
theorem jdX11_word : jChk 11 cX11_word jcX11_word = true := by decide +kernel
theorem jdX11_isSignByte : jChk 11 cX11_isSignByte jcX11_isSignByte = true := by decide +kernel
theorem jdX11_next : jChk 11 cX11_next jcX11_next = true := by decide +kernel
theorem jdX11_fail : jChk 11 cX11_fail jcX11_fail = true := by decide +kernel
theorem jdX11_isSign : jChk 11 cX11_isSign jcX11_isSign = true := by decide +kernel
theorem jdX11_takes : jChk 11 cX11_takes jcX11_takes = true := by decide +kernel
theorem jdX11_part : jChk 11 cX11_part jcX11_part = true := by decide +kernel
theorem jdX11_opens : jChk 11 cX11_opens jcX11_opens = true := by decide +kernel
theorem jdX11_expression : jChk 11 cX11_expression jcX11_expression = true := by decide +kernel
theorem jdX11_sum : jChk 11 cX11_sum jcX11_sum = true := by decide +kernel
theorem jdX11_product : jChk 11 cX11_product jcX11_product = true := by decide +kernel
theorem jdX11_factor : jChk 11 cX11_factor jcX11_factor = true := by decide +kernel
theorem jdX11_ofTwo : jChk 11 cX11_ofTwo jcX11_ofTwo = true := by decide +kernel
theorem jdX11_names : jChk 11 cX11_names jcX11_names = true := by decide +kernel
theorem jdX11_comesTo : jChk 11 cX11_comesTo jcX11_comesTo = true := by decide +kernel
theorem jdX11_weight : jChk 11 cX11_weight jcX11_weight = true := by decide +kernel
theorem jdX11_trades : jChk 11 cX11_trades jcX11_trades = true := by decide +kernel
theorem jdX11_isHeavy : jChk 11 cX11_isHeavy jcX11_isHeavy = true := by decide +kernel
theorem jdX11_text : jChk 11 cX11_text jcX11_text = true := by decide +kernel
theorem jdX11_empty : jChk 11 cX11_empty jcX11_empty = true := by decide +kernel
theorem jdX11_told : jChk 11 cX11_told jcX11_told = true := by decide +kernel
theorem jdX11_fails : jChk 11 cX11_fails jcX11_fails = true := by decide +kernel
theorem jdX11_valueOf : jChk 11 cX11_valueOf jcX11_valueOf = true := by decide +kernel
theorem jdX11_named : jChk 11 cX11_named jcX11_named = true := by decide +kernel
theorem jdX11_limited : jChk 11 cX11_limited jcX11_limited = true := by decide +kernel
theorem jdX11_valueOf_ : jChk 11 cX11_valueOf_ jcX11_valueOf_ = true := by decide +kernel
theorem jdX11_asked : jChk 11 cX11_asked jcX11_asked = true := by decide +kernel
theorem jdX11_value : jChk 11 cX11_value jcX11_value = true := by decide +kernel
theorem jdX11_why : jChk 11 cX11_why jcX11_why = true := by decide +kernel
theorem jdX11_burdenOf : jChk 11 cX11_burdenOf jcX11_burdenOf = true := by decide +kernel
theorem jdX11_forcedOf : jChk 11 cX11_forcedOf jcX11_forcedOf = true := by decide +kernel
theorem jdX11_isOpen : jChk 11 cX11_isOpen jcX11_isOpen = true := by decide +kernel
theorem jdX11_tellsBurdens : jChk 11 cX11_tellsBurdens jcX11_tellsBurdens = true := by decide +kernel
theorem jdX11_opens_ : jChk 11 cX11_opens_ jcX11_opens_ = true := by decide +kernel
theorem jdX11_costs : jChk 11 cX11_costs jcX11_costs = true := by decide +kernel
theorem jdX11_burden : jChk 11 cX11_burden jcX11_burden = true := by decide +kernel
theorem jdX11_mark : jChk 11 cX11_mark jcX11_mark = true := by decide +kernel
theorem jdX11_open : jChk 11 cX11_open jcX11_open = true := by decide +kernel
theorem jdX11_openMany : jChk 11 cX11_openMany jcX11_openMany = true := by decide +kernel
theorem jdX11_least : jChk 11 cX11_least jcX11_least = true := by decide +kernel
theorem jdX11_toldOr : jChk 11 cX11_toldOr jcX11_toldOr = true := by decide +kernel
theorem jdX11_picks : jChk 11 cX11_picks jcX11_picks = true := by decide +kernel
theorem jdX11_tell : jChk 11 cX11_tell jcX11_tell = true := by decide +kernel
theorem jdX11_total : jChk 11 cX11_total jcX11_total = true := by decide +kernel
theorem jdX11_many : jChk 11 cX11_many jcX11_many = true := by decide +kernel
theorem jdX11_best : jChk 11 cX11_best jcX11_best = true := by decide +kernel
theorem jdX11_with : jChk 11 cX11_with jcX11_with = true := by decide +kernel
theorem jdX11_lacking : jChk 11 cX11_lacking jcX11_lacking = true := by decide +kernel
theorem jdX11_kind : jChk 11 cX11_kind jcX11_kind = true := by decide +kernel
theorem jdX11_room : jChk 11 cX11_room jcX11_room = true := by decide +kernel
theorem jdX11_enters : jChk 11 cX11_enters jcX11_enters = true := by decide +kernel
theorem jdX11_walks : jChk 11 cX11_walks jcX11_walks = true := by decide +kernel
theorem jdX11_lists : jChk 11 cX11_lists jcX11_lists = true := by decide +kernel
theorem jdX11_next_ : jChk 11 cX11_next_ jcX11_next_ = true := by decide +kernel
theorem jdX11_heaviest : jChk 11 cX11_heaviest jcX11_heaviest = true := by decide +kernel
theorem jdX11_fair : jChk 11 cX11_fair jcX11_fair = true := by decide +kernel
theorem jdX11_finds : jChk 11 cX11_finds jcX11_finds = true := by decide +kernel
theorem jdX11_greatest : jChk 11 cX11_greatest jcX11_greatest = true := by decide +kernel
theorem jdX11_marking : jChk 11 cX11_marking jcX11_marking = true := by decide +kernel
theorem jdX11_casesIn : jChk 11 cX11_casesIn jcX11_casesIn = true := by decide +kernel
theorem jdX11_slack : jChk 11 cX11_slack jcX11_slack = true := by decide +kernel
theorem jdX11_rise : jChk 11 cX11_rise jcX11_rise = true := by decide +kernel
theorem jdX11_begins : jChk 11 cX11_begins jcX11_begins = true := by decide +kernel
theorem jdX11_isLast : jChk 11 cX11_isLast jcX11_isLast = true := by decide +kernel
theorem jdX11_solve : jChk 11 cX11_solve jcX11_solve = true := by decide +kernel
theorem jdX11_round : jChk 11 cX11_round jcX11_round = true := by decide +kernel
theorem jdX11_price : jChk 11 cX11_price jcX11_price = true := by decide +kernel
theorem jdX11_daysOf : jChk 11 cX11_daysOf jcX11_daysOf = true := by decide +kernel
theorem jdX11_days : jChk 11 cX11_days jcX11_days = true := by decide +kernel
theorem jdX11_day : jChk 11 cX11_day jcX11_day = true := by decide +kernel
theorem jdX11_lack : jChk 11 cX11_lack jcX11_lack = true := by decide +kernel
theorem jdX11_without : jChk 11 cX11_without jcX11_without = true := by decide +kernel
theorem jdX11_casesMany : jChk 11 cX11_casesMany jcX11_casesMany = true := by decide +kernel
theorem jdX11_reads : jChk 11 cX11_reads jcX11_reads = true := by decide +kernel
theorem jdX11_tells : jChk 11 cX11_tells jcX11_tells = true := by decide +kernel
theorem jdX11_placeOf : jChk 11 cX11_placeOf jcX11_placeOf = true := by decide +kernel
theorem jdX11_film : jChk 11 cX11_film jcX11_film = true := by decide +kernel
theorem jdX11_copies : jChk 11 cX11_copies jcX11_copies = true := by decide +kernel
theorem jdX11_keeps : jChk 11 cX11_keeps jcX11_keeps = true := by decide +kernel
theorem jdX11_image : jChk 11 cX11_image jcX11_image = true := by decide +kernel
theorem jdX11_back : jChk 11 cX11_back jcX11_back = true := by decide +kernel
theorem jdX11_marksOf : jChk 11 cX11_marksOf jcX11_marksOf = true := by decide +kernel
theorem jdX11_count : jChk 11 cX11_count jcX11_count = true := by decide +kernel
theorem jdX11_isSheet : jChk 11 cX11_isSheet jcX11_isSheet = true := by decide +kernel
theorem jdX11_sheet : jChk 11 cX11_sheet jcX11_sheet = true := by decide +kernel
theorem jdX11_put : jChk 11 cX11_put jcX11_put = true := by decide +kernel
theorem jdX11_item : jChk 11 cX11_item jcX11_item = true := by decide +kernel
theorem jdX11_copy : jChk 11 cX11_copy jcX11_copy = true := by decide +kernel
theorem jdX11_lay : jChk 11 cX11_lay jcX11_lay = true := by decide +kernel
theorem jdJ6_bitCount_0f7a4 : jChk 13 cJ6_bitCount_0f7a4 jcJ6_bitCount_0f7a4 = true := by decide +kernel
theorem jdJ9_floorDiv_f86c9 : jChk 14 cJ9_floorDiv_f86c9 jcJ9_floorDiv_f86c9 = true := by decide +kernel
theorem jdJ9_floorMod_f86c9 : jChk 14 cJ9_floorMod_f86c9 jcJ9_floorMod_f86c9 = true := by decide +kernel
theorem jdJ9_abs_067f4 : jChk 14 cJ9_abs_067f4 jcJ9_abs_067f4 = true := by decide +kernel
theorem jdJ9_max_f86c9 : jChk 14 cJ9_max_f86c9 jcJ9_max_f86c9 = true := by decide +kernel
theorem jdJ9_min_f86c9 : jChk 14 cJ9_min_f86c9 jcJ9_min_f86c9 = true := by decide +kernel
theorem jdJ7_fill_d0a16 : jChk 15 cJ7_fill_d0a16 jcJ7_fill_d0a16 = true := by decide +kernel
theorem jdJ7_fill_53178 : jChk 15 cJ7_fill_53178 jcJ7_fill_53178 = true := by decide +kernel
def jBW : List Jvm.Cond := lw_tbl.filter goodWord
def jHas (p : Nat) (c : Jvm.Cond) : Bool := decide (lw_tbl[p]? = some c)
theorem jHas_mem {p : Nat} {c : Jvm.Cond} (h : jHas p c = true) : c ∈ lw_tbl := List.mem_of_getElem? (of_decide_eq_true h)
theorem jCf_all : (List.range 16).all (fun own => (jCfs.getD own []).all (fun q => jHas q.2.2 (.fieldLink (jRn own) q.1 (jTf q.2.1).1 (jTf q.2.1).2.1 (jTf q.2.1).2.2.1) && decide (jFc q.2.1 < 12 ∧ jFj q.2.1 < jNf (jFc q.2.1) ∧ jFf (jFc q.2.1) (jFj q.2.1) = q.2.1))) = true := by decide +kernel
theorem jCc_all : (List.range 16).all (fun own => (jCcs.getD own []).all (fun q => jHas q.2.2 (.classLink (jRn own) q.1 (jRn q.2.1)) && decide (q.2.1 < 12))) = true := by decide +kernel
theorem jCy_all : (List.range 16).all (fun own => (jCys.getD own []).all (fun q => jHas q.2.2 (.classLink (jRn own) q.1 (jRn (q.2.1 + 4))) && decide (q.2.1 = 2 ∨ q.2.1 = 3))) = true := by decide +kernel
theorem jCk_all : (List.range 16).all (fun own => (jCks.getD own []).all (fun q => jHas q.2.2 (.constantLong (jRn own) q.1 (Int64.ofInt q.2.1)) && decide ((Int64.ofInt q.2.1).toInt = q.2.1))) = true := by decide +kernel
theorem jCi_all : (List.range 16).all (fun own => (jCis.getD own []).all (fun q => jHas q.2.2 (.constant (jRn own) q.1 (Int32.ofInt q.2.1)) && decide ((Int32.ofInt q.2.1).toInt = q.2.1))) = true := by decide +kernel
theorem jCo_all : (List.range 16).all (fun own => (jCos.getD own []).all (fun q => jHas q.2.2 (.methodLink (jRn own) q.1 Jvm.Lib.objectInit))) = true := by decide +kernel
theorem jCq_all : (List.range 16).all (fun own => (jCqs.getD own []).all (fun q => jHas q.2.2 (.methodLink (jRn own) q.1 arraycopyName))) = true := by decide +kernel
theorem jCm_all : (List.range 16).all (fun own => (jCms.getD own []).all (fun q => decide (q.2.1 ∈ jZs) && decide (jMd q.2.1 = 1 → jKi q.2.1 = 2) && (if q.2.2.2 = 0 then jHas q.2.2.1 (.methodLink (jRn own) q.1 (jYn q.2.1)) else (jHas q.2.2.1 (.methodLinkNest (jRn own) q.1 (jYn q.2.1) "CourtMatcher") && decide (Jvm.Cond.methodLinkNest (jRn own) q.1 (jYn q.2.1) "CourtMatcher" ∈ jNests))))) = true := by decide +kernel
theorem jMw_a : jMw.all (fun q => (if jKi q.1 = 0 then jHas q.2.2.1 (.static (jYn q.1)) else jHas q.2.2.1 (.instanceMethod (jYn q.1)))) = true := by decide +kernel
theorem jMw_b : jMw.all (fun q => (if jKi q.1 = 1 then jHas q.2.2.2.1 (.selects (jRn (jCl q.1)) (jYn q.1) (jYn q.1)) else true) && jHas q.2.2.2.2 (.initialized (jYn q.1).cls)) = true := by decide +kernel
theorem jMw_c : jMw.all (fun q => decide ((jYn q.1).cls = jRn (jCl q.1)) && decide (jKi q.1 = 2 → (jYn q.1).name = "<init>")) = true := by decide +kernel
theorem jMw_d : jMw.all (fun q => decide (jRy q.1 = (match jRt q.1 with
    | 0 => none
    | 1 => some .int
    | 2 => some .long
    | _ => some .boolean)) && decide (jMd q.1 ≠ 1 → jMc q.1 = 0) && decide (jKi q.1 ≠ 0 → jCl q.1 < 12 ∧ 1 ≤ jNa q.1) && decide (jMx q.1 ≤ 40) && decide (jRt q.1 ≤ 3) && decide (jKi q.1 ≤ 2) && decide (jMd q.1 ≤ 2) && decide (jCl q.1 < 16)) = true := by decide +kernel
theorem jRn_plain : jRns.all (fun c => decide (c ≠ "java/lang/invoke/MethodHandle") && decide (c ≠ "java/lang/invoke/VarHandle")) = true := by decide +kernel
theorem jMw_p : jMw.all (fun q => plainFor (jYn q.1)) = true := by decide +kernel
theorem jMw_e0 : ((jMw.drop 0).take 25).all (fun q => decide ((parseMethodDescriptor (jYn q.1).desc).map (fun d => d.parameters.length) = some (if jKi q.1 = 0 then jNa q.1 else jNa q.1 - 1))) = true := by decide +kernel
theorem jMw_e1 : ((jMw.drop 25).take 25).all (fun q => decide ((parseMethodDescriptor (jYn q.1).desc).map (fun d => d.parameters.length) = some (if jKi q.1 = 0 then jNa q.1 else jNa q.1 - 1))) = true := by decide +kernel
theorem jMw_e2 : ((jMw.drop 50).take 25).all (fun q => decide ((parseMethodDescriptor (jYn q.1).desc).map (fun d => d.parameters.length) = some (if jKi q.1 = 0 then jNa q.1 else jNa q.1 - 1))) = true := by decide +kernel
theorem jMw_e3 : ((jMw.drop 75).take 25).all (fun q => decide ((parseMethodDescriptor (jYn q.1).desc).map (fun d => d.parameters.length) = some (if jKi q.1 = 0 then jNa q.1 else jNa q.1 - 1))) = true := by decide +kernel
theorem jMw_e4 : ((jMw.drop 100).take 25).all (fun q => decide ((parseMethodDescriptor (jYn q.1).desc).map (fun d => d.parameters.length) = some (if jKi q.1 = 0 then jNa q.1 else jNa q.1 - 1))) = true := by decide +kernel
theorem jMw_e5 : ((jMw.drop 125).take 25).all (fun q => decide ((parseMethodDescriptor (jYn q.1).desc).map (fun d => d.parameters.length) = some (if jKi q.1 = 0 then jNa q.1 else jNa q.1 - 1))) = true := by decide +kernel
theorem jMw_e6 : ((jMw.drop 150).take 25).all (fun q => decide ((parseMethodDescriptor (jYn q.1).desc).map (fun d => d.parameters.length) = some (if jKi q.1 = 0 then jNa q.1 else jNa q.1 - 1))) = true := by decide +kernel
theorem jMw_e7 : ((jMw.drop 175).take 25).all (fun q => decide ((parseMethodDescriptor (jYn q.1).desc).map (fun d => d.parameters.length) = some (if jKi q.1 = 0 then jNa q.1 else jNa q.1 - 1))) = true := by decide +kernel
theorem jMw_e8 : ((jMw.drop 200).take 25).all (fun q => decide ((parseMethodDescriptor (jYn q.1).desc).map (fun d => d.parameters.length) = some (if jKi q.1 = 0 then jNa q.1 else jNa q.1 - 1))) = true := by decide +kernel
theorem jMw_e9 : ((jMw.drop 225).take 25).all (fun q => decide ((parseMethodDescriptor (jYn q.1).desc).map (fun d => d.parameters.length) = some (if jKi q.1 = 0 then jNa q.1 else jNa q.1 - 1))) = true := by decide +kernel
theorem jMw_zs : jZs.all (fun z => decide (z = zL_law) || (jMw.map (fun q => q.1)).contains z) = true := by decide +kernel
theorem jNest_all : (jNests.zip jNestP).all (fun q => jHas q.2 q.1) = true ∧ jNests.length = jNestP.length := by decide +kernel
theorem jIns_all : (List.range 12).all (fun c => jHas (jInsP.getD c (0, 0)).1 (.instantiable (jRn c) (jNf c)) && jHas (jInsP.getD c (0, 0)).2 (.initialized (jRn c)) && decide (((jVc.getD c (RX0, TX0, 7)).1, (jVc.getD c (RX0, TX0, 7)).2.2) = (jRn c, jNf c))) = true := by decide +kernel
theorem jLay_all : (List.range 12).all (fun c => (List.range (jNf c)).all (fun j => jHas ((jLayP.getD c []).getD j 0) (u_lay (jRn c) (jVc.getD c (RX0, TX0, 7)).2.1 j))) = true := by decide +kernel
theorem jOdd_all : (jHas 121 (.instanceMethod Jvm.Lib.objectInit) && jHas 122 (.code Jvm.Lib.objectInit ⟨#[0xb1]⟩ 1 none) && jHas 850 (.native arraycopyName) && jHas 849 (.static arraycopyName) && jHas 114 (.initialized "java/lang/System") && jHas 163 (.arrayClass .int) && jHas 164 (.arrayClass .long) && jHas 130 (.arrayOver (.object RX6)) && jHas 442 (.arrayOver (.object RX7))) = true := by decide +kernel
def jTc (c : Nat) : u_T := (jVc.getD c (RX0, TX0, 7)).2.1
theorem jLayR : (List.range 160).all (fun k => if jKd k < 12 then (List.range (jNf (jKd k))).all (fun j => decide ((jFg (jFf (jKd k) j) = 3 → jKd ((k : Int) + jFo (jFf (jKd k) j)) = jFt (jFf (jKd k) j)) ∧ (jFg (jFf (jKd k) j) = 4 → jKd ((k : Int) + jFo (jFf (jKd k) j)) = 20 + jFt (jFf (jKd k) j) ∧ jLn ((k : Int) + jFo (jFf (jKd k) j)) = jFl (jFf (jKd k) j) ∧ jFt (jFf (jKd k) j) < 4))) else true) = true := by decide +kernel
theorem jFlds : (List.range 12).all (fun c => (List.range (jNf c)).all (fun j => decide (jFc (jFf c j) = c ∧ jFj (jFf c j) = j ∧ jFg (jFf c j) ≤ 5 ∧ (jFg (jFf c j) = 0 → jTy c j = .int ∧ (jTc c j).2.2.2 = false) ∧ (jFg (jFf c j) = 1 → jTy c j = .long ∧ (jTc c j).2.2.2 = false) ∧ (jFg (jFf c j) = 2 → jTy c j = .boolean ∧ (jTc c j).2.2.2 = false) ∧ (jFg (jFf c j) = 5 → (jTy c j).isReference = true ∧ (jTc c j).2.2.2 = false) ∧ (3 ≤ jFg (jFf c j) ∧ jFg (jFf c j) ≤ 4 → (jTy c j).isReference = true ∧ (jTc c j).2.2.2 = true ∧ (jTc c j).1 = jRn c)))) = true := by decide +kernel
theorem jKd_ln : (List.range 160).all (fun k => decide (0 ≤ jLn k ∧ jLn k ≤ 20000 ∧ (jKd k < 12 → (jLn k).toNat = jNf (jKd k)) ∧ (jKd k < 12 ∨ jKd k = 20 ∨ jKd k = 21 ∨ jKd k = 22 ∨ jKd k = 23))) = true := by decide +kernel
theorem jTy_ok (c : Nat) (hc : c < 12) : ∀ k, k < jNf c → parseFieldDescriptor (jTc c k).2.2.1 = some (jTy c k) := by
  match c, hc with
  | 0, _ => exact tyX0_ok
  | 1, _ => exact tyX1_ok
  | 2, _ => exact tyX2_ok
  | 3, _ => exact tyX3_ok
  | 4, _ => exact tyX4_ok
  | 5, _ => exact tyX5_ok
  | 6, _ => exact tyX6_ok
  | 7, _ => exact tyX7_ok
  | 8, _ => exact tyX8_ok
  | 9, _ => exact tyX9_ok
  | 10, _ => exact tyX10_ok
  | 11, _ => exact tyX11_ok
theorem jNm_ok (c : Nat) (hc : c < 12) : ∀ a, a < jNf c → ∀ b, b < jNf c → a ≠ b → (jTc c a).2.1 ≠ (jTc c b).2.1 := by
  match c, hc with
  | 0, _ => exact nmX0
  | 1, _ => exact nmX1
  | 2, _ => exact nmX2
  | 3, _ => exact nmX3
  | 4, _ => exact nmX4
  | 5, _ => exact nmX5
  | 6, _ => exact nmX6
  | 7, _ => exact nmX7
  | 8, _ => exact nmX8
  | 9, _ => exact nmX9
  | 10, _ => exact nmX10
  | 11, _ => exact nmX11
def jPc (z : Nat) : Prop := Jvm.Cond.code (jYn z) (jBy z) (jMx z) (jRy z) ∈ lw_tbl
theorem jSub_1 {c : Jvm.Cond} (h : c ∈ tables_1_1) : c ∈ lw_tbl := List.mem_append_right _ (List.mem_append_left _ h)
theorem jSub_2 {c : Jvm.Cond} (h : c ∈ tables_1_2) : c ∈ lw_tbl := List.mem_append_right _ (List.mem_append_right _ (List.mem_append_left _ h))
theorem jSub_3 {c : Jvm.Cond} (h : c ∈ tables_1_3) : c ∈ lw_tbl := List.mem_append_right _ (List.mem_append_right _ (List.mem_append_right _ (List.mem_append_left _ h)))
theorem jSub_4 {c : Jvm.Cond} (h : c ∈ tables_1_4) : c ∈ lw_tbl := List.mem_append_right _ (List.mem_append_right _ (List.mem_append_right _ (List.mem_append_right _ (List.mem_append_left _ h))))
theorem jSub_5 {c : Jvm.Cond} (h : c ∈ tables_1_5) : c ∈ lw_tbl := List.mem_append_right _ (List.mem_append_right _ (List.mem_append_right _ (List.mem_append_right _ (List.mem_append_right _ (List.mem_append_left _ h)))))
theorem jSub_6 {c : Jvm.Cond} (h : c ∈ tables_1_6) : c ∈ lw_tbl := List.mem_append_right _ (List.mem_append_right _ (List.mem_append_right _ (List.mem_append_right _ (List.mem_append_right _ (List.mem_append_right _ (List.mem_append_left _ h))))))
theorem jSub_7 {c : Jvm.Cond} (h : c ∈ tables_1_7) : c ∈ lw_tbl := List.mem_append_right _ (List.mem_append_right _ (List.mem_append_right _ (List.mem_append_right _ (List.mem_append_right _ (List.mem_append_right _ (List.mem_append_right _ h))))))
theorem jpX0_init : jPc zX0_init := jSub_1 (List.mem_of_getElem? (i := 29) rfl)
theorem jpX0_take : jPc zX0_take := jSub_4 (List.mem_of_getElem? (i := 229) rfl)
theorem jpX0_seat : jPc zX0_seat := jSub_2 (List.mem_of_getElem? (i := 193) rfl)
theorem jpX0_isIn : jPc zX0_isIn := jSub_2 (List.mem_of_getElem? (i := 219) rfl)
theorem jpX0_forcedBeside : jPc zX0_forcedBeside := jSub_3 (List.mem_of_getElem? (i := 66) rfl)
theorem jpX0_marked : jPc zX0_marked := jSub_5 (List.mem_of_getElem? (i := 12) rfl)
theorem jpX0_owned : jPc zX0_owned := jSub_5 (List.mem_of_getElem? (i := 16) rfl)
theorem jpX0_namersOf : jPc zX0_namersOf := jSub_3 (List.mem_of_getElem? (i := 206) rfl)
theorem jpX0_reachOf : jPc zX0_reachOf := jSub_3 (List.mem_of_getElem? (i := 178) rfl)
theorem jpX0_weighRules : jPc zX0_weighRules := jSub_3 (List.mem_of_getElem? (i := 186) rfl)
theorem jpX0_refusalOf : jPc zX0_refusalOf := jSub_3 (List.mem_of_getElem? (i := 174) rfl)
theorem jpX1_init : jPc zX1_init := jSub_2 (List.mem_of_getElem? (i := 82) rfl)
theorem jpX1_write : jPc zX1_write := jSub_4 (List.mem_of_getElem? (i := 155) rfl)
theorem jpX1_hear : jPc zX1_hear := jSub_4 (List.mem_of_getElem? (i := 164) rfl)
theorem jpX2_init : jPc zX2_init := jSub_1 (List.mem_of_getElem? (i := 226) rfl)
theorem jpX2_find : jPc zX2_find := jSub_4 (List.mem_of_getElem? (i := 8) rfl)
theorem jpX2_grow : jPc zX2_grow := jSub_4 (List.mem_of_getElem? (i := 13) rfl)
theorem jpX2_turn : jPc zX2_turn := jSub_4 (List.mem_of_getElem? (i := 17) rfl)
theorem jpX2_spread : jPc zX2_spread := jSub_4 (List.mem_of_getElem? (i := 21) rfl)
theorem jpX3_init : jPc zX3_init := jSub_2 (List.mem_of_getElem? (i := 48) rfl)
theorem jpX3_find : jPc zX3_find := jSub_4 (List.mem_of_getElem? (i := 101) rfl)
theorem jpX3_firstPart : jPc zX3_firstPart := jSub_4 (List.mem_of_getElem? (i := 113) rfl)
theorem jpX3_isAhead : jPc zX3_isAhead := jSub_4 (List.mem_of_getElem? (i := 117) rfl)
theorem jpX3_keep : jPc zX3_keep := jSub_4 (List.mem_of_getElem? (i := 121) rfl)
theorem jpX3_drop : jPc zX3_drop := jSub_4 (List.mem_of_getElem? (i := 126) rfl)
theorem jpX3_split : jPc zX3_split := jSub_4 (List.mem_of_getElem? (i := 130) rfl)
theorem jpX3_propose : jPc zX3_propose := jSub_4 (List.mem_of_getElem? (i := 105) rfl)
theorem jpX3_placeOf : jPc zX3_placeOf := jSub_4 (List.mem_of_getElem? (i := 204) rfl)
theorem jpX4_init : jPc zX4_init := jSub_1 (List.mem_of_getElem? (i := 176) rfl)
theorem jpX4_load : jPc zX4_load := jSub_2 (List.mem_of_getElem? (i := 215) rfl)
theorem jpX4_take : jPc zX4_take := jSub_4 (List.mem_of_getElem? (i := 88) rfl)
theorem jpX4_openBy : jPc zX4_openBy := jSub_3 (List.mem_of_getElem? (i := 22) rfl)
theorem jpX4_force : jPc zX4_force := jSub_3 (List.mem_of_getElem? (i := 29) rfl)
theorem jpX4_isOpen : jPc zX4_isOpen := jSub_3 (List.mem_of_getElem? (i := 74) rfl)
theorem jpX4_openPairs : jPc zX4_openPairs := jSub_4 (List.mem_of_getElem? (i := 239) rfl)
theorem jpX4_closeJudge : jPc zX4_closeJudge := jSub_4 (List.mem_of_getElem? (i := 182) rfl)
theorem jpX4_closeHeavier : jPc zX4_closeHeavier := jSub_4 (List.mem_of_getElem? (i := 143) rfl)
theorem jpX4_heavierThan : jPc zX4_heavierThan := jSub_4 (List.mem_of_getElem? (i := 138) rfl)
theorem jpX4_weigh : jPc zX4_weigh := jSub_3 (List.mem_of_getElem? (i := 33) rfl)
theorem jpX4_listCases : jPc zX4_listCases := jSub_3 (List.mem_of_getElem? (i := 37) rfl)
theorem jpX4_canTake : jPc zX4_canTake := jSub_3 (List.mem_of_getElem? (i := 41) rfl)
theorem jpX4_weighFrom : jPc zX4_weighFrom := jSub_3 (List.mem_of_getElem? (i := 51) rfl)
theorem jpX4_leads : jPc zX4_leads := jSub_4 (List.mem_of_getElem? (i := 64) rfl)
theorem jpX4_firstLead : jPc zX4_firstLead := jSub_4 (List.mem_of_getElem? (i := 109) rfl)
theorem jpX4_pick : jPc zX4_pick := jSub_4 (List.mem_of_getElem? (i := 60) rfl)
theorem jpX4_share : jPc zX4_share := jSub_4 (List.mem_of_getElem? (i := 76) rfl)
theorem jpX4_shareFrom : jPc zX4_shareFrom := jSub_4 (List.mem_of_getElem? (i := 80) rfl)
theorem jpX4_follows : jPc zX4_follows := jSub_4 (List.mem_of_getElem? (i := 194) rfl)
theorem jpX4_sumOf : jPc zX4_sumOf := jSub_4 (List.mem_of_getElem? (i := 200) rfl)
theorem jpX4_sharedOf : jPc zX4_sharedOf := jSub_4 (List.mem_of_getElem? (i := 208) rfl)
theorem jpX5_init : jPc zX5_init := jSub_2 (List.mem_of_getElem? (i := 20) rfl)
theorem jpX5_make : jPc zX5_make := jSub_3 (List.mem_of_getElem? (i := 227) rfl)
theorem jpX5_firstPay : jPc zX5_firstPay := jSub_3 (List.mem_of_getElem? (i := 232) rfl)
theorem jpX5_slack : jPc zX5_slack := jSub_4 (List.mem_of_getElem? (i := 4) rfl)
theorem jpX5_findTight : jPc zX5_findTight := jSub_3 (List.mem_of_getElem? (i := 239) rfl)
theorem jpX5_leastSlack : jPc zX5_leastSlack := jSub_4 (List.mem_of_getElem? (i := 25) rfl)
theorem jpX5_keep : jPc zX5_keep := jSub_4 (List.mem_of_getElem? (i := 29) rfl)
theorem jpX5_raise : jPc zX5_raise := jSub_4 (List.mem_of_getElem? (i := 36) rfl)
theorem jpX6_init : jPc zX6_init := jSub_1 (List.mem_of_getElem? (i := 40) rfl)
theorem jpX6_clear : jPc zX6_clear := jSub_3 (List.mem_of_getElem? (i := 97) rfl)
theorem jpX6_take : jPc zX6_take := jSub_4 (List.mem_of_getElem? (i := 234) rfl)
theorem jpX6_add : jPc zX6_add := jSub_3 (List.mem_of_getElem? (i := 154) rfl)
theorem jpX6_landHere : jPc zX6_landHere := jSub_3 (List.mem_of_getElem? (i := 170) rfl)
theorem jpX6_names : jPc zX6_names := jSub_3 (List.mem_of_getElem? (i := 182) rfl)
theorem jpX6_weightBy : jPc zX6_weightBy := jSub_3 (List.mem_of_getElem? (i := 191) rfl)
theorem jpX7_init : jPc zX7_init := jSub_2 (List.mem_of_getElem? (i := 108) rfl)
theorem jpX7_become : jPc zX7_become := jSub_4 (List.mem_of_getElem? (i := 216) rfl)
theorem jpX7_holds : jPc zX7_holds := jSub_5 (List.mem_of_getElem? (i := 28) rfl)
theorem jpX7_set : jPc zX7_set := jSub_4 (List.mem_of_getElem? (i := 221) rfl)
theorem jpX8_init : jPc zX8_init := jSub_1 (List.mem_of_getElem? (i := 105) rfl)
theorem jpX8_add : jPc zX8_add := jSub_3 (List.mem_of_getElem? (i := 82) rfl)
theorem jpX8_parse : jPc zX8_parse := jSub_3 (List.mem_of_getElem? (i := 93) rfl)
theorem jpX8_expr : jPc zX8_expr := jSub_3 (List.mem_of_getElem? (i := 130) rfl)
theorem jpX8_sum : jPc zX8_sum := jSub_3 (List.mem_of_getElem? (i := 134) rfl)
theorem jpX8_product : jPc zX8_product := jSub_3 (List.mem_of_getElem? (i := 138) rfl)
theorem jpX8_factor : jPc zX8_factor := jSub_3 (List.mem_of_getElem? (i := 142) rfl)
theorem jpX8_atom : jPc zX8_atom := jSub_3 (List.mem_of_getElem? (i := 150) rfl)
theorem jpX8_function : jPc zX8_function := jSub_3 (List.mem_of_getElem? (i := 166) rfl)
theorem jpX8_part : jPc zX8_part := jSub_3 (List.mem_of_getElem? (i := 146) rfl)
theorem jpX8_enter : jPc zX8_enter := jSub_3 (List.mem_of_getElem? (i := 158) rfl)
theorem jpX8_leave : jPc zX8_leave := jSub_3 (List.mem_of_getElem? (i := 162) rfl)
theorem jpX8_step : jPc zX8_step := jSub_3 (List.mem_of_getElem? (i := 101) rfl)
theorem jpX8_word : jPc zX8_word := jSub_3 (List.mem_of_getElem? (i := 108) rfl)
theorem jpX8_nameOfOne : jPc zX8_nameOfOne := jSub_3 (List.mem_of_getElem? (i := 112) rfl)
theorem jpX8_nameOfThree : jPc zX8_nameOfThree := jSub_3 (List.mem_of_getElem? (i := 116) rfl)
theorem jpX8_digits : jPc zX8_digits := jSub_3 (List.mem_of_getElem? (i := 123) rfl)
theorem jpX8_isLetter : jPc zX8_isLetter := jSub_3 (List.mem_of_getElem? (i := 104) rfl)
theorem jpX8_isDigit : jPc zX8_isDigit := jSub_3 (List.mem_of_getElem? (i := 119) rfl)
theorem jpX8_isSign : jPc zX8_isSign := jSub_3 (List.mem_of_getElem? (i := 126) rfl)
theorem jpX9_init : jPc zX9_init := jSub_1 (List.mem_of_getElem? (i := 143) rfl)
theorem jpX9_burdenOf : jPc zX9_burdenOf := jSub_2 (List.mem_of_getElem? (i := 223) rfl)
theorem jpX9_tellBy : jPc zX9_tellBy := jSub_3 (List.mem_of_getElem? (i := 215) rfl)
theorem jpX9_read : jPc zX9_read := jSub_2 (List.mem_of_getElem? (i := 228) rfl)
theorem jpX9_operand : jPc zX9_operand := jSub_2 (List.mem_of_getElem? (i := 233) rfl)
theorem jpX9_join : jPc zX9_join := jSub_2 (List.mem_of_getElem? (i := 239) rfl)
theorem jpX9_fail : jPc zX9_fail := jSub_3 (List.mem_of_getElem? (i := 17) rfl)
theorem jpX10_init : jPc zX10_init := jSub_1 (List.mem_of_getElem? (i := 21) rfl)
theorem jpX10_here : jPc zX10_here := jSub_2 (List.mem_of_getElem? (i := 179) rfl)
theorem jpX10_trait : jPc zX10_trait := jSub_2 (List.mem_of_getElem? (i := 197) rfl)
theorem jpX10_tell : jPc zX10_tell := jSub_2 (List.mem_of_getElem? (i := 201) rfl)
theorem jpX10_burden : jPc zX10_burden := jSub_3 (List.mem_of_getElem? (i := 56) rfl)
theorem jpX10_mark : jPc zX10_mark := jSub_3 (List.mem_of_getElem? (i := 62) rfl)
theorem jpX10_open : jPc zX10_open := jSub_3 (List.mem_of_getElem? (i := 70) rfl)
theorem jpX10_feed : jPc zX10_feed := jSub_3 (List.mem_of_getElem? (i := 78) rfl)
theorem jpX10_text : jPc zX10_text := jSub_3 (List.mem_of_getElem? (i := 86) rfl)
theorem jpX10_empty : jPc zX10_empty := jSub_3 (List.mem_of_getElem? (i := 195) rfl)
theorem jpX10_told : jPc zX10_told := jSub_3 (List.mem_of_getElem? (i := 200) rfl)
theorem jpX10_value : jPc zX10_value := jSub_3 (List.mem_of_getElem? (i := 211) rfl)
theorem jpX10_why : jPc zX10_why := jSub_3 (List.mem_of_getElem? (i := 219) rfl)
theorem jpX10_solve : jPc zX10_solve := jSub_3 (List.mem_of_getElem? (i := 223) rfl)
theorem jpX10_round : jPc zX10_round := jSub_4 (List.mem_of_getElem? (i := 40) rfl)
theorem jpX10_price : jPc zX10_price := jSub_4 (List.mem_of_getElem? (i := 44) rfl)
theorem jpX10_total : jPc zX10_total := jSub_4 (List.mem_of_getElem? (i := 48) rfl)
theorem jpX10_many : jPc zX10_many := jSub_4 (List.mem_of_getElem? (i := 52) rfl)
theorem jpX10_best : jPc zX10_best := jSub_4 (List.mem_of_getElem? (i := 56) rfl)
theorem jpX10_kind : jPc zX10_kind := jSub_4 (List.mem_of_getElem? (i := 68) rfl)
theorem jpX10_room : jPc zX10_room := jSub_4 (List.mem_of_getElem? (i := 84) rfl)
theorem jpX10_next : jPc zX10_next := jSub_4 (List.mem_of_getElem? (i := 93) rfl)
theorem jpX10_fair : jPc zX10_fair := jSub_4 (List.mem_of_getElem? (i := 134) rfl)
theorem jpX10_days : jPc zX10_days := jSub_4 (List.mem_of_getElem? (i := 147) rfl)
theorem jpX10_day : jPc zX10_day := jSub_4 (List.mem_of_getElem? (i := 169) rfl)
theorem jpX10_lack : jPc zX10_lack := jSub_4 (List.mem_of_getElem? (i := 173) rfl)
theorem jpX10_without : jPc zX10_without := jSub_4 (List.mem_of_getElem? (i := 178) rfl)
theorem jpX10_tells : jPc zX10_tells := jSub_4 (List.mem_of_getElem? (i := 186) rfl)
theorem jpX10_film : jPc zX10_film := jSub_4 (List.mem_of_getElem? (i := 212) rfl)
theorem jpX10_image : jPc zX10_image := jSub_4 (List.mem_of_getElem? (i := 225) rfl)
theorem jpX10_back : jPc zX10_back := jSub_5 (List.mem_of_getElem? (i := 3) rfl)
theorem jpX10_count : jPc zX10_count := jSub_5 (List.mem_of_getElem? (i := 7) rfl)
theorem jpX10_sheet : jPc zX10_sheet := jSub_5 (List.mem_of_getElem? (i := 20) rfl)
theorem jpX10_put : jPc zX10_put := jSub_5 (List.mem_of_getElem? (i := 24) rfl)
theorem jpX10_item : jPc zX10_item := jSub_5 (List.mem_of_getElem? (i := 32) rfl)
theorem jpX10_copy : jPc zX10_copy := jSub_5 (List.mem_of_getElem? (i := 36) rfl)
theorem jpX10_lay : jPc zX10_lay := jSub_5 (List.mem_of_getElem? (i := 41) rfl)
theorem jpX10_isSide : jPc zX10_isSide := jSub_2 (List.mem_of_getElem? (i := 182) rfl)
theorem jpX10_isSeat : jPc zX10_isSeat := jSub_2 (List.mem_of_getElem? (i := 185) rfl)
theorem jpX10_isPair : jPc zX10_isPair := jSub_2 (List.mem_of_getElem? (i := 204) rfl)
theorem jpX10_isRule : jPc zX10_isRule := jSub_3 (List.mem_of_getElem? (i := 89) rfl)
theorem jpX10_isSheet : jPc zX10_isSheet := jSub_4 (List.mem_of_getElem? (i := 189) rfl)
theorem jpX10_changed : jPc zX10_changed := jSub_2 (List.mem_of_getElem? (i := 189) rfl)
theorem jpX10_refreshPlan : jPc zX10_refreshPlan := jSub_2 (List.mem_of_getElem? (i := 211) rfl)
theorem jpX10_refreshShares : jPc zX10_refreshShares := jSub_4 (List.mem_of_getElem? (i := 72) rfl)
theorem jpX10_refreshNextOnes : jPc zX10_refreshNextOnes := jSub_4 (List.mem_of_getElem? (i := 97) rfl)
theorem jpX10_refreshDiary : jPc zX10_refreshDiary := jSub_4 (List.mem_of_getElem? (i := 151) rfl)
theorem jpX11_in : jPc zX11_in := jSub_6 (List.mem_of_getElem? (i := 59) rfl)
theorem jpX11_init : jPc zX11_init := jSub_5 (List.mem_of_getElem? (i := 47) rfl)
theorem jpX11_isWho : jPc zX11_isWho := jSub_6 (List.mem_of_getElem? (i := 56) rfl)
theorem jpX11_isPair : jPc zX11_isPair := jSub_6 (List.mem_of_getElem? (i := 186) rfl)
theorem jpX11_isJudge : jPc zX11_isJudge := jSub_7 (List.mem_of_getElem? (i := 18) rfl)
theorem jpX11_isCase : jPc zX11_isCase := jSub_7 (List.mem_of_getElem? (i := 22) rfl)
theorem jpX11_here : jPc zX11_here := jSub_6 (List.mem_of_getElem? (i := 53) rfl)
theorem jpX11_trait : jPc zX11_trait := jSub_6 (List.mem_of_getElem? (i := 64) rfl)
theorem jpX11_feed : jPc zX11_feed := jSub_6 (List.mem_of_getElem? (i := 71) rfl)
theorem jpX11_byteAt : jPc zX11_byteAt := jSub_6 (List.mem_of_getElem? (i := 85) rfl)
theorem jpX11_isLetter : jPc zX11_isLetter := jSub_6 (List.mem_of_getElem? (i := 88) rfl)
theorem jpX11_isDigit : jPc zX11_isDigit := jSub_6 (List.mem_of_getElem? (i := 105) rfl)
theorem jpX11_isThree : jPc zX11_isThree := jSub_6 (List.mem_of_getElem? (i := 98) rfl)
theorem jpX11_word : jPc zX11_word := jSub_6 (List.mem_of_getElem? (i := 94) rfl)
theorem jpX11_isSignByte : jPc zX11_isSignByte := jSub_6 (List.mem_of_getElem? (i := 110) rfl)
theorem jpX11_next : jPc zX11_next := jSub_6 (List.mem_of_getElem? (i := 81) rfl)
theorem jpX11_fail : jPc zX11_fail := jSub_6 (List.mem_of_getElem? (i := 134) rfl)
theorem jpX11_isSign : jPc zX11_isSign := jSub_6 (List.mem_of_getElem? (i := 142) rfl)
theorem jpX11_takes : jPc zX11_takes := jSub_6 (List.mem_of_getElem? (i := 150) rfl)
theorem jpX11_part : jPc zX11_part := jSub_6 (List.mem_of_getElem? (i := 130) rfl)
theorem jpX11_opens : jPc zX11_opens := jSub_6 (List.mem_of_getElem? (i := 146) rfl)
theorem jpX11_expression : jPc zX11_expression := jSub_6 (List.mem_of_getElem? (i := 114) rfl)
theorem jpX11_sum : jPc zX11_sum := jSub_6 (List.mem_of_getElem? (i := 118) rfl)
theorem jpX11_product : jPc zX11_product := jSub_6 (List.mem_of_getElem? (i := 122) rfl)
theorem jpX11_factor : jPc zX11_factor := jSub_6 (List.mem_of_getElem? (i := 126) rfl)
theorem jpX11_ofTwo : jPc zX11_ofTwo := jSub_6 (List.mem_of_getElem? (i := 138) rfl)
theorem jpX11_names : jPc zX11_names := jSub_6 (List.mem_of_getElem? (i := 162) rfl)
theorem jpX11_comesTo : jPc zX11_comesTo := jSub_6 (List.mem_of_getElem? (i := 158) rfl)
theorem jpX11_weight : jPc zX11_weight := jSub_6 (List.mem_of_getElem? (i := 170) rfl)
theorem jpX11_trades : jPc zX11_trades := jSub_6 (List.mem_of_getElem? (i := 154) rfl)
theorem jpX11_isHeavy : jPc zX11_isHeavy := jSub_6 (List.mem_of_getElem? (i := 166) rfl)
theorem jpX11_text : jPc zX11_text := jSub_6 (List.mem_of_getElem? (i := 76) rfl)
theorem jpX11_empty : jPc zX11_empty := jSub_6 (List.mem_of_getElem? (i := 174) rfl)
theorem jpX11_told : jPc zX11_told := jSub_6 (List.mem_of_getElem? (i := 178) rfl)
theorem jpX11_fails : jPc zX11_fails := jSub_6 (List.mem_of_getElem? (i := 213) rfl)
theorem jpX11_valueOf : jPc zX11_valueOf := jSub_6 (List.mem_of_getElem? (i := 195) rfl)
theorem jpX11_named : jPc zX11_named := jSub_6 (List.mem_of_getElem? (i := 203) rfl)
theorem jpX11_limited : jPc zX11_limited := jSub_6 (List.mem_of_getElem? (i := 207) rfl)
theorem jpX11_valueOf_ : jPc zX11_valueOf_ := jSub_6 (List.mem_of_getElem? (i := 199) rfl)
theorem jpX11_asked : jPc zX11_asked := jSub_6 (List.mem_of_getElem? (i := 191) rfl)
theorem jpX11_value : jPc zX11_value := jSub_6 (List.mem_of_getElem? (i := 183) rfl)
theorem jpX11_why : jPc zX11_why := jSub_6 (List.mem_of_getElem? (i := 219) rfl)
theorem jpX11_burdenOf : jPc zX11_burdenOf := jSub_6 (List.mem_of_getElem? (i := 227) rfl)
theorem jpX11_forcedOf : jPc zX11_forcedOf := jSub_6 (List.mem_of_getElem? (i := 234) rfl)
theorem jpX11_isOpen : jPc zX11_isOpen := jSub_7 (List.mem_of_getElem? (i := 14) rfl)
theorem jpX11_tellsBurdens : jPc zX11_tellsBurdens := jSub_7 (List.mem_of_getElem? (i := 6) rfl)
theorem jpX11_opens_ : jPc zX11_opens_ := jSub_7 (List.mem_of_getElem? (i := 10) rfl)
theorem jpX11_costs : jPc zX11_costs := jSub_7 (List.mem_of_getElem? (i := 2) rfl)
theorem jpX11_burden : jPc zX11_burden := jSub_6 (List.mem_of_getElem? (i := 223) rfl)
theorem jpX11_mark : jPc zX11_mark := jSub_6 (List.mem_of_getElem? (i := 231) rfl)
theorem jpX11_open : jPc zX11_open := jSub_6 (List.mem_of_getElem? (i := 238) rfl)
theorem jpX11_openMany : jPc zX11_openMany := jSub_7 (List.mem_of_getElem? (i := 202) rfl)
theorem jpX11_least : jPc zX11_least := jSub_7 (List.mem_of_getElem? (i := 35) rfl)
theorem jpX11_toldOr : jPc zX11_toldOr := jSub_7 (List.mem_of_getElem? (i := 39) rfl)
theorem jpX11_picks : jPc zX11_picks := jSub_7 (List.mem_of_getElem? (i := 52) rfl)
theorem jpX11_tell : jPc zX11_tell := jSub_7 (List.mem_of_getElem? (i := 26) rfl)
theorem jpX11_total : jPc zX11_total := jSub_7 (List.mem_of_getElem? (i := 31) rfl)
theorem jpX11_many : jPc zX11_many := jSub_7 (List.mem_of_getElem? (i := 44) rfl)
theorem jpX11_best : jPc zX11_best := jSub_7 (List.mem_of_getElem? (i := 48) rfl)
theorem jpX11_with : jPc zX11_with := jSub_7 (List.mem_of_getElem? (i := 60) rfl)
theorem jpX11_lacking : jPc zX11_lacking := jSub_7 (List.mem_of_getElem? (i := 64) rfl)
theorem jpX11_kind : jPc zX11_kind := jSub_7 (List.mem_of_getElem? (i := 56) rfl)
theorem jpX11_room : jPc zX11_room := jSub_7 (List.mem_of_getElem? (i := 68) rfl)
theorem jpX11_enters : jPc zX11_enters := jSub_7 (List.mem_of_getElem? (i := 85) rfl)
theorem jpX11_walks : jPc zX11_walks := jSub_7 (List.mem_of_getElem? (i := 81) rfl)
theorem jpX11_lists : jPc zX11_lists := jSub_7 (List.mem_of_getElem? (i := 77) rfl)
theorem jpX11_next_ : jPc zX11_next_ := jSub_7 (List.mem_of_getElem? (i := 72) rfl)
theorem jpX11_heaviest : jPc zX11_heaviest := jSub_7 (List.mem_of_getElem? (i := 93) rfl)
theorem jpX11_fair : jPc zX11_fair := jSub_7 (List.mem_of_getElem? (i := 89) rfl)
theorem jpX11_finds : jPc zX11_finds := jSub_7 (List.mem_of_getElem? (i := 127) rfl)
theorem jpX11_greatest : jPc zX11_greatest := jSub_7 (List.mem_of_getElem? (i := 123) rfl)
theorem jpX11_marking : jPc zX11_marking := jSub_7 (List.mem_of_getElem? (i := 119) rfl)
theorem jpX11_casesIn : jPc zX11_casesIn := jSub_7 (List.mem_of_getElem? (i := 107) rfl)
theorem jpX11_slack : jPc zX11_slack := jSub_7 (List.mem_of_getElem? (i := 115) rfl)
theorem jpX11_rise : jPc zX11_rise := jSub_7 (List.mem_of_getElem? (i := 131) rfl)
theorem jpX11_begins : jPc zX11_begins := jSub_7 (List.mem_of_getElem? (i := 103) rfl)
theorem jpX11_isLast : jPc zX11_isLast := jSub_7 (List.mem_of_getElem? (i := 111) rfl)
theorem jpX11_solve : jPc zX11_solve := jSub_7 (List.mem_of_getElem? (i := 99) rfl)
theorem jpX11_round : jPc zX11_round := jSub_7 (List.mem_of_getElem? (i := 135) rfl)
theorem jpX11_price : jPc zX11_price := jSub_7 (List.mem_of_getElem? (i := 140) rfl)
theorem jpX11_daysOf : jPc zX11_daysOf := jSub_7 (List.mem_of_getElem? (i := 149) rfl)
theorem jpX11_days : jPc zX11_days := jSub_7 (List.mem_of_getElem? (i := 144) rfl)
theorem jpX11_day : jPc zX11_day := jSub_7 (List.mem_of_getElem? (i := 153) rfl)
theorem jpX11_lack : jPc zX11_lack := jSub_7 (List.mem_of_getElem? (i := 157) rfl)
theorem jpX11_without : jPc zX11_without := jSub_7 (List.mem_of_getElem? (i := 162) rfl)
theorem jpX11_casesMany : jPc zX11_casesMany := jSub_7 (List.mem_of_getElem? (i := 178) rfl)
theorem jpX11_reads : jPc zX11_reads := jSub_7 (List.mem_of_getElem? (i := 174) rfl)
theorem jpX11_tells : jPc zX11_tells := jSub_7 (List.mem_of_getElem? (i := 166) rfl)
theorem jpX11_placeOf : jPc zX11_placeOf := jSub_7 (List.mem_of_getElem? (i := 183) rfl)
theorem jpX11_film : jPc zX11_film := jSub_7 (List.mem_of_getElem? (i := 187) rfl)
theorem jpX11_copies : jPc zX11_copies := jSub_7 (List.mem_of_getElem? (i := 198) rfl)
theorem jpX11_keeps : jPc zX11_keeps := jSub_7 (List.mem_of_getElem? (i := 195) rfl)
theorem jpX11_image : jPc zX11_image := jSub_7 (List.mem_of_getElem? (i := 191) rfl)
theorem jpX11_back : jPc zX11_back := jSub_7 (List.mem_of_getElem? (i := 206) rfl)
theorem jpX11_marksOf : jPc zX11_marksOf := jSub_7 (List.mem_of_getElem? (i := 214) rfl)
theorem jpX11_count : jPc zX11_count := jSub_7 (List.mem_of_getElem? (i := 210) rfl)
theorem jpX11_isSheet : jPc zX11_isSheet := jSub_7 (List.mem_of_getElem? (i := 169) rfl)
theorem jpX11_sheet : jPc zX11_sheet := jSub_7 (List.mem_of_getElem? (i := 218) rfl)
theorem jpX11_put : jPc zX11_put := jSub_7 (List.mem_of_getElem? (i := 222) rfl)
theorem jpX11_item : jPc zX11_item := jSub_7 (List.mem_of_getElem? (i := 226) rfl)
theorem jpX11_copy : jPc zX11_copy := jSub_7 (List.mem_of_getElem? (i := 230) rfl)
theorem jpX11_lay : jPc zX11_lay := jSub_7 (List.mem_of_getElem? (i := 234) rfl)
theorem jpJ6_bitCount_0f7a4 : jPc zJ6_bitCount_0f7a4 := jSub_3 (List.mem_of_getElem? (i := 44) rfl)
theorem jpJ9_floorDiv_f86c9 : jPc zJ9_floorDiv_f86c9 := jSub_3 (List.mem_of_getElem? (i := 8) rfl)
theorem jpJ9_floorMod_f86c9 : jPc zJ9_floorMod_f86c9 := jSub_3 (List.mem_of_getElem? (i := 11) rfl)
theorem jpJ9_abs_067f4 : jPc zJ9_abs_067f4 := jSub_2 (List.mem_of_getElem? (i := 236) rfl)
theorem jpJ9_max_f86c9 : jPc zJ9_max_f86c9 := jSub_3 (List.mem_of_getElem? (i := 5) rfl)
theorem jpJ9_min_f86c9 : jPc zJ9_min_f86c9 := jSub_3 (List.mem_of_getElem? (i := 2) rfl)
theorem jpJ7_fill_d0a16 : jPc zJ7_fill_d0a16 := jSub_1 (List.mem_of_getElem? (i := 36) rfl)
theorem jpJ7_fill_53178 : jPc zJ7_fill_53178 := jSub_3 (List.mem_of_getElem? (i := 25) rfl)
theorem jPs_0 : ∀ z ∈ [zX0_init, zX0_take, zX0_seat, zX0_isIn, zX0_forcedBeside, zX0_marked, zX0_owned, zX0_namersOf, zX0_reachOf, zX0_weighRules, zX0_refusalOf, zX1_init, zX1_write, zX1_hear, zX2_init, zX2_find, zX2_grow, zX2_turn, zX2_spread, zX3_init, zX3_find, zX3_firstPart, zX3_isAhead, zX3_keep, zX3_drop], jPc z := List.forall_mem_cons.mpr ⟨jpX0_init, List.forall_mem_cons.mpr ⟨jpX0_take, List.forall_mem_cons.mpr ⟨jpX0_seat, List.forall_mem_cons.mpr ⟨jpX0_isIn, List.forall_mem_cons.mpr ⟨jpX0_forcedBeside, List.forall_mem_cons.mpr ⟨jpX0_marked, List.forall_mem_cons.mpr ⟨jpX0_owned, List.forall_mem_cons.mpr ⟨jpX0_namersOf, List.forall_mem_cons.mpr ⟨jpX0_reachOf, List.forall_mem_cons.mpr ⟨jpX0_weighRules, List.forall_mem_cons.mpr ⟨jpX0_refusalOf, List.forall_mem_cons.mpr ⟨jpX1_init, List.forall_mem_cons.mpr ⟨jpX1_write, List.forall_mem_cons.mpr ⟨jpX1_hear, List.forall_mem_cons.mpr ⟨jpX2_init, List.forall_mem_cons.mpr ⟨jpX2_find, List.forall_mem_cons.mpr ⟨jpX2_grow, List.forall_mem_cons.mpr ⟨jpX2_turn, List.forall_mem_cons.mpr ⟨jpX2_spread, List.forall_mem_cons.mpr ⟨jpX3_init, List.forall_mem_cons.mpr ⟨jpX3_find, List.forall_mem_cons.mpr ⟨jpX3_firstPart, List.forall_mem_cons.mpr ⟨jpX3_isAhead, List.forall_mem_cons.mpr ⟨jpX3_keep, List.forall_mem_cons.mpr ⟨jpX3_drop, fun _ h => absurd h List.not_mem_nil⟩⟩⟩⟩⟩⟩⟩⟩⟩⟩⟩⟩⟩⟩⟩⟩⟩⟩⟩⟩⟩⟩⟩⟩⟩
theorem jPs_1 : ∀ z ∈ [zX3_split, zX3_propose, zX3_placeOf, zX4_init, zX4_load, zX4_take, zX4_openBy, zX4_force, zX4_isOpen, zX4_openPairs, zX4_closeJudge, zX4_closeHeavier, zX4_heavierThan, zX4_weigh, zX4_listCases, zX4_canTake, zX4_weighFrom, zX4_leads, zX4_firstLead, zX4_pick, zX4_share, zX4_shareFrom, zX4_follows, zX4_sumOf, zX4_sharedOf], jPc z := List.forall_mem_cons.mpr ⟨jpX3_split, List.forall_mem_cons.mpr ⟨jpX3_propose, List.forall_mem_cons.mpr ⟨jpX3_placeOf, List.forall_mem_cons.mpr ⟨jpX4_init, List.forall_mem_cons.mpr ⟨jpX4_load, List.forall_mem_cons.mpr ⟨jpX4_take, List.forall_mem_cons.mpr ⟨jpX4_openBy, List.forall_mem_cons.mpr ⟨jpX4_force, List.forall_mem_cons.mpr ⟨jpX4_isOpen, List.forall_mem_cons.mpr ⟨jpX4_openPairs, List.forall_mem_cons.mpr ⟨jpX4_closeJudge, List.forall_mem_cons.mpr ⟨jpX4_closeHeavier, List.forall_mem_cons.mpr ⟨jpX4_heavierThan, List.forall_mem_cons.mpr ⟨jpX4_weigh, List.forall_mem_cons.mpr ⟨jpX4_listCases, List.forall_mem_cons.mpr ⟨jpX4_canTake, List.forall_mem_cons.mpr ⟨jpX4_weighFrom, List.forall_mem_cons.mpr ⟨jpX4_leads, List.forall_mem_cons.mpr ⟨jpX4_firstLead, List.forall_mem_cons.mpr ⟨jpX4_pick, List.forall_mem_cons.mpr ⟨jpX4_share, List.forall_mem_cons.mpr ⟨jpX4_shareFrom, List.forall_mem_cons.mpr ⟨jpX4_follows, List.forall_mem_cons.mpr ⟨jpX4_sumOf, List.forall_mem_cons.mpr ⟨jpX4_sharedOf, fun _ h => absurd h List.not_mem_nil⟩⟩⟩⟩⟩⟩⟩⟩⟩⟩⟩⟩⟩⟩⟩⟩⟩⟩⟩⟩⟩⟩⟩⟩⟩
theorem jPs_2 : ∀ z ∈ [zX5_init, zX5_make, zX5_firstPay, zX5_slack, zX5_findTight, zX5_leastSlack, zX5_keep, zX5_raise, zX6_init, zX6_clear, zX6_take, zX6_add, zX6_landHere, zX6_names, zX6_weightBy, zX7_init, zX7_become, zX7_holds, zX7_set, zX8_init, zX8_add, zX8_parse, zX8_expr, zX8_sum, zX8_product], jPc z := List.forall_mem_cons.mpr ⟨jpX5_init, List.forall_mem_cons.mpr ⟨jpX5_make, List.forall_mem_cons.mpr ⟨jpX5_firstPay, List.forall_mem_cons.mpr ⟨jpX5_slack, List.forall_mem_cons.mpr ⟨jpX5_findTight, List.forall_mem_cons.mpr ⟨jpX5_leastSlack, List.forall_mem_cons.mpr ⟨jpX5_keep, List.forall_mem_cons.mpr ⟨jpX5_raise, List.forall_mem_cons.mpr ⟨jpX6_init, List.forall_mem_cons.mpr ⟨jpX6_clear, List.forall_mem_cons.mpr ⟨jpX6_take, List.forall_mem_cons.mpr ⟨jpX6_add, List.forall_mem_cons.mpr ⟨jpX6_landHere, List.forall_mem_cons.mpr ⟨jpX6_names, List.forall_mem_cons.mpr ⟨jpX6_weightBy, List.forall_mem_cons.mpr ⟨jpX7_init, List.forall_mem_cons.mpr ⟨jpX7_become, List.forall_mem_cons.mpr ⟨jpX7_holds, List.forall_mem_cons.mpr ⟨jpX7_set, List.forall_mem_cons.mpr ⟨jpX8_init, List.forall_mem_cons.mpr ⟨jpX8_add, List.forall_mem_cons.mpr ⟨jpX8_parse, List.forall_mem_cons.mpr ⟨jpX8_expr, List.forall_mem_cons.mpr ⟨jpX8_sum, List.forall_mem_cons.mpr ⟨jpX8_product, fun _ h => absurd h List.not_mem_nil⟩⟩⟩⟩⟩⟩⟩⟩⟩⟩⟩⟩⟩⟩⟩⟩⟩⟩⟩⟩⟩⟩⟩⟩⟩
theorem jPs_3 : ∀ z ∈ [zX8_factor, zX8_atom, zX8_function, zX8_part, zX8_enter, zX8_leave, zX8_step, zX8_word, zX8_nameOfOne, zX8_nameOfThree, zX8_digits, zX8_isLetter, zX8_isDigit, zX8_isSign, zX9_init, zX9_burdenOf, zX9_tellBy, zX9_read, zX9_operand, zX9_join, zX9_fail, zX10_init, zX10_here, zX10_trait, zX10_tell], jPc z := List.forall_mem_cons.mpr ⟨jpX8_factor, List.forall_mem_cons.mpr ⟨jpX8_atom, List.forall_mem_cons.mpr ⟨jpX8_function, List.forall_mem_cons.mpr ⟨jpX8_part, List.forall_mem_cons.mpr ⟨jpX8_enter, List.forall_mem_cons.mpr ⟨jpX8_leave, List.forall_mem_cons.mpr ⟨jpX8_step, List.forall_mem_cons.mpr ⟨jpX8_word, List.forall_mem_cons.mpr ⟨jpX8_nameOfOne, List.forall_mem_cons.mpr ⟨jpX8_nameOfThree, List.forall_mem_cons.mpr ⟨jpX8_digits, List.forall_mem_cons.mpr ⟨jpX8_isLetter, List.forall_mem_cons.mpr ⟨jpX8_isDigit, List.forall_mem_cons.mpr ⟨jpX8_isSign, List.forall_mem_cons.mpr ⟨jpX9_init, List.forall_mem_cons.mpr ⟨jpX9_burdenOf, List.forall_mem_cons.mpr ⟨jpX9_tellBy, List.forall_mem_cons.mpr ⟨jpX9_read, List.forall_mem_cons.mpr ⟨jpX9_operand, List.forall_mem_cons.mpr ⟨jpX9_join, List.forall_mem_cons.mpr ⟨jpX9_fail, List.forall_mem_cons.mpr ⟨jpX10_init, List.forall_mem_cons.mpr ⟨jpX10_here, List.forall_mem_cons.mpr ⟨jpX10_trait, List.forall_mem_cons.mpr ⟨jpX10_tell, fun _ h => absurd h List.not_mem_nil⟩⟩⟩⟩⟩⟩⟩⟩⟩⟩⟩⟩⟩⟩⟩⟩⟩⟩⟩⟩⟩⟩⟩⟩⟩
theorem jPs_4 : ∀ z ∈ [zX10_burden, zX10_mark, zX10_open, zX10_feed, zX10_text, zX10_empty, zX10_told, zX10_value, zX10_why, zX10_solve, zX10_round, zX10_price, zX10_total, zX10_many, zX10_best, zX10_kind, zX10_room, zX10_next, zX10_fair, zX10_days, zX10_day, zX10_lack, zX10_without, zX10_tells, zX10_film], jPc z := List.forall_mem_cons.mpr ⟨jpX10_burden, List.forall_mem_cons.mpr ⟨jpX10_mark, List.forall_mem_cons.mpr ⟨jpX10_open, List.forall_mem_cons.mpr ⟨jpX10_feed, List.forall_mem_cons.mpr ⟨jpX10_text, List.forall_mem_cons.mpr ⟨jpX10_empty, List.forall_mem_cons.mpr ⟨jpX10_told, List.forall_mem_cons.mpr ⟨jpX10_value, List.forall_mem_cons.mpr ⟨jpX10_why, List.forall_mem_cons.mpr ⟨jpX10_solve, List.forall_mem_cons.mpr ⟨jpX10_round, List.forall_mem_cons.mpr ⟨jpX10_price, List.forall_mem_cons.mpr ⟨jpX10_total, List.forall_mem_cons.mpr ⟨jpX10_many, List.forall_mem_cons.mpr ⟨jpX10_best, List.forall_mem_cons.mpr ⟨jpX10_kind, List.forall_mem_cons.mpr ⟨jpX10_room, List.forall_mem_cons.mpr ⟨jpX10_next, List.forall_mem_cons.mpr ⟨jpX10_fair, List.forall_mem_cons.mpr ⟨jpX10_days, List.forall_mem_cons.mpr ⟨jpX10_day, List.forall_mem_cons.mpr ⟨jpX10_lack, List.forall_mem_cons.mpr ⟨jpX10_without, List.forall_mem_cons.mpr ⟨jpX10_tells, List.forall_mem_cons.mpr ⟨jpX10_film, fun _ h => absurd h List.not_mem_nil⟩⟩⟩⟩⟩⟩⟩⟩⟩⟩⟩⟩⟩⟩⟩⟩⟩⟩⟩⟩⟩⟩⟩⟩⟩
theorem jPs_5 : ∀ z ∈ [zX10_image, zX10_back, zX10_count, zX10_sheet, zX10_put, zX10_item, zX10_copy, zX10_lay, zX10_isSide, zX10_isSeat, zX10_isPair, zX10_isRule, zX10_isSheet, zX10_changed, zX10_refreshPlan, zX10_refreshShares, zX10_refreshNextOnes, zX10_refreshDiary, zX11_in, zX11_init, zX11_isWho, zX11_isPair, zX11_isJudge, zX11_isCase, zX11_here], jPc z := List.forall_mem_cons.mpr ⟨jpX10_image, List.forall_mem_cons.mpr ⟨jpX10_back, List.forall_mem_cons.mpr ⟨jpX10_count, List.forall_mem_cons.mpr ⟨jpX10_sheet, List.forall_mem_cons.mpr ⟨jpX10_put, List.forall_mem_cons.mpr ⟨jpX10_item, List.forall_mem_cons.mpr ⟨jpX10_copy, List.forall_mem_cons.mpr ⟨jpX10_lay, List.forall_mem_cons.mpr ⟨jpX10_isSide, List.forall_mem_cons.mpr ⟨jpX10_isSeat, List.forall_mem_cons.mpr ⟨jpX10_isPair, List.forall_mem_cons.mpr ⟨jpX10_isRule, List.forall_mem_cons.mpr ⟨jpX10_isSheet, List.forall_mem_cons.mpr ⟨jpX10_changed, List.forall_mem_cons.mpr ⟨jpX10_refreshPlan, List.forall_mem_cons.mpr ⟨jpX10_refreshShares, List.forall_mem_cons.mpr ⟨jpX10_refreshNextOnes, List.forall_mem_cons.mpr ⟨jpX10_refreshDiary, List.forall_mem_cons.mpr ⟨jpX11_in, List.forall_mem_cons.mpr ⟨jpX11_init, List.forall_mem_cons.mpr ⟨jpX11_isWho, List.forall_mem_cons.mpr ⟨jpX11_isPair, List.forall_mem_cons.mpr ⟨jpX11_isJudge, List.forall_mem_cons.mpr ⟨jpX11_isCase, List.forall_mem_cons.mpr ⟨jpX11_here, fun _ h => absurd h List.not_mem_nil⟩⟩⟩⟩⟩⟩⟩⟩⟩⟩⟩⟩⟩⟩⟩⟩⟩⟩⟩⟩⟩⟩⟩⟩⟩
theorem jPs_6 : ∀ z ∈ [zX11_trait, zX11_feed, zX11_byteAt, zX11_isLetter, zX11_isDigit, zX11_isThree, zX11_word, zX11_isSignByte, zX11_next, zX11_fail, zX11_isSign, zX11_takes, zX11_part, zX11_opens, zX11_expression, zX11_sum, zX11_product, zX11_factor, zX11_ofTwo, zX11_names, zX11_comesTo, zX11_weight, zX11_trades, zX11_isHeavy, zX11_text], jPc z := List.forall_mem_cons.mpr ⟨jpX11_trait, List.forall_mem_cons.mpr ⟨jpX11_feed, List.forall_mem_cons.mpr ⟨jpX11_byteAt, List.forall_mem_cons.mpr ⟨jpX11_isLetter, List.forall_mem_cons.mpr ⟨jpX11_isDigit, List.forall_mem_cons.mpr ⟨jpX11_isThree, List.forall_mem_cons.mpr ⟨jpX11_word, List.forall_mem_cons.mpr ⟨jpX11_isSignByte, List.forall_mem_cons.mpr ⟨jpX11_next, List.forall_mem_cons.mpr ⟨jpX11_fail, List.forall_mem_cons.mpr ⟨jpX11_isSign, List.forall_mem_cons.mpr ⟨jpX11_takes, List.forall_mem_cons.mpr ⟨jpX11_part, List.forall_mem_cons.mpr ⟨jpX11_opens, List.forall_mem_cons.mpr ⟨jpX11_expression, List.forall_mem_cons.mpr ⟨jpX11_sum, List.forall_mem_cons.mpr ⟨jpX11_product, List.forall_mem_cons.mpr ⟨jpX11_factor, List.forall_mem_cons.mpr ⟨jpX11_ofTwo, List.forall_mem_cons.mpr ⟨jpX11_names, List.forall_mem_cons.mpr ⟨jpX11_comesTo, List.forall_mem_cons.mpr ⟨jpX11_weight, List.forall_mem_cons.mpr ⟨jpX11_trades, List.forall_mem_cons.mpr ⟨jpX11_isHeavy, List.forall_mem_cons.mpr ⟨jpX11_text, fun _ h => absurd h List.not_mem_nil⟩⟩⟩⟩⟩⟩⟩⟩⟩⟩⟩⟩⟩⟩⟩⟩⟩⟩⟩⟩⟩⟩⟩⟩⟩
theorem jPs_7 : ∀ z ∈ [zX11_empty, zX11_told, zX11_fails, zX11_valueOf, zX11_named, zX11_limited, zX11_valueOf_, zX11_asked, zX11_value, zX11_why, zX11_burdenOf, zX11_forcedOf, zX11_isOpen, zX11_tellsBurdens, zX11_opens_, zX11_costs, zX11_burden, zX11_mark, zX11_open, zX11_openMany, zX11_least, zX11_toldOr, zX11_picks, zX11_tell, zX11_total], jPc z := List.forall_mem_cons.mpr ⟨jpX11_empty, List.forall_mem_cons.mpr ⟨jpX11_told, List.forall_mem_cons.mpr ⟨jpX11_fails, List.forall_mem_cons.mpr ⟨jpX11_valueOf, List.forall_mem_cons.mpr ⟨jpX11_named, List.forall_mem_cons.mpr ⟨jpX11_limited, List.forall_mem_cons.mpr ⟨jpX11_valueOf_, List.forall_mem_cons.mpr ⟨jpX11_asked, List.forall_mem_cons.mpr ⟨jpX11_value, List.forall_mem_cons.mpr ⟨jpX11_why, List.forall_mem_cons.mpr ⟨jpX11_burdenOf, List.forall_mem_cons.mpr ⟨jpX11_forcedOf, List.forall_mem_cons.mpr ⟨jpX11_isOpen, List.forall_mem_cons.mpr ⟨jpX11_tellsBurdens, List.forall_mem_cons.mpr ⟨jpX11_opens_, List.forall_mem_cons.mpr ⟨jpX11_costs, List.forall_mem_cons.mpr ⟨jpX11_burden, List.forall_mem_cons.mpr ⟨jpX11_mark, List.forall_mem_cons.mpr ⟨jpX11_open, List.forall_mem_cons.mpr ⟨jpX11_openMany, List.forall_mem_cons.mpr ⟨jpX11_least, List.forall_mem_cons.mpr ⟨jpX11_toldOr, List.forall_mem_cons.mpr ⟨jpX11_picks, List.forall_mem_cons.mpr ⟨jpX11_tell, List.forall_mem_cons.mpr ⟨jpX11_total, fun _ h => absurd h List.not_mem_nil⟩⟩⟩⟩⟩⟩⟩⟩⟩⟩⟩⟩⟩⟩⟩⟩⟩⟩⟩⟩⟩⟩⟩⟩⟩
theorem jPs_8 : ∀ z ∈ [zX11_many, zX11_best, zX11_with, zX11_lacking, zX11_kind, zX11_room, zX11_enters, zX11_walks, zX11_lists, zX11_next_, zX11_heaviest, zX11_fair, zX11_finds, zX11_greatest, zX11_marking, zX11_casesIn, zX11_slack, zX11_rise, zX11_begins, zX11_isLast, zX11_solve, zX11_round, zX11_price, zX11_daysOf, zX11_days], jPc z := List.forall_mem_cons.mpr ⟨jpX11_many, List.forall_mem_cons.mpr ⟨jpX11_best, List.forall_mem_cons.mpr ⟨jpX11_with, List.forall_mem_cons.mpr ⟨jpX11_lacking, List.forall_mem_cons.mpr ⟨jpX11_kind, List.forall_mem_cons.mpr ⟨jpX11_room, List.forall_mem_cons.mpr ⟨jpX11_enters, List.forall_mem_cons.mpr ⟨jpX11_walks, List.forall_mem_cons.mpr ⟨jpX11_lists, List.forall_mem_cons.mpr ⟨jpX11_next_, List.forall_mem_cons.mpr ⟨jpX11_heaviest, List.forall_mem_cons.mpr ⟨jpX11_fair, List.forall_mem_cons.mpr ⟨jpX11_finds, List.forall_mem_cons.mpr ⟨jpX11_greatest, List.forall_mem_cons.mpr ⟨jpX11_marking, List.forall_mem_cons.mpr ⟨jpX11_casesIn, List.forall_mem_cons.mpr ⟨jpX11_slack, List.forall_mem_cons.mpr ⟨jpX11_rise, List.forall_mem_cons.mpr ⟨jpX11_begins, List.forall_mem_cons.mpr ⟨jpX11_isLast, List.forall_mem_cons.mpr ⟨jpX11_solve, List.forall_mem_cons.mpr ⟨jpX11_round, List.forall_mem_cons.mpr ⟨jpX11_price, List.forall_mem_cons.mpr ⟨jpX11_daysOf, List.forall_mem_cons.mpr ⟨jpX11_days, fun _ h => absurd h List.not_mem_nil⟩⟩⟩⟩⟩⟩⟩⟩⟩⟩⟩⟩⟩⟩⟩⟩⟩⟩⟩⟩⟩⟩⟩⟩⟩
theorem jPs_9 : ∀ z ∈ [zX11_day, zX11_lack, zX11_without, zX11_casesMany, zX11_reads, zX11_tells, zX11_placeOf, zX11_film, zX11_copies, zX11_keeps, zX11_image, zX11_back, zX11_marksOf, zX11_count, zX11_isSheet, zX11_sheet, zX11_put, zX11_item, zX11_copy, zX11_lay, zJ6_bitCount_0f7a4, zJ9_floorDiv_f86c9, zJ9_floorMod_f86c9, zJ9_abs_067f4, zJ9_max_f86c9], jPc z := List.forall_mem_cons.mpr ⟨jpX11_day, List.forall_mem_cons.mpr ⟨jpX11_lack, List.forall_mem_cons.mpr ⟨jpX11_without, List.forall_mem_cons.mpr ⟨jpX11_casesMany, List.forall_mem_cons.mpr ⟨jpX11_reads, List.forall_mem_cons.mpr ⟨jpX11_tells, List.forall_mem_cons.mpr ⟨jpX11_placeOf, List.forall_mem_cons.mpr ⟨jpX11_film, List.forall_mem_cons.mpr ⟨jpX11_copies, List.forall_mem_cons.mpr ⟨jpX11_keeps, List.forall_mem_cons.mpr ⟨jpX11_image, List.forall_mem_cons.mpr ⟨jpX11_back, List.forall_mem_cons.mpr ⟨jpX11_marksOf, List.forall_mem_cons.mpr ⟨jpX11_count, List.forall_mem_cons.mpr ⟨jpX11_isSheet, List.forall_mem_cons.mpr ⟨jpX11_sheet, List.forall_mem_cons.mpr ⟨jpX11_put, List.forall_mem_cons.mpr ⟨jpX11_item, List.forall_mem_cons.mpr ⟨jpX11_copy, List.forall_mem_cons.mpr ⟨jpX11_lay, List.forall_mem_cons.mpr ⟨jpJ6_bitCount_0f7a4, List.forall_mem_cons.mpr ⟨jpJ9_floorDiv_f86c9, List.forall_mem_cons.mpr ⟨jpJ9_floorMod_f86c9, List.forall_mem_cons.mpr ⟨jpJ9_abs_067f4, List.forall_mem_cons.mpr ⟨jpJ9_max_f86c9, fun _ h => absurd h List.not_mem_nil⟩⟩⟩⟩⟩⟩⟩⟩⟩⟩⟩⟩⟩⟩⟩⟩⟩⟩⟩⟩⟩⟩⟩⟩⟩
theorem jPs_10 : ∀ z ∈ [zJ9_min_f86c9, zJ7_fill_d0a16, zJ7_fill_53178], jPc z := List.forall_mem_cons.mpr ⟨jpJ9_min_f86c9, List.forall_mem_cons.mpr ⟨jpJ7_fill_d0a16, List.forall_mem_cons.mpr ⟨jpJ7_fill_53178, fun _ h => absurd h List.not_mem_nil⟩⟩⟩
