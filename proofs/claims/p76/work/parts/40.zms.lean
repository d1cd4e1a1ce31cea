/-! the methods: names, code, locals, return, cells and slots made -/
/-- the texts -/
def z_SS : List ZT := [(RX5, 93, "dukedom", [100, 117, 107, 101, 100, 111, 109]),
  (RX5, 99, "years", [121, 101, 97, 114, 115]),
  (RX5, 107, "law", [108, 97, 119]),
  (RX5, 111, "odds", [111, 100, 100, 115]),
  (RX5, 52, "rank", [114, 97, 110, 107]),
  (RX5, 118, "wide", [119, 105, 100, 101]),
  (RX5, 123, "water", [119, 97, 116, 101, 114]),
  (RX5, 128, "drains", [100, 114, 97, 105, 110, 115]),
  (RX5, 132, "swims", [115, 119, 105, 109, 115]),
  (RX5, 61, "plank", [112, 108, 97, 110, 107]),
  (RX5, 142, "on", [111, 110]),
  (RX5, 66, "rain", [114, 97, 105, 110]),
  (RX5, 150, "at", [97, 116]),
  (RX5, 71, "frost", [102, 114, 111, 115, 116]),
  (RX5, 76, "invite", [105, 110, 118, 105, 116, 101]),
  (RX10, 179, "dukedom", [100, 117, 107, 101, 100, 111, 109]),
  (RX10, 181, "years", [121, 101, 97, 114, 115]),
  (RX10, 187, "law", [108, 97, 119]),
  (RX10, 189, "odds", [111, 100, 100, 115]),
  (RX10, 200, "rank", [114, 97, 110, 107]),
  (RX10, 202, "plank", [112, 108, 97, 110, 107]),
  (RX10, 204, "rain", [114, 97, 105, 110]),
  (RX10, 206, "frost", [102, 114, 111, 115, 116]),
  (RX10, 208, "invite", [105, 110, 118, 105, 116, 101]),
  (RX10, 191, "wide", [119, 105, 100, 101]),
  (RX10, 193, "water", [119, 97, 116, 101, 114]),
  (RX10, 195, "drains", [100, 114, 97, 105, 110, 115]),
  (RX10, 197, "swims", [115, 119, 105, 109, 115]),
  (RX10, 216, "on", [111, 110]),
  (RX10, 199, "at", [97, 116])]
def z_ms : List ZM := [(yX0_init, cX0_init, 1, none, 0, 3, 90),
  (yX0_addPlank, cX0_addPlank, 3, (some .boolean), 1, 0, 0),
  (yX0_addDredging, cX0_addDredging, 3, (some .boolean), 1, 0, 0),
  (yX0_add, cX0_add, 4, (some .boolean), 1, 0, 0),
  (yX0_copy, cX0_copy, 2, none, 0, 0, 0),
  (yX1_init, cX1_init, 2, none, 0, 8, 340),
  (yX1_take, cX1_take, 3, none, 0, 0, 0),
  (yX1_run, cX1_run, 3, none, 0, 0, 0),
  (yX1_runAll, cX1_runAll, 2, none, 0, 0, 0),
  (yX1_rainAndDrain, cX1_rainAndDrain, 8, none, 0, 0, 0),
  (yX1_runOver, cX1_runOver, 10, none, 0, 0, 0),
  (yX1_emptyDredged, cX1_emptyDredged, 3, none, 0, 0, 0),
  (yX1_isFrost, cX1_isFrost, 2, (some .boolean), 1, 0, 0),
  (yX1_swimsOver, cX1_swimsOver, 4, (some .boolean), 1, 0, 0),
  (yX1_crosses, cX1_crosses, 4, (some .boolean), 1, 0, 0),
  (yX1_visits, cX1_visits, 4, (some .boolean), 1, 0, 0),
  (yX1_visitedBy, cX1_visitedBy, 5, (some .int), 1, 0, 0),
  (yX1_spread, cX1_spread, 5, (some .int), 1, 0, 0),
  (yX1_farthest, cX1_farthest, 7, (some .int), 1, 0, 0),
  (yX1_pairs, cX1_pairs, 5, (some .int), 1, 0, 0),
  (yX1_deepWaterFor, cX1_deepWaterFor, 6, (some .int), 1, 0, 0),
  (yX1_isKept, cX1_isKept, 3, (some .boolean), 1, 0, 0),
  (yX1_keptBits, cX1_keptBits, 4, (some .int), 1, 0, 0),
  (yX1_keptSum, cX1_keptSum, 2, (some .int), 1, 0, 0),
  (yX1_hindrance, cX1_hindrance, 2, (some .int), 1, 0, 0),
  (yX1_allHindrance, cX1_allHindrance, 3, (some .int), 1, 0, 0),
  (yX1_deepestOnTheWay, cX1_deepestOnTheWay, 3, (some .int), 1, 0, 0),
  (yX1_toSwim, cX1_toSwim, 3, (some .int), 1, 0, 0),
  (yX2_init, cX2_init, 1, none, 0, 1, 1600),
  (yX2_clear, cX2_clear, 1, none, 0, 0, 0),
  (yX2_add, cX2_add, 6, none, 0, 0, 0),
  (yX2_atWorst, cX2_atWorst, 4, (some .int), 1, 0, 0),
  (yX2_yearToAsk, cX2_yearToAsk, 6, (some .int), 1, 0, 0),
  (yX3_init, cX3_init, 1, none, 0, 3, 24),
  (yX3_has, cX3_has, 2, (some .boolean), 1, 0, 0),
  (yX3_toWhom, cX3_toWhom, 4, (some .int), 1, 0, 0),
  (yX3_ofWhom, cX3_ofWhom, 4, (some .int), 1, 0, 0),
  (yX3_copy, cX3_copy, 2, none, 0, 0, 0),
  (yX4_init, cX4_init, 1, none, 0, 2, 768),
  (yX4_plan, cX4_plan, 6, none, 0, 0, 0),
  (yX4_choose, cX4_choose, 8, none, 0, 0, 0),
  (yX4_behind, cX4_behind, 5, (some .int), 1, 0, 0),
  (yX4_mostKept, cX4_mostKept, 1, (some .int), 1, 0, 0),
  (yX4_rowsOfBest, cX4_rowsOfBest, 1, (some .int), 1, 0, 0),
  (yX4_place, cX4_place, 6, (some .int), 1, 0, 0),
  (yX4_firstOfBest, cX4_firstOfBest, 5, (some .int), 1, 0, 0),
  (yX5_init, cX5_init, 2, none, 0, 0, 0),
  (yX5_read, cX5_read, 3, none, 0, 0, 0),
  (yX5_line, cX5_line, 2, none, 0, 0, 0),
  (yX5_dukedomLine, cX5_dukedomLine, 2, none, 0, 0, 0),
  (yX5_rankLine, cX5_rankLine, 2, none, 0, 0, 0),
  (yX5_plankLine, cX5_plankLine, 2, none, 0, 0, 0),
  (yX5_rainLine, cX5_rainLine, 3, none, 0, 0, 0),
  (yX5_frostLine, cX5_frostLine, 2, none, 0, 0, 0),
  (yX5_inviteLine, cX5_inviteLine, 5, none, 0, 0, 0),
  (yX5_fail, cX5_fail, 2, none, 0, 0, 0),
  (yX5_word, cX5_word, 2, none, 0, 0, 0),
  (yX5_sign, cX5_sign, 1, none, 0, 0, 0),
  (yX5_number, cX5_number, 4, (some .int), 1, 0, 0),
  (yX5_isWord, cX5_isWord, 3, (some .boolean), 1, 0, 0),
  (yX5_step, cX5_step, 2, none, 0, 0, 0),
  (yX5_isLong, cX5_isLong, 1, (some .boolean), 1, 0, 0),
  (yX5_kindOf, cX5_kindOf, 1, (some .int), 1, 0, 0),
  (yX6_init, cX6_init, 1, none, 0, 15, 172),
  (yX6_clear, cX6_clear, 1, none, 0, 0, 0),
  (yX6_copy, cX6_copy, 2, none, 0, 0, 0),
  (yX6_isTold, cX6_isTold, 1, (some .boolean), 1, 0, 0),
  (yX6_hasRank, cX6_hasRank, 2, (some .boolean), 1, 0, 0),
  (yX6_hasYear, cX6_hasYear, 2, (some .boolean), 1, 0, 0),
  (yX6_hasBoth, cX6_hasBoth, 3, (some .boolean), 1, 0, 0),
  (yX6_hasTwo, cX6_hasTwo, 3, (some .boolean), 1, 0, 0),
  (yX6_hasPlank, cX6_hasPlank, 2, (some .boolean), 1, 0, 0),
  (yX6_everyRank, cX6_everyRank, 1, (some .int), 1, 0, 0),
  (yX6_opened, cX6_opened, 3, (some .int), 1, 0, 0),
  (yX6_openedByTold, cX6_openedByTold, 4, (some .int), 1, 0, 0),
  (yX6_openedByActs, cX6_openedByActs, 3, (some .int), 1, 0, 0),
  (yX7_init, cX7_init, 1, none, 0, 1, 60),
  (yX7_make, cX7_make, 3, none, 0, 0, 0),
  (yX7_isThere, cX7_isThere, 1, (some .boolean), 1, 0, 0),
  (yX7_hasRange, cX7_hasRange, 3, (some .boolean), 1, 0, 0),
  (yX7_tellsOf, cX7_tellsOf, 4, (some .boolean), 1, 0, 0),
  (yX7_isBelow, cX7_isBelow, 3, (some .boolean), 1, 0, 0),
  (yX7_isSeenIn, cX7_isSeenIn, 4, (some .boolean), 1, 0, 0),
  (yX8_init, cX8_init, 1, none, 0, 1, 900),
  (yX8_put, cX8_put, 3, none, 0, 0, 0),
  (yX8_at, cX8_at, 2, (some .int), 1, 0, 0),
  (yX9_init, cX9_init, 2, none, 0, 116, 5197),
  (yX9_feed, cX9_feed, 6, (some .int), 1, 0, 0),
  (yX9_end, cX9_end, 2, (some .int), 1, 0, 0),
  (yX9_dukedom, cX9_dukedom, 2, (some .int), 1, 0, 0),
  (yX9_fault, cX9_fault, 2, (some .int), 1, 0, 0),
  (yX9_rank, cX9_rank, 3, (some .int), 1, 0, 0),
  (yX9_plank, cX9_plank, 3, (some .int), 1, 0, 0),
  (yX9_invite, cX9_invite, 4, (some .int), 1, 0, 0),
  (yX9_rain, cX9_rain, 2, (some .int), 1, 0, 0),
  (yX9_frosts, cX9_frosts, 1, (some .int), 1, 0, 0),
  (yX9_water, cX9_water, 3, (some .int), 1, 0, 0),
  (yX9_spills, cX9_spills, 3, (some .int), 1, 0, 0),
  (yX9_lost, cX9_lost, 2, (some .int), 1, 0, 0),
  (yX9_drained, cX9_drained, 3, (some .int), 1, 0, 0),
  (yX9_all, cX9_all, 4, (some .int), 1, 0, 0),
  (yX9_dry, cX9_dry, 4, (some .int), 1, 0, 0),
  (yX9_deepest, cX9_deepest, 6, (some .int), 1, 0, 0),
  (yX9_most, cX9_most, 4, (some .int), 1, 0, 0),
  (yX9_dries, cX9_dries, 3, (some .int), 1, 0, 0),
  (yX9_wet, cX9_wet, 4, (some .int), 1, 0, 0),
  (yX9_flood, cX9_flood, 4, (some .int), 1, 0, 0),
  (yX9_rains, cX9_rains, 3, (some .int), 1, 0, 0),
  (yX9_lone, cX9_lone, 4, (some .int), 1, 0, 0),
  (yX9_over, cX9_over, 4, (some .int), 1, 0, 0),
  (yX9_comes, cX9_comes, 3, (some .int), 1, 0, 0),
  (yX9_guests, cX9_guests, 5, (some .int), 1, 0, 0),
  (yX9_first, cX9_first, 4, (some .int), 1, 0, 0),
  (yX9_often, cX9_often, 5, (some .int), 1, 0, 0),
  (yX9_news, cX9_news, 6, (some .int), 1, 0, 0),
  (yX9_friends, cX9_friends, 2, (some .int), 1, 0, 0),
  (yX9_fair, cX9_fair, 5, (some .int), 1, 0, 0),
  (yX9_fords, cX9_fords, 5, (some .int), 1, 0, 0),
  (yX9_shut, cX9_shut, 4, (some .int), 1, 0, 0),
  (yX9_widest, cX9_widest, 4, (some .int), 1, 0, 0),
  (yX9_kept, cX9_kept, 2, (some .int), 1, 0, 0),
  (yX9_keeps, cX9_keeps, 1, (some .int), 1, 0, 0),
  (yX9_hinders, cX9_hinders, 2, (some .int), 1, 0, 0),
  (yX9_hosts, cX9_hosts, 2, (some .int), 1, 0, 0),
  (yX9_goes, cX9_goes, 2, (some .int), 1, 0, 0),
  (yX9_host, cX9_host, 6, (some .int), 1, 0, 0),
  (yX9_idle, cX9_idle, 5, (some .int), 1, 0, 0),
  (yX9_best, cX9_best, 1, (some .int), 1, 0, 0),
  (yX9_lay, cX9_lay, 2, (some .int), 1, 0, 0),
  (yX9_ways, cX9_ways, 1, (some .int), 1, 0, 0),
  (yX9_fills, cX9_fills, 1, (some .int), 1, 0, 0),
  (yX9_filled, cX9_filled, 1, (some .int), 1, 0, 0),
  (yX9_path, cX9_path, 5, (some .int), 1, 0, 0),
  (yX9_drain, cX9_drain, 6, (some .int), 1, 0, 0),
  (yX9_learns, cX9_learns, 4, (some .int), 1, 0, 0),
  (yX9_by, cX9_by, 2, (some .int), 1, 0, 0),
  (yX9_law, cX9_law, 5, (some .int), 1, 0, 0),
  (yX9_waters, cX9_waters, 4, (some .int), 1, 0, 0),
  (yX9_least, cX9_least, 4, (some .int), 1, 0, 0),
  (yX9_greatest, cX9_greatest, 4, (some .int), 1, 0, 0),
  (yX9_ask, cX9_ask, 4, (some .int), 1, 0, 0),
  (yX9_leaves, cX9_leaves, 5, (some .int), 1, 0, 0),
  (yX9_laws, cX9_laws, 5, (some .int), 1, 0, 0),
  (yX9_worth, cX9_worth, 2, (some .int), 1, 0, 0),
  (yX9_share, cX9_share, 6, (some .int), 1, 0, 0),
  (yX9_rests, cX9_rests, 9, (some .int), 1, 0, 0),
  (yX9_gets, cX9_gets, 5, (some .int), 1, 0, 0),
  (yX9_chance, cX9_chance, 8, (some .long), 2, 0, 0),
  (yX9_mean, cX9_mean, 7, (some .long), 2, 0, 0),
  (yX9_adds, cX9_adds, 5, (some .int), 1, 0, 0),
  (yX9_dredge, cX9_dredge, 3, (some .int), 1, 0, 0),
  (yX9_undo, cX9_undo, 1, (some .int), 1, 0, 0),
  (yX9_anew, cX9_anew, 2, (some .int), 1, 0, 0),
  (yX9_drawn, cX9_drawn, 4, (some .int), 1, 0, 0),
  (yX9_luck, cX9_luck, 6, (some .int), 1, 0, 0),
  (yX9_digs, cX9_digs, 4, (some .int), 1, 0, 0),
  (yX9_count, cX9_count, 2, (some .int), 1, 0, 0),
  (yX9_image, cX9_image, 2, (some .int), 1, 0, 0),
  (yX9_back, cX9_back, 2, (some .int), 1, 0, 0),
  (yX9_row, cX9_row, 4, (some .int), 1, 0, 0),
  (yX9_write, cX9_write, 6, (some .int), 1, 0, 0),
  (yX9_paste, cX9_paste, 8, (some .int), 1, 0, 0),
  (yX9_settle, cX9_settle, 1, none, 0, 0, 0),
  (yX9_cell, cX9_cell, 2, (some .int), 1, 0, 0),
  (yX9_isEither, cX9_isEither, 1, (some .boolean), 1, 0, 0),
  (yX9_isSlot, cX9_isSlot, 1, (some .boolean), 1, 0, 0),
  (yX9_isSeed, cX9_isSeed, 1, (some .boolean), 1, 0, 0),
  (yX9_isChanceYear, cX9_isChanceYear, 2, (some .boolean), 1, 0, 0),
  (yX9_rowsThere, cX9_rowsThere, 3, (some .int), 1, 0, 0),
  (yX9_cutToWidth, cX9_cutToWidth, 3, (some .long), 2, 0, 0),
  (yX9_keptByLaw, cX9_keptByLaw, 2, (some .int), 1, 0, 0),
  (yX9_keptInFrosts, cX9_keptInFrosts, 2, (some .int), 1, 0, 0),
  (yX9_drawFrosts, cX9_drawFrosts, 6, (some .int), 1, 0, 0),
  (yX9_gain, cX9_gain, 7, (some .int), 1, 0, 0),
  (yX9_weight, cX9_weight, 6, (some .long), 2, 0, 0),
  (yX9_allWeights, cX9_allWeights, 4, (some .long), 2, 0, 0),
  (yX9_inLowestTerms, cX9_inLowestTerms, 12, (some .long), 2, 0, 0),
  (yX9_whyNotSeen, cX9_whyNotSeen, 3, (some .int), 1, 0, 0),
  (yX9_guessTold, cX9_guessTold, 5, (some .int), 1, 0, 0),
  (yX10_init, cX10_init, 1, none, 0, 26, 3916),
  (yX10_in, cX10_in, 6, (some .boolean), 1, 0, 0),
  (yX10_bits, cX10_bits, 3, (some .int), 1, 0, 0),
  (yX10_bit, cX10_bit, 2, (some .int), 1, 0, 0),
  (yX10_image, cX10_image, 3, (some .int), 1, 0, 0),
  (yX10_back, cX10_back, 3, (some .int), 1, 0, 0),
  (yX10_isDukedom, cX10_isDukedom, 1, (some .boolean), 1, 0, 0),
  (yX10_isYear, cX10_isYear, 3, (some .boolean), 1, 0, 0),
  (yX10_isRank, cX10_isRank, 3, (some .boolean), 1, 0, 0),
  (yX10_isInvite, cX10_isInvite, 2, (some .boolean), 1, 0, 0),
  (yX10_years, cX10_years, 1, (some .int), 1, 0, 0),
  (yX10_ranks, cX10_ranks, 1, (some .int), 1, 0, 0),
  (yX10_of, cX10_of, 3, (some .int), 1, 0, 0),
  (yX10_inviteOf, cX10_inviteOf, 3, (some .int), 1, 0, 0),
  (yX10_feed, cX10_feed, 7, (some .int), 1, 0, 0),
  (yX10_end, cX10_end, 2, (some .int), 1, 0, 0),
  (yX10_see, cX10_see, 2, (some .int), 1, 0, 0),
  (yX10_advance, cX10_advance, 2, none, 0, 0, 0),
  (yX10_good, cX10_good, 1, (some .boolean), 1, 0, 0),
  (yX10_errs, cX10_errs, 2, none, 0, 0, 0),
  (yX10_is, cX10_is, 4, (some .boolean), 1, 0, 0),
  (yX10_takes, cX10_takes, 3, (some .boolean), 1, 0, 0),
  (yX10_needs, cX10_needs, 2, none, 0, 0, 0),
  (yX10_number, cX10_number, 4, (some .int), 1, 0, 0),
  (yX10_told, cX10_told, 4, (some .int), 1, 0, 0),
  (yX10_fault, cX10_fault, 2, (some .int), 1, 0, 0),
  (yX10_readFirst, cX10_readFirst, 1, none, 0, 0, 0),
  (yX10_readRank, cX10_readRank, 2, none, 0, 0, 0),
  (yX10_readInvite, cX10_readInvite, 2, none, 0, 0, 0),
  (yX10_isFull, cX10_isFull, 1, (some .boolean), 1, 0, 0),
  (yX10_readNext, cX10_readNext, 3, none, 0, 0, 0),
  (yX10_readLine, cX10_readLine, 1, none, 0, 0, 0),
  (yX10_dukedom, cX10_dukedom, 2, (some .int), 1, 0, 0),
  (yX10_rank, cX10_rank, 3, (some .int), 1, 0, 0),
  (yX10_plank, cX10_plank, 3, (some .int), 1, 0, 0),
  (yX10_invite, cX10_invite, 3, (some .int), 1, 0, 0),
  (yX10_asItIs, cX10_asItIs, 3, none, 0, 0, 0),
  (yX10_waterIn, cX10_waterIn, 3, (some .int), 1, 0, 0),
  (yX10_isFrost, cX10_isFrost, 2, (some .boolean), 1, 0, 0),
  (yX10_runsOver, cX10_runsOver, 6, none, 0, 0, 0),
  (yX10_goYear, cX10_goYear, 5, none, 0, 0, 0),
  (yX10_goAll, cX10_goAll, 2, none, 0, 0, 0),
  (yX10_asksDukedom, cX10_asksDukedom, 1, (some .boolean), 1, 0, 0),
  (yX10_asksYear, cX10_asksYear, 2, (some .boolean), 1, 0, 0),
  (yX10_asksRank, cX10_asksRank, 2, (some .boolean), 1, 0, 0),
  (yX10_rain, cX10_rain, 2, (some .int), 1, 0, 0),
  (yX10_frosts, cX10_frosts, 1, (some .int), 1, 0, 0),
  (yX10_water, cX10_water, 3, (some .int), 1, 0, 0),
  (yX10_spills, cX10_spills, 3, (some .int), 1, 0, 0),
  (yX10_lost, cX10_lost, 2, (some .int), 1, 0, 0),
  (yX10_drained, cX10_drained, 3, (some .int), 1, 0, 0),
  (yX10_all, cX10_all, 4, (some .int), 1, 0, 0),
  (yX10_dry, cX10_dry, 4, (some .int), 1, 0, 0),
  (yX10_deepest, cX10_deepest, 4, (some .int), 1, 0, 0),
  (yX10_most, cX10_most, 4, (some .int), 1, 0, 0),
  (yX10_dries, cX10_dries, 3, (some .int), 1, 0, 0),
  (yX10_wet, cX10_wet, 4, (some .int), 1, 0, 0),
  (yX10_flood, cX10_flood, 3, (some .int), 1, 0, 0),
  (yX10_rains, cX10_rains, 3, (some .int), 1, 0, 0),
  (yX10_hasPlank, cX10_hasPlank, 4, (some .boolean), 1, 0, 0),
  (yX10_doesFord, cX10_doesFord, 4, (some .boolean), 1, 0, 0),
  (yX10_doesCome, cX10_doesCome, 4, (some .boolean), 1, 0, 0),
  (yX10_over, cX10_over, 4, (some .int), 1, 0, 0),
  (yX10_comesOf, cX10_comesOf, 5, (some .int), 1, 0, 0),
  (yX10_comes, cX10_comes, 3, (some .int), 1, 0, 0),
  (yX10_guestsOf, cX10_guestsOf, 5, (some .int), 1, 0, 0),
  (yX10_guests, cX10_guests, 3, (some .int), 1, 0, 0),
  (yX10_areTwo, cX10_areTwo, 3, (some .boolean), 1, 0, 0),
  (yX10_first, cX10_first, 4, (some .int), 1, 0, 0),
  (yX10_often, cX10_often, 5, (some .int), 1, 0, 0),
  (yX10_newsOf, cX10_newsOf, 8, (some .int), 1, 0, 0),
  (yX10_orNone, cX10_orNone, 1, (some .int), 1, 0, 0),
  (yX10_news, cX10_news, 4, (some .int), 1, 0, 0),
  (yX10_widest, cX10_widest, 5, (some .int), 1, 0, 0),
  (yX10_friendsOf, cX10_friendsOf, 5, (some .int), 1, 0, 0),
  (yX10_friends, cX10_friends, 2, (some .int), 1, 0, 0),
  (yX10_fair, cX10_fair, 3, (some .int), 1, 0, 0),
  (yX10_fords, cX10_fords, 5, (some .int), 1, 0, 0),
  (yX10_shut, cX10_shut, 4, (some .int), 1, 0, 0),
  (yX10_lone, cX10_lone, 5, (some .int), 1, 0, 0),
  (yX10_isKept, cX10_isKept, 2, (some .boolean), 1, 0, 0),
  (yX10_keptSet, cX10_keptSet, 3, (some .int), 1, 0, 0),
  (yX10_keptMany, cX10_keptMany, 1, (some .int), 1, 0, 0),
  (yX10_kept, cX10_kept, 2, (some .int), 1, 0, 0),
  (yX10_keeps, cX10_keeps, 1, (some .int), 1, 0, 0),
  (yX10_hinders, cX10_hinders, 4, (some .int), 1, 0, 0),
  (yX10_keptOf, cX10_keptOf, 5, (some .int), 1, 0, 0),
  (yX10_hosts, cX10_hosts, 2, (some .int), 1, 0, 0),
  (yX10_goes, cX10_goes, 2, (some .int), 1, 0, 0),
  (yX10_host, cX10_host, 3, (some .int), 1, 0, 0),
  (yX10_idle, cX10_idle, 5, (some .int), 1, 0, 0),
  (yX10_nextRow, cX10_nextRow, 2, (some .boolean), 1, 0, 0),
  (yX10_asksRows, cX10_asksRows, 4, (some .boolean), 1, 0, 0),
  (yX10_best, cX10_best, 1, (some .int), 1, 0, 0),
  (yX10_ways, cX10_ways, 1, (some .int), 1, 0, 0),
  (yX10_lay, cX10_lay, 2, (some .int), 1, 0, 0),
  (yX10_timely, cX10_timely, 3, (some .int), 1, 0, 0),
  (yX10_fillSet, cX10_fillSet, 3, (some .int), 1, 0, 0),
  (yX10_fills, cX10_fills, 1, (some .int), 1, 0, 0),
  (yX10_filled, cX10_filled, 1, (some .int), 1, 0, 0),
  (yX10_path, cX10_path, 4, (some .int), 1, 0, 0),
  (yX10_drain, cX10_drain, 5, (some .int), 1, 0, 0),
  (yX10_learns, cX10_learns, 4, (some .int), 1, 0, 0),
  (yX10_keptBy, cX10_keptBy, 2, (some .int), 1, 0, 0),
  (yX10_by, cX10_by, 2, (some .int), 1, 0, 0),
  (yX10_law, cX10_law, 3, (some .int), 1, 0, 0),
  (yX10_numberAt, cX10_numberAt, 3, (some .long), 2, 0, 0),
  (yX10_askSeen, cX10_askSeen, 3, (some .int), 1, 0, 0),
  (yX10_isSeen, cX10_isSeen, 3, (some .boolean), 1, 0, 0),
  (yX10_layWaters, cX10_layWaters, 6, (some .int), 1, 0, 0),
  (yX10_waters, cX10_waters, 4, (some .int), 1, 0, 0),
  (yX10_least, cX10_least, 4, (some .int), 1, 0, 0),
  (yX10_greatest, cX10_greatest, 4, (some .int), 1, 0, 0),
  (yX10_askOf, cX10_askOf, 7, (some .int), 1, 0, 0),
  (yX10_ask, cX10_ask, 4, (some .int), 1, 0, 0),
  (yX10_leaves, cX10_leaves, 4, (some .int), 1, 0, 0),
  (yX10_laws, cX10_laws, 4, (some .int), 1, 0, 0),
  (yX10_keptWith, cX10_keptWith, 2, (some .int), 1, 0, 0),
  (yX10_worth, cX10_worth, 2, (some .int), 1, 0, 0),
  (yX10_factorial, cX10_factorial, 3, (some .int), 1, 0, 0),
  (yX10_divisor, cX10_divisor, 10, (some .long), 2, 0, 0),
  (yX10_part, cX10_part, 5, (some .long), 2, 0, 0),
  (yX10_share, cX10_share, 6, (some .int), 1, 0, 0),
  (yX10_getsBy, cX10_getsBy, 7, (some .int), 1, 0, 0),
  (yX10_rests, cX10_rests, 8, (some .int), 1, 0, 0),
  (yX10_gets, cX10_gets, 5, (some .int), 1, 0, 0),
  (yX10_layFrosts, cX10_layFrosts, 9, none, 0, 0, 0),
  (yX10_isFrosts, cX10_isFrosts, 3, (some .boolean), 1, 0, 0),
  (yX10_chance, cX10_chance, 5, (some .long), 2, 0, 0),
  (yX10_mean, cX10_mean, 4, (some .long), 2, 0, 0),
  (yX10_keepAct, cX10_keepAct, 2, (some .int), 1, 0, 0),
  (yX10_adds, cX10_adds, 5, (some .int), 1, 0, 0),
  (yX10_dredge, cX10_dredge, 3, (some .int), 1, 0, 0),
  (yX10_undo, cX10_undo, 1, (some .int), 1, 0, 0),
  (yX10_anew, cX10_anew, 2, (some .int), 1, 0, 0),
  (yX10_goDrawn, cX10_goDrawn, 6, none, 0, 0, 0),
  (yX10_isSeed, cX10_isSeed, 1, (some .boolean), 1, 0, 0),
  (yX10_drawn, cX10_drawn, 3, (some .int), 1, 0, 0),
  (yX10_luck, cX10_luck, 6, (some .int), 1, 0, 0),
  (yX10_digs, cX10_digs, 4, (some .int), 1, 0, 0),
  (yX10_count, cX10_count, 4, (some .int), 1, 0, 0),
  (yX10_isSlot, cX10_isSlot, 1, (some .boolean), 1, 0, 0),
  (yX10_cut, cX10_cut, 4, (some .long), 2, 0, 0),
  (yX10_row, cX10_row, 5, (some .int), 1, 0, 0),
  (yX10_write, cX10_write, 5, (some .int), 1, 0, 0),
  (yX10_paste, cX10_paste, 7, (some .int), 1, 0, 0),
  (yJ6_bitCount_0f7a4, cJ6_bitCount_0f7a4, 1, (some .int), 1, 0, 0),
  (yJ9_abs_067f4, cJ9_abs_067f4, 2, (some .long), 2, 0, 0),
  (yJ9_max_7cf53, cJ9_max_7cf53, 2, (some .int), 1, 0, 0),
  (yJ9_min_7cf53, cJ9_min_7cf53, 2, (some .int), 1, 0, 0),
  (yJ0_length_8abf5, cJ0_length_8abf5, 1, (some .int), 1, 0, 0),
  (yJ0_charAt_5068e, cJ0_charAt_5068e, 2, (some .char), 1, 0, 0),
  (yJ0_coder_7d493, cJ0_coder_7d493, 1, (some .byte), 1, 0, 0),
  (yJ0_isLatin1_aae02, cJ0_isLatin1_aae02, 1, (some .boolean), 1, 0, 0),
  (yJ0_checkIndex_df160, cJ0_checkIndex_df160, 2, none, 0, 0, 0),
  (yJ1_charAt_3b067, cJ1_charAt_3b067, 2, (some .char), 1, 0, 0),
  (yJ7_fill_d0a16, cJ7_fill_d0a16, 5, none, 0, 0, 0),
  (yJ7_fill_53178, cJ7_fill_53178, 4, none, 0, 0, 0),
  (yJ3_checkIndex_8e157, cJ3_checkIndex_8e157, 3, (some .int), 1, 0, 0)]
set_option maxRecDepth 20000 in
theorem zq_X0_init : z_nth z_ms 0 = some (yX0_init, cX0_init, 1, none, 0, 3, 90) := rfl
set_option maxRecDepth 20000 in
theorem zq_X0_addPlank : z_nth z_ms 1 = some (yX0_addPlank, cX0_addPlank, 3, (some .boolean), 1, 0, 0) := rfl
set_option maxRecDepth 20000 in
theorem zq_X0_addDredging : z_nth z_ms 2 = some (yX0_addDredging, cX0_addDredging, 3, (some .boolean), 1, 0, 0) := rfl
set_option maxRecDepth 20000 in
theorem zq_X0_add : z_nth z_ms 3 = some (yX0_add, cX0_add, 4, (some .boolean), 1, 0, 0) := rfl
set_option maxRecDepth 20000 in
theorem zq_X0_copy : z_nth z_ms 4 = some (yX0_copy, cX0_copy, 2, none, 0, 0, 0) := rfl
set_option maxRecDepth 20000 in
theorem zq_X1_init : z_nth z_ms 5 = some (yX1_init, cX1_init, 2, none, 0, 8, 340) := rfl
set_option maxRecDepth 20000 in
theorem zq_X1_take : z_nth z_ms 6 = some (yX1_take, cX1_take, 3, none, 0, 0, 0) := rfl
set_option maxRecDepth 20000 in
theorem zq_X1_run : z_nth z_ms 7 = some (yX1_run, cX1_run, 3, none, 0, 0, 0) := rfl
set_option maxRecDepth 20000 in
theorem zq_X1_runAll : z_nth z_ms 8 = some (yX1_runAll, cX1_runAll, 2, none, 0, 0, 0) := rfl
set_option maxRecDepth 20000 in
theorem zq_X1_rainAndDrain : z_nth z_ms 9 = some (yX1_rainAndDrain, cX1_rainAndDrain, 8, none, 0, 0, 0) := rfl
set_option maxRecDepth 20000 in
theorem zq_X1_runOver : z_nth z_ms 10 = some (yX1_runOver, cX1_runOver, 10, none, 0, 0, 0) := rfl
set_option maxRecDepth 20000 in
theorem zq_X1_emptyDredged : z_nth z_ms 11 = some (yX1_emptyDredged, cX1_emptyDredged, 3, none, 0, 0, 0) := rfl
set_option maxRecDepth 20000 in
theorem zq_X1_isFrost : z_nth z_ms 12 = some (yX1_isFrost, cX1_isFrost, 2, (some .boolean), 1, 0, 0) := rfl
set_option maxRecDepth 20000 in
theorem zq_X1_swimsOver : z_nth z_ms 13 = some (yX1_swimsOver, cX1_swimsOver, 4, (some .boolean), 1, 0, 0) := rfl
set_option maxRecDepth 20000 in
theorem zq_X1_crosses : z_nth z_ms 14 = some (yX1_crosses, cX1_crosses, 4, (some .boolean), 1, 0, 0) := rfl
set_option maxRecDepth 20000 in
theorem zq_X1_visits : z_nth z_ms 15 = some (yX1_visits, cX1_visits, 4, (some .boolean), 1, 0, 0) := rfl
set_option maxRecDepth 20000 in
theorem zq_X1_visitedBy : z_nth z_ms 16 = some (yX1_visitedBy, cX1_visitedBy, 5, (some .int), 1, 0, 0) := rfl
set_option maxRecDepth 20000 in
theorem zq_X1_spread : z_nth z_ms 17 = some (yX1_spread, cX1_spread, 5, (some .int), 1, 0, 0) := rfl
set_option maxRecDepth 20000 in
theorem zq_X1_farthest : z_nth z_ms 18 = some (yX1_farthest, cX1_farthest, 7, (some .int), 1, 0, 0) := rfl
set_option maxRecDepth 20000 in
theorem zq_X1_pairs : z_nth z_ms 19 = some (yX1_pairs, cX1_pairs, 5, (some .int), 1, 0, 0) := rfl
set_option maxRecDepth 20000 in
theorem zq_X1_deepWaterFor : z_nth z_ms 20 = some (yX1_deepWaterFor, cX1_deepWaterFor, 6, (some .int), 1, 0, 0) := rfl
set_option maxRecDepth 20000 in
theorem zq_X1_isKept : z_nth z_ms 21 = some (yX1_isKept, cX1_isKept, 3, (some .boolean), 1, 0, 0) := rfl
set_option maxRecDepth 20000 in
theorem zq_X1_keptBits : z_nth z_ms 22 = some (yX1_keptBits, cX1_keptBits, 4, (some .int), 1, 0, 0) := rfl
set_option maxRecDepth 20000 in
theorem zq_X1_keptSum : z_nth z_ms 23 = some (yX1_keptSum, cX1_keptSum, 2, (some .int), 1, 0, 0) := rfl
set_option maxRecDepth 20000 in
theorem zq_X1_hindrance : z_nth z_ms 24 = some (yX1_hindrance, cX1_hindrance, 2, (some .int), 1, 0, 0) := rfl
set_option maxRecDepth 20000 in
theorem zq_X1_allHindrance : z_nth z_ms 25 = some (yX1_allHindrance, cX1_allHindrance, 3, (some .int), 1, 0, 0) := rfl
set_option maxRecDepth 20000 in
theorem zq_X1_deepestOnTheWay : z_nth z_ms 26 = some (yX1_deepestOnTheWay, cX1_deepestOnTheWay, 3, (some .int), 1, 0, 0) := rfl
set_option maxRecDepth 20000 in
theorem zq_X1_toSwim : z_nth z_ms 27 = some (yX1_toSwim, cX1_toSwim, 3, (some .int), 1, 0, 0) := rfl
set_option maxRecDepth 20000 in
theorem zq_X2_init : z_nth z_ms 28 = some (yX2_init, cX2_init, 1, none, 0, 1, 1600) := rfl
set_option maxRecDepth 20000 in
theorem zq_X2_clear : z_nth z_ms 29 = some (yX2_clear, cX2_clear, 1, none, 0, 0, 0) := rfl
set_option maxRecDepth 20000 in
theorem zq_X2_add : z_nth z_ms 30 = some (yX2_add, cX2_add, 6, none, 0, 0, 0) := rfl
set_option maxRecDepth 20000 in
theorem zq_X2_atWorst : z_nth z_ms 31 = some (yX2_atWorst, cX2_atWorst, 4, (some .int), 1, 0, 0) := rfl
set_option maxRecDepth 20000 in
theorem zq_X2_yearToAsk : z_nth z_ms 32 = some (yX2_yearToAsk, cX2_yearToAsk, 6, (some .int), 1, 0, 0) := rfl
set_option maxRecDepth 20000 in
theorem zq_X3_init : z_nth z_ms 33 = some (yX3_init, cX3_init, 1, none, 0, 3, 24) := rfl
set_option maxRecDepth 20000 in
theorem zq_X3_has : z_nth z_ms 34 = some (yX3_has, cX3_has, 2, (some .boolean), 1, 0, 0) := rfl
set_option maxRecDepth 20000 in
theorem zq_X3_toWhom : z_nth z_ms 35 = some (yX3_toWhom, cX3_toWhom, 4, (some .int), 1, 0, 0) := rfl
set_option maxRecDepth 20000 in
theorem zq_X3_ofWhom : z_nth z_ms 36 = some (yX3_ofWhom, cX3_ofWhom, 4, (some .int), 1, 0, 0) := rfl
set_option maxRecDepth 20000 in
theorem zq_X3_copy : z_nth z_ms 37 = some (yX3_copy, cX3_copy, 2, none, 0, 0, 0) := rfl
set_option maxRecDepth 20000 in
theorem zq_X4_init : z_nth z_ms 38 = some (yX4_init, cX4_init, 1, none, 0, 2, 768) := rfl
set_option maxRecDepth 20000 in
theorem zq_X4_plan : z_nth z_ms 39 = some (yX4_plan, cX4_plan, 6, none, 0, 0, 0) := rfl
set_option maxRecDepth 20000 in
theorem zq_X4_choose : z_nth z_ms 40 = some (yX4_choose, cX4_choose, 8, none, 0, 0, 0) := rfl
set_option maxRecDepth 20000 in
theorem zq_X4_behind : z_nth z_ms 41 = some (yX4_behind, cX4_behind, 5, (some .int), 1, 0, 0) := rfl
set_option maxRecDepth 20000 in
theorem zq_X4_mostKept : z_nth z_ms 42 = some (yX4_mostKept, cX4_mostKept, 1, (some .int), 1, 0, 0) := rfl
set_option maxRecDepth 20000 in
theorem zq_X4_rowsOfBest : z_nth z_ms 43 = some (yX4_rowsOfBest, cX4_rowsOfBest, 1, (some .int), 1, 0, 0) := rfl
set_option maxRecDepth 20000 in
theorem zq_X4_place : z_nth z_ms 44 = some (yX4_place, cX4_place, 6, (some .int), 1, 0, 0) := rfl
set_option maxRecDepth 20000 in
theorem zq_X4_firstOfBest : z_nth z_ms 45 = some (yX4_firstOfBest, cX4_firstOfBest, 5, (some .int), 1, 0, 0) := rfl
set_option maxRecDepth 20000 in
theorem zq_X5_init : z_nth z_ms 46 = some (yX5_init, cX5_init, 2, none, 0, 0, 0) := rfl
set_option maxRecDepth 20000 in
theorem zq_X5_read : z_nth z_ms 47 = some (yX5_read, cX5_read, 3, none, 0, 0, 0) := rfl
set_option maxRecDepth 20000 in
theorem zq_X5_line : z_nth z_ms 48 = some (yX5_line, cX5_line, 2, none, 0, 0, 0) := rfl
set_option maxRecDepth 20000 in
theorem zq_X5_dukedomLine : z_nth z_ms 49 = some (yX5_dukedomLine, cX5_dukedomLine, 2, none, 0, 0, 0) := rfl
set_option maxRecDepth 20000 in
theorem zq_X5_rankLine : z_nth z_ms 50 = some (yX5_rankLine, cX5_rankLine, 2, none, 0, 0, 0) := rfl
set_option maxRecDepth 20000 in
theorem zq_X5_plankLine : z_nth z_ms 51 = some (yX5_plankLine, cX5_plankLine, 2, none, 0, 0, 0) := rfl
set_option maxRecDepth 20000 in
theorem zq_X5_rainLine : z_nth z_ms 52 = some (yX5_rainLine, cX5_rainLine, 3, none, 0, 0, 0) := rfl
set_option maxRecDepth 20000 in
theorem zq_X5_frostLine : z_nth z_ms 53 = some (yX5_frostLine, cX5_frostLine, 2, none, 0, 0, 0) := rfl
set_option maxRecDepth 20000 in
theorem zq_X5_inviteLine : z_nth z_ms 54 = some (yX5_inviteLine, cX5_inviteLine, 5, none, 0, 0, 0) := rfl
set_option maxRecDepth 20000 in
theorem zq_X5_fail : z_nth z_ms 55 = some (yX5_fail, cX5_fail, 2, none, 0, 0, 0) := rfl
set_option maxRecDepth 20000 in
theorem zq_X5_word : z_nth z_ms 56 = some (yX5_word, cX5_word, 2, none, 0, 0, 0) := rfl
set_option maxRecDepth 20000 in
theorem zq_X5_sign : z_nth z_ms 57 = some (yX5_sign, cX5_sign, 1, none, 0, 0, 0) := rfl
set_option maxRecDepth 20000 in
theorem zq_X5_number : z_nth z_ms 58 = some (yX5_number, cX5_number, 4, (some .int), 1, 0, 0) := rfl
set_option maxRecDepth 20000 in
theorem zq_X5_isWord : z_nth z_ms 59 = some (yX5_isWord, cX5_isWord, 3, (some .boolean), 1, 0, 0) := rfl
set_option maxRecDepth 20000 in
theorem zq_X5_step : z_nth z_ms 60 = some (yX5_step, cX5_step, 2, none, 0, 0, 0) := rfl
set_option maxRecDepth 20000 in
theorem zq_X5_isLong : z_nth z_ms 61 = some (yX5_isLong, cX5_isLong, 1, (some .boolean), 1, 0, 0) := rfl
set_option maxRecDepth 20000 in
theorem zq_X5_kindOf : z_nth z_ms 62 = some (yX5_kindOf, cX5_kindOf, 1, (some .int), 1, 0, 0) := rfl
set_option maxRecDepth 20000 in
theorem zq_X6_init : z_nth z_ms 63 = some (yX6_init, cX6_init, 1, none, 0, 15, 172) := rfl
set_option maxRecDepth 20000 in
theorem zq_X6_clear : z_nth z_ms 64 = some (yX6_clear, cX6_clear, 1, none, 0, 0, 0) := rfl
set_option maxRecDepth 20000 in
theorem zq_X6_copy : z_nth z_ms 65 = some (yX6_copy, cX6_copy, 2, none, 0, 0, 0) := rfl
set_option maxRecDepth 20000 in
theorem zq_X6_isTold : z_nth z_ms 66 = some (yX6_isTold, cX6_isTold, 1, (some .boolean), 1, 0, 0) := rfl
set_option maxRecDepth 20000 in
theorem zq_X6_hasRank : z_nth z_ms 67 = some (yX6_hasRank, cX6_hasRank, 2, (some .boolean), 1, 0, 0) := rfl
set_option maxRecDepth 20000 in
theorem zq_X6_hasYear : z_nth z_ms 68 = some (yX6_hasYear, cX6_hasYear, 2, (some .boolean), 1, 0, 0) := rfl
set_option maxRecDepth 20000 in
theorem zq_X6_hasBoth : z_nth z_ms 69 = some (yX6_hasBoth, cX6_hasBoth, 3, (some .boolean), 1, 0, 0) := rfl
set_option maxRecDepth 20000 in
theorem zq_X6_hasTwo : z_nth z_ms 70 = some (yX6_hasTwo, cX6_hasTwo, 3, (some .boolean), 1, 0, 0) := rfl
set_option maxRecDepth 20000 in
theorem zq_X6_hasPlank : z_nth z_ms 71 = some (yX6_hasPlank, cX6_hasPlank, 2, (some .boolean), 1, 0, 0) := rfl
set_option maxRecDepth 20000 in
theorem zq_X6_everyRank : z_nth z_ms 72 = some (yX6_everyRank, cX6_everyRank, 1, (some .int), 1, 0, 0) := rfl
set_option maxRecDepth 20000 in
theorem zq_X6_opened : z_nth z_ms 73 = some (yX6_opened, cX6_opened, 3, (some .int), 1, 0, 0) := rfl
set_option maxRecDepth 20000 in
theorem zq_X6_openedByTold : z_nth z_ms 74 = some (yX6_openedByTold, cX6_openedByTold, 4, (some .int), 1, 0, 0) := rfl
set_option maxRecDepth 20000 in
theorem zq_X6_openedByActs : z_nth z_ms 75 = some (yX6_openedByActs, cX6_openedByActs, 3, (some .int), 1, 0, 0) := rfl
set_option maxRecDepth 20000 in
theorem zq_X7_init : z_nth z_ms 76 = some (yX7_init, cX7_init, 1, none, 0, 1, 60) := rfl
set_option maxRecDepth 20000 in
theorem zq_X7_make : z_nth z_ms 77 = some (yX7_make, cX7_make, 3, none, 0, 0, 0) := rfl
set_option maxRecDepth 20000 in
theorem zq_X7_isThere : z_nth z_ms 78 = some (yX7_isThere, cX7_isThere, 1, (some .boolean), 1, 0, 0) := rfl
set_option maxRecDepth 20000 in
theorem zq_X7_hasRange : z_nth z_ms 79 = some (yX7_hasRange, cX7_hasRange, 3, (some .boolean), 1, 0, 0) := rfl
set_option maxRecDepth 20000 in
theorem zq_X7_tellsOf : z_nth z_ms 80 = some (yX7_tellsOf, cX7_tellsOf, 4, (some .boolean), 1, 0, 0) := rfl
set_option maxRecDepth 20000 in
theorem zq_X7_isBelow : z_nth z_ms 81 = some (yX7_isBelow, cX7_isBelow, 3, (some .boolean), 1, 0, 0) := rfl
set_option maxRecDepth 20000 in
theorem zq_X7_isSeenIn : z_nth z_ms 82 = some (yX7_isSeenIn, cX7_isSeenIn, 4, (some .boolean), 1, 0, 0) := rfl
set_option maxRecDepth 20000 in
theorem zq_X8_init : z_nth z_ms 83 = some (yX8_init, cX8_init, 1, none, 0, 1, 900) := rfl
set_option maxRecDepth 20000 in
theorem zq_X8_put : z_nth z_ms 84 = some (yX8_put, cX8_put, 3, none, 0, 0, 0) := rfl
set_option maxRecDepth 20000 in
theorem zq_X8_at : z_nth z_ms 85 = some (yX8_at, cX8_at, 2, (some .int), 1, 0, 0) := rfl
set_option maxRecDepth 20000 in
theorem zq_X9_init : z_nth z_ms 86 = some (yX9_init, cX9_init, 2, none, 0, 116, 5197) := rfl
set_option maxRecDepth 20000 in
theorem zq_X9_feed : z_nth z_ms 87 = some (yX9_feed, cX9_feed, 6, (some .int), 1, 0, 0) := rfl
set_option maxRecDepth 20000 in
theorem zq_X9_end : z_nth z_ms 88 = some (yX9_end, cX9_end, 2, (some .int), 1, 0, 0) := rfl
set_option maxRecDepth 20000 in
theorem zq_X9_dukedom : z_nth z_ms 89 = some (yX9_dukedom, cX9_dukedom, 2, (some .int), 1, 0, 0) := rfl
set_option maxRecDepth 20000 in
theorem zq_X9_fault : z_nth z_ms 90 = some (yX9_fault, cX9_fault, 2, (some .int), 1, 0, 0) := rfl
set_option maxRecDepth 20000 in
theorem zq_X9_rank : z_nth z_ms 91 = some (yX9_rank, cX9_rank, 3, (some .int), 1, 0, 0) := rfl
set_option maxRecDepth 20000 in
theorem zq_X9_plank : z_nth z_ms 92 = some (yX9_plank, cX9_plank, 3, (some .int), 1, 0, 0) := rfl
set_option maxRecDepth 20000 in
theorem zq_X9_invite : z_nth z_ms 93 = some (yX9_invite, cX9_invite, 4, (some .int), 1, 0, 0) := rfl
set_option maxRecDepth 20000 in
theorem zq_X9_rain : z_nth z_ms 94 = some (yX9_rain, cX9_rain, 2, (some .int), 1, 0, 0) := rfl
set_option maxRecDepth 20000 in
theorem zq_X9_frosts : z_nth z_ms 95 = some (yX9_frosts, cX9_frosts, 1, (some .int), 1, 0, 0) := rfl
set_option maxRecDepth 20000 in
theorem zq_X9_water : z_nth z_ms 96 = some (yX9_water, cX9_water, 3, (some .int), 1, 0, 0) := rfl
set_option maxRecDepth 20000 in
theorem zq_X9_spills : z_nth z_ms 97 = some (yX9_spills, cX9_spills, 3, (some .int), 1, 0, 0) := rfl
set_option maxRecDepth 20000 in
theorem zq_X9_lost : z_nth z_ms 98 = some (yX9_lost, cX9_lost, 2, (some .int), 1, 0, 0) := rfl
set_option maxRecDepth 20000 in
theorem zq_X9_drained : z_nth z_ms 99 = some (yX9_drained, cX9_drained, 3, (some .int), 1, 0, 0) := rfl
set_option maxRecDepth 20000 in
theorem zq_X9_all : z_nth z_ms 100 = some (yX9_all, cX9_all, 4, (some .int), 1, 0, 0) := rfl
set_option maxRecDepth 20000 in
theorem zq_X9_dry : z_nth z_ms 101 = some (yX9_dry, cX9_dry, 4, (some .int), 1, 0, 0) := rfl
set_option maxRecDepth 20000 in
theorem zq_X9_deepest : z_nth z_ms 102 = some (yX9_deepest, cX9_deepest, 6, (some .int), 1, 0, 0) := rfl
set_option maxRecDepth 20000 in
theorem zq_X9_most : z_nth z_ms 103 = some (yX9_most, cX9_most, 4, (some .int), 1, 0, 0) := rfl
set_option maxRecDepth 20000 in
theorem zq_X9_dries : z_nth z_ms 104 = some (yX9_dries, cX9_dries, 3, (some .int), 1, 0, 0) := rfl
set_option maxRecDepth 20000 in
theorem zq_X9_wet : z_nth z_ms 105 = some (yX9_wet, cX9_wet, 4, (some .int), 1, 0, 0) := rfl
set_option maxRecDepth 20000 in
theorem zq_X9_flood : z_nth z_ms 106 = some (yX9_flood, cX9_flood, 4, (some .int), 1, 0, 0) := rfl
set_option maxRecDepth 20000 in
theorem zq_X9_rains : z_nth z_ms 107 = some (yX9_rains, cX9_rains, 3, (some .int), 1, 0, 0) := rfl
set_option maxRecDepth 20000 in
theorem zq_X9_lone : z_nth z_ms 108 = some (yX9_lone, cX9_lone, 4, (some .int), 1, 0, 0) := rfl
set_option maxRecDepth 20000 in
theorem zq_X9_over : z_nth z_ms 109 = some (yX9_over, cX9_over, 4, (some .int), 1, 0, 0) := rfl
set_option maxRecDepth 20000 in
theorem zq_X9_comes : z_nth z_ms 110 = some (yX9_comes, cX9_comes, 3, (some .int), 1, 0, 0) := rfl
set_option maxRecDepth 20000 in
theorem zq_X9_guests : z_nth z_ms 111 = some (yX9_guests, cX9_guests, 5, (some .int), 1, 0, 0) := rfl
set_option maxRecDepth 20000 in
theorem zq_X9_first : z_nth z_ms 112 = some (yX9_first, cX9_first, 4, (some .int), 1, 0, 0) := rfl
set_option maxRecDepth 20000 in
theorem zq_X9_often : z_nth z_ms 113 = some (yX9_often, cX9_often, 5, (some .int), 1, 0, 0) := rfl
set_option maxRecDepth 20000 in
theorem zq_X9_news : z_nth z_ms 114 = some (yX9_news, cX9_news, 6, (some .int), 1, 0, 0) := rfl
set_option maxRecDepth 20000 in
theorem zq_X9_friends : z_nth z_ms 115 = some (yX9_friends, cX9_friends, 2, (some .int), 1, 0, 0) := rfl
set_option maxRecDepth 20000 in
theorem zq_X9_fair : z_nth z_ms 116 = some (yX9_fair, cX9_fair, 5, (some .int), 1, 0, 0) := rfl
set_option maxRecDepth 20000 in
theorem zq_X9_fords : z_nth z_ms 117 = some (yX9_fords, cX9_fords, 5, (some .int), 1, 0, 0) := rfl
set_option maxRecDepth 20000 in
theorem zq_X9_shut : z_nth z_ms 118 = some (yX9_shut, cX9_shut, 4, (some .int), 1, 0, 0) := rfl
set_option maxRecDepth 20000 in
theorem zq_X9_widest : z_nth z_ms 119 = some (yX9_widest, cX9_widest, 4, (some .int), 1, 0, 0) := rfl
set_option maxRecDepth 20000 in
theorem zq_X9_kept : z_nth z_ms 120 = some (yX9_kept, cX9_kept, 2, (some .int), 1, 0, 0) := rfl
set_option maxRecDepth 20000 in
theorem zq_X9_keeps : z_nth z_ms 121 = some (yX9_keeps, cX9_keeps, 1, (some .int), 1, 0, 0) := rfl
set_option maxRecDepth 20000 in
theorem zq_X9_hinders : z_nth z_ms 122 = some (yX9_hinders, cX9_hinders, 2, (some .int), 1, 0, 0) := rfl
set_option maxRecDepth 20000 in
theorem zq_X9_hosts : z_nth z_ms 123 = some (yX9_hosts, cX9_hosts, 2, (some .int), 1, 0, 0) := rfl
set_option maxRecDepth 20000 in
theorem zq_X9_goes : z_nth z_ms 124 = some (yX9_goes, cX9_goes, 2, (some .int), 1, 0, 0) := rfl
set_option maxRecDepth 20000 in
theorem zq_X9_host : z_nth z_ms 125 = some (yX9_host, cX9_host, 6, (some .int), 1, 0, 0) := rfl
set_option maxRecDepth 20000 in
theorem zq_X9_idle : z_nth z_ms 126 = some (yX9_idle, cX9_idle, 5, (some .int), 1, 0, 0) := rfl
set_option maxRecDepth 20000 in
theorem zq_X9_best : z_nth z_ms 127 = some (yX9_best, cX9_best, 1, (some .int), 1, 0, 0) := rfl
set_option maxRecDepth 20000 in
theorem zq_X9_lay : z_nth z_ms 128 = some (yX9_lay, cX9_lay, 2, (some .int), 1, 0, 0) := rfl
set_option maxRecDepth 20000 in
theorem zq_X9_ways : z_nth z_ms 129 = some (yX9_ways, cX9_ways, 1, (some .int), 1, 0, 0) := rfl
set_option maxRecDepth 20000 in
theorem zq_X9_fills : z_nth z_ms 130 = some (yX9_fills, cX9_fills, 1, (some .int), 1, 0, 0) := rfl
set_option maxRecDepth 20000 in
theorem zq_X9_filled : z_nth z_ms 131 = some (yX9_filled, cX9_filled, 1, (some .int), 1, 0, 0) := rfl
set_option maxRecDepth 20000 in
theorem zq_X9_path : z_nth z_ms 132 = some (yX9_path, cX9_path, 5, (some .int), 1, 0, 0) := rfl
set_option maxRecDepth 20000 in
theorem zq_X9_drain : z_nth z_ms 133 = some (yX9_drain, cX9_drain, 6, (some .int), 1, 0, 0) := rfl
set_option maxRecDepth 20000 in
theorem zq_X9_learns : z_nth z_ms 134 = some (yX9_learns, cX9_learns, 4, (some .int), 1, 0, 0) := rfl
set_option maxRecDepth 20000 in
theorem zq_X9_by : z_nth z_ms 135 = some (yX9_by, cX9_by, 2, (some .int), 1, 0, 0) := rfl
set_option maxRecDepth 20000 in
theorem zq_X9_law : z_nth z_ms 136 = some (yX9_law, cX9_law, 5, (some .int), 1, 0, 0) := rfl
set_option maxRecDepth 20000 in
theorem zq_X9_waters : z_nth z_ms 137 = some (yX9_waters, cX9_waters, 4, (some .int), 1, 0, 0) := rfl
set_option maxRecDepth 20000 in
theorem zq_X9_least : z_nth z_ms 138 = some (yX9_least, cX9_least, 4, (some .int), 1, 0, 0) := rfl
set_option maxRecDepth 20000 in
theorem zq_X9_greatest : z_nth z_ms 139 = some (yX9_greatest, cX9_greatest, 4, (some .int), 1, 0, 0) := rfl
set_option maxRecDepth 20000 in
theorem zq_X9_ask : z_nth z_ms 140 = some (yX9_ask, cX9_ask, 4, (some .int), 1, 0, 0) := rfl
set_option maxRecDepth 20000 in
theorem zq_X9_leaves : z_nth z_ms 141 = some (yX9_leaves, cX9_leaves, 5, (some .int), 1, 0, 0) := rfl
set_option maxRecDepth 20000 in
theorem zq_X9_laws : z_nth z_ms 142 = some (yX9_laws, cX9_laws, 5, (some .int), 1, 0, 0) := rfl
set_option maxRecDepth 20000 in
theorem zq_X9_worth : z_nth z_ms 143 = some (yX9_worth, cX9_worth, 2, (some .int), 1, 0, 0) := rfl
set_option maxRecDepth 20000 in
theorem zq_X9_share : z_nth z_ms 144 = some (yX9_share, cX9_share, 6, (some .int), 1, 0, 0) := rfl
set_option maxRecDepth 20000 in
theorem zq_X9_rests : z_nth z_ms 145 = some (yX9_rests, cX9_rests, 9, (some .int), 1, 0, 0) := rfl
set_option maxRecDepth 20000 in
theorem zq_X9_gets : z_nth z_ms 146 = some (yX9_gets, cX9_gets, 5, (some .int), 1, 0, 0) := rfl
set_option maxRecDepth 20000 in
theorem zq_X9_chance : z_nth z_ms 147 = some (yX9_chance, cX9_chance, 8, (some .long), 2, 0, 0) := rfl
set_option maxRecDepth 20000 in
theorem zq_X9_mean : z_nth z_ms 148 = some (yX9_mean, cX9_mean, 7, (some .long), 2, 0, 0) := rfl
set_option maxRecDepth 20000 in
theorem zq_X9_adds : z_nth z_ms 149 = some (yX9_adds, cX9_adds, 5, (some .int), 1, 0, 0) := rfl
set_option maxRecDepth 20000 in
theorem zq_X9_dredge : z_nth z_ms 150 = some (yX9_dredge, cX9_dredge, 3, (some .int), 1, 0, 0) := rfl
set_option maxRecDepth 20000 in
theorem zq_X9_undo : z_nth z_ms 151 = some (yX9_undo, cX9_undo, 1, (some .int), 1, 0, 0) := rfl
set_option maxRecDepth 20000 in
theorem zq_X9_anew : z_nth z_ms 152 = some (yX9_anew, cX9_anew, 2, (some .int), 1, 0, 0) := rfl
set_option maxRecDepth 20000 in
theorem zq_X9_drawn : z_nth z_ms 153 = some (yX9_drawn, cX9_drawn, 4, (some .int), 1, 0, 0) := rfl
set_option maxRecDepth 20000 in
theorem zq_X9_luck : z_nth z_ms 154 = some (yX9_luck, cX9_luck, 6, (some .int), 1, 0, 0) := rfl
set_option maxRecDepth 20000 in
theorem zq_X9_digs : z_nth z_ms 155 = some (yX9_digs, cX9_digs, 4, (some .int), 1, 0, 0) := rfl
set_option maxRecDepth 20000 in
theorem zq_X9_count : z_nth z_ms 156 = some (yX9_count, cX9_count, 2, (some .int), 1, 0, 0) := rfl
set_option maxRecDepth 20000 in
theorem zq_X9_image : z_nth z_ms 157 = some (yX9_image, cX9_image, 2, (some .int), 1, 0, 0) := rfl
set_option maxRecDepth 20000 in
theorem zq_X9_back : z_nth z_ms 158 = some (yX9_back, cX9_back, 2, (some .int), 1, 0, 0) := rfl
set_option maxRecDepth 20000 in
theorem zq_X9_row : z_nth z_ms 159 = some (yX9_row, cX9_row, 4, (some .int), 1, 0, 0) := rfl
set_option maxRecDepth 20000 in
theorem zq_X9_write : z_nth z_ms 160 = some (yX9_write, cX9_write, 6, (some .int), 1, 0, 0) := rfl
set_option maxRecDepth 20000 in
theorem zq_X9_paste : z_nth z_ms 161 = some (yX9_paste, cX9_paste, 8, (some .int), 1, 0, 0) := rfl
set_option maxRecDepth 20000 in
theorem zq_X9_settle : z_nth z_ms 162 = some (yX9_settle, cX9_settle, 1, none, 0, 0, 0) := rfl
set_option maxRecDepth 20000 in
theorem zq_X9_cell : z_nth z_ms 163 = some (yX9_cell, cX9_cell, 2, (some .int), 1, 0, 0) := rfl
set_option maxRecDepth 20000 in
theorem zq_X9_isEither : z_nth z_ms 164 = some (yX9_isEither, cX9_isEither, 1, (some .boolean), 1, 0, 0) := rfl
set_option maxRecDepth 20000 in
theorem zq_X9_isSlot : z_nth z_ms 165 = some (yX9_isSlot, cX9_isSlot, 1, (some .boolean), 1, 0, 0) := rfl
set_option maxRecDepth 20000 in
theorem zq_X9_isSeed : z_nth z_ms 166 = some (yX9_isSeed, cX9_isSeed, 1, (some .boolean), 1, 0, 0) := rfl
set_option maxRecDepth 20000 in
theorem zq_X9_isChanceYear : z_nth z_ms 167 = some (yX9_isChanceYear, cX9_isChanceYear, 2, (some .boolean), 1, 0, 0) := rfl
set_option maxRecDepth 20000 in
theorem zq_X9_rowsThere : z_nth z_ms 168 = some (yX9_rowsThere, cX9_rowsThere, 3, (some .int), 1, 0, 0) := rfl
set_option maxRecDepth 20000 in
theorem zq_X9_cutToWidth : z_nth z_ms 169 = some (yX9_cutToWidth, cX9_cutToWidth, 3, (some .long), 2, 0, 0) := rfl
set_option maxRecDepth 20000 in
theorem zq_X9_keptByLaw : z_nth z_ms 170 = some (yX9_keptByLaw, cX9_keptByLaw, 2, (some .int), 1, 0, 0) := rfl
set_option maxRecDepth 20000 in
theorem zq_X9_keptInFrosts : z_nth z_ms 171 = some (yX9_keptInFrosts, cX9_keptInFrosts, 2, (some .int), 1, 0, 0) := rfl
set_option maxRecDepth 20000 in
theorem zq_X9_drawFrosts : z_nth z_ms 172 = some (yX9_drawFrosts, cX9_drawFrosts, 6, (some .int), 1, 0, 0) := rfl
set_option maxRecDepth 20000 in
theorem zq_X9_gain : z_nth z_ms 173 = some (yX9_gain, cX9_gain, 7, (some .int), 1, 0, 0) := rfl
set_option maxRecDepth 20000 in
theorem zq_X9_weight : z_nth z_ms 174 = some (yX9_weight, cX9_weight, 6, (some .long), 2, 0, 0) := rfl
set_option maxRecDepth 20000 in
theorem zq_X9_allWeights : z_nth z_ms 175 = some (yX9_allWeights, cX9_allWeights, 4, (some .long), 2, 0, 0) := rfl
set_option maxRecDepth 20000 in
theorem zq_X9_inLowestTerms : z_nth z_ms 176 = some (yX9_inLowestTerms, cX9_inLowestTerms, 12, (some .long), 2, 0, 0) := rfl
set_option maxRecDepth 20000 in
theorem zq_X9_whyNotSeen : z_nth z_ms 177 = some (yX9_whyNotSeen, cX9_whyNotSeen, 3, (some .int), 1, 0, 0) := rfl
set_option maxRecDepth 20000 in
theorem zq_X9_guessTold : z_nth z_ms 178 = some (yX9_guessTold, cX9_guessTold, 5, (some .int), 1, 0, 0) := rfl
set_option maxRecDepth 20000 in
theorem zq_X10_init : z_nth z_ms 179 = some (yX10_init, cX10_init, 1, none, 0, 26, 3916) := rfl
set_option maxRecDepth 20000 in
theorem zq_X10_in : z_nth z_ms 180 = some (yX10_in, cX10_in, 6, (some .boolean), 1, 0, 0) := rfl
set_option maxRecDepth 20000 in
theorem zq_X10_bits : z_nth z_ms 181 = some (yX10_bits, cX10_bits, 3, (some .int), 1, 0, 0) := rfl
set_option maxRecDepth 20000 in
theorem zq_X10_bit : z_nth z_ms 182 = some (yX10_bit, cX10_bit, 2, (some .int), 1, 0, 0) := rfl
set_option maxRecDepth 20000 in
theorem zq_X10_image : z_nth z_ms 183 = some (yX10_image, cX10_image, 3, (some .int), 1, 0, 0) := rfl
set_option maxRecDepth 20000 in
theorem zq_X10_back : z_nth z_ms 184 = some (yX10_back, cX10_back, 3, (some .int), 1, 0, 0) := rfl
set_option maxRecDepth 20000 in
theorem zq_X10_isDukedom : z_nth z_ms 185 = some (yX10_isDukedom, cX10_isDukedom, 1, (some .boolean), 1, 0, 0) := rfl
set_option maxRecDepth 20000 in
theorem zq_X10_isYear : z_nth z_ms 186 = some (yX10_isYear, cX10_isYear, 3, (some .boolean), 1, 0, 0) := rfl
set_option maxRecDepth 20000 in
theorem zq_X10_isRank : z_nth z_ms 187 = some (yX10_isRank, cX10_isRank, 3, (some .boolean), 1, 0, 0) := rfl
set_option maxRecDepth 20000 in
theorem zq_X10_isInvite : z_nth z_ms 188 = some (yX10_isInvite, cX10_isInvite, 2, (some .boolean), 1, 0, 0) := rfl
set_option maxRecDepth 20000 in
theorem zq_X10_years : z_nth z_ms 189 = some (yX10_years, cX10_years, 1, (some .int), 1, 0, 0) := rfl
set_option maxRecDepth 20000 in
theorem zq_X10_ranks : z_nth z_ms 190 = some (yX10_ranks, cX10_ranks, 1, (some .int), 1, 0, 0) := rfl
set_option maxRecDepth 20000 in
theorem zq_X10_of : z_nth z_ms 191 = some (yX10_of, cX10_of, 3, (some .int), 1, 0, 0) := rfl
set_option maxRecDepth 20000 in
theorem zq_X10_inviteOf : z_nth z_ms 192 = some (yX10_inviteOf, cX10_inviteOf, 3, (some .int), 1, 0, 0) := rfl
set_option maxRecDepth 20000 in
theorem zq_X10_feed : z_nth z_ms 193 = some (yX10_feed, cX10_feed, 7, (some .int), 1, 0, 0) := rfl
set_option maxRecDepth 20000 in
theorem zq_X10_end : z_nth z_ms 194 = some (yX10_end, cX10_end, 2, (some .int), 1, 0, 0) := rfl
set_option maxRecDepth 20000 in
theorem zq_X10_see : z_nth z_ms 195 = some (yX10_see, cX10_see, 2, (some .int), 1, 0, 0) := rfl
set_option maxRecDepth 20000 in
theorem zq_X10_advance : z_nth z_ms 196 = some (yX10_advance, cX10_advance, 2, none, 0, 0, 0) := rfl
set_option maxRecDepth 20000 in
theorem zq_X10_good : z_nth z_ms 197 = some (yX10_good, cX10_good, 1, (some .boolean), 1, 0, 0) := rfl
set_option maxRecDepth 20000 in
theorem zq_X10_errs : z_nth z_ms 198 = some (yX10_errs, cX10_errs, 2, none, 0, 0, 0) := rfl
set_option maxRecDepth 20000 in
theorem zq_X10_is : z_nth z_ms 199 = some (yX10_is, cX10_is, 4, (some .boolean), 1, 0, 0) := rfl
set_option maxRecDepth 20000 in
theorem zq_X10_takes : z_nth z_ms 200 = some (yX10_takes, cX10_takes, 3, (some .boolean), 1, 0, 0) := rfl
set_option maxRecDepth 20000 in
theorem zq_X10_needs : z_nth z_ms 201 = some (yX10_needs, cX10_needs, 2, none, 0, 0, 0) := rfl
set_option maxRecDepth 20000 in
theorem zq_X10_number : z_nth z_ms 202 = some (yX10_number, cX10_number, 4, (some .int), 1, 0, 0) := rfl
set_option maxRecDepth 20000 in
theorem zq_X10_told : z_nth z_ms 203 = some (yX10_told, cX10_told, 4, (some .int), 1, 0, 0) := rfl
set_option maxRecDepth 20000 in
theorem zq_X10_fault : z_nth z_ms 204 = some (yX10_fault, cX10_fault, 2, (some .int), 1, 0, 0) := rfl
set_option maxRecDepth 20000 in
theorem zq_X10_readFirst : z_nth z_ms 205 = some (yX10_readFirst, cX10_readFirst, 1, none, 0, 0, 0) := rfl
set_option maxRecDepth 20000 in
theorem zq_X10_readRank : z_nth z_ms 206 = some (yX10_readRank, cX10_readRank, 2, none, 0, 0, 0) := rfl
set_option maxRecDepth 20000 in
theorem zq_X10_readInvite : z_nth z_ms 207 = some (yX10_readInvite, cX10_readInvite, 2, none, 0, 0, 0) := rfl
set_option maxRecDepth 20000 in
theorem zq_X10_isFull : z_nth z_ms 208 = some (yX10_isFull, cX10_isFull, 1, (some .boolean), 1, 0, 0) := rfl
set_option maxRecDepth 20000 in
theorem zq_X10_readNext : z_nth z_ms 209 = some (yX10_readNext, cX10_readNext, 3, none, 0, 0, 0) := rfl
set_option maxRecDepth 20000 in
theorem zq_X10_readLine : z_nth z_ms 210 = some (yX10_readLine, cX10_readLine, 1, none, 0, 0, 0) := rfl
set_option maxRecDepth 20000 in
theorem zq_X10_dukedom : z_nth z_ms 211 = some (yX10_dukedom, cX10_dukedom, 2, (some .int), 1, 0, 0) := rfl
set_option maxRecDepth 20000 in
theorem zq_X10_rank : z_nth z_ms 212 = some (yX10_rank, cX10_rank, 3, (some .int), 1, 0, 0) := rfl
set_option maxRecDepth 20000 in
theorem zq_X10_plank : z_nth z_ms 213 = some (yX10_plank, cX10_plank, 3, (some .int), 1, 0, 0) := rfl
set_option maxRecDepth 20000 in
theorem zq_X10_invite : z_nth z_ms 214 = some (yX10_invite, cX10_invite, 3, (some .int), 1, 0, 0) := rfl
set_option maxRecDepth 20000 in
theorem zq_X10_asItIs : z_nth z_ms 215 = some (yX10_asItIs, cX10_asItIs, 3, none, 0, 0, 0) := rfl
set_option maxRecDepth 20000 in
theorem zq_X10_waterIn : z_nth z_ms 216 = some (yX10_waterIn, cX10_waterIn, 3, (some .int), 1, 0, 0) := rfl
set_option maxRecDepth 20000 in
theorem zq_X10_isFrost : z_nth z_ms 217 = some (yX10_isFrost, cX10_isFrost, 2, (some .boolean), 1, 0, 0) := rfl
set_option maxRecDepth 20000 in
theorem zq_X10_runsOver : z_nth z_ms 218 = some (yX10_runsOver, cX10_runsOver, 6, none, 0, 0, 0) := rfl
set_option maxRecDepth 20000 in
theorem zq_X10_goYear : z_nth z_ms 219 = some (yX10_goYear, cX10_goYear, 5, none, 0, 0, 0) := rfl
set_option maxRecDepth 20000 in
theorem zq_X10_goAll : z_nth z_ms 220 = some (yX10_goAll, cX10_goAll, 2, none, 0, 0, 0) := rfl
set_option maxRecDepth 20000 in
theorem zq_X10_asksDukedom : z_nth z_ms 221 = some (yX10_asksDukedom, cX10_asksDukedom, 1, (some .boolean), 1, 0, 0) := rfl
set_option maxRecDepth 20000 in
theorem zq_X10_asksYear : z_nth z_ms 222 = some (yX10_asksYear, cX10_asksYear, 2, (some .boolean), 1, 0, 0) := rfl
set_option maxRecDepth 20000 in
theorem zq_X10_asksRank : z_nth z_ms 223 = some (yX10_asksRank, cX10_asksRank, 2, (some .boolean), 1, 0, 0) := rfl
set_option maxRecDepth 20000 in
theorem zq_X10_rain : z_nth z_ms 224 = some (yX10_rain, cX10_rain, 2, (some .int), 1, 0, 0) := rfl
set_option maxRecDepth 20000 in
theorem zq_X10_frosts : z_nth z_ms 225 = some (yX10_frosts, cX10_frosts, 1, (some .int), 1, 0, 0) := rfl
set_option maxRecDepth 20000 in
theorem zq_X10_water : z_nth z_ms 226 = some (yX10_water, cX10_water, 3, (some .int), 1, 0, 0) := rfl
set_option maxRecDepth 20000 in
theorem zq_X10_spills : z_nth z_ms 227 = some (yX10_spills, cX10_spills, 3, (some .int), 1, 0, 0) := rfl
set_option maxRecDepth 20000 in
theorem zq_X10_lost : z_nth z_ms 228 = some (yX10_lost, cX10_lost, 2, (some .int), 1, 0, 0) := rfl
set_option maxRecDepth 20000 in
theorem zq_X10_drained : z_nth z_ms 229 = some (yX10_drained, cX10_drained, 3, (some .int), 1, 0, 0) := rfl
set_option maxRecDepth 20000 in
theorem zq_X10_all : z_nth z_ms 230 = some (yX10_all, cX10_all, 4, (some .int), 1, 0, 0) := rfl
set_option maxRecDepth 20000 in
theorem zq_X10_dry : z_nth z_ms 231 = some (yX10_dry, cX10_dry, 4, (some .int), 1, 0, 0) := rfl
set_option maxRecDepth 20000 in
theorem zq_X10_deepest : z_nth z_ms 232 = some (yX10_deepest, cX10_deepest, 4, (some .int), 1, 0, 0) := rfl
set_option maxRecDepth 20000 in
theorem zq_X10_most : z_nth z_ms 233 = some (yX10_most, cX10_most, 4, (some .int), 1, 0, 0) := rfl
set_option maxRecDepth 20000 in
theorem zq_X10_dries : z_nth z_ms 234 = some (yX10_dries, cX10_dries, 3, (some .int), 1, 0, 0) := rfl
set_option maxRecDepth 20000 in
theorem zq_X10_wet : z_nth z_ms 235 = some (yX10_wet, cX10_wet, 4, (some .int), 1, 0, 0) := rfl
set_option maxRecDepth 20000 in
theorem zq_X10_flood : z_nth z_ms 236 = some (yX10_flood, cX10_flood, 3, (some .int), 1, 0, 0) := rfl
set_option maxRecDepth 20000 in
theorem zq_X10_rains : z_nth z_ms 237 = some (yX10_rains, cX10_rains, 3, (some .int), 1, 0, 0) := rfl
set_option maxRecDepth 20000 in
theorem zq_X10_hasPlank : z_nth z_ms 238 = some (yX10_hasPlank, cX10_hasPlank, 4, (some .boolean), 1, 0, 0) := rfl
set_option maxRecDepth 20000 in
theorem zq_X10_doesFord : z_nth z_ms 239 = some (yX10_doesFord, cX10_doesFord, 4, (some .boolean), 1, 0, 0) := rfl
set_option maxRecDepth 20000 in
theorem zq_X10_doesCome : z_nth z_ms 240 = some (yX10_doesCome, cX10_doesCome, 4, (some .boolean), 1, 0, 0) := rfl
set_option maxRecDepth 20000 in
theorem zq_X10_over : z_nth z_ms 241 = some (yX10_over, cX10_over, 4, (some .int), 1, 0, 0) := rfl
set_option maxRecDepth 20000 in
theorem zq_X10_comesOf : z_nth z_ms 242 = some (yX10_comesOf, cX10_comesOf, 5, (some .int), 1, 0, 0) := rfl
set_option maxRecDepth 20000 in
theorem zq_X10_comes : z_nth z_ms 243 = some (yX10_comes, cX10_comes, 3, (some .int), 1, 0, 0) := rfl
set_option maxRecDepth 20000 in
theorem zq_X10_guestsOf : z_nth z_ms 244 = some (yX10_guestsOf, cX10_guestsOf, 5, (some .int), 1, 0, 0) := rfl
set_option maxRecDepth 20000 in
theorem zq_X10_guests : z_nth z_ms 245 = some (yX10_guests, cX10_guests, 3, (some .int), 1, 0, 0) := rfl
set_option maxRecDepth 20000 in
theorem zq_X10_areTwo : z_nth z_ms 246 = some (yX10_areTwo, cX10_areTwo, 3, (some .boolean), 1, 0, 0) := rfl
set_option maxRecDepth 20000 in
theorem zq_X10_first : z_nth z_ms 247 = some (yX10_first, cX10_first, 4, (some .int), 1, 0, 0) := rfl
set_option maxRecDepth 20000 in
theorem zq_X10_often : z_nth z_ms 248 = some (yX10_often, cX10_often, 5, (some .int), 1, 0, 0) := rfl
set_option maxRecDepth 20000 in
theorem zq_X10_newsOf : z_nth z_ms 249 = some (yX10_newsOf, cX10_newsOf, 8, (some .int), 1, 0, 0) := rfl
set_option maxRecDepth 20000 in
theorem zq_X10_orNone : z_nth z_ms 250 = some (yX10_orNone, cX10_orNone, 1, (some .int), 1, 0, 0) := rfl
set_option maxRecDepth 20000 in
theorem zq_X10_news : z_nth z_ms 251 = some (yX10_news, cX10_news, 4, (some .int), 1, 0, 0) := rfl
set_option maxRecDepth 20000 in
theorem zq_X10_widest : z_nth z_ms 252 = some (yX10_widest, cX10_widest, 5, (some .int), 1, 0, 0) := rfl
set_option maxRecDepth 20000 in
theorem zq_X10_friendsOf : z_nth z_ms 253 = some (yX10_friendsOf, cX10_friendsOf, 5, (some .int), 1, 0, 0) := rfl
set_option maxRecDepth 20000 in
theorem zq_X10_friends : z_nth z_ms 254 = some (yX10_friends, cX10_friends, 2, (some .int), 1, 0, 0) := rfl
set_option maxRecDepth 20000 in
theorem zq_X10_fair : z_nth z_ms 255 = some (yX10_fair, cX10_fair, 3, (some .int), 1, 0, 0) := rfl
set_option maxRecDepth 20000 in
theorem zq_X10_fords : z_nth z_ms 256 = some (yX10_fords, cX10_fords, 5, (some .int), 1, 0, 0) := rfl
set_option maxRecDepth 20000 in
theorem zq_X10_shut : z_nth z_ms 257 = some (yX10_shut, cX10_shut, 4, (some .int), 1, 0, 0) := rfl
set_option maxRecDepth 20000 in
theorem zq_X10_lone : z_nth z_ms 258 = some (yX10_lone, cX10_lone, 5, (some .int), 1, 0, 0) := rfl
set_option maxRecDepth 20000 in
theorem zq_X10_isKept : z_nth z_ms 259 = some (yX10_isKept, cX10_isKept, 2, (some .boolean), 1, 0, 0) := rfl
set_option maxRecDepth 20000 in
theorem zq_X10_keptSet : z_nth z_ms 260 = some (yX10_keptSet, cX10_keptSet, 3, (some .int), 1, 0, 0) := rfl
set_option maxRecDepth 20000 in
theorem zq_X10_keptMany : z_nth z_ms 261 = some (yX10_keptMany, cX10_keptMany, 1, (some .int), 1, 0, 0) := rfl
set_option maxRecDepth 20000 in
theorem zq_X10_kept : z_nth z_ms 262 = some (yX10_kept, cX10_kept, 2, (some .int), 1, 0, 0) := rfl
set_option maxRecDepth 20000 in
theorem zq_X10_keeps : z_nth z_ms 263 = some (yX10_keeps, cX10_keeps, 1, (some .int), 1, 0, 0) := rfl
set_option maxRecDepth 20000 in
theorem zq_X10_hinders : z_nth z_ms 264 = some (yX10_hinders, cX10_hinders, 4, (some .int), 1, 0, 0) := rfl
set_option maxRecDepth 20000 in
theorem zq_X10_keptOf : z_nth z_ms 265 = some (yX10_keptOf, cX10_keptOf, 5, (some .int), 1, 0, 0) := rfl
set_option maxRecDepth 20000 in
theorem zq_X10_hosts : z_nth z_ms 266 = some (yX10_hosts, cX10_hosts, 2, (some .int), 1, 0, 0) := rfl
set_option maxRecDepth 20000 in
theorem zq_X10_goes : z_nth z_ms 267 = some (yX10_goes, cX10_goes, 2, (some .int), 1, 0, 0) := rfl
set_option maxRecDepth 20000 in
theorem zq_X10_host : z_nth z_ms 268 = some (yX10_host, cX10_host, 3, (some .int), 1, 0, 0) := rfl
set_option maxRecDepth 20000 in
theorem zq_X10_idle : z_nth z_ms 269 = some (yX10_idle, cX10_idle, 5, (some .int), 1, 0, 0) := rfl
set_option maxRecDepth 20000 in
theorem zq_X10_nextRow : z_nth z_ms 270 = some (yX10_nextRow, cX10_nextRow, 2, (some .boolean), 1, 0, 0) := rfl
set_option maxRecDepth 20000 in
theorem zq_X10_asksRows : z_nth z_ms 271 = some (yX10_asksRows, cX10_asksRows, 4, (some .boolean), 1, 0, 0) := rfl
set_option maxRecDepth 20000 in
theorem zq_X10_best : z_nth z_ms 272 = some (yX10_best, cX10_best, 1, (some .int), 1, 0, 0) := rfl
set_option maxRecDepth 20000 in
theorem zq_X10_ways : z_nth z_ms 273 = some (yX10_ways, cX10_ways, 1, (some .int), 1, 0, 0) := rfl
set_option maxRecDepth 20000 in
theorem zq_X10_lay : z_nth z_ms 274 = some (yX10_lay, cX10_lay, 2, (some .int), 1, 0, 0) := rfl
set_option maxRecDepth 20000 in
theorem zq_X10_timely : z_nth z_ms 275 = some (yX10_timely, cX10_timely, 3, (some .int), 1, 0, 0) := rfl
set_option maxRecDepth 20000 in
theorem zq_X10_fillSet : z_nth z_ms 276 = some (yX10_fillSet, cX10_fillSet, 3, (some .int), 1, 0, 0) := rfl
set_option maxRecDepth 20000 in
theorem zq_X10_fills : z_nth z_ms 277 = some (yX10_fills, cX10_fills, 1, (some .int), 1, 0, 0) := rfl
set_option maxRecDepth 20000 in
theorem zq_X10_filled : z_nth z_ms 278 = some (yX10_filled, cX10_filled, 1, (some .int), 1, 0, 0) := rfl
set_option maxRecDepth 20000 in
theorem zq_X10_path : z_nth z_ms 279 = some (yX10_path, cX10_path, 4, (some .int), 1, 0, 0) := rfl
set_option maxRecDepth 20000 in
theorem zq_X10_drain : z_nth z_ms 280 = some (yX10_drain, cX10_drain, 5, (some .int), 1, 0, 0) := rfl
set_option maxRecDepth 20000 in
theorem zq_X10_learns : z_nth z_ms 281 = some (yX10_learns, cX10_learns, 4, (some .int), 1, 0, 0) := rfl
set_option maxRecDepth 20000 in
theorem zq_X10_keptBy : z_nth z_ms 282 = some (yX10_keptBy, cX10_keptBy, 2, (some .int), 1, 0, 0) := rfl
set_option maxRecDepth 20000 in
theorem zq_X10_by : z_nth z_ms 283 = some (yX10_by, cX10_by, 2, (some .int), 1, 0, 0) := rfl
set_option maxRecDepth 20000 in
theorem zq_X10_law : z_nth z_ms 284 = some (yX10_law, cX10_law, 3, (some .int), 1, 0, 0) := rfl
set_option maxRecDepth 20000 in
theorem zq_X10_numberAt : z_nth z_ms 285 = some (yX10_numberAt, cX10_numberAt, 3, (some .long), 2, 0, 0) := rfl
set_option maxRecDepth 20000 in
theorem zq_X10_askSeen : z_nth z_ms 286 = some (yX10_askSeen, cX10_askSeen, 3, (some .int), 1, 0, 0) := rfl
set_option maxRecDepth 20000 in
theorem zq_X10_isSeen : z_nth z_ms 287 = some (yX10_isSeen, cX10_isSeen, 3, (some .boolean), 1, 0, 0) := rfl
set_option maxRecDepth 20000 in
theorem zq_X10_layWaters : z_nth z_ms 288 = some (yX10_layWaters, cX10_layWaters, 6, (some .int), 1, 0, 0) := rfl
set_option maxRecDepth 20000 in
theorem zq_X10_waters : z_nth z_ms 289 = some (yX10_waters, cX10_waters, 4, (some .int), 1, 0, 0) := rfl
set_option maxRecDepth 20000 in
theorem zq_X10_least : z_nth z_ms 290 = some (yX10_least, cX10_least, 4, (some .int), 1, 0, 0) := rfl
set_option maxRecDepth 20000 in
theorem zq_X10_greatest : z_nth z_ms 291 = some (yX10_greatest, cX10_greatest, 4, (some .int), 1, 0, 0) := rfl
set_option maxRecDepth 20000 in
theorem zq_X10_askOf : z_nth z_ms 292 = some (yX10_askOf, cX10_askOf, 7, (some .int), 1, 0, 0) := rfl
set_option maxRecDepth 20000 in
theorem zq_X10_ask : z_nth z_ms 293 = some (yX10_ask, cX10_ask, 4, (some .int), 1, 0, 0) := rfl
set_option maxRecDepth 20000 in
theorem zq_X10_leaves : z_nth z_ms 294 = some (yX10_leaves, cX10_leaves, 4, (some .int), 1, 0, 0) := rfl
set_option maxRecDepth 20000 in
theorem zq_X10_laws : z_nth z_ms 295 = some (yX10_laws, cX10_laws, 4, (some .int), 1, 0, 0) := rfl
set_option maxRecDepth 20000 in
theorem zq_X10_keptWith : z_nth z_ms 296 = some (yX10_keptWith, cX10_keptWith, 2, (some .int), 1, 0, 0) := rfl
set_option maxRecDepth 20000 in
theorem zq_X10_worth : z_nth z_ms 297 = some (yX10_worth, cX10_worth, 2, (some .int), 1, 0, 0) := rfl
set_option maxRecDepth 20000 in
theorem zq_X10_factorial : z_nth z_ms 298 = some (yX10_factorial, cX10_factorial, 3, (some .int), 1, 0, 0) := rfl
set_option maxRecDepth 20000 in
theorem zq_X10_divisor : z_nth z_ms 299 = some (yX10_divisor, cX10_divisor, 10, (some .long), 2, 0, 0) := rfl
set_option maxRecDepth 20000 in
theorem zq_X10_part : z_nth z_ms 300 = some (yX10_part, cX10_part, 5, (some .long), 2, 0, 0) := rfl
set_option maxRecDepth 20000 in
theorem zq_X10_share : z_nth z_ms 301 = some (yX10_share, cX10_share, 6, (some .int), 1, 0, 0) := rfl
set_option maxRecDepth 20000 in
theorem zq_X10_getsBy : z_nth z_ms 302 = some (yX10_getsBy, cX10_getsBy, 7, (some .int), 1, 0, 0) := rfl
set_option maxRecDepth 20000 in
theorem zq_X10_rests : z_nth z_ms 303 = some (yX10_rests, cX10_rests, 8, (some .int), 1, 0, 0) := rfl
set_option maxRecDepth 20000 in
theorem zq_X10_gets : z_nth z_ms 304 = some (yX10_gets, cX10_gets, 5, (some .int), 1, 0, 0) := rfl
set_option maxRecDepth 20000 in
theorem zq_X10_layFrosts : z_nth z_ms 305 = some (yX10_layFrosts, cX10_layFrosts, 9, none, 0, 0, 0) := rfl
set_option maxRecDepth 20000 in
theorem zq_X10_isFrosts : z_nth z_ms 306 = some (yX10_isFrosts, cX10_isFrosts, 3, (some .boolean), 1, 0, 0) := rfl
set_option maxRecDepth 20000 in
theorem zq_X10_chance : z_nth z_ms 307 = some (yX10_chance, cX10_chance, 5, (some .long), 2, 0, 0) := rfl
set_option maxRecDepth 20000 in
theorem zq_X10_mean : z_nth z_ms 308 = some (yX10_mean, cX10_mean, 4, (some .long), 2, 0, 0) := rfl
set_option maxRecDepth 20000 in
theorem zq_X10_keepAct : z_nth z_ms 309 = some (yX10_keepAct, cX10_keepAct, 2, (some .int), 1, 0, 0) := rfl
set_option maxRecDepth 20000 in
theorem zq_X10_adds : z_nth z_ms 310 = some (yX10_adds, cX10_adds, 5, (some .int), 1, 0, 0) := rfl
set_option maxRecDepth 20000 in
theorem zq_X10_dredge : z_nth z_ms 311 = some (yX10_dredge, cX10_dredge, 3, (some .int), 1, 0, 0) := rfl
set_option maxRecDepth 20000 in
theorem zq_X10_undo : z_nth z_ms 312 = some (yX10_undo, cX10_undo, 1, (some .int), 1, 0, 0) := rfl
set_option maxRecDepth 20000 in
theorem zq_X10_anew : z_nth z_ms 313 = some (yX10_anew, cX10_anew, 2, (some .int), 1, 0, 0) := rfl
set_option maxRecDepth 20000 in
theorem zq_X10_goDrawn : z_nth z_ms 314 = some (yX10_goDrawn, cX10_goDrawn, 6, none, 0, 0, 0) := rfl
set_option maxRecDepth 20000 in
theorem zq_X10_isSeed : z_nth z_ms 315 = some (yX10_isSeed, cX10_isSeed, 1, (some .boolean), 1, 0, 0) := rfl
set_option maxRecDepth 20000 in
theorem zq_X10_drawn : z_nth z_ms 316 = some (yX10_drawn, cX10_drawn, 3, (some .int), 1, 0, 0) := rfl
set_option maxRecDepth 20000 in
theorem zq_X10_luck : z_nth z_ms 317 = some (yX10_luck, cX10_luck, 6, (some .int), 1, 0, 0) := rfl
set_option maxRecDepth 20000 in
theorem zq_X10_digs : z_nth z_ms 318 = some (yX10_digs, cX10_digs, 4, (some .int), 1, 0, 0) := rfl
set_option maxRecDepth 20000 in
theorem zq_X10_count : z_nth z_ms 319 = some (yX10_count, cX10_count, 4, (some .int), 1, 0, 0) := rfl
set_option maxRecDepth 20000 in
theorem zq_X10_isSlot : z_nth z_ms 320 = some (yX10_isSlot, cX10_isSlot, 1, (some .boolean), 1, 0, 0) := rfl
set_option maxRecDepth 20000 in
theorem zq_X10_cut : z_nth z_ms 321 = some (yX10_cut, cX10_cut, 4, (some .long), 2, 0, 0) := rfl
set_option maxRecDepth 20000 in
theorem zq_X10_row : z_nth z_ms 322 = some (yX10_row, cX10_row, 5, (some .int), 1, 0, 0) := rfl
set_option maxRecDepth 20000 in
theorem zq_X10_write : z_nth z_ms 323 = some (yX10_write, cX10_write, 5, (some .int), 1, 0, 0) := rfl
set_option maxRecDepth 20000 in
theorem zq_X10_paste : z_nth z_ms 324 = some (yX10_paste, cX10_paste, 7, (some .int), 1, 0, 0) := rfl
set_option maxRecDepth 20000 in
theorem zq_J6_bitCount_0f7a4 : z_nth z_ms 325 = some (yJ6_bitCount_0f7a4, cJ6_bitCount_0f7a4, 1, (some .int), 1, 0, 0) := rfl
set_option maxRecDepth 20000 in
theorem zq_J9_abs_067f4 : z_nth z_ms 326 = some (yJ9_abs_067f4, cJ9_abs_067f4, 2, (some .long), 2, 0, 0) := rfl
set_option maxRecDepth 20000 in
theorem zq_J9_max_7cf53 : z_nth z_ms 327 = some (yJ9_max_7cf53, cJ9_max_7cf53, 2, (some .int), 1, 0, 0) := rfl
set_option maxRecDepth 20000 in
theorem zq_J9_min_7cf53 : z_nth z_ms 328 = some (yJ9_min_7cf53, cJ9_min_7cf53, 2, (some .int), 1, 0, 0) := rfl
set_option maxRecDepth 20000 in
theorem zq_J0_length_8abf5 : z_nth z_ms 329 = some (yJ0_length_8abf5, cJ0_length_8abf5, 1, (some .int), 1, 0, 0) := rfl
set_option maxRecDepth 20000 in
theorem zq_J0_charAt_5068e : z_nth z_ms 330 = some (yJ0_charAt_5068e, cJ0_charAt_5068e, 2, (some .char), 1, 0, 0) := rfl
set_option maxRecDepth 20000 in
theorem zq_J0_coder_7d493 : z_nth z_ms 331 = some (yJ0_coder_7d493, cJ0_coder_7d493, 1, (some .byte), 1, 0, 0) := rfl
set_option maxRecDepth 20000 in
theorem zq_J0_isLatin1_aae02 : z_nth z_ms 332 = some (yJ0_isLatin1_aae02, cJ0_isLatin1_aae02, 1, (some .boolean), 1, 0, 0) := rfl
set_option maxRecDepth 20000 in
theorem zq_J0_checkIndex_df160 : z_nth z_ms 333 = some (yJ0_checkIndex_df160, cJ0_checkIndex_df160, 2, none, 0, 0, 0) := rfl
set_option maxRecDepth 20000 in
theorem zq_J1_charAt_3b067 : z_nth z_ms 334 = some (yJ1_charAt_3b067, cJ1_charAt_3b067, 2, (some .char), 1, 0, 0) := rfl
set_option maxRecDepth 20000 in
theorem zq_J7_fill_d0a16 : z_nth z_ms 335 = some (yJ7_fill_d0a16, cJ7_fill_d0a16, 5, none, 0, 0, 0) := rfl
set_option maxRecDepth 20000 in
theorem zq_J7_fill_53178 : z_nth z_ms 336 = some (yJ7_fill_53178, cJ7_fill_53178, 4, none, 0, 0, 0) := rfl
set_option maxRecDepth 20000 in
theorem zq_J3_checkIndex_8e157 : z_nth z_ms 337 = some (yJ3_checkIndex_8e157, cJ3_checkIndex_8e157, 3, (some .int), 1, 0, 0) := rfl
def zds_X0 : List AV := [(0, 0, 0, 0, []), (5, 0, 0, 0, []), (5, 0, 0, 0, []), (5, 0, 0, 0, [])]
theorem zd_X0 : ∀ j, j < 4 → defaultValue (tyX0 j) = vp_V (zds_X0.map z_dv) j := fun j hj => match j, hj with
  | 0, _ => rfl
  | 1, _ => rfl
  | 2, _ => rfl
  | 3, _ => rfl
  | j + 4, hj => absurd hj (by omega)
def zds_X1 : List AV := [(5, 0, 0, 0, []), (0, 0, 0, 0, []), (0, 0, 0, 0, []), (0, 0, 0, 0, []), (5, 0, 0, 0, []), (5, 0, 0, 0, []), (5, 0, 0, 0, []), (5, 0, 0, 0, []), (5, 0, 0, 0, []), (5, 0, 0, 0, []), (5, 0, 0, 0, []), (5, 0, 0, 0, [])]
theorem zd_X1 : ∀ j, j < 12 → defaultValue (tyX1 j) = vp_V (zds_X1.map z_dv) j := fun j hj => match j, hj with
  | 0, _ => rfl
  | 1, _ => rfl
  | 2, _ => rfl
  | 3, _ => rfl
  | 4, _ => rfl
  | 5, _ => rfl
  | 6, _ => rfl
  | 7, _ => rfl
  | 8, _ => rfl
  | 9, _ => rfl
  | 10, _ => rfl
  | 11, _ => rfl
  | j + 12, hj => absurd hj (by omega)
def zds_X2 : List AV := [(0, 0, 0, 0, []), (0, 0, 0, 0, []), (0, 0, 0, 0, []), (5, 0, 0, 0, [])]
theorem zd_X2 : ∀ j, j < 4 → defaultValue (tyX2 j) = vp_V (zds_X2.map z_dv) j := fun j hj => match j, hj with
  | 0, _ => rfl
  | 1, _ => rfl
  | 2, _ => rfl
  | 3, _ => rfl
  | j + 4, hj => absurd hj (by omega)
def zds_X3 : List AV := [(0, 0, 0, 0, []), (5, 0, 0, 0, []), (5, 0, 0, 0, []), (5, 0, 0, 0, [])]
theorem zd_X3 : ∀ j, j < 4 → defaultValue (tyX3 j) = vp_V (zds_X3.map z_dv) j := fun j hj => match j, hj with
  | 0, _ => rfl
  | 1, _ => rfl
  | 2, _ => rfl
  | 3, _ => rfl
  | j + 4, hj => absurd hj (by omega)
def zds_X4 : List AV := [(5, 0, 0, 0, []), (5, 0, 0, 0, []), (0, 0, 0, 0, [])]
theorem zd_X4 : ∀ j, j < 3 → defaultValue (tyX4 j) = vp_V (zds_X4.map z_dv) j := fun j hj => match j, hj with
  | 0, _ => rfl
  | 1, _ => rfl
  | 2, _ => rfl
  | j + 3, hj => absurd hj (by omega)
def zds_X5 : List AV := [(5, 0, 0, 0, []), (0, 0, 0, 0, []), (0, 0, 0, 0, []), (0, 0, 0, 0, []), (0, 0, 0, 0, []), (0, 0, 0, 0, []), (0, 0, 0, 0, [])]
theorem zd_X5 : ∀ j, j < 7 → defaultValue (tyX5 j) = vp_V (zds_X5.map z_dv) j := fun j hj => match j, hj with
  | 0, _ => rfl
  | 1, _ => rfl
  | 2, _ => rfl
  | 3, _ => rfl
  | 4, _ => rfl
  | 5, _ => rfl
  | 6, _ => rfl
  | j + 7, hj => absurd hj (by omega)
def zds_X6 : List AV := [(0, 0, 0, 0, []), (0, 0, 0, 0, []), (0, 0, 0, 0, []), (0, 0, 0, 0, []), (0, 0, 0, 0, []), (5, 0, 0, 0, []), (5, 0, 0, 0, []), (5, 0, 0, 0, []), (5, 0, 0, 0, []), (0, 0, 0, 0, []), (5, 0, 0, 0, []), (5, 0, 0, 0, []), (0, 0, 0, 0, []), (5, 0, 0, 0, []), (0, 0, 0, 0, []), (0, 0, 0, 0, []), (5, 0, 0, 0, []), (5, 0, 0, 0, [])]
theorem zd_X6 : ∀ j, j < 18 → defaultValue (tyX6 j) = vp_V (zds_X6.map z_dv) j := fun j hj => match j, hj with
  | 0, _ => rfl
  | 1, _ => rfl
  | 2, _ => rfl
  | 3, _ => rfl
  | 4, _ => rfl
  | 5, _ => rfl
  | 6, _ => rfl
  | 7, _ => rfl
  | 8, _ => rfl
  | 9, _ => rfl
  | 10, _ => rfl
  | 11, _ => rfl
  | 12, _ => rfl
  | 13, _ => rfl
  | 14, _ => rfl
  | 15, _ => rfl
  | 16, _ => rfl
  | 17, _ => rfl
  | j + 18, hj => absurd hj (by omega)
def zds_X7 : List AV := [(0, 0, 0, 0, []), (0, 0, 0, 0, []), (5, 0, 0, 0, [])]
theorem zd_X7 : ∀ j, j < 3 → defaultValue (tyX7 j) = vp_V (zds_X7.map z_dv) j := fun j hj => match j, hj with
  | 0, _ => rfl
  | 1, _ => rfl
  | 2, _ => rfl
  | j + 3, hj => absurd hj (by omega)
def zds_X8 : List AV := [(5, 0, 0, 0, []), (0, 0, 0, 0, [])]
theorem zd_X8 : ∀ j, j < 2 → defaultValue (tyX8 j) = vp_V (zds_X8.map z_dv) j := fun j hj => match j, hj with
  | 0, _ => rfl
  | 1, _ => rfl
  | j + 2, hj => absurd hj (by omega)
def zds_X9 : List AV := [(5, 0, 0, 0, []), (5, 0, 0, 0, []), (5, 0, 0, 0, []), (5, 0, 0, 0, []), (5, 0, 0, 0, []), (0, 0, 0, 0, []), (5, 0, 0, 0, []), (5, 0, 0, 0, []), (5, 0, 0, 0, []), (5, 0, 0, 0, []), (5, 0, 0, 0, [])]
theorem zd_X9 : ∀ j, j < 11 → defaultValue (tyX9 j) = vp_V (zds_X9.map z_dv) j := fun j hj => match j, hj with
  | 0, _ => rfl
  | 1, _ => rfl
  | 2, _ => rfl
  | 3, _ => rfl
  | 4, _ => rfl
  | 5, _ => rfl
  | 6, _ => rfl
  | 7, _ => rfl
  | 8, _ => rfl
  | 9, _ => rfl
  | 10, _ => rfl
  | j + 11, hj => absurd hj (by omega)
def zds_X10 : List AV := [(0, 0, 0, 0, []), (5, 0, 0, 0, []), (5, 0, 0, 0, []), (5, 0, 0, 0, []), (5, 0, 0, 0, []), (0, 0, 0, 0, []), (5, 0, 0, 0, []), (0, 0, 0, 0, []), (0, 0, 0, 0, []), (0, 0, 0, 0, []), (0, 0, 0, 0, []), (0, 0, 0, 0, []), (0, 0, 0, 0, []), (0, 0, 0, 0, []), (5, 0, 0, 0, []), (5, 0, 0, 0, []), (5, 0, 0, 0, []), (5, 0, 0, 0, []), (5, 0, 0, 0, []), (5, 0, 0, 0, []), (5, 0, 0, 0, []), (5, 0, 0, 0, []), (0, 0, 0, 0, []), (0, 0, 0, 0, []), (0, 0, 0, 0, []), (5, 0, 0, 0, []), (5, 0, 0, 0, []), (5, 0, 0, 0, []), (5, 0, 0, 0, []), (5, 0, 0, 0, []), (5, 0, 0, 0, []), (0, 0, 0, 0, []), (0, 0, 0, 0, []), (5, 0, 0, 0, []), (5, 0, 0, 0, []), (0, 0, 0, 0, []), (0, 0, 0, 0, []), (5, 0, 0, 0, []), (2, 0, 0, 0, []), (2, 0, 0, 0, []), (2, 0, 0, 0, []), (5, 0, 0, 0, []), (5, 0, 0, 0, []), (5, 0, 0, 0, []), (5, 0, 0, 0, [])]
theorem zd_X10 : ∀ j, j < 45 → defaultValue (tyX10 j) = vp_V (zds_X10.map z_dv) j := fun j hj => match j, hj with
  | 0, _ => rfl
  | 1, _ => rfl
  | 2, _ => rfl
  | 3, _ => rfl
  | 4, _ => rfl
  | 5, _ => rfl
  | 6, _ => rfl
  | 7, _ => rfl
  | 8, _ => rfl
  | 9, _ => rfl
  | 10, _ => rfl
  | 11, _ => rfl
  | 12, _ => rfl
  | 13, _ => rfl
  | 14, _ => rfl
  | 15, _ => rfl
  | 16, _ => rfl
  | 17, _ => rfl
  | 18, _ => rfl
  | 19, _ => rfl
  | 20, _ => rfl
  | 21, _ => rfl
  | 22, _ => rfl
  | 23, _ => rfl
  | 24, _ => rfl
  | 25, _ => rfl
  | 26, _ => rfl
  | 27, _ => rfl
  | 28, _ => rfl
  | 29, _ => rfl
  | 30, _ => rfl
  | 31, _ => rfl
  | 32, _ => rfl
  | 33, _ => rfl
  | 34, _ => rfl
  | 35, _ => rfl
  | 36, _ => rfl
  | 37, _ => rfl
  | 38, _ => rfl
  | 39, _ => rfl
  | 40, _ => rfl
  | 41, _ => rfl
  | 42, _ => rfl
  | 43, _ => rfl
  | 44, _ => rfl
  | j + 45, hj => absurd hj (by omega)
theorem ki_m8 : (Int32.ofInt (-8)).toInt = (-8) := by decide
theorem ki_m1 : (Int32.ofInt (-1)).toInt = (-1) := by decide
theorem ki_0 : (Int32.ofInt 0).toInt = 0 := by decide
theorem ki_1 : (Int32.ofInt 1).toInt = 1 := by decide
theorem ki_2 : (Int32.ofInt 2).toInt = 2 := by decide
theorem ki_3 : (Int32.ofInt 3).toInt = 3 := by decide
theorem ki_4 : (Int32.ofInt 4).toInt = 4 := by decide
theorem ki_5 : (Int32.ofInt 5).toInt = 5 := by decide
theorem ki_6 : (Int32.ofInt 6).toInt = 6 := by decide
theorem kb_m8 : ((Int8.ofInt (-8)).toInt32).toInt = (-8) := by decide
theorem kb_m7 : ((Int8.ofInt (-7)).toInt32).toInt = (-7) := by decide
theorem kb_m6 : ((Int8.ofInt (-6)).toInt32).toInt = (-6) := by decide
theorem kb_m5 : ((Int8.ofInt (-5)).toInt32).toInt = (-5) := by decide
theorem kb_m4 : ((Int8.ofInt (-4)).toInt32).toInt = (-4) := by decide
theorem kb_m3 : ((Int8.ofInt (-3)).toInt32).toInt = (-3) := by decide
theorem kb_m2 : ((Int8.ofInt (-2)).toInt32).toInt = (-2) := by decide
theorem kb_6 : ((Int8.ofInt 6).toInt32).toInt = 6 := by decide
theorem kb_7 : ((Int8.ofInt 7).toInt32).toInt = 7 := by decide
theorem kb_8 : ((Int8.ofInt 8).toInt32).toInt = 8 := by decide
theorem kb_9 : ((Int8.ofInt 9).toInt32).toInt = 9 := by decide
theorem kb_10 : ((Int8.ofInt 10).toInt32).toInt = 10 := by decide
theorem kb_11 : ((Int8.ofInt 11).toInt32).toInt = 11 := by decide
theorem kb_15 : ((Int8.ofInt 15).toInt32).toInt = 15 := by decide
theorem kb_16 : ((Int8.ofInt 16).toInt32).toInt = 16 := by decide
theorem kb_20 : ((Int8.ofInt 20).toInt32).toInt = 20 := by decide
theorem kb_24 : ((Int8.ofInt 24).toInt32).toInt = 24 := by decide
theorem kb_30 : ((Int8.ofInt 30).toInt32).toInt = 30 := by decide
theorem kb_32 : ((Int8.ofInt 32).toInt32).toInt = 32 := by decide
theorem kb_34 : ((Int8.ofInt 34).toInt32).toInt = 34 := by decide
theorem kb_40 : ((Int8.ofInt 40).toInt32).toInt = 40 := by decide
theorem kb_44 : ((Int8.ofInt 44).toInt32).toInt = 44 := by decide
theorem kb_48 : ((Int8.ofInt 48).toInt32).toInt = 48 := by decide
theorem kb_54 : ((Int8.ofInt 54).toInt32).toInt = 54 := by decide
theorem kb_57 : ((Int8.ofInt 57).toInt32).toInt = 57 := by decide
theorem kb_58 : ((Int8.ofInt 58).toInt32).toInt = 58 := by decide
theorem kb_59 : ((Int8.ofInt 59).toInt32).toInt = 59 := by decide
theorem kb_60 : ((Int8.ofInt 60).toInt32).toInt = 60 := by decide
theorem kb_63 : ((Int8.ofInt 63).toInt32).toInt = 63 := by decide
theorem kb_64 : ((Int8.ofInt 64).toInt32).toInt = 64 := by decide
theorem kb_82 : ((Int8.ofInt 82).toInt32).toInt = 82 := by decide
theorem kb_96 : ((Int8.ofInt 96).toInt32).toInt = 96 := by decide
theorem kb_97 : ((Int8.ofInt 97).toInt32).toInt = 97 := by decide
theorem kb_99 : ((Int8.ofInt 99).toInt32).toInt = 99 := by decide
theorem kb_100 : ((Int8.ofInt 100).toInt32).toInt = 100 := by decide
theorem kb_112 : ((Int8.ofInt 112).toInt32).toInt = 112 := by decide
theorem kb_122 : ((Int8.ofInt 122).toInt32).toInt = 122 := by decide
theorem kb_127 : ((Int8.ofInt 127).toInt32).toInt = 127 := by decide
theorem ks_m1000 : ((Int16.ofInt (-1000)).toInt32).toInt = (-1000) := by decide
theorem ks_200 : ((Int16.ofInt 200).toInt32).toInt = 200 := by decide
theorem ks_240 : ((Int16.ofInt 240).toInt32).toInt = 240 := by decide
theorem ks_255 : ((Int16.ofInt 255).toInt32).toInt = 255 := by decide
theorem ks_336 : ((Int16.ofInt 336).toInt32).toInt = 336 := by decide
theorem ks_384 : ((Int16.ofInt 384).toInt32).toInt = 384 := by decide
theorem ks_900 : ((Int16.ofInt 900).toInt32).toInt = 900 := by decide
theorem ks_1000 : ((Int16.ofInt 1000).toInt32).toInt = 1000 := by decide
theorem ks_1600 : ((Int16.ofInt 1600).toInt32).toInt = 1600 := by decide
theorem ks_10000 : ((Int16.ofInt 10000).toInt32).toInt = 10000 := by decide
