def wsX10_waters_r5 : List Cond := [Cond.instanceMethod yX10_runsOver, Cond.selects RX10 yX10_runsOver yX10_runsOver, Cond.code yX10_runsOver cX10_runsOver 6 none, Cond.fieldLink RX10 58 "MoatRanksModel" "spillsAt" "[I", Cond.methodLink RX10 294 yX10_waterIn, Cond.instanceMethod yX10_waterIn, Cond.selects RX10 yX10_waterIn yX10_waterIn, Cond.code yX10_waterIn cX10_waterIn 3 (some .int)]
def wsX10_waters : List Cond := .code yX10_waters cX10_waters 4 (some .int) :: ((wsX10_waters_r1 ++ (wsX10_waters_r2 ++ (wsX10_waters_r3 ++ (wsX10_waters_r4 ++ wsX10_waters_r5)))) ++ wsX100)
def wsX10_least_r1 : List Cond := [Cond.fieldLink RX10 379 "MoatRanksModel" "fitMany" "I", Cond.fieldLink RX10 73 "MoatRanksModel" "fitsOf" "[I", Cond.methodLink RX10 385 yX10_layWaters, Cond.instanceMethod yX10_layWaters, Cond.selects RX10 yX10_layWaters yX10_layWaters, Cond.initialized RX10, Cond.code yX10_layWaters cX10_layWaters 6 (some .int), Cond.fieldLink RX10 34 "MoatRanksModel" "waterOf" "[I", Cond.fieldLink RX10 76 "MoatRanksModel" "waterBy" "[I", Cond.methodLink RX10 230 yX10_isRank, Cond.instanceMethod yX10_isRank, Cond.selects RX10 yX10_isRank yX10_isRank, Cond.code yX10_isRank cX10_isRank 3 (some .boolean), Cond.fieldLink RX10 9 "MoatRanksModel" "world" "[I", Cond.methodLink RX10 100 yX10_in, Cond.static yX10_in, Cond.code yX10_in cX10_in 6 (some .boolean), Cond.methodLink RX10 376 yX10_askSeen, Cond.instanceMethod yX10_askSeen, Cond.selects RX10 yX10_askSeen yX10_askSeen, Cond.code yX10_askSeen cX10_askSeen 3 (some .int), Cond.fieldLink RX10 82 "MoatRanksModel" "many" "[I", Cond.constantLong RX10 374 (99), Cond.methodLink RX10 367 yX10_isSlot]
def wsX10_least_r2 : List Cond := [Cond.static yX10_isSlot, Cond.code yX10_isSlot cX10_isSlot 1 (some .boolean), Cond.constantLong RX10 234 (3), Cond.methodLink RX10 282 yX10_isDukedom, Cond.instanceMethod yX10_isDukedom, Cond.selects RX10 yX10_isDukedom yX10_isDukedom, Cond.code yX10_isDukedom cX10_isDukedom 1 (some .boolean), Cond.methodLink RX10 370 yX10_numberAt, Cond.instanceMethod yX10_numberAt, Cond.selects RX10 yX10_numberAt yX10_numberAt, Cond.code yX10_numberAt cX10_numberAt 3 (some .long), Cond.fieldLink RX10 88 "MoatRanksModel" "numbers" "[J", Cond.methodLink RX10 288 yX10_isYear, Cond.instanceMethod yX10_isYear, Cond.selects RX10 yX10_isYear yX10_isYear, Cond.code yX10_isYear cX10_isYear 3 (some .boolean), Cond.methodLink RX10 276 yX10_asItIs, Cond.instanceMethod yX10_asItIs, Cond.selects RX10 yX10_asItIs yX10_asItIs, Cond.code yX10_asItIs cX10_asItIs 3 none, Cond.fieldLink RX10 246 "MoatRanksModel" "lawNow" "I", Cond.fieldLink RX10 249 "MoatRanksModel" "filledSet" "I", Cond.fieldLink RX10 252 "MoatRanksModel" "frostSet" "I", Cond.fieldLink RX10 37 "MoatRanksModel" "drainsOf" "[I"]
def wsX10_least_r3 : List Cond := [Cond.fieldLink RX10 40 "MoatRanksModel" "swimsOf" "[I", Cond.fieldLink RX10 46 "MoatRanksModel" "longestMore" "[I", Cond.fieldLink RX10 43 "MoatRanksModel" "plankOn" "[I", Cond.fieldLink RX10 49 "MoatRanksModel" "rainIn" "[I", Cond.fieldLink RX10 52 "MoatRanksModel" "dredgedIn" "[I", Cond.methodLink RX10 255 Lib.Math.max.name, Cond.static Lib.Math.max.name, Cond.initialized "java/lang/Math", Cond.code Lib.Math.max.name Lib.Math.max.code 2 (some .int), Cond.methodLink RX10 236 yX10_of, Cond.instanceMethod yX10_of, Cond.selects RX10 yX10_of yX10_of, Cond.code yX10_of cX10_of 3 (some .int), Cond.methodLink RX10 382 yX10_isSeen, Cond.instanceMethod yX10_isSeen, Cond.selects RX10 yX10_isSeen yX10_isSeen, Cond.code yX10_isSeen cX10_isSeen 3 (some .boolean), Cond.methodLink RX10 279 yX10_goAll, Cond.instanceMethod yX10_goAll, Cond.selects RX10 yX10_goAll yX10_goAll, Cond.code yX10_goAll cX10_goAll 2 none, Cond.fieldLink RX10 67 "MoatRanksModel" "now" "[I", Cond.methodLink RX10 271 yX10_years, Cond.instanceMethod yX10_years]
def wsX10_least_r4 : List Cond := [Cond.selects RX10 yX10_years yX10_years, Cond.code yX10_years cX10_years 1 (some .int), Cond.methodLink RX10 273 yX10_goYear, Cond.instanceMethod yX10_goYear, Cond.selects RX10 yX10_goYear yX10_goYear, Cond.code yX10_goYear cX10_goYear 5 none, Cond.fieldLink RX10 64 "MoatRanksModel" "lostAt" "[I", Cond.methodLink RX10 135 Lib.Math.min.name, Cond.static Lib.Math.min.name, Cond.code Lib.Math.min.name Lib.Math.min.code 2 (some .int), Cond.fieldLink RX10 61 "MoatRanksModel" "drainedAt" "[I", Cond.fieldLink RX10 55 "MoatRanksModel" "waterAt" "[I", Cond.methodLink RX10 261 yX10_ranks, Cond.instanceMethod yX10_ranks, Cond.selects RX10 yX10_ranks yX10_ranks, Cond.code yX10_ranks cX10_ranks 1 (some .int), Cond.methodLink RX10 264 yX10_isFrost, Cond.instanceMethod yX10_isFrost, Cond.selects RX10 yX10_isFrost yX10_isFrost, Cond.code yX10_isFrost cX10_isFrost 2 (some .boolean), Cond.methodLink RX10 258 yX10_bit, Cond.static yX10_bit, Cond.code yX10_bit cX10_bit 2 (some .int), Cond.methodLink RX10 267 yX10_runsOver]
def wsX10_least_r5 : List Cond := [Cond.instanceMethod yX10_runsOver, Cond.selects RX10 yX10_runsOver yX10_runsOver, Cond.code yX10_runsOver cX10_runsOver 6 none, Cond.fieldLink RX10 58 "MoatRanksModel" "spillsAt" "[I", Cond.methodLink RX10 294 yX10_waterIn, Cond.instanceMethod yX10_waterIn, Cond.selects RX10 yX10_waterIn yX10_waterIn, Cond.code yX10_waterIn cX10_waterIn 3 (some .int)]
def wsX10_least : List Cond := .code yX10_least cX10_least 4 (some .int) :: ((wsX10_least_r1 ++ (wsX10_least_r2 ++ (wsX10_least_r3 ++ (wsX10_least_r4 ++ wsX10_least_r5)))) ++ wsX100)
def wsX10_greatest_r1 : List Cond := [Cond.fieldLink RX10 379 "MoatRanksModel" "fitMany" "I", Cond.fieldLink RX10 73 "MoatRanksModel" "fitsOf" "[I", Cond.methodLink RX10 385 yX10_layWaters, Cond.instanceMethod yX10_layWaters, Cond.selects RX10 yX10_layWaters yX10_layWaters, Cond.initialized RX10, Cond.code yX10_layWaters cX10_layWaters 6 (some .int), Cond.fieldLink RX10 34 "MoatRanksModel" "waterOf" "[I", Cond.fieldLink RX10 76 "MoatRanksModel" "waterBy" "[I", Cond.methodLink RX10 230 yX10_isRank, Cond.instanceMethod yX10_isRank, Cond.selects RX10 yX10_isRank yX10_isRank, Cond.code yX10_isRank cX10_isRank 3 (some .boolean), Cond.fieldLink RX10 9 "MoatRanksModel" "world" "[I", Cond.methodLink RX10 100 yX10_in, Cond.static yX10_in, Cond.code yX10_in cX10_in 6 (some .boolean), Cond.methodLink RX10 376 yX10_askSeen, Cond.instanceMethod yX10_askSeen, Cond.selects RX10 yX10_askSeen yX10_askSeen, Cond.code yX10_askSeen cX10_askSeen 3 (some .int), Cond.fieldLink RX10 82 "MoatRanksModel" "many" "[I", Cond.constantLong RX10 374 (99), Cond.methodLink RX10 367 yX10_isSlot]
def wsX10_greatest_r2 : List Cond := [Cond.static yX10_isSlot, Cond.code yX10_isSlot cX10_isSlot 1 (some .boolean), Cond.constantLong RX10 234 (3), Cond.methodLink RX10 282 yX10_isDukedom, Cond.instanceMethod yX10_isDukedom, Cond.selects RX10 yX10_isDukedom yX10_isDukedom, Cond.code yX10_isDukedom cX10_isDukedom 1 (some .boolean), Cond.methodLink RX10 370 yX10_numberAt, Cond.instanceMethod yX10_numberAt, Cond.selects RX10 yX10_numberAt yX10_numberAt, Cond.code yX10_numberAt cX10_numberAt 3 (some .long), Cond.fieldLink RX10 88 "MoatRanksModel" "numbers" "[J", Cond.methodLink RX10 288 yX10_isYear, Cond.instanceMethod yX10_isYear, Cond.selects RX10 yX10_isYear yX10_isYear, Cond.code yX10_isYear cX10_isYear 3 (some .boolean), Cond.methodLink RX10 276 yX10_asItIs, Cond.instanceMethod yX10_asItIs, Cond.selects RX10 yX10_asItIs yX10_asItIs, Cond.code yX10_asItIs cX10_asItIs 3 none, Cond.fieldLink RX10 246 "MoatRanksModel" "lawNow" "I", Cond.fieldLink RX10 249 "MoatRanksModel" "filledSet" "I", Cond.fieldLink RX10 252 "MoatRanksModel" "frostSet" "I", Cond.fieldLink RX10 37 "MoatRanksModel" "drainsOf" "[I"]
def wsX10_greatest_r3 : List Cond := [Cond.fieldLink RX10 40 "MoatRanksModel" "swimsOf" "[I", Cond.fieldLink RX10 46 "MoatRanksModel" "longestMore" "[I", Cond.fieldLink RX10 43 "MoatRanksModel" "plankOn" "[I", Cond.fieldLink RX10 49 "MoatRanksModel" "rainIn" "[I", Cond.fieldLink RX10 52 "MoatRanksModel" "dredgedIn" "[I", Cond.methodLink RX10 255 Lib.Math.max.name, Cond.static Lib.Math.max.name, Cond.initialized "java/lang/Math", Cond.code Lib.Math.max.name Lib.Math.max.code 2 (some .int), Cond.methodLink RX10 236 yX10_of, Cond.instanceMethod yX10_of, Cond.selects RX10 yX10_of yX10_of, Cond.code yX10_of cX10_of 3 (some .int), Cond.methodLink RX10 382 yX10_isSeen, Cond.instanceMethod yX10_isSeen, Cond.selects RX10 yX10_isSeen yX10_isSeen, Cond.code yX10_isSeen cX10_isSeen 3 (some .boolean), Cond.methodLink RX10 279 yX10_goAll, Cond.instanceMethod yX10_goAll, Cond.selects RX10 yX10_goAll yX10_goAll, Cond.code yX10_goAll cX10_goAll 2 none, Cond.fieldLink RX10 67 "MoatRanksModel" "now" "[I", Cond.methodLink RX10 271 yX10_years, Cond.instanceMethod yX10_years]
def wsX10_greatest_r4 : List Cond := [Cond.selects RX10 yX10_years yX10_years, Cond.code yX10_years cX10_years 1 (some .int), Cond.methodLink RX10 273 yX10_goYear, Cond.instanceMethod yX10_goYear, Cond.selects RX10 yX10_goYear yX10_goYear, Cond.code yX10_goYear cX10_goYear 5 none, Cond.fieldLink RX10 64 "MoatRanksModel" "lostAt" "[I", Cond.methodLink RX10 135 Lib.Math.min.name, Cond.static Lib.Math.min.name, Cond.code Lib.Math.min.name Lib.Math.min.code 2 (some .int), Cond.fieldLink RX10 61 "MoatRanksModel" "drainedAt" "[I", Cond.fieldLink RX10 55 "MoatRanksModel" "waterAt" "[I", Cond.methodLink RX10 261 yX10_ranks, Cond.instanceMethod yX10_ranks, Cond.selects RX10 yX10_ranks yX10_ranks, Cond.code yX10_ranks cX10_ranks 1 (some .int), Cond.methodLink RX10 264 yX10_isFrost, Cond.instanceMethod yX10_isFrost, Cond.selects RX10 yX10_isFrost yX10_isFrost, Cond.code yX10_isFrost cX10_isFrost 2 (some .boolean), Cond.methodLink RX10 258 yX10_bit, Cond.static yX10_bit, Cond.code yX10_bit cX10_bit 2 (some .int), Cond.methodLink RX10 267 yX10_runsOver]
def wsX10_greatest_r5 : List Cond := [Cond.instanceMethod yX10_runsOver, Cond.selects RX10 yX10_runsOver yX10_runsOver, Cond.code yX10_runsOver cX10_runsOver 6 none, Cond.fieldLink RX10 58 "MoatRanksModel" "spillsAt" "[I", Cond.methodLink RX10 294 yX10_waterIn, Cond.instanceMethod yX10_waterIn, Cond.selects RX10 yX10_waterIn yX10_waterIn, Cond.code yX10_waterIn cX10_waterIn 3 (some .int)]
def wsX10_greatest : List Cond := .code yX10_greatest cX10_greatest 4 (some .int) :: ((wsX10_greatest_r1 ++ (wsX10_greatest_r2 ++ (wsX10_greatest_r3 ++ (wsX10_greatest_r4 ++ wsX10_greatest_r5)))) ++ wsX100)
def wsX10_askOf : List Cond := .code yX10_askOf cX10_askOf 7 (some .int) :: ([.fieldLink RX10 379 "MoatRanksModel" "fitMany" "I", .fieldLink RX10 388 "MoatRanksModel" "askWorst" "I", .fieldLink RX10 76 "MoatRanksModel" "waterBy" "[I", .methodLink RX10 255 Lib.Math.max.name, .static Lib.Math.max.name, .initialized "java/lang/Math", .code Lib.Math.max.name Lib.Math.max.code 2 (some .int), .methodLink RX10 271 yX10_years, .instanceMethod yX10_years, .selects RX10 yX10_years yX10_years, .initialized RX10, .code yX10_years cX10_years 1 (some .int), .fieldLink RX10 9 "MoatRanksModel" "world" "[I"] ++ wsX100)
def wsX10_ask_r1 : List Cond := [Cond.methodLink RX10 385 yX10_layWaters, Cond.instanceMethod yX10_layWaters, Cond.selects RX10 yX10_layWaters yX10_layWaters, Cond.initialized RX10, Cond.code yX10_layWaters cX10_layWaters 6 (some .int), Cond.fieldLink RX10 379 "MoatRanksModel" "fitMany" "I", Cond.fieldLink RX10 34 "MoatRanksModel" "waterOf" "[I", Cond.fieldLink RX10 73 "MoatRanksModel" "fitsOf" "[I", Cond.fieldLink RX10 76 "MoatRanksModel" "waterBy" "[I", Cond.methodLink RX10 230 yX10_isRank, Cond.instanceMethod yX10_isRank, Cond.selects RX10 yX10_isRank yX10_isRank, Cond.code yX10_isRank cX10_isRank 3 (some .boolean), Cond.fieldLink RX10 9 "MoatRanksModel" "world" "[I", Cond.methodLink RX10 100 yX10_in, Cond.static yX10_in, Cond.code yX10_in cX10_in 6 (some .boolean), Cond.methodLink RX10 376 yX10_askSeen, Cond.instanceMethod yX10_askSeen, Cond.selects RX10 yX10_askSeen yX10_askSeen, Cond.code yX10_askSeen cX10_askSeen 3 (some .int), Cond.fieldLink RX10 82 "MoatRanksModel" "many" "[I", Cond.constantLong RX10 374 (99), Cond.methodLink RX10 367 yX10_isSlot]
def wsX10_ask_r2 : List Cond := [Cond.static yX10_isSlot, Cond.code yX10_isSlot cX10_isSlot 1 (some .boolean), Cond.constantLong RX10 234 (3), Cond.methodLink RX10 282 yX10_isDukedom, Cond.instanceMethod yX10_isDukedom, Cond.selects RX10 yX10_isDukedom yX10_isDukedom, Cond.code yX10_isDukedom cX10_isDukedom 1 (some .boolean), Cond.methodLink RX10 370 yX10_numberAt, Cond.instanceMethod yX10_numberAt, Cond.selects RX10 yX10_numberAt yX10_numberAt, Cond.code yX10_numberAt cX10_numberAt 3 (some .long), Cond.fieldLink RX10 88 "MoatRanksModel" "numbers" "[J", Cond.methodLink RX10 288 yX10_isYear, Cond.instanceMethod yX10_isYear, Cond.selects RX10 yX10_isYear yX10_isYear, Cond.code yX10_isYear cX10_isYear 3 (some .boolean), Cond.methodLink RX10 276 yX10_asItIs, Cond.instanceMethod yX10_asItIs, Cond.selects RX10 yX10_asItIs yX10_asItIs, Cond.code yX10_asItIs cX10_asItIs 3 none, Cond.fieldLink RX10 246 "MoatRanksModel" "lawNow" "I", Cond.fieldLink RX10 249 "MoatRanksModel" "filledSet" "I", Cond.fieldLink RX10 252 "MoatRanksModel" "frostSet" "I", Cond.fieldLink RX10 37 "MoatRanksModel" "drainsOf" "[I"]
def wsX10_ask_r3 : List Cond := [Cond.fieldLink RX10 40 "MoatRanksModel" "swimsOf" "[I", Cond.fieldLink RX10 46 "MoatRanksModel" "longestMore" "[I", Cond.fieldLink RX10 43 "MoatRanksModel" "plankOn" "[I", Cond.fieldLink RX10 49 "MoatRanksModel" "rainIn" "[I", Cond.fieldLink RX10 52 "MoatRanksModel" "dredgedIn" "[I", Cond.methodLink RX10 255 Lib.Math.max.name, Cond.static Lib.Math.max.name, Cond.initialized "java/lang/Math", Cond.code Lib.Math.max.name Lib.Math.max.code 2 (some .int), Cond.methodLink RX10 236 yX10_of, Cond.instanceMethod yX10_of, Cond.selects RX10 yX10_of yX10_of, Cond.code yX10_of cX10_of 3 (some .int), Cond.methodLink RX10 382 yX10_isSeen, Cond.instanceMethod yX10_isSeen, Cond.selects RX10 yX10_isSeen yX10_isSeen, Cond.code yX10_isSeen cX10_isSeen 3 (some .boolean), Cond.methodLink RX10 279 yX10_goAll, Cond.instanceMethod yX10_goAll, Cond.selects RX10 yX10_goAll yX10_goAll, Cond.code yX10_goAll cX10_goAll 2 none, Cond.fieldLink RX10 67 "MoatRanksModel" "now" "[I", Cond.methodLink RX10 271 yX10_years, Cond.instanceMethod yX10_years]
def wsX10_ask_r4 : List Cond := [Cond.selects RX10 yX10_years yX10_years, Cond.code yX10_years cX10_years 1 (some .int), Cond.methodLink RX10 273 yX10_goYear, Cond.instanceMethod yX10_goYear, Cond.selects RX10 yX10_goYear yX10_goYear, Cond.code yX10_goYear cX10_goYear 5 none, Cond.fieldLink RX10 64 "MoatRanksModel" "lostAt" "[I", Cond.methodLink RX10 135 Lib.Math.min.name, Cond.static Lib.Math.min.name, Cond.code Lib.Math.min.name Lib.Math.min.code 2 (some .int), Cond.fieldLink RX10 61 "MoatRanksModel" "drainedAt" "[I", Cond.fieldLink RX10 55 "MoatRanksModel" "waterAt" "[I", Cond.methodLink RX10 261 yX10_ranks, Cond.instanceMethod yX10_ranks, Cond.selects RX10 yX10_ranks yX10_ranks, Cond.code yX10_ranks cX10_ranks 1 (some .int), Cond.methodLink RX10 264 yX10_isFrost, Cond.instanceMethod yX10_isFrost, Cond.selects RX10 yX10_isFrost yX10_isFrost, Cond.code yX10_isFrost cX10_isFrost 2 (some .boolean), Cond.methodLink RX10 258 yX10_bit, Cond.static yX10_bit, Cond.code yX10_bit cX10_bit 2 (some .int), Cond.methodLink RX10 267 yX10_runsOver]
def wsX10_ask_r5 : List Cond := [Cond.instanceMethod yX10_runsOver, Cond.selects RX10 yX10_runsOver yX10_runsOver, Cond.code yX10_runsOver cX10_runsOver 6 none, Cond.fieldLink RX10 58 "MoatRanksModel" "spillsAt" "[I", Cond.methodLink RX10 294 yX10_waterIn, Cond.instanceMethod yX10_waterIn, Cond.selects RX10 yX10_waterIn yX10_waterIn, Cond.code yX10_waterIn cX10_waterIn 3 (some .int), Cond.methodLink RX10 391 yX10_askOf, Cond.instanceMethod yX10_askOf, Cond.selects RX10 yX10_askOf yX10_askOf, Cond.code yX10_askOf cX10_askOf 7 (some .int), Cond.fieldLink RX10 388 "MoatRanksModel" "askWorst" "I"]
def wsX10_ask : List Cond := .code yX10_ask cX10_ask 4 (some .int) :: ((wsX10_ask_r1 ++ (wsX10_ask_r2 ++ (wsX10_ask_r3 ++ (wsX10_ask_r4 ++ wsX10_ask_r5)))) ++ wsX100)
def wsX10_leaves_r1 : List Cond := [Cond.fieldLink RX10 388 "MoatRanksModel" "askWorst" "I", Cond.methodLink RX10 385 yX10_layWaters, Cond.instanceMethod yX10_layWaters, Cond.selects RX10 yX10_layWaters yX10_layWaters, Cond.initialized RX10, Cond.code yX10_layWaters cX10_layWaters 6 (some .int), Cond.fieldLink RX10 379 "MoatRanksModel" "fitMany" "I", Cond.fieldLink RX10 34 "MoatRanksModel" "waterOf" "[I", Cond.fieldLink RX10 73 "MoatRanksModel" "fitsOf" "[I", Cond.fieldLink RX10 76 "MoatRanksModel" "waterBy" "[I", Cond.methodLink RX10 230 yX10_isRank, Cond.instanceMethod yX10_isRank, Cond.selects RX10 yX10_isRank yX10_isRank, Cond.code yX10_isRank cX10_isRank 3 (some .boolean), Cond.fieldLink RX10 9 "MoatRanksModel" "world" "[I", Cond.methodLink RX10 100 yX10_in, Cond.static yX10_in, Cond.code yX10_in cX10_in 6 (some .boolean), Cond.methodLink RX10 376 yX10_askSeen, Cond.instanceMethod yX10_askSeen, Cond.selects RX10 yX10_askSeen yX10_askSeen, Cond.code yX10_askSeen cX10_askSeen 3 (some .int), Cond.fieldLink RX10 82 "MoatRanksModel" "many" "[I", Cond.constantLong RX10 374 (99)]
def wsX10_leaves_r2 : List Cond := [Cond.methodLink RX10 367 yX10_isSlot, Cond.static yX10_isSlot, Cond.code yX10_isSlot cX10_isSlot 1 (some .boolean), Cond.constantLong RX10 234 (3), Cond.methodLink RX10 282 yX10_isDukedom, Cond.instanceMethod yX10_isDukedom, Cond.selects RX10 yX10_isDukedom yX10_isDukedom, Cond.code yX10_isDukedom cX10_isDukedom 1 (some .boolean), Cond.methodLink RX10 370 yX10_numberAt, Cond.instanceMethod yX10_numberAt, Cond.selects RX10 yX10_numberAt yX10_numberAt, Cond.code yX10_numberAt cX10_numberAt 3 (some .long), Cond.fieldLink RX10 88 "MoatRanksModel" "numbers" "[J", Cond.methodLink RX10 288 yX10_isYear, Cond.instanceMethod yX10_isYear, Cond.selects RX10 yX10_isYear yX10_isYear, Cond.code yX10_isYear cX10_isYear 3 (some .boolean), Cond.methodLink RX10 276 yX10_asItIs, Cond.instanceMethod yX10_asItIs, Cond.selects RX10 yX10_asItIs yX10_asItIs, Cond.code yX10_asItIs cX10_asItIs 3 none, Cond.fieldLink RX10 246 "MoatRanksModel" "lawNow" "I", Cond.fieldLink RX10 249 "MoatRanksModel" "filledSet" "I", Cond.fieldLink RX10 252 "MoatRanksModel" "frostSet" "I"]
def wsX10_leaves_r3 : List Cond := [Cond.fieldLink RX10 37 "MoatRanksModel" "drainsOf" "[I", Cond.fieldLink RX10 40 "MoatRanksModel" "swimsOf" "[I", Cond.fieldLink RX10 46 "MoatRanksModel" "longestMore" "[I", Cond.fieldLink RX10 43 "MoatRanksModel" "plankOn" "[I", Cond.fieldLink RX10 49 "MoatRanksModel" "rainIn" "[I", Cond.fieldLink RX10 52 "MoatRanksModel" "dredgedIn" "[I", Cond.methodLink RX10 255 Lib.Math.max.name, Cond.static Lib.Math.max.name, Cond.initialized "java/lang/Math", Cond.code Lib.Math.max.name Lib.Math.max.code 2 (some .int), Cond.methodLink RX10 236 yX10_of, Cond.instanceMethod yX10_of, Cond.selects RX10 yX10_of yX10_of, Cond.code yX10_of cX10_of 3 (some .int), Cond.methodLink RX10 382 yX10_isSeen, Cond.instanceMethod yX10_isSeen, Cond.selects RX10 yX10_isSeen yX10_isSeen, Cond.code yX10_isSeen cX10_isSeen 3 (some .boolean), Cond.methodLink RX10 279 yX10_goAll, Cond.instanceMethod yX10_goAll, Cond.selects RX10 yX10_goAll yX10_goAll, Cond.code yX10_goAll cX10_goAll 2 none, Cond.fieldLink RX10 67 "MoatRanksModel" "now" "[I", Cond.methodLink RX10 271 yX10_years]
def wsX10_leaves_r4 : List Cond := [Cond.instanceMethod yX10_years, Cond.selects RX10 yX10_years yX10_years, Cond.code yX10_years cX10_years 1 (some .int), Cond.methodLink RX10 273 yX10_goYear, Cond.instanceMethod yX10_goYear, Cond.selects RX10 yX10_goYear yX10_goYear, Cond.code yX10_goYear cX10_goYear 5 none, Cond.fieldLink RX10 64 "MoatRanksModel" "lostAt" "[I", Cond.methodLink RX10 135 Lib.Math.min.name, Cond.static Lib.Math.min.name, Cond.code Lib.Math.min.name Lib.Math.min.code 2 (some .int), Cond.fieldLink RX10 61 "MoatRanksModel" "drainedAt" "[I", Cond.fieldLink RX10 55 "MoatRanksModel" "waterAt" "[I", Cond.methodLink RX10 261 yX10_ranks, Cond.instanceMethod yX10_ranks, Cond.selects RX10 yX10_ranks yX10_ranks, Cond.code yX10_ranks cX10_ranks 1 (some .int), Cond.methodLink RX10 264 yX10_isFrost, Cond.instanceMethod yX10_isFrost, Cond.selects RX10 yX10_isFrost yX10_isFrost, Cond.code yX10_isFrost cX10_isFrost 2 (some .boolean), Cond.methodLink RX10 258 yX10_bit, Cond.static yX10_bit, Cond.code yX10_bit cX10_bit 2 (some .int)]
def wsX10_leaves_r5 : List Cond := [Cond.methodLink RX10 267 yX10_runsOver, Cond.instanceMethod yX10_runsOver, Cond.selects RX10 yX10_runsOver yX10_runsOver, Cond.code yX10_runsOver cX10_runsOver 6 none, Cond.fieldLink RX10 58 "MoatRanksModel" "spillsAt" "[I", Cond.methodLink RX10 294 yX10_waterIn, Cond.instanceMethod yX10_waterIn, Cond.selects RX10 yX10_waterIn yX10_waterIn, Cond.code yX10_waterIn cX10_waterIn 3 (some .int), Cond.methodLink RX10 391 yX10_askOf, Cond.instanceMethod yX10_askOf, Cond.selects RX10 yX10_askOf yX10_askOf, Cond.code yX10_askOf cX10_askOf 7 (some .int)]
def wsX10_leaves : List Cond := .code yX10_leaves cX10_leaves 4 (some .int) :: ((wsX10_leaves_r1 ++ (wsX10_leaves_r2 ++ (wsX10_leaves_r3 ++ (wsX10_leaves_r4 ++ wsX10_leaves_r5)))) ++ wsX100)
def wsX10_laws_r1 : List Cond := [Cond.fieldLink RX10 246 "MoatRanksModel" "lawNow" "I", Cond.methodLink RX10 376 yX10_askSeen, Cond.instanceMethod yX10_askSeen, Cond.selects RX10 yX10_askSeen yX10_askSeen, Cond.initialized RX10, Cond.code yX10_askSeen cX10_askSeen 3 (some .int), Cond.fieldLink RX10 82 "MoatRanksModel" "many" "[I", Cond.constantLong RX10 374 (99), Cond.methodLink RX10 367 yX10_isSlot, Cond.static yX10_isSlot, Cond.code yX10_isSlot cX10_isSlot 1 (some .boolean), Cond.constantLong RX10 234 (3), Cond.methodLink RX10 100 yX10_in, Cond.static yX10_in, Cond.code yX10_in cX10_in 6 (some .boolean), Cond.methodLink RX10 282 yX10_isDukedom, Cond.instanceMethod yX10_isDukedom, Cond.selects RX10 yX10_isDukedom yX10_isDukedom, Cond.code yX10_isDukedom cX10_isDukedom 1 (some .boolean), Cond.fieldLink RX10 9 "MoatRanksModel" "world" "[I", Cond.methodLink RX10 370 yX10_numberAt, Cond.instanceMethod yX10_numberAt, Cond.selects RX10 yX10_numberAt yX10_numberAt, Cond.code yX10_numberAt cX10_numberAt 3 (some .long)]
def wsX10_laws_r2 : List Cond := [Cond.fieldLink RX10 88 "MoatRanksModel" "numbers" "[J", Cond.methodLink RX10 230 yX10_isRank, Cond.instanceMethod yX10_isRank, Cond.selects RX10 yX10_isRank yX10_isRank, Cond.code yX10_isRank cX10_isRank 3 (some .boolean), Cond.methodLink RX10 288 yX10_isYear, Cond.instanceMethod yX10_isYear, Cond.selects RX10 yX10_isYear yX10_isYear, Cond.code yX10_isYear cX10_isYear 3 (some .boolean), Cond.methodLink RX10 276 yX10_asItIs, Cond.instanceMethod yX10_asItIs, Cond.selects RX10 yX10_asItIs yX10_asItIs, Cond.code yX10_asItIs cX10_asItIs 3 none, Cond.fieldLink RX10 249 "MoatRanksModel" "filledSet" "I", Cond.fieldLink RX10 252 "MoatRanksModel" "frostSet" "I", Cond.fieldLink RX10 34 "MoatRanksModel" "waterOf" "[I", Cond.fieldLink RX10 37 "MoatRanksModel" "drainsOf" "[I", Cond.fieldLink RX10 40 "MoatRanksModel" "swimsOf" "[I", Cond.fieldLink RX10 46 "MoatRanksModel" "longestMore" "[I", Cond.fieldLink RX10 43 "MoatRanksModel" "plankOn" "[I", Cond.fieldLink RX10 49 "MoatRanksModel" "rainIn" "[I", Cond.fieldLink RX10 52 "MoatRanksModel" "dredgedIn" "[I", Cond.methodLink RX10 255 Lib.Math.max.name, Cond.static Lib.Math.max.name]
def wsX10_laws_r3 : List Cond := [Cond.initialized "java/lang/Math", Cond.code Lib.Math.max.name Lib.Math.max.code 2 (some .int), Cond.methodLink RX10 236 yX10_of, Cond.instanceMethod yX10_of, Cond.selects RX10 yX10_of yX10_of, Cond.code yX10_of cX10_of 3 (some .int), Cond.methodLink RX10 382 yX10_isSeen, Cond.instanceMethod yX10_isSeen, Cond.selects RX10 yX10_isSeen yX10_isSeen, Cond.code yX10_isSeen cX10_isSeen 3 (some .boolean), Cond.methodLink RX10 279 yX10_goAll, Cond.instanceMethod yX10_goAll, Cond.selects RX10 yX10_goAll yX10_goAll, Cond.code yX10_goAll cX10_goAll 2 none, Cond.fieldLink RX10 67 "MoatRanksModel" "now" "[I", Cond.methodLink RX10 271 yX10_years, Cond.instanceMethod yX10_years, Cond.selects RX10 yX10_years yX10_years, Cond.code yX10_years cX10_years 1 (some .int), Cond.methodLink RX10 273 yX10_goYear, Cond.instanceMethod yX10_goYear, Cond.selects RX10 yX10_goYear yX10_goYear, Cond.code yX10_goYear cX10_goYear 5 none, Cond.fieldLink RX10 64 "MoatRanksModel" "lostAt" "[I"]
def wsX10_laws_r4 : List Cond := [Cond.methodLink RX10 135 Lib.Math.min.name, Cond.static Lib.Math.min.name, Cond.code Lib.Math.min.name Lib.Math.min.code 2 (some .int), Cond.fieldLink RX10 61 "MoatRanksModel" "drainedAt" "[I", Cond.fieldLink RX10 55 "MoatRanksModel" "waterAt" "[I", Cond.methodLink RX10 261 yX10_ranks, Cond.instanceMethod yX10_ranks, Cond.selects RX10 yX10_ranks yX10_ranks, Cond.code yX10_ranks cX10_ranks 1 (some .int), Cond.methodLink RX10 264 yX10_isFrost, Cond.instanceMethod yX10_isFrost, Cond.selects RX10 yX10_isFrost yX10_isFrost, Cond.code yX10_isFrost cX10_isFrost 2 (some .boolean), Cond.methodLink RX10 258 yX10_bit, Cond.static yX10_bit, Cond.code yX10_bit cX10_bit 2 (some .int), Cond.methodLink RX10 267 yX10_runsOver, Cond.instanceMethod yX10_runsOver, Cond.selects RX10 yX10_runsOver yX10_runsOver, Cond.code yX10_runsOver cX10_runsOver 6 none, Cond.fieldLink RX10 58 "MoatRanksModel" "spillsAt" "[I", Cond.methodLink RX10 294 yX10_waterIn, Cond.instanceMethod yX10_waterIn, Cond.selects RX10 yX10_waterIn yX10_waterIn]
def wsX10_laws_r5 : List Cond := [Cond.code yX10_waterIn cX10_waterIn 3 (some .int)]
def wsX10_laws : List Cond := .code yX10_laws cX10_laws 4 (some .int) :: ((wsX10_laws_r1 ++ (wsX10_laws_r2 ++ (wsX10_laws_r3 ++ (wsX10_laws_r4 ++ wsX10_laws_r5)))) ++ wsX100)
def wsX10_keptWith_r1 : List Cond := [Cond.fieldLink RX10 249 "MoatRanksModel" "filledSet" "I", Cond.methodLink RX10 343 yX10_keptMany, Cond.instanceMethod yX10_keptMany, Cond.selects RX10 yX10_keptMany yX10_keptMany, Cond.initialized RX10, Cond.code yX10_keptMany cX10_keptMany 1 (some .int), Cond.methodLink RX10 334 yX10_keptSet, Cond.instanceMethod yX10_keptSet, Cond.selects RX10 yX10_keptSet yX10_keptSet, Cond.code yX10_keptSet cX10_keptSet 3 (some .int), Cond.fieldLink RX10 9 "MoatRanksModel" "world" "[I", Cond.methodLink RX10 331 yX10_isKept, Cond.instanceMethod yX10_isKept, Cond.selects RX10 yX10_isKept yX10_isKept, Cond.code yX10_isKept cX10_isKept 2 (some .boolean), Cond.methodLink RX10 243 yX10_inviteOf, Cond.instanceMethod yX10_inviteOf, Cond.selects RX10 yX10_inviteOf yX10_inviteOf, Cond.code yX10_inviteOf cX10_inviteOf 3 (some .int), Cond.methodLink RX10 288 yX10_isYear, Cond.instanceMethod yX10_isYear, Cond.selects RX10 yX10_isYear yX10_isYear, Cond.code yX10_isYear cX10_isYear 3 (some .boolean), Cond.methodLink RX10 100 yX10_in]
def wsX10_keptWith_r2 : List Cond := [Cond.static yX10_in, Cond.code yX10_in cX10_in 6 (some .boolean), Cond.methodLink RX10 307 yX10_doesCome, Cond.instanceMethod yX10_doesCome, Cond.selects RX10 yX10_doesCome yX10_doesCome, Cond.code yX10_doesCome cX10_doesCome 4 (some .boolean), Cond.methodLink RX10 303 yX10_doesFord, Cond.instanceMethod yX10_doesFord, Cond.selects RX10 yX10_doesFord yX10_doesFord, Cond.code yX10_doesFord cX10_doesFord 4 (some .boolean), Cond.fieldLink RX10 40 "MoatRanksModel" "swimsOf" "[I", Cond.methodLink RX10 264 yX10_isFrost, Cond.instanceMethod yX10_isFrost, Cond.selects RX10 yX10_isFrost yX10_isFrost, Cond.code yX10_isFrost cX10_isFrost 2 (some .boolean), Cond.fieldLink RX10 252 "MoatRanksModel" "frostSet" "I", Cond.methodLink RX10 258 yX10_bit, Cond.static yX10_bit, Cond.code yX10_bit cX10_bit 2 (some .int), Cond.methodLink RX10 294 yX10_waterIn, Cond.instanceMethod yX10_waterIn, Cond.selects RX10 yX10_waterIn yX10_waterIn, Cond.code yX10_waterIn cX10_waterIn 3 (some .int), Cond.fieldLink RX10 55 "MoatRanksModel" "waterAt" "[I"]
def wsX10_keptWith_r3 : List Cond := [Cond.methodLink RX10 300 yX10_hasPlank, Cond.instanceMethod yX10_hasPlank, Cond.selects RX10 yX10_hasPlank yX10_hasPlank, Cond.code yX10_hasPlank cX10_hasPlank 4 (some .boolean), Cond.fieldLink RX10 46 "MoatRanksModel" "longestMore" "[I", Cond.fieldLink RX10 43 "MoatRanksModel" "plankOn" "[I", Cond.methodLink RX10 236 yX10_of, Cond.instanceMethod yX10_of, Cond.selects RX10 yX10_of yX10_of, Cond.code yX10_of cX10_of 3 (some .int), Cond.methodLink RX10 337 yX10_bits, Cond.static yX10_bits, Cond.code yX10_bits cX10_bits 3 (some .int)]
def wsX10_keptWith : List Cond := .code yX10_keptWith cX10_keptWith 2 (some .int) :: ((wsX10_keptWith_r1 ++ (wsX10_keptWith_r2 ++ wsX10_keptWith_r3)) ++ wsX100)
def wsX10_worth_r1 : List Cond := [Cond.methodLink RX10 285 yX10_asksDukedom, Cond.instanceMethod yX10_asksDukedom, Cond.selects RX10 yX10_asksDukedom yX10_asksDukedom, Cond.initialized RX10, Cond.code yX10_asksDukedom cX10_asksDukedom 1 (some .boolean), Cond.methodLink RX10 276 yX10_asItIs, Cond.instanceMethod yX10_asItIs, Cond.selects RX10 yX10_asItIs yX10_asItIs, Cond.code yX10_asItIs cX10_asItIs 3 none, Cond.fieldLink RX10 9 "MoatRanksModel" "world" "[I", Cond.fieldLink RX10 246 "MoatRanksModel" "lawNow" "I", Cond.fieldLink RX10 249 "MoatRanksModel" "filledSet" "I", Cond.fieldLink RX10 252 "MoatRanksModel" "frostSet" "I", Cond.fieldLink RX10 34 "MoatRanksModel" "waterOf" "[I", Cond.fieldLink RX10 37 "MoatRanksModel" "drainsOf" "[I", Cond.fieldLink RX10 40 "MoatRanksModel" "swimsOf" "[I", Cond.fieldLink RX10 46 "MoatRanksModel" "longestMore" "[I", Cond.fieldLink RX10 43 "MoatRanksModel" "plankOn" "[I", Cond.fieldLink RX10 49 "MoatRanksModel" "rainIn" "[I", Cond.fieldLink RX10 52 "MoatRanksModel" "dredgedIn" "[I", Cond.methodLink RX10 255 Lib.Math.max.name, Cond.static Lib.Math.max.name, Cond.initialized "java/lang/Math", Cond.code Lib.Math.max.name Lib.Math.max.code 2 (some .int)]
def wsX10_worth_r2 : List Cond := [Cond.methodLink RX10 236 yX10_of, Cond.instanceMethod yX10_of, Cond.selects RX10 yX10_of yX10_of, Cond.code yX10_of cX10_of 3 (some .int), Cond.methodLink RX10 279 yX10_goAll, Cond.instanceMethod yX10_goAll, Cond.selects RX10 yX10_goAll yX10_goAll, Cond.code yX10_goAll cX10_goAll 2 none, Cond.fieldLink RX10 67 "MoatRanksModel" "now" "[I", Cond.methodLink RX10 271 yX10_years, Cond.instanceMethod yX10_years, Cond.selects RX10 yX10_years yX10_years, Cond.code yX10_years cX10_years 1 (some .int), Cond.methodLink RX10 273 yX10_goYear, Cond.instanceMethod yX10_goYear, Cond.selects RX10 yX10_goYear yX10_goYear, Cond.code yX10_goYear cX10_goYear 5 none, Cond.fieldLink RX10 64 "MoatRanksModel" "lostAt" "[I", Cond.methodLink RX10 135 Lib.Math.min.name, Cond.static Lib.Math.min.name, Cond.code Lib.Math.min.name Lib.Math.min.code 2 (some .int), Cond.fieldLink RX10 61 "MoatRanksModel" "drainedAt" "[I", Cond.fieldLink RX10 55 "MoatRanksModel" "waterAt" "[I", Cond.methodLink RX10 261 yX10_ranks]
def wsX10_worth_r3 : List Cond := [Cond.instanceMethod yX10_ranks, Cond.selects RX10 yX10_ranks yX10_ranks, Cond.code yX10_ranks cX10_ranks 1 (some .int), Cond.methodLink RX10 264 yX10_isFrost, Cond.instanceMethod yX10_isFrost, Cond.selects RX10 yX10_isFrost yX10_isFrost, Cond.code yX10_isFrost cX10_isFrost 2 (some .boolean), Cond.methodLink RX10 258 yX10_bit, Cond.static yX10_bit, Cond.code yX10_bit cX10_bit 2 (some .int), Cond.methodLink RX10 267 yX10_runsOver, Cond.instanceMethod yX10_runsOver, Cond.selects RX10 yX10_runsOver yX10_runsOver, Cond.code yX10_runsOver cX10_runsOver 6 none, Cond.fieldLink RX10 58 "MoatRanksModel" "spillsAt" "[I", Cond.methodLink RX10 100 yX10_in, Cond.static yX10_in, Cond.code yX10_in cX10_in 6 (some .boolean), Cond.methodLink RX10 282 yX10_isDukedom, Cond.instanceMethod yX10_isDukedom, Cond.selects RX10 yX10_isDukedom yX10_isDukedom, Cond.code yX10_isDukedom cX10_isDukedom 1 (some .boolean), Cond.methodLink RX10 394 yX10_keptWith, Cond.instanceMethod yX10_keptWith]
def wsX10_worth_r4 : List Cond := [Cond.selects RX10 yX10_keptWith yX10_keptWith, Cond.code yX10_keptWith cX10_keptWith 2 (some .int), Cond.methodLink RX10 343 yX10_keptMany, Cond.instanceMethod yX10_keptMany, Cond.selects RX10 yX10_keptMany yX10_keptMany, Cond.code yX10_keptMany cX10_keptMany 1 (some .int), Cond.methodLink RX10 334 yX10_keptSet, Cond.instanceMethod yX10_keptSet, Cond.selects RX10 yX10_keptSet yX10_keptSet, Cond.code yX10_keptSet cX10_keptSet 3 (some .int), Cond.methodLink RX10 331 yX10_isKept, Cond.instanceMethod yX10_isKept, Cond.selects RX10 yX10_isKept yX10_isKept, Cond.code yX10_isKept cX10_isKept 2 (some .boolean), Cond.methodLink RX10 243 yX10_inviteOf, Cond.instanceMethod yX10_inviteOf, Cond.selects RX10 yX10_inviteOf yX10_inviteOf, Cond.code yX10_inviteOf cX10_inviteOf 3 (some .int), Cond.methodLink RX10 288 yX10_isYear, Cond.instanceMethod yX10_isYear, Cond.selects RX10 yX10_isYear yX10_isYear, Cond.code yX10_isYear cX10_isYear 3 (some .boolean), Cond.methodLink RX10 307 yX10_doesCome, Cond.instanceMethod yX10_doesCome]
def wsX10_worth_r5 : List Cond := [Cond.selects RX10 yX10_doesCome yX10_doesCome, Cond.code yX10_doesCome cX10_doesCome 4 (some .boolean), Cond.methodLink RX10 303 yX10_doesFord, Cond.instanceMethod yX10_doesFord, Cond.selects RX10 yX10_doesFord yX10_doesFord, Cond.code yX10_doesFord cX10_doesFord 4 (some .boolean), Cond.methodLink RX10 294 yX10_waterIn, Cond.instanceMethod yX10_waterIn, Cond.selects RX10 yX10_waterIn yX10_waterIn, Cond.code yX10_waterIn cX10_waterIn 3 (some .int), Cond.methodLink RX10 300 yX10_hasPlank, Cond.instanceMethod yX10_hasPlank, Cond.selects RX10 yX10_hasPlank yX10_hasPlank, Cond.code yX10_hasPlank cX10_hasPlank 4 (some .boolean), Cond.methodLink RX10 337 yX10_bits, Cond.static yX10_bits, Cond.code yX10_bits cX10_bits 3 (some .int)]
def wsX10_worth : List Cond := .code yX10_worth cX10_worth 2 (some .int) :: ((wsX10_worth_r1 ++ (wsX10_worth_r2 ++ (wsX10_worth_r3 ++ (wsX10_worth_r4 ++ wsX10_worth_r5)))) ++ wsX100)
def wsX10_factorial : List Cond := .code yX10_factorial cX10_factorial 3 (some .int) :: ([])
def wsX10_divisor : List Cond := .code yX10_divisor cX10_divisor 10 (some .long) :: ([.methodLink RX10 397 Lib.MathLoose.abs_long.x, .static Lib.MathLoose.abs_long.x, .initialized "java/lang/Math", .code Lib.MathLoose.abs_long.x Lib.MathLoose.abs_long.code 2 (some .long)])
def wsX10_part : List Cond := .code yX10_part cX10_part 5 (some .long) :: ([.methodLink RX10 401 yX10_divisor, .static yX10_divisor, .initialized RX10, .code yX10_divisor cX10_divisor 10 (some .long), .methodLink RX10 397 Lib.MathLoose.abs_long.x, .static Lib.MathLoose.abs_long.x, .initialized "java/lang/Math", .code Lib.MathLoose.abs_long.x Lib.MathLoose.abs_long.code 2 (some .long)])
def wsX10_share_r1 : List Cond := [Cond.fieldLink RX10 79 "MoatRanksModel" "worthOf" "[I", Cond.methodLink RX10 297 yX10_asksRank, Cond.instanceMethod yX10_asksRank, Cond.selects RX10 yX10_asksRank yX10_asksRank, Cond.initialized RX10, Cond.code yX10_asksRank cX10_asksRank 2 (some .boolean), Cond.methodLink RX10 285 yX10_asksDukedom, Cond.instanceMethod yX10_asksDukedom, Cond.selects RX10 yX10_asksDukedom yX10_asksDukedom, Cond.code yX10_asksDukedom cX10_asksDukedom 1 (some .boolean), Cond.methodLink RX10 276 yX10_asItIs, Cond.instanceMethod yX10_asItIs, Cond.selects RX10 yX10_asItIs yX10_asItIs, Cond.code yX10_asItIs cX10_asItIs 3 none, Cond.fieldLink RX10 9 "MoatRanksModel" "world" "[I", Cond.fieldLink RX10 246 "MoatRanksModel" "lawNow" "I", Cond.fieldLink RX10 249 "MoatRanksModel" "filledSet" "I", Cond.fieldLink RX10 252 "MoatRanksModel" "frostSet" "I", Cond.fieldLink RX10 34 "MoatRanksModel" "waterOf" "[I", Cond.fieldLink RX10 37 "MoatRanksModel" "drainsOf" "[I", Cond.fieldLink RX10 40 "MoatRanksModel" "swimsOf" "[I", Cond.fieldLink RX10 46 "MoatRanksModel" "longestMore" "[I", Cond.fieldLink RX10 43 "MoatRanksModel" "plankOn" "[I", Cond.fieldLink RX10 49 "MoatRanksModel" "rainIn" "[I"]
def wsX10_share_r2 : List Cond := [Cond.fieldLink RX10 52 "MoatRanksModel" "dredgedIn" "[I", Cond.methodLink RX10 255 Lib.Math.max.name, Cond.static Lib.Math.max.name, Cond.initialized "java/lang/Math", Cond.code Lib.Math.max.name Lib.Math.max.code 2 (some .int), Cond.methodLink RX10 236 yX10_of, Cond.instanceMethod yX10_of, Cond.selects RX10 yX10_of yX10_of, Cond.code yX10_of cX10_of 3 (some .int), Cond.methodLink RX10 279 yX10_goAll, Cond.instanceMethod yX10_goAll, Cond.selects RX10 yX10_goAll yX10_goAll, Cond.code yX10_goAll cX10_goAll 2 none, Cond.fieldLink RX10 67 "MoatRanksModel" "now" "[I", Cond.methodLink RX10 271 yX10_years, Cond.instanceMethod yX10_years, Cond.selects RX10 yX10_years yX10_years, Cond.code yX10_years cX10_years 1 (some .int), Cond.methodLink RX10 273 yX10_goYear, Cond.instanceMethod yX10_goYear, Cond.selects RX10 yX10_goYear yX10_goYear, Cond.code yX10_goYear cX10_goYear 5 none, Cond.fieldLink RX10 64 "MoatRanksModel" "lostAt" "[I", Cond.methodLink RX10 135 Lib.Math.min.name]
def wsX10_share_r3 : List Cond := [Cond.static Lib.Math.min.name, Cond.code Lib.Math.min.name Lib.Math.min.code 2 (some .int), Cond.fieldLink RX10 61 "MoatRanksModel" "drainedAt" "[I", Cond.fieldLink RX10 55 "MoatRanksModel" "waterAt" "[I", Cond.methodLink RX10 261 yX10_ranks, Cond.instanceMethod yX10_ranks, Cond.selects RX10 yX10_ranks yX10_ranks, Cond.code yX10_ranks cX10_ranks 1 (some .int), Cond.methodLink RX10 264 yX10_isFrost, Cond.instanceMethod yX10_isFrost, Cond.selects RX10 yX10_isFrost yX10_isFrost, Cond.code yX10_isFrost cX10_isFrost 2 (some .boolean), Cond.methodLink RX10 258 yX10_bit, Cond.static yX10_bit, Cond.code yX10_bit cX10_bit 2 (some .int), Cond.methodLink RX10 267 yX10_runsOver, Cond.instanceMethod yX10_runsOver, Cond.selects RX10 yX10_runsOver yX10_runsOver, Cond.code yX10_runsOver cX10_runsOver 6 none, Cond.fieldLink RX10 58 "MoatRanksModel" "spillsAt" "[I", Cond.methodLink RX10 100 yX10_in, Cond.static yX10_in, Cond.code yX10_in cX10_in 6 (some .boolean), Cond.methodLink RX10 282 yX10_isDukedom]
def wsX10_share_r4 : List Cond := [Cond.instanceMethod yX10_isDukedom, Cond.selects RX10 yX10_isDukedom yX10_isDukedom, Cond.code yX10_isDukedom cX10_isDukedom 1 (some .boolean), Cond.methodLink RX10 230 yX10_isRank, Cond.instanceMethod yX10_isRank, Cond.selects RX10 yX10_isRank yX10_isRank, Cond.code yX10_isRank cX10_isRank 3 (some .boolean), Cond.methodLink RX10 394 yX10_keptWith, Cond.instanceMethod yX10_keptWith, Cond.selects RX10 yX10_keptWith yX10_keptWith, Cond.code yX10_keptWith cX10_keptWith 2 (some .int), Cond.methodLink RX10 343 yX10_keptMany, Cond.instanceMethod yX10_keptMany, Cond.selects RX10 yX10_keptMany yX10_keptMany, Cond.code yX10_keptMany cX10_keptMany 1 (some .int), Cond.methodLink RX10 334 yX10_keptSet, Cond.instanceMethod yX10_keptSet, Cond.selects RX10 yX10_keptSet yX10_keptSet, Cond.code yX10_keptSet cX10_keptSet 3 (some .int), Cond.methodLink RX10 331 yX10_isKept, Cond.instanceMethod yX10_isKept, Cond.selects RX10 yX10_isKept yX10_isKept, Cond.code yX10_isKept cX10_isKept 2 (some .boolean), Cond.methodLink RX10 243 yX10_inviteOf]
def wsX10_share_r5 : List Cond := [Cond.instanceMethod yX10_inviteOf, Cond.selects RX10 yX10_inviteOf yX10_inviteOf, Cond.code yX10_inviteOf cX10_inviteOf 3 (some .int), Cond.methodLink RX10 288 yX10_isYear, Cond.instanceMethod yX10_isYear, Cond.selects RX10 yX10_isYear yX10_isYear, Cond.code yX10_isYear cX10_isYear 3 (some .boolean), Cond.methodLink RX10 307 yX10_doesCome, Cond.instanceMethod yX10_doesCome, Cond.selects RX10 yX10_doesCome yX10_doesCome, Cond.code yX10_doesCome cX10_doesCome 4 (some .boolean), Cond.methodLink RX10 303 yX10_doesFord, Cond.instanceMethod yX10_doesFord, Cond.selects RX10 yX10_doesFord yX10_doesFord, Cond.code yX10_doesFord cX10_doesFord 4 (some .boolean), Cond.methodLink RX10 294 yX10_waterIn, Cond.instanceMethod yX10_waterIn, Cond.selects RX10 yX10_waterIn yX10_waterIn, Cond.code yX10_waterIn cX10_waterIn 3 (some .int), Cond.methodLink RX10 300 yX10_hasPlank, Cond.instanceMethod yX10_hasPlank, Cond.selects RX10 yX10_hasPlank yX10_hasPlank, Cond.code yX10_hasPlank cX10_hasPlank 4 (some .boolean), Cond.methodLink RX10 337 yX10_bits]
def wsX10_share_r6 : List Cond := [Cond.static yX10_bits, Cond.code yX10_bits cX10_bits 3 (some .int), Cond.methodLink RX10 405 yX10_factorial, Cond.static yX10_factorial, Cond.code yX10_factorial cX10_factorial 3 (some .int), Cond.methodLink RX10 408 yX10_part, Cond.static yX10_part, Cond.code yX10_part cX10_part 5 (some .long), Cond.methodLink RX10 401 yX10_divisor, Cond.static yX10_divisor, Cond.code yX10_divisor cX10_divisor 10 (some .long), Cond.methodLink RX10 397 Lib.MathLoose.abs_long.x, Cond.static Lib.MathLoose.abs_long.x, Cond.code Lib.MathLoose.abs_long.x Lib.MathLoose.abs_long.code 2 (some .long)]
def wsX10_share : List Cond := .code yX10_share cX10_share 6 (some .int) :: ((wsX10_share_r1 ++ (wsX10_share_r2 ++ (wsX10_share_r3 ++ (wsX10_share_r4 ++ (wsX10_share_r5 ++ wsX10_share_r6))))) ++ wsX100)
def wsX10_getsBy_r1 : List Cond := [Cond.fieldLink RX10 249 "MoatRanksModel" "filledSet" "I", Cond.methodLink RX10 285 yX10_asksDukedom, Cond.instanceMethod yX10_asksDukedom, Cond.selects RX10 yX10_asksDukedom yX10_asksDukedom, Cond.initialized RX10, Cond.code yX10_asksDukedom cX10_asksDukedom 1 (some .boolean), Cond.methodLink RX10 276 yX10_asItIs, Cond.instanceMethod yX10_asItIs, Cond.selects RX10 yX10_asItIs yX10_asItIs, Cond.code yX10_asItIs cX10_asItIs 3 none, Cond.fieldLink RX10 9 "MoatRanksModel" "world" "[I", Cond.fieldLink RX10 246 "MoatRanksModel" "lawNow" "I", Cond.fieldLink RX10 252 "MoatRanksModel" "frostSet" "I", Cond.fieldLink RX10 34 "MoatRanksModel" "waterOf" "[I", Cond.fieldLink RX10 37 "MoatRanksModel" "drainsOf" "[I", Cond.fieldLink RX10 40 "MoatRanksModel" "swimsOf" "[I", Cond.fieldLink RX10 46 "MoatRanksModel" "longestMore" "[I", Cond.fieldLink RX10 43 "MoatRanksModel" "plankOn" "[I", Cond.fieldLink RX10 49 "MoatRanksModel" "rainIn" "[I", Cond.fieldLink RX10 52 "MoatRanksModel" "dredgedIn" "[I", Cond.methodLink RX10 255 Lib.Math.max.name, Cond.static Lib.Math.max.name, Cond.initialized "java/lang/Math", Cond.code Lib.Math.max.name Lib.Math.max.code 2 (some .int)]
def wsX10_getsBy_r2 : List Cond := [Cond.methodLink RX10 236 yX10_of, Cond.instanceMethod yX10_of, Cond.selects RX10 yX10_of yX10_of, Cond.code yX10_of cX10_of 3 (some .int), Cond.methodLink RX10 279 yX10_goAll, Cond.instanceMethod yX10_goAll, Cond.selects RX10 yX10_goAll yX10_goAll, Cond.code yX10_goAll cX10_goAll 2 none, Cond.fieldLink RX10 67 "MoatRanksModel" "now" "[I", Cond.methodLink RX10 271 yX10_years, Cond.instanceMethod yX10_years, Cond.selects RX10 yX10_years yX10_years, Cond.code yX10_years cX10_years 1 (some .int), Cond.methodLink RX10 273 yX10_goYear, Cond.instanceMethod yX10_goYear, Cond.selects RX10 yX10_goYear yX10_goYear, Cond.code yX10_goYear cX10_goYear 5 none, Cond.fieldLink RX10 64 "MoatRanksModel" "lostAt" "[I", Cond.methodLink RX10 135 Lib.Math.min.name, Cond.static Lib.Math.min.name, Cond.code Lib.Math.min.name Lib.Math.min.code 2 (some .int), Cond.fieldLink RX10 61 "MoatRanksModel" "drainedAt" "[I", Cond.fieldLink RX10 55 "MoatRanksModel" "waterAt" "[I", Cond.methodLink RX10 261 yX10_ranks]
def wsX10_getsBy_r3 : List Cond := [Cond.instanceMethod yX10_ranks, Cond.selects RX10 yX10_ranks yX10_ranks, Cond.code yX10_ranks cX10_ranks 1 (some .int), Cond.methodLink RX10 264 yX10_isFrost, Cond.instanceMethod yX10_isFrost, Cond.selects RX10 yX10_isFrost yX10_isFrost, Cond.code yX10_isFrost cX10_isFrost 2 (some .boolean), Cond.methodLink RX10 258 yX10_bit, Cond.static yX10_bit, Cond.code yX10_bit cX10_bit 2 (some .int), Cond.methodLink RX10 267 yX10_runsOver, Cond.instanceMethod yX10_runsOver, Cond.selects RX10 yX10_runsOver yX10_runsOver, Cond.code yX10_runsOver cX10_runsOver 6 none, Cond.fieldLink RX10 58 "MoatRanksModel" "spillsAt" "[I", Cond.methodLink RX10 100 yX10_in, Cond.static yX10_in, Cond.code yX10_in cX10_in 6 (some .boolean), Cond.methodLink RX10 282 yX10_isDukedom, Cond.instanceMethod yX10_isDukedom, Cond.selects RX10 yX10_isDukedom yX10_isDukedom, Cond.code yX10_isDukedom cX10_isDukedom 1 (some .boolean), Cond.methodLink RX10 340 yX10_keptOf, Cond.instanceMethod yX10_keptOf]
def wsX10_getsBy_r4 : List Cond := [Cond.selects RX10 yX10_keptOf yX10_keptOf, Cond.code yX10_keptOf cX10_keptOf 5 (some .int), Cond.methodLink RX10 243 yX10_inviteOf, Cond.instanceMethod yX10_inviteOf, Cond.selects RX10 yX10_inviteOf yX10_inviteOf, Cond.code yX10_inviteOf cX10_inviteOf 3 (some .int), Cond.methodLink RX10 331 yX10_isKept, Cond.instanceMethod yX10_isKept, Cond.selects RX10 yX10_isKept yX10_isKept, Cond.code yX10_isKept cX10_isKept 2 (some .boolean), Cond.methodLink RX10 288 yX10_isYear, Cond.instanceMethod yX10_isYear, Cond.selects RX10 yX10_isYear yX10_isYear, Cond.code yX10_isYear cX10_isYear 3 (some .boolean), Cond.methodLink RX10 307 yX10_doesCome, Cond.instanceMethod yX10_doesCome, Cond.selects RX10 yX10_doesCome yX10_doesCome, Cond.code yX10_doesCome cX10_doesCome 4 (some .boolean), Cond.methodLink RX10 303 yX10_doesFord, Cond.instanceMethod yX10_doesFord, Cond.selects RX10 yX10_doesFord yX10_doesFord, Cond.code yX10_doesFord cX10_doesFord 4 (some .boolean), Cond.methodLink RX10 294 yX10_waterIn, Cond.instanceMethod yX10_waterIn]
def wsX10_getsBy_r5 : List Cond := [Cond.selects RX10 yX10_waterIn yX10_waterIn, Cond.code yX10_waterIn cX10_waterIn 3 (some .int), Cond.methodLink RX10 300 yX10_hasPlank, Cond.instanceMethod yX10_hasPlank, Cond.selects RX10 yX10_hasPlank yX10_hasPlank, Cond.code yX10_hasPlank cX10_hasPlank 4 (some .boolean)]
def wsX10_getsBy : List Cond := .code yX10_getsBy cX10_getsBy 7 (some .int) :: ((wsX10_getsBy_r1 ++ (wsX10_getsBy_r2 ++ (wsX10_getsBy_r3 ++ (wsX10_getsBy_r4 ++ wsX10_getsBy_r5)))) ++ wsX100)
def wsX10_rests_r1 : List Cond := [Cond.methodLink RX10 316 yX10_areTwo, Cond.instanceMethod yX10_areTwo, Cond.selects RX10 yX10_areTwo yX10_areTwo, Cond.initialized RX10, Cond.code yX10_areTwo cX10_areTwo 3 (some .boolean), Cond.methodLink RX10 230 yX10_isRank, Cond.instanceMethod yX10_isRank, Cond.selects RX10 yX10_isRank yX10_isRank, Cond.code yX10_isRank cX10_isRank 3 (some .boolean), Cond.fieldLink RX10 9 "MoatRanksModel" "world" "[I", Cond.methodLink RX10 100 yX10_in, Cond.static yX10_in, Cond.code yX10_in cX10_in 6 (some .boolean), Cond.methodLink RX10 412 yX10_getsBy, Cond.instanceMethod yX10_getsBy, Cond.selects RX10 yX10_getsBy yX10_getsBy, Cond.code yX10_getsBy cX10_getsBy 7 (some .int), Cond.fieldLink RX10 249 "MoatRanksModel" "filledSet" "I", Cond.methodLink RX10 285 yX10_asksDukedom, Cond.instanceMethod yX10_asksDukedom, Cond.selects RX10 yX10_asksDukedom yX10_asksDukedom, Cond.code yX10_asksDukedom cX10_asksDukedom 1 (some .boolean), Cond.methodLink RX10 276 yX10_asItIs, Cond.instanceMethod yX10_asItIs]
def wsX10_rests_r2 : List Cond := [Cond.selects RX10 yX10_asItIs yX10_asItIs, Cond.code yX10_asItIs cX10_asItIs 3 none, Cond.fieldLink RX10 246 "MoatRanksModel" "lawNow" "I", Cond.fieldLink RX10 252 "MoatRanksModel" "frostSet" "I", Cond.fieldLink RX10 34 "MoatRanksModel" "waterOf" "[I", Cond.fieldLink RX10 37 "MoatRanksModel" "drainsOf" "[I", Cond.fieldLink RX10 40 "MoatRanksModel" "swimsOf" "[I", Cond.fieldLink RX10 46 "MoatRanksModel" "longestMore" "[I", Cond.fieldLink RX10 43 "MoatRanksModel" "plankOn" "[I", Cond.fieldLink RX10 49 "MoatRanksModel" "rainIn" "[I", Cond.fieldLink RX10 52 "MoatRanksModel" "dredgedIn" "[I", Cond.methodLink RX10 255 Lib.Math.max.name, Cond.static Lib.Math.max.name, Cond.initialized "java/lang/Math", Cond.code Lib.Math.max.name Lib.Math.max.code 2 (some .int), Cond.methodLink RX10 236 yX10_of, Cond.instanceMethod yX10_of, Cond.selects RX10 yX10_of yX10_of, Cond.code yX10_of cX10_of 3 (some .int), Cond.methodLink RX10 279 yX10_goAll, Cond.instanceMethod yX10_goAll, Cond.selects RX10 yX10_goAll yX10_goAll, Cond.code yX10_goAll cX10_goAll 2 none, Cond.fieldLink RX10 67 "MoatRanksModel" "now" "[I"]
def wsX10_rests_r3 : List Cond := [Cond.methodLink RX10 271 yX10_years, Cond.instanceMethod yX10_years, Cond.selects RX10 yX10_years yX10_years, Cond.code yX10_years cX10_years 1 (some .int), Cond.methodLink RX10 273 yX10_goYear, Cond.instanceMethod yX10_goYear, Cond.selects RX10 yX10_goYear yX10_goYear, Cond.code yX10_goYear cX10_goYear 5 none, Cond.fieldLink RX10 64 "MoatRanksModel" "lostAt" "[I", Cond.methodLink RX10 135 Lib.Math.min.name, Cond.static Lib.Math.min.name, Cond.code Lib.Math.min.name Lib.Math.min.code 2 (some .int), Cond.fieldLink RX10 61 "MoatRanksModel" "drainedAt" "[I", Cond.fieldLink RX10 55 "MoatRanksModel" "waterAt" "[I", Cond.methodLink RX10 261 yX10_ranks, Cond.instanceMethod yX10_ranks, Cond.selects RX10 yX10_ranks yX10_ranks, Cond.code yX10_ranks cX10_ranks 1 (some .int), Cond.methodLink RX10 264 yX10_isFrost, Cond.instanceMethod yX10_isFrost, Cond.selects RX10 yX10_isFrost yX10_isFrost, Cond.code yX10_isFrost cX10_isFrost 2 (some .boolean), Cond.methodLink RX10 258 yX10_bit, Cond.static yX10_bit]
def wsX10_rests_r4 : List Cond := [Cond.code yX10_bit cX10_bit 2 (some .int), Cond.methodLink RX10 267 yX10_runsOver, Cond.instanceMethod yX10_runsOver, Cond.selects RX10 yX10_runsOver yX10_runsOver, Cond.code yX10_runsOver cX10_runsOver 6 none, Cond.fieldLink RX10 58 "MoatRanksModel" "spillsAt" "[I", Cond.methodLink RX10 282 yX10_isDukedom, Cond.instanceMethod yX10_isDukedom, Cond.selects RX10 yX10_isDukedom yX10_isDukedom, Cond.code yX10_isDukedom cX10_isDukedom 1 (some .boolean), Cond.methodLink RX10 340 yX10_keptOf, Cond.instanceMethod yX10_keptOf, Cond.selects RX10 yX10_keptOf yX10_keptOf, Cond.code yX10_keptOf cX10_keptOf 5 (some .int), Cond.methodLink RX10 243 yX10_inviteOf, Cond.instanceMethod yX10_inviteOf, Cond.selects RX10 yX10_inviteOf yX10_inviteOf, Cond.code yX10_inviteOf cX10_inviteOf 3 (some .int), Cond.methodLink RX10 331 yX10_isKept, Cond.instanceMethod yX10_isKept, Cond.selects RX10 yX10_isKept yX10_isKept, Cond.code yX10_isKept cX10_isKept 2 (some .boolean), Cond.methodLink RX10 288 yX10_isYear, Cond.instanceMethod yX10_isYear]
def wsX10_rests_r5 : List Cond := [Cond.selects RX10 yX10_isYear yX10_isYear, Cond.code yX10_isYear cX10_isYear 3 (some .boolean), Cond.methodLink RX10 307 yX10_doesCome, Cond.instanceMethod yX10_doesCome, Cond.selects RX10 yX10_doesCome yX10_doesCome, Cond.code yX10_doesCome cX10_doesCome 4 (some .boolean), Cond.methodLink RX10 303 yX10_doesFord, Cond.instanceMethod yX10_doesFord, Cond.selects RX10 yX10_doesFord yX10_doesFord, Cond.code yX10_doesFord cX10_doesFord 4 (some .boolean), Cond.methodLink RX10 294 yX10_waterIn, Cond.instanceMethod yX10_waterIn, Cond.selects RX10 yX10_waterIn yX10_waterIn, Cond.code yX10_waterIn cX10_waterIn 3 (some .int), Cond.methodLink RX10 300 yX10_hasPlank, Cond.instanceMethod yX10_hasPlank, Cond.selects RX10 yX10_hasPlank yX10_hasPlank, Cond.code yX10_hasPlank cX10_hasPlank 4 (some .boolean)]
def wsX10_rests : List Cond := .code yX10_rests cX10_rests 8 (some .int) :: ((wsX10_rests_r1 ++ (wsX10_rests_r2 ++ (wsX10_rests_r3 ++ (wsX10_rests_r4 ++ wsX10_rests_r5)))) ++ wsX100)
def wsX10_gets_r1 : List Cond := [Cond.methodLink RX10 316 yX10_areTwo, Cond.instanceMethod yX10_areTwo, Cond.selects RX10 yX10_areTwo yX10_areTwo, Cond.initialized RX10, Cond.code yX10_areTwo cX10_areTwo 3 (some .boolean), Cond.methodLink RX10 230 yX10_isRank, Cond.instanceMethod yX10_isRank, Cond.selects RX10 yX10_isRank yX10_isRank, Cond.code yX10_isRank cX10_isRank 3 (some .boolean), Cond.fieldLink RX10 9 "MoatRanksModel" "world" "[I", Cond.methodLink RX10 100 yX10_in, Cond.static yX10_in, Cond.code yX10_in cX10_in 6 (some .boolean), Cond.methodLink RX10 412 yX10_getsBy, Cond.instanceMethod yX10_getsBy, Cond.selects RX10 yX10_getsBy yX10_getsBy, Cond.code yX10_getsBy cX10_getsBy 7 (some .int), Cond.fieldLink RX10 249 "MoatRanksModel" "filledSet" "I", Cond.methodLink RX10 285 yX10_asksDukedom, Cond.instanceMethod yX10_asksDukedom, Cond.selects RX10 yX10_asksDukedom yX10_asksDukedom, Cond.code yX10_asksDukedom cX10_asksDukedom 1 (some .boolean), Cond.methodLink RX10 276 yX10_asItIs, Cond.instanceMethod yX10_asItIs]
def wsX10_gets_r2 : List Cond := [Cond.selects RX10 yX10_asItIs yX10_asItIs, Cond.code yX10_asItIs cX10_asItIs 3 none, Cond.fieldLink RX10 246 "MoatRanksModel" "lawNow" "I", Cond.fieldLink RX10 252 "MoatRanksModel" "frostSet" "I", Cond.fieldLink RX10 34 "MoatRanksModel" "waterOf" "[I", Cond.fieldLink RX10 37 "MoatRanksModel" "drainsOf" "[I", Cond.fieldLink RX10 40 "MoatRanksModel" "swimsOf" "[I", Cond.fieldLink RX10 46 "MoatRanksModel" "longestMore" "[I", Cond.fieldLink RX10 43 "MoatRanksModel" "plankOn" "[I", Cond.fieldLink RX10 49 "MoatRanksModel" "rainIn" "[I", Cond.fieldLink RX10 52 "MoatRanksModel" "dredgedIn" "[I", Cond.methodLink RX10 255 Lib.Math.max.name, Cond.static Lib.Math.max.name, Cond.initialized "java/lang/Math", Cond.code Lib.Math.max.name Lib.Math.max.code 2 (some .int), Cond.methodLink RX10 236 yX10_of, Cond.instanceMethod yX10_of, Cond.selects RX10 yX10_of yX10_of, Cond.code yX10_of cX10_of 3 (some .int), Cond.methodLink RX10 279 yX10_goAll, Cond.instanceMethod yX10_goAll, Cond.selects RX10 yX10_goAll yX10_goAll, Cond.code yX10_goAll cX10_goAll 2 none, Cond.fieldLink RX10 67 "MoatRanksModel" "now" "[I"]
def wsX10_gets_r3 : List Cond := [Cond.methodLink RX10 271 yX10_years, Cond.instanceMethod yX10_years, Cond.selects RX10 yX10_years yX10_years, Cond.code yX10_years cX10_years 1 (some .int), Cond.methodLink RX10 273 yX10_goYear, Cond.instanceMethod yX10_goYear, Cond.selects RX10 yX10_goYear yX10_goYear, Cond.code yX10_goYear cX10_goYear 5 none, Cond.fieldLink RX10 64 "MoatRanksModel" "lostAt" "[I", Cond.methodLink RX10 135 Lib.Math.min.name, Cond.static Lib.Math.min.name, Cond.code Lib.Math.min.name Lib.Math.min.code 2 (some .int), Cond.fieldLink RX10 61 "MoatRanksModel" "drainedAt" "[I", Cond.fieldLink RX10 55 "MoatRanksModel" "waterAt" "[I", Cond.methodLink RX10 261 yX10_ranks, Cond.instanceMethod yX10_ranks, Cond.selects RX10 yX10_ranks yX10_ranks, Cond.code yX10_ranks cX10_ranks 1 (some .int), Cond.methodLink RX10 264 yX10_isFrost, Cond.instanceMethod yX10_isFrost, Cond.selects RX10 yX10_isFrost yX10_isFrost, Cond.code yX10_isFrost cX10_isFrost 2 (some .boolean), Cond.methodLink RX10 258 yX10_bit, Cond.static yX10_bit]
def wsX10_gets_r4 : List Cond := [Cond.code yX10_bit cX10_bit 2 (some .int), Cond.methodLink RX10 267 yX10_runsOver, Cond.instanceMethod yX10_runsOver, Cond.selects RX10 yX10_runsOver yX10_runsOver, Cond.code yX10_runsOver cX10_runsOver 6 none, Cond.fieldLink RX10 58 "MoatRanksModel" "spillsAt" "[I", Cond.methodLink RX10 282 yX10_isDukedom, Cond.instanceMethod yX10_isDukedom, Cond.selects RX10 yX10_isDukedom yX10_isDukedom, Cond.code yX10_isDukedom cX10_isDukedom 1 (some .boolean), Cond.methodLink RX10 340 yX10_keptOf, Cond.instanceMethod yX10_keptOf, Cond.selects RX10 yX10_keptOf yX10_keptOf, Cond.code yX10_keptOf cX10_keptOf 5 (some .int), Cond.methodLink RX10 243 yX10_inviteOf, Cond.instanceMethod yX10_inviteOf, Cond.selects RX10 yX10_inviteOf yX10_inviteOf, Cond.code yX10_inviteOf cX10_inviteOf 3 (some .int), Cond.methodLink RX10 331 yX10_isKept, Cond.instanceMethod yX10_isKept, Cond.selects RX10 yX10_isKept yX10_isKept, Cond.code yX10_isKept cX10_isKept 2 (some .boolean), Cond.methodLink RX10 288 yX10_isYear, Cond.instanceMethod yX10_isYear]
def wsX10_gets_r5 : List Cond := [Cond.selects RX10 yX10_isYear yX10_isYear, Cond.code yX10_isYear cX10_isYear 3 (some .boolean), Cond.methodLink RX10 307 yX10_doesCome, Cond.instanceMethod yX10_doesCome, Cond.selects RX10 yX10_doesCome yX10_doesCome, Cond.code yX10_doesCome cX10_doesCome 4 (some .boolean), Cond.methodLink RX10 303 yX10_doesFord, Cond.instanceMethod yX10_doesFord, Cond.selects RX10 yX10_doesFord yX10_doesFord, Cond.code yX10_doesFord cX10_doesFord 4 (some .boolean), Cond.methodLink RX10 294 yX10_waterIn, Cond.instanceMethod yX10_waterIn, Cond.selects RX10 yX10_waterIn yX10_waterIn, Cond.code yX10_waterIn cX10_waterIn 3 (some .int), Cond.methodLink RX10 300 yX10_hasPlank, Cond.instanceMethod yX10_hasPlank, Cond.selects RX10 yX10_hasPlank yX10_hasPlank, Cond.code yX10_hasPlank cX10_hasPlank 4 (some .boolean)]
def wsX10_gets : List Cond := .code yX10_gets cX10_gets 5 (some .int) :: ((wsX10_gets_r1 ++ (wsX10_gets_r2 ++ (wsX10_gets_r3 ++ (wsX10_gets_r4 ++ wsX10_gets_r5)))) ++ wsX100)
def wsX10_layFrosts_r1 : List Cond := [Cond.fieldLink RX10 416 "MoatRanksModel" "oftenAll" "J", Cond.fieldLink RX10 420 "MoatRanksModel" "oftenComes" "J", Cond.fieldLink RX10 423 "MoatRanksModel" "oftenWater" "J", Cond.fieldLink RX10 252 "MoatRanksModel" "frostSet" "I", Cond.fieldLink RX10 9 "MoatRanksModel" "world" "[I", Cond.methodLink RX10 276 yX10_asItIs, Cond.instanceMethod yX10_asItIs, Cond.selects RX10 yX10_asItIs yX10_asItIs, Cond.initialized RX10, Cond.code yX10_asItIs cX10_asItIs 3 none, Cond.fieldLink RX10 246 "MoatRanksModel" "lawNow" "I", Cond.fieldLink RX10 249 "MoatRanksModel" "filledSet" "I", Cond.fieldLink RX10 34 "MoatRanksModel" "waterOf" "[I", Cond.fieldLink RX10 37 "MoatRanksModel" "drainsOf" "[I", Cond.fieldLink RX10 40 "MoatRanksModel" "swimsOf" "[I", Cond.fieldLink RX10 46 "MoatRanksModel" "longestMore" "[I", Cond.fieldLink RX10 43 "MoatRanksModel" "plankOn" "[I", Cond.fieldLink RX10 49 "MoatRanksModel" "rainIn" "[I", Cond.fieldLink RX10 52 "MoatRanksModel" "dredgedIn" "[I", Cond.methodLink RX10 255 Lib.Math.max.name, Cond.static Lib.Math.max.name, Cond.initialized "java/lang/Math", Cond.code Lib.Math.max.name Lib.Math.max.code 2 (some .int), Cond.methodLink RX10 236 yX10_of]
def wsX10_layFrosts_r2 : List Cond := [Cond.instanceMethod yX10_of, Cond.selects RX10 yX10_of yX10_of, Cond.code yX10_of cX10_of 3 (some .int), Cond.methodLink RX10 258 yX10_bit, Cond.static yX10_bit, Cond.code yX10_bit cX10_bit 2 (some .int), Cond.methodLink RX10 279 yX10_goAll, Cond.instanceMethod yX10_goAll, Cond.selects RX10 yX10_goAll yX10_goAll, Cond.code yX10_goAll cX10_goAll 2 none, Cond.fieldLink RX10 67 "MoatRanksModel" "now" "[I", Cond.methodLink RX10 271 yX10_years, Cond.instanceMethod yX10_years, Cond.selects RX10 yX10_years yX10_years, Cond.code yX10_years cX10_years 1 (some .int), Cond.methodLink RX10 273 yX10_goYear, Cond.instanceMethod yX10_goYear, Cond.selects RX10 yX10_goYear yX10_goYear, Cond.code yX10_goYear cX10_goYear 5 none, Cond.fieldLink RX10 64 "MoatRanksModel" "lostAt" "[I", Cond.methodLink RX10 135 Lib.Math.min.name, Cond.static Lib.Math.min.name, Cond.code Lib.Math.min.name Lib.Math.min.code 2 (some .int), Cond.fieldLink RX10 61 "MoatRanksModel" "drainedAt" "[I"]
def wsX10_layFrosts_r3 : List Cond := [Cond.fieldLink RX10 55 "MoatRanksModel" "waterAt" "[I", Cond.methodLink RX10 261 yX10_ranks, Cond.instanceMethod yX10_ranks, Cond.selects RX10 yX10_ranks yX10_ranks, Cond.code yX10_ranks cX10_ranks 1 (some .int), Cond.methodLink RX10 264 yX10_isFrost, Cond.instanceMethod yX10_isFrost, Cond.selects RX10 yX10_isFrost yX10_isFrost, Cond.code yX10_isFrost cX10_isFrost 2 (some .boolean), Cond.methodLink RX10 267 yX10_runsOver, Cond.instanceMethod yX10_runsOver, Cond.selects RX10 yX10_runsOver yX10_runsOver, Cond.code yX10_runsOver cX10_runsOver 6 none, Cond.fieldLink RX10 58 "MoatRanksModel" "spillsAt" "[I", Cond.methodLink RX10 100 yX10_in, Cond.static yX10_in, Cond.code yX10_in cX10_in 6 (some .boolean), Cond.methodLink RX10 307 yX10_doesCome, Cond.instanceMethod yX10_doesCome, Cond.selects RX10 yX10_doesCome yX10_doesCome, Cond.code yX10_doesCome cX10_doesCome 4 (some .boolean), Cond.methodLink RX10 303 yX10_doesFord, Cond.instanceMethod yX10_doesFord, Cond.selects RX10 yX10_doesFord yX10_doesFord]
def wsX10_layFrosts_r4 : List Cond := [Cond.code yX10_doesFord cX10_doesFord 4 (some .boolean), Cond.methodLink RX10 294 yX10_waterIn, Cond.instanceMethod yX10_waterIn, Cond.selects RX10 yX10_waterIn yX10_waterIn, Cond.code yX10_waterIn cX10_waterIn 3 (some .int), Cond.methodLink RX10 300 yX10_hasPlank, Cond.instanceMethod yX10_hasPlank, Cond.selects RX10 yX10_hasPlank yX10_hasPlank, Cond.code yX10_hasPlank cX10_hasPlank 4 (some .boolean)]
def wsX10_layFrosts : List Cond := .code yX10_layFrosts cX10_layFrosts 9 none :: ((wsX10_layFrosts_r1 ++ (wsX10_layFrosts_r2 ++ (wsX10_layFrosts_r3 ++ wsX10_layFrosts_r4))) ++ wsX100)
def wsX10_isFrosts : List Cond := .code yX10_isFrosts cX10_isFrosts 3 (some .boolean) :: ([.constantLong RX10 426 (7), .methodLink RX10 288 yX10_isYear, .instanceMethod yX10_isYear, .selects RX10 yX10_isYear yX10_isYear, .initialized RX10, .code yX10_isYear cX10_isYear 3 (some .boolean), .fieldLink RX10 9 "MoatRanksModel" "world" "[I", .methodLink RX10 100 yX10_in, .static yX10_in, .code yX10_in cX10_in 6 (some .boolean)] ++ wsX100)
def wsX10_chance_r1 : List Cond := [Cond.constantLong RX10 431 (-2), Cond.fieldLink RX10 420 "MoatRanksModel" "oftenComes" "J", Cond.fieldLink RX10 416 "MoatRanksModel" "oftenAll" "J", Cond.methodLink RX10 316 yX10_areTwo, Cond.instanceMethod yX10_areTwo, Cond.selects RX10 yX10_areTwo yX10_areTwo, Cond.initialized RX10, Cond.code yX10_areTwo cX10_areTwo 3 (some .boolean), Cond.methodLink RX10 230 yX10_isRank, Cond.instanceMethod yX10_isRank, Cond.selects RX10 yX10_isRank yX10_isRank, Cond.code yX10_isRank cX10_isRank 3 (some .boolean), Cond.fieldLink RX10 9 "MoatRanksModel" "world" "[I", Cond.methodLink RX10 100 yX10_in, Cond.static yX10_in, Cond.code yX10_in cX10_in 6 (some .boolean), Cond.methodLink RX10 428 yX10_isFrosts, Cond.instanceMethod yX10_isFrosts, Cond.selects RX10 yX10_isFrosts yX10_isFrosts, Cond.code yX10_isFrosts cX10_isFrosts 3 (some .boolean), Cond.constantLong RX10 426 (7), Cond.methodLink RX10 288 yX10_isYear, Cond.instanceMethod yX10_isYear, Cond.selects RX10 yX10_isYear yX10_isYear]
def wsX10_chance_r2 : List Cond := [Cond.code yX10_isYear cX10_isYear 3 (some .boolean), Cond.methodLink RX10 433 yX10_layFrosts, Cond.instanceMethod yX10_layFrosts, Cond.selects RX10 yX10_layFrosts yX10_layFrosts, Cond.code yX10_layFrosts cX10_layFrosts 9 none, Cond.fieldLink RX10 423 "MoatRanksModel" "oftenWater" "J", Cond.fieldLink RX10 252 "MoatRanksModel" "frostSet" "I", Cond.methodLink RX10 276 yX10_asItIs, Cond.instanceMethod yX10_asItIs, Cond.selects RX10 yX10_asItIs yX10_asItIs, Cond.code yX10_asItIs cX10_asItIs 3 none, Cond.fieldLink RX10 246 "MoatRanksModel" "lawNow" "I", Cond.fieldLink RX10 249 "MoatRanksModel" "filledSet" "I", Cond.fieldLink RX10 34 "MoatRanksModel" "waterOf" "[I", Cond.fieldLink RX10 37 "MoatRanksModel" "drainsOf" "[I", Cond.fieldLink RX10 40 "MoatRanksModel" "swimsOf" "[I", Cond.fieldLink RX10 46 "MoatRanksModel" "longestMore" "[I", Cond.fieldLink RX10 43 "MoatRanksModel" "plankOn" "[I", Cond.fieldLink RX10 49 "MoatRanksModel" "rainIn" "[I", Cond.fieldLink RX10 52 "MoatRanksModel" "dredgedIn" "[I", Cond.methodLink RX10 255 Lib.Math.max.name, Cond.static Lib.Math.max.name, Cond.initialized "java/lang/Math", Cond.code Lib.Math.max.name Lib.Math.max.code 2 (some .int)]
def wsX10_chance_r3 : List Cond := [Cond.methodLink RX10 236 yX10_of, Cond.instanceMethod yX10_of, Cond.selects RX10 yX10_of yX10_of, Cond.code yX10_of cX10_of 3 (some .int), Cond.methodLink RX10 258 yX10_bit, Cond.static yX10_bit, Cond.code yX10_bit cX10_bit 2 (some .int), Cond.methodLink RX10 279 yX10_goAll, Cond.instanceMethod yX10_goAll, Cond.selects RX10 yX10_goAll yX10_goAll, Cond.code yX10_goAll cX10_goAll 2 none, Cond.fieldLink RX10 67 "MoatRanksModel" "now" "[I", Cond.methodLink RX10 271 yX10_years, Cond.instanceMethod yX10_years, Cond.selects RX10 yX10_years yX10_years, Cond.code yX10_years cX10_years 1 (some .int), Cond.methodLink RX10 273 yX10_goYear, Cond.instanceMethod yX10_goYear, Cond.selects RX10 yX10_goYear yX10_goYear, Cond.code yX10_goYear cX10_goYear 5 none, Cond.fieldLink RX10 64 "MoatRanksModel" "lostAt" "[I", Cond.methodLink RX10 135 Lib.Math.min.name, Cond.static Lib.Math.min.name, Cond.code Lib.Math.min.name Lib.Math.min.code 2 (some .int)]
def wsX10_chance_r4 : List Cond := [Cond.fieldLink RX10 61 "MoatRanksModel" "drainedAt" "[I", Cond.fieldLink RX10 55 "MoatRanksModel" "waterAt" "[I", Cond.methodLink RX10 261 yX10_ranks, Cond.instanceMethod yX10_ranks, Cond.selects RX10 yX10_ranks yX10_ranks, Cond.code yX10_ranks cX10_ranks 1 (some .int), Cond.methodLink RX10 264 yX10_isFrost, Cond.instanceMethod yX10_isFrost, Cond.selects RX10 yX10_isFrost yX10_isFrost, Cond.code yX10_isFrost cX10_isFrost 2 (some .boolean), Cond.methodLink RX10 267 yX10_runsOver, Cond.instanceMethod yX10_runsOver, Cond.selects RX10 yX10_runsOver yX10_runsOver, Cond.code yX10_runsOver cX10_runsOver 6 none, Cond.fieldLink RX10 58 "MoatRanksModel" "spillsAt" "[I", Cond.methodLink RX10 307 yX10_doesCome, Cond.instanceMethod yX10_doesCome, Cond.selects RX10 yX10_doesCome yX10_doesCome, Cond.code yX10_doesCome cX10_doesCome 4 (some .boolean), Cond.methodLink RX10 303 yX10_doesFord, Cond.instanceMethod yX10_doesFord, Cond.selects RX10 yX10_doesFord yX10_doesFord, Cond.code yX10_doesFord cX10_doesFord 4 (some .boolean), Cond.methodLink RX10 294 yX10_waterIn]
def wsX10_chance_r5 : List Cond := [Cond.instanceMethod yX10_waterIn, Cond.selects RX10 yX10_waterIn yX10_waterIn, Cond.code yX10_waterIn cX10_waterIn 3 (some .int), Cond.methodLink RX10 300 yX10_hasPlank, Cond.instanceMethod yX10_hasPlank, Cond.selects RX10 yX10_hasPlank yX10_hasPlank, Cond.code yX10_hasPlank cX10_hasPlank 4 (some .boolean), Cond.methodLink RX10 408 yX10_part, Cond.static yX10_part, Cond.code yX10_part cX10_part 5 (some .long), Cond.methodLink RX10 401 yX10_divisor, Cond.static yX10_divisor, Cond.code yX10_divisor cX10_divisor 10 (some .long), Cond.methodLink RX10 397 Lib.MathLoose.abs_long.x, Cond.static Lib.MathLoose.abs_long.x, Cond.code Lib.MathLoose.abs_long.x Lib.MathLoose.abs_long.code 2 (some .long)]
def wsX10_chance : List Cond := .code yX10_chance cX10_chance 5 (some .long) :: ((wsX10_chance_r1 ++ (wsX10_chance_r2 ++ (wsX10_chance_r3 ++ (wsX10_chance_r4 ++ wsX10_chance_r5)))) ++ wsX100)
def wsX10_mean_r1 : List Cond := [Cond.constantLong RX10 431 (-2), Cond.fieldLink RX10 423 "MoatRanksModel" "oftenWater" "J", Cond.fieldLink RX10 416 "MoatRanksModel" "oftenAll" "J", Cond.methodLink RX10 230 yX10_isRank, Cond.instanceMethod yX10_isRank, Cond.selects RX10 yX10_isRank yX10_isRank, Cond.initialized RX10, Cond.code yX10_isRank cX10_isRank 3 (some .boolean), Cond.fieldLink RX10 9 "MoatRanksModel" "world" "[I", Cond.methodLink RX10 100 yX10_in, Cond.static yX10_in, Cond.code yX10_in cX10_in 6 (some .boolean), Cond.methodLink RX10 428 yX10_isFrosts, Cond.instanceMethod yX10_isFrosts, Cond.selects RX10 yX10_isFrosts yX10_isFrosts, Cond.code yX10_isFrosts cX10_isFrosts 3 (some .boolean), Cond.constantLong RX10 426 (7), Cond.methodLink RX10 288 yX10_isYear, Cond.instanceMethod yX10_isYear, Cond.selects RX10 yX10_isYear yX10_isYear, Cond.code yX10_isYear cX10_isYear 3 (some .boolean), Cond.methodLink RX10 433 yX10_layFrosts, Cond.instanceMethod yX10_layFrosts, Cond.selects RX10 yX10_layFrosts yX10_layFrosts]
def wsX10_mean_r2 : List Cond := [Cond.code yX10_layFrosts cX10_layFrosts 9 none, Cond.fieldLink RX10 420 "MoatRanksModel" "oftenComes" "J", Cond.fieldLink RX10 252 "MoatRanksModel" "frostSet" "I", Cond.methodLink RX10 276 yX10_asItIs, Cond.instanceMethod yX10_asItIs, Cond.selects RX10 yX10_asItIs yX10_asItIs, Cond.code yX10_asItIs cX10_asItIs 3 none, Cond.fieldLink RX10 246 "MoatRanksModel" "lawNow" "I", Cond.fieldLink RX10 249 "MoatRanksModel" "filledSet" "I", Cond.fieldLink RX10 34 "MoatRanksModel" "waterOf" "[I", Cond.fieldLink RX10 37 "MoatRanksModel" "drainsOf" "[I", Cond.fieldLink RX10 40 "MoatRanksModel" "swimsOf" "[I", Cond.fieldLink RX10 46 "MoatRanksModel" "longestMore" "[I", Cond.fieldLink RX10 43 "MoatRanksModel" "plankOn" "[I", Cond.fieldLink RX10 49 "MoatRanksModel" "rainIn" "[I", Cond.fieldLink RX10 52 "MoatRanksModel" "dredgedIn" "[I", Cond.methodLink RX10 255 Lib.Math.max.name, Cond.static Lib.Math.max.name, Cond.initialized "java/lang/Math", Cond.code Lib.Math.max.name Lib.Math.max.code 2 (some .int), Cond.methodLink RX10 236 yX10_of, Cond.instanceMethod yX10_of, Cond.selects RX10 yX10_of yX10_of, Cond.code yX10_of cX10_of 3 (some .int)]
def wsX10_mean_r3 : List Cond := [Cond.methodLink RX10 258 yX10_bit, Cond.static yX10_bit, Cond.code yX10_bit cX10_bit 2 (some .int), Cond.methodLink RX10 279 yX10_goAll, Cond.instanceMethod yX10_goAll, Cond.selects RX10 yX10_goAll yX10_goAll, Cond.code yX10_goAll cX10_goAll 2 none, Cond.fieldLink RX10 67 "MoatRanksModel" "now" "[I", Cond.methodLink RX10 271 yX10_years, Cond.instanceMethod yX10_years, Cond.selects RX10 yX10_years yX10_years, Cond.code yX10_years cX10_years 1 (some .int), Cond.methodLink RX10 273 yX10_goYear, Cond.instanceMethod yX10_goYear, Cond.selects RX10 yX10_goYear yX10_goYear, Cond.code yX10_goYear cX10_goYear 5 none, Cond.fieldLink RX10 64 "MoatRanksModel" "lostAt" "[I", Cond.methodLink RX10 135 Lib.Math.min.name, Cond.static Lib.Math.min.name, Cond.code Lib.Math.min.name Lib.Math.min.code 2 (some .int), Cond.fieldLink RX10 61 "MoatRanksModel" "drainedAt" "[I", Cond.fieldLink RX10 55 "MoatRanksModel" "waterAt" "[I", Cond.methodLink RX10 261 yX10_ranks, Cond.instanceMethod yX10_ranks]
def wsX10_mean_r4 : List Cond := [Cond.selects RX10 yX10_ranks yX10_ranks, Cond.code yX10_ranks cX10_ranks 1 (some .int), Cond.methodLink RX10 264 yX10_isFrost, Cond.instanceMethod yX10_isFrost, Cond.selects RX10 yX10_isFrost yX10_isFrost, Cond.code yX10_isFrost cX10_isFrost 2 (some .boolean), Cond.methodLink RX10 267 yX10_runsOver, Cond.instanceMethod yX10_runsOver, Cond.selects RX10 yX10_runsOver yX10_runsOver, Cond.code yX10_runsOver cX10_runsOver 6 none, Cond.fieldLink RX10 58 "MoatRanksModel" "spillsAt" "[I", Cond.methodLink RX10 307 yX10_doesCome, Cond.instanceMethod yX10_doesCome, Cond.selects RX10 yX10_doesCome yX10_doesCome, Cond.code yX10_doesCome cX10_doesCome 4 (some .boolean), Cond.methodLink RX10 303 yX10_doesFord, Cond.instanceMethod yX10_doesFord, Cond.selects RX10 yX10_doesFord yX10_doesFord, Cond.code yX10_doesFord cX10_doesFord 4 (some .boolean), Cond.methodLink RX10 294 yX10_waterIn, Cond.instanceMethod yX10_waterIn, Cond.selects RX10 yX10_waterIn yX10_waterIn, Cond.code yX10_waterIn cX10_waterIn 3 (some .int), Cond.methodLink RX10 300 yX10_hasPlank]
def wsX10_mean_r5 : List Cond := [Cond.instanceMethod yX10_hasPlank, Cond.selects RX10 yX10_hasPlank yX10_hasPlank, Cond.code yX10_hasPlank cX10_hasPlank 4 (some .boolean), Cond.methodLink RX10 408 yX10_part, Cond.static yX10_part, Cond.code yX10_part cX10_part 5 (some .long), Cond.methodLink RX10 401 yX10_divisor, Cond.static yX10_divisor, Cond.code yX10_divisor cX10_divisor 10 (some .long), Cond.methodLink RX10 397 Lib.MathLoose.abs_long.x, Cond.static Lib.MathLoose.abs_long.x, Cond.code Lib.MathLoose.abs_long.x Lib.MathLoose.abs_long.code 2 (some .long)]
def wsX10_mean : List Cond := .code yX10_mean cX10_mean 4 (some .long) :: ((wsX10_mean_r1 ++ (wsX10_mean_r2 ++ (wsX10_mean_r3 ++ (wsX10_mean_r4 ++ wsX10_mean_r5)))) ++ wsX100)
def wsX10_keepAct_r1 : List Cond := [Cond.fieldLink RX10 9 "MoatRanksModel" "world" "[I", Cond.methodLink RX10 285 yX10_asksDukedom, Cond.instanceMethod yX10_asksDukedom, Cond.selects RX10 yX10_asksDukedom yX10_asksDukedom, Cond.initialized RX10, Cond.code yX10_asksDukedom cX10_asksDukedom 1 (some .boolean), Cond.methodLink RX10 276 yX10_asItIs, Cond.instanceMethod yX10_asItIs, Cond.selects RX10 yX10_asItIs yX10_asItIs, Cond.code yX10_asItIs cX10_asItIs 3 none, Cond.fieldLink RX10 246 "MoatRanksModel" "lawNow" "I", Cond.fieldLink RX10 249 "MoatRanksModel" "filledSet" "I", Cond.fieldLink RX10 252 "MoatRanksModel" "frostSet" "I", Cond.fieldLink RX10 34 "MoatRanksModel" "waterOf" "[I", Cond.fieldLink RX10 37 "MoatRanksModel" "drainsOf" "[I", Cond.fieldLink RX10 40 "MoatRanksModel" "swimsOf" "[I", Cond.fieldLink RX10 46 "MoatRanksModel" "longestMore" "[I", Cond.fieldLink RX10 43 "MoatRanksModel" "plankOn" "[I", Cond.fieldLink RX10 49 "MoatRanksModel" "rainIn" "[I", Cond.fieldLink RX10 52 "MoatRanksModel" "dredgedIn" "[I", Cond.methodLink RX10 255 Lib.Math.max.name, Cond.static Lib.Math.max.name, Cond.initialized "java/lang/Math", Cond.code Lib.Math.max.name Lib.Math.max.code 2 (some .int)]
def wsX10_keepAct_r2 : List Cond := [Cond.methodLink RX10 236 yX10_of, Cond.instanceMethod yX10_of, Cond.selects RX10 yX10_of yX10_of, Cond.code yX10_of cX10_of 3 (some .int), Cond.methodLink RX10 279 yX10_goAll, Cond.instanceMethod yX10_goAll, Cond.selects RX10 yX10_goAll yX10_goAll, Cond.code yX10_goAll cX10_goAll 2 none, Cond.fieldLink RX10 67 "MoatRanksModel" "now" "[I", Cond.methodLink RX10 271 yX10_years, Cond.instanceMethod yX10_years, Cond.selects RX10 yX10_years yX10_years, Cond.code yX10_years cX10_years 1 (some .int), Cond.methodLink RX10 273 yX10_goYear, Cond.instanceMethod yX10_goYear, Cond.selects RX10 yX10_goYear yX10_goYear, Cond.code yX10_goYear cX10_goYear 5 none, Cond.fieldLink RX10 64 "MoatRanksModel" "lostAt" "[I", Cond.methodLink RX10 135 Lib.Math.min.name, Cond.static Lib.Math.min.name, Cond.code Lib.Math.min.name Lib.Math.min.code 2 (some .int), Cond.fieldLink RX10 61 "MoatRanksModel" "drainedAt" "[I", Cond.fieldLink RX10 55 "MoatRanksModel" "waterAt" "[I", Cond.methodLink RX10 261 yX10_ranks]
def wsX10_keepAct_r3 : List Cond := [Cond.instanceMethod yX10_ranks, Cond.selects RX10 yX10_ranks yX10_ranks, Cond.code yX10_ranks cX10_ranks 1 (some .int), Cond.methodLink RX10 264 yX10_isFrost, Cond.instanceMethod yX10_isFrost, Cond.selects RX10 yX10_isFrost yX10_isFrost, Cond.code yX10_isFrost cX10_isFrost 2 (some .boolean), Cond.methodLink RX10 258 yX10_bit, Cond.static yX10_bit, Cond.code yX10_bit cX10_bit 2 (some .int), Cond.methodLink RX10 267 yX10_runsOver, Cond.instanceMethod yX10_runsOver, Cond.selects RX10 yX10_runsOver yX10_runsOver, Cond.code yX10_runsOver cX10_runsOver 6 none, Cond.fieldLink RX10 58 "MoatRanksModel" "spillsAt" "[I", Cond.methodLink RX10 100 yX10_in, Cond.static yX10_in, Cond.code yX10_in cX10_in 6 (some .boolean), Cond.methodLink RX10 282 yX10_isDukedom, Cond.instanceMethod yX10_isDukedom, Cond.selects RX10 yX10_isDukedom yX10_isDukedom, Cond.code yX10_isDukedom cX10_isDukedom 1 (some .boolean)]
def wsX10_keepAct : List Cond := .code yX10_keepAct cX10_keepAct 2 (some .int) :: ((wsX10_keepAct_r1 ++ (wsX10_keepAct_r2 ++ wsX10_keepAct_r3)) ++ wsX100)
def wsX10_adds_r1 : List Cond := [Cond.constantLong RX10 436 (9), Cond.methodLink RX10 230 yX10_isRank, Cond.instanceMethod yX10_isRank, Cond.selects RX10 yX10_isRank yX10_isRank, Cond.initialized RX10, Cond.code yX10_isRank cX10_isRank 3 (some .boolean), Cond.fieldLink RX10 9 "MoatRanksModel" "world" "[I", Cond.methodLink RX10 100 yX10_in, Cond.static yX10_in, Cond.code yX10_in cX10_in 6 (some .boolean), Cond.methodLink RX10 438 yX10_keepAct, Cond.instanceMethod yX10_keepAct, Cond.selects RX10 yX10_keepAct yX10_keepAct, Cond.code yX10_keepAct cX10_keepAct 2 (some .int), Cond.methodLink RX10 285 yX10_asksDukedom, Cond.instanceMethod yX10_asksDukedom, Cond.selects RX10 yX10_asksDukedom yX10_asksDukedom, Cond.code yX10_asksDukedom cX10_asksDukedom 1 (some .boolean), Cond.methodLink RX10 276 yX10_asItIs, Cond.instanceMethod yX10_asItIs, Cond.selects RX10 yX10_asItIs yX10_asItIs, Cond.code yX10_asItIs cX10_asItIs 3 none, Cond.fieldLink RX10 246 "MoatRanksModel" "lawNow" "I", Cond.fieldLink RX10 249 "MoatRanksModel" "filledSet" "I"]
def wsX10_adds_r2 : List Cond := [Cond.fieldLink RX10 252 "MoatRanksModel" "frostSet" "I", Cond.fieldLink RX10 34 "MoatRanksModel" "waterOf" "[I", Cond.fieldLink RX10 37 "MoatRanksModel" "drainsOf" "[I", Cond.fieldLink RX10 40 "MoatRanksModel" "swimsOf" "[I", Cond.fieldLink RX10 46 "MoatRanksModel" "longestMore" "[I", Cond.fieldLink RX10 43 "MoatRanksModel" "plankOn" "[I", Cond.fieldLink RX10 49 "MoatRanksModel" "rainIn" "[I", Cond.fieldLink RX10 52 "MoatRanksModel" "dredgedIn" "[I", Cond.methodLink RX10 255 Lib.Math.max.name, Cond.static Lib.Math.max.name, Cond.initialized "java/lang/Math", Cond.code Lib.Math.max.name Lib.Math.max.code 2 (some .int), Cond.methodLink RX10 236 yX10_of, Cond.instanceMethod yX10_of, Cond.selects RX10 yX10_of yX10_of, Cond.code yX10_of cX10_of 3 (some .int), Cond.methodLink RX10 279 yX10_goAll, Cond.instanceMethod yX10_goAll, Cond.selects RX10 yX10_goAll yX10_goAll, Cond.code yX10_goAll cX10_goAll 2 none, Cond.fieldLink RX10 67 "MoatRanksModel" "now" "[I", Cond.methodLink RX10 271 yX10_years, Cond.instanceMethod yX10_years, Cond.selects RX10 yX10_years yX10_years]
def wsX10_adds_r3 : List Cond := [Cond.code yX10_years cX10_years 1 (some .int), Cond.methodLink RX10 273 yX10_goYear, Cond.instanceMethod yX10_goYear, Cond.selects RX10 yX10_goYear yX10_goYear, Cond.code yX10_goYear cX10_goYear 5 none, Cond.fieldLink RX10 64 "MoatRanksModel" "lostAt" "[I", Cond.methodLink RX10 135 Lib.Math.min.name, Cond.static Lib.Math.min.name, Cond.code Lib.Math.min.name Lib.Math.min.code 2 (some .int), Cond.fieldLink RX10 61 "MoatRanksModel" "drainedAt" "[I", Cond.fieldLink RX10 55 "MoatRanksModel" "waterAt" "[I", Cond.methodLink RX10 261 yX10_ranks, Cond.instanceMethod yX10_ranks, Cond.selects RX10 yX10_ranks yX10_ranks, Cond.code yX10_ranks cX10_ranks 1 (some .int), Cond.methodLink RX10 264 yX10_isFrost, Cond.instanceMethod yX10_isFrost, Cond.selects RX10 yX10_isFrost yX10_isFrost, Cond.code yX10_isFrost cX10_isFrost 2 (some .boolean), Cond.methodLink RX10 258 yX10_bit, Cond.static yX10_bit, Cond.code yX10_bit cX10_bit 2 (some .int), Cond.methodLink RX10 267 yX10_runsOver, Cond.instanceMethod yX10_runsOver]
def wsX10_adds_r4 : List Cond := [Cond.selects RX10 yX10_runsOver yX10_runsOver, Cond.code yX10_runsOver cX10_runsOver 6 none, Cond.fieldLink RX10 58 "MoatRanksModel" "spillsAt" "[I", Cond.methodLink RX10 282 yX10_isDukedom, Cond.instanceMethod yX10_isDukedom, Cond.selects RX10 yX10_isDukedom yX10_isDukedom, Cond.code yX10_isDukedom cX10_isDukedom 1 (some .boolean), Cond.methodLink RX10 303 yX10_doesFord, Cond.instanceMethod yX10_doesFord, Cond.selects RX10 yX10_doesFord yX10_doesFord, Cond.code yX10_doesFord cX10_doesFord 4 (some .boolean), Cond.methodLink RX10 294 yX10_waterIn, Cond.instanceMethod yX10_waterIn, Cond.selects RX10 yX10_waterIn yX10_waterIn, Cond.code yX10_waterIn cX10_waterIn 3 (some .int), Cond.methodLink RX10 300 yX10_hasPlank, Cond.instanceMethod yX10_hasPlank, Cond.selects RX10 yX10_hasPlank yX10_hasPlank, Cond.code yX10_hasPlank cX10_hasPlank 4 (some .boolean)]
def wsX10_adds : List Cond := .code yX10_adds cX10_adds 5 (some .int) :: ((wsX10_adds_r1 ++ (wsX10_adds_r2 ++ (wsX10_adds_r3 ++ wsX10_adds_r4))) ++ wsX100)
def wsX10_dredge_r1 : List Cond := [Cond.methodLink RX10 230 yX10_isRank, Cond.instanceMethod yX10_isRank, Cond.selects RX10 yX10_isRank yX10_isRank, Cond.initialized RX10, Cond.code yX10_isRank cX10_isRank 3 (some .boolean), Cond.fieldLink RX10 9 "MoatRanksModel" "world" "[I", Cond.methodLink RX10 100 yX10_in, Cond.static yX10_in, Cond.code yX10_in cX10_in 6 (some .boolean), Cond.methodLink RX10 288 yX10_isYear, Cond.instanceMethod yX10_isYear, Cond.selects RX10 yX10_isYear yX10_isYear, Cond.code yX10_isYear cX10_isYear 3 (some .boolean), Cond.methodLink RX10 438 yX10_keepAct, Cond.instanceMethod yX10_keepAct, Cond.selects RX10 yX10_keepAct yX10_keepAct, Cond.code yX10_keepAct cX10_keepAct 2 (some .int), Cond.methodLink RX10 285 yX10_asksDukedom, Cond.instanceMethod yX10_asksDukedom, Cond.selects RX10 yX10_asksDukedom yX10_asksDukedom, Cond.code yX10_asksDukedom cX10_asksDukedom 1 (some .boolean), Cond.methodLink RX10 276 yX10_asItIs, Cond.instanceMethod yX10_asItIs, Cond.selects RX10 yX10_asItIs yX10_asItIs]
def wsX10_dredge_r2 : List Cond := [Cond.code yX10_asItIs cX10_asItIs 3 none, Cond.fieldLink RX10 246 "MoatRanksModel" "lawNow" "I", Cond.fieldLink RX10 249 "MoatRanksModel" "filledSet" "I", Cond.fieldLink RX10 252 "MoatRanksModel" "frostSet" "I", Cond.fieldLink RX10 34 "MoatRanksModel" "waterOf" "[I", Cond.fieldLink RX10 37 "MoatRanksModel" "drainsOf" "[I", Cond.fieldLink RX10 40 "MoatRanksModel" "swimsOf" "[I", Cond.fieldLink RX10 46 "MoatRanksModel" "longestMore" "[I", Cond.fieldLink RX10 43 "MoatRanksModel" "plankOn" "[I", Cond.fieldLink RX10 49 "MoatRanksModel" "rainIn" "[I", Cond.fieldLink RX10 52 "MoatRanksModel" "dredgedIn" "[I", Cond.methodLink RX10 255 Lib.Math.max.name, Cond.static Lib.Math.max.name, Cond.initialized "java/lang/Math", Cond.code Lib.Math.max.name Lib.Math.max.code 2 (some .int), Cond.methodLink RX10 236 yX10_of, Cond.instanceMethod yX10_of, Cond.selects RX10 yX10_of yX10_of, Cond.code yX10_of cX10_of 3 (some .int), Cond.methodLink RX10 279 yX10_goAll, Cond.instanceMethod yX10_goAll, Cond.selects RX10 yX10_goAll yX10_goAll, Cond.code yX10_goAll cX10_goAll 2 none, Cond.fieldLink RX10 67 "MoatRanksModel" "now" "[I"]
def wsX10_dredge_r3 : List Cond := [Cond.methodLink RX10 271 yX10_years, Cond.instanceMethod yX10_years, Cond.selects RX10 yX10_years yX10_years, Cond.code yX10_years cX10_years 1 (some .int), Cond.methodLink RX10 273 yX10_goYear, Cond.instanceMethod yX10_goYear, Cond.selects RX10 yX10_goYear yX10_goYear, Cond.code yX10_goYear cX10_goYear 5 none, Cond.fieldLink RX10 64 "MoatRanksModel" "lostAt" "[I", Cond.methodLink RX10 135 Lib.Math.min.name, Cond.static Lib.Math.min.name, Cond.code Lib.Math.min.name Lib.Math.min.code 2 (some .int), Cond.fieldLink RX10 61 "MoatRanksModel" "drainedAt" "[I", Cond.fieldLink RX10 55 "MoatRanksModel" "waterAt" "[I", Cond.methodLink RX10 261 yX10_ranks, Cond.instanceMethod yX10_ranks, Cond.selects RX10 yX10_ranks yX10_ranks, Cond.code yX10_ranks cX10_ranks 1 (some .int), Cond.methodLink RX10 264 yX10_isFrost, Cond.instanceMethod yX10_isFrost, Cond.selects RX10 yX10_isFrost yX10_isFrost, Cond.code yX10_isFrost cX10_isFrost 2 (some .boolean), Cond.methodLink RX10 258 yX10_bit, Cond.static yX10_bit]
def wsX10_dredge_r4 : List Cond := [Cond.code yX10_bit cX10_bit 2 (some .int), Cond.methodLink RX10 267 yX10_runsOver, Cond.instanceMethod yX10_runsOver, Cond.selects RX10 yX10_runsOver yX10_runsOver, Cond.code yX10_runsOver cX10_runsOver 6 none, Cond.fieldLink RX10 58 "MoatRanksModel" "spillsAt" "[I", Cond.methodLink RX10 282 yX10_isDukedom, Cond.instanceMethod yX10_isDukedom, Cond.selects RX10 yX10_isDukedom yX10_isDukedom, Cond.code yX10_isDukedom cX10_isDukedom 1 (some .boolean), Cond.methodLink RX10 294 yX10_waterIn, Cond.instanceMethod yX10_waterIn, Cond.selects RX10 yX10_waterIn yX10_waterIn, Cond.code yX10_waterIn cX10_waterIn 3 (some .int)]
def wsX10_dredge : List Cond := .code yX10_dredge cX10_dredge 3 (some .int) :: ((wsX10_dredge_r1 ++ (wsX10_dredge_r2 ++ (wsX10_dredge_r3 ++ wsX10_dredge_r4))) ++ wsX100)
def wsX10_undo : List Cond := .code yX10_undo cX10_undo 1 (some .int) :: ([.fieldLink RX10 9 "MoatRanksModel" "world" "[I", .methodLink RX10 282 yX10_isDukedom, .instanceMethod yX10_isDukedom, .selects RX10 yX10_isDukedom yX10_isDukedom, .initialized RX10, .code yX10_isDukedom cX10_isDukedom 1 (some .boolean)] ++ wsX100)
def wsX10_anew : List Cond := .code yX10_anew cX10_anew 2 (some .int) :: ([.fieldLink RX10 9 "MoatRanksModel" "world" "[I", .methodLink RX10 282 yX10_isDukedom, .instanceMethod yX10_isDukedom, .selects RX10 yX10_isDukedom yX10_isDukedom, .initialized RX10, .code yX10_isDukedom cX10_isDukedom 1 (some .boolean)] ++ wsX100)
def wsX10_goDrawn_r1 : List Cond := [Cond.fieldLink RX10 252 "MoatRanksModel" "frostSet" "I", Cond.constantLong RX10 441 (1103515245), Cond.constantLong RX10 443 (12345), Cond.constantLong RX10 445 (2147483648), Cond.constantLong RX10 447 (65536), Cond.constantLong RX10 449 (10), Cond.fieldLink RX10 9 "MoatRanksModel" "world" "[I", Cond.methodLink RX10 276 yX10_asItIs, Cond.instanceMethod yX10_asItIs, Cond.selects RX10 yX10_asItIs yX10_asItIs, Cond.initialized RX10, Cond.code yX10_asItIs cX10_asItIs 3 none, Cond.fieldLink RX10 246 "MoatRanksModel" "lawNow" "I", Cond.fieldLink RX10 249 "MoatRanksModel" "filledSet" "I", Cond.fieldLink RX10 34 "MoatRanksModel" "waterOf" "[I", Cond.fieldLink RX10 37 "MoatRanksModel" "drainsOf" "[I", Cond.fieldLink RX10 40 "MoatRanksModel" "swimsOf" "[I", Cond.fieldLink RX10 46 "MoatRanksModel" "longestMore" "[I", Cond.fieldLink RX10 43 "MoatRanksModel" "plankOn" "[I", Cond.fieldLink RX10 49 "MoatRanksModel" "rainIn" "[I", Cond.fieldLink RX10 52 "MoatRanksModel" "dredgedIn" "[I", Cond.methodLink RX10 255 Lib.Math.max.name, Cond.static Lib.Math.max.name, Cond.initialized "java/lang/Math"]
def wsX10_goDrawn_r2 : List Cond := [Cond.code Lib.Math.max.name Lib.Math.max.code 2 (some .int), Cond.methodLink RX10 236 yX10_of, Cond.instanceMethod yX10_of, Cond.selects RX10 yX10_of yX10_of, Cond.code yX10_of cX10_of 3 (some .int), Cond.methodLink RX10 271 yX10_years, Cond.instanceMethod yX10_years, Cond.selects RX10 yX10_years yX10_years, Cond.code yX10_years cX10_years 1 (some .int), Cond.methodLink RX10 279 yX10_goAll, Cond.instanceMethod yX10_goAll, Cond.selects RX10 yX10_goAll yX10_goAll, Cond.code yX10_goAll cX10_goAll 2 none, Cond.fieldLink RX10 67 "MoatRanksModel" "now" "[I", Cond.methodLink RX10 273 yX10_goYear, Cond.instanceMethod yX10_goYear, Cond.selects RX10 yX10_goYear yX10_goYear, Cond.code yX10_goYear cX10_goYear 5 none, Cond.fieldLink RX10 64 "MoatRanksModel" "lostAt" "[I", Cond.methodLink RX10 135 Lib.Math.min.name, Cond.static Lib.Math.min.name, Cond.code Lib.Math.min.name Lib.Math.min.code 2 (some .int), Cond.fieldLink RX10 61 "MoatRanksModel" "drainedAt" "[I", Cond.fieldLink RX10 55 "MoatRanksModel" "waterAt" "[I"]
def wsX10_goDrawn_r3 : List Cond := [Cond.methodLink RX10 261 yX10_ranks, Cond.instanceMethod yX10_ranks, Cond.selects RX10 yX10_ranks yX10_ranks, Cond.code yX10_ranks cX10_ranks 1 (some .int), Cond.methodLink RX10 264 yX10_isFrost, Cond.instanceMethod yX10_isFrost, Cond.selects RX10 yX10_isFrost yX10_isFrost, Cond.code yX10_isFrost cX10_isFrost 2 (some .boolean), Cond.methodLink RX10 258 yX10_bit, Cond.static yX10_bit, Cond.code yX10_bit cX10_bit 2 (some .int), Cond.methodLink RX10 267 yX10_runsOver, Cond.instanceMethod yX10_runsOver, Cond.selects RX10 yX10_runsOver yX10_runsOver, Cond.code yX10_runsOver cX10_runsOver 6 none, Cond.fieldLink RX10 58 "MoatRanksModel" "spillsAt" "[I", Cond.methodLink RX10 100 yX10_in, Cond.static yX10_in, Cond.code yX10_in cX10_in 6 (some .boolean)]
def wsX10_goDrawn : List Cond := .code yX10_goDrawn cX10_goDrawn 6 none :: ((wsX10_goDrawn_r1 ++ (wsX10_goDrawn_r2 ++ wsX10_goDrawn_r3)) ++ wsX100)
def wsX10_isSeed : List Cond := .code yX10_isSeed cX10_isSeed 1 (some .boolean) :: ([.constantLong RX10 451 (2000000000), .methodLink RX10 100 yX10_in, .static yX10_in, .initialized RX10, .code yX10_in cX10_in 6 (some .boolean)])
def wsX10_drawn_r1 : List Cond := [Cond.fieldLink RX10 252 "MoatRanksModel" "frostSet" "I", Cond.methodLink RX10 282 yX10_isDukedom, Cond.instanceMethod yX10_isDukedom, Cond.selects RX10 yX10_isDukedom yX10_isDukedom, Cond.initialized RX10, Cond.code yX10_isDukedom cX10_isDukedom 1 (some .boolean), Cond.fieldLink RX10 9 "MoatRanksModel" "world" "[I", Cond.methodLink RX10 453 yX10_isSeed, Cond.static yX10_isSeed, Cond.code yX10_isSeed cX10_isSeed 1 (some .boolean), Cond.constantLong RX10 451 (2000000000), Cond.methodLink RX10 100 yX10_in, Cond.static yX10_in, Cond.code yX10_in cX10_in 6 (some .boolean), Cond.methodLink RX10 456 yX10_goDrawn, Cond.instanceMethod yX10_goDrawn, Cond.selects RX10 yX10_goDrawn yX10_goDrawn, Cond.code yX10_goDrawn cX10_goDrawn 6 none, Cond.constantLong RX10 441 (1103515245), Cond.constantLong RX10 443 (12345), Cond.constantLong RX10 445 (2147483648), Cond.constantLong RX10 447 (65536), Cond.constantLong RX10 449 (10), Cond.methodLink RX10 276 yX10_asItIs]
def wsX10_drawn_r2 : List Cond := [Cond.instanceMethod yX10_asItIs, Cond.selects RX10 yX10_asItIs yX10_asItIs, Cond.code yX10_asItIs cX10_asItIs 3 none, Cond.fieldLink RX10 246 "MoatRanksModel" "lawNow" "I", Cond.fieldLink RX10 249 "MoatRanksModel" "filledSet" "I", Cond.fieldLink RX10 34 "MoatRanksModel" "waterOf" "[I", Cond.fieldLink RX10 37 "MoatRanksModel" "drainsOf" "[I", Cond.fieldLink RX10 40 "MoatRanksModel" "swimsOf" "[I", Cond.fieldLink RX10 46 "MoatRanksModel" "longestMore" "[I", Cond.fieldLink RX10 43 "MoatRanksModel" "plankOn" "[I", Cond.fieldLink RX10 49 "MoatRanksModel" "rainIn" "[I", Cond.fieldLink RX10 52 "MoatRanksModel" "dredgedIn" "[I", Cond.methodLink RX10 255 Lib.Math.max.name, Cond.static Lib.Math.max.name, Cond.initialized "java/lang/Math", Cond.code Lib.Math.max.name Lib.Math.max.code 2 (some .int), Cond.methodLink RX10 236 yX10_of, Cond.instanceMethod yX10_of, Cond.selects RX10 yX10_of yX10_of, Cond.code yX10_of cX10_of 3 (some .int), Cond.methodLink RX10 271 yX10_years, Cond.instanceMethod yX10_years, Cond.selects RX10 yX10_years yX10_years, Cond.code yX10_years cX10_years 1 (some .int)]
def wsX10_drawn_r3 : List Cond := [Cond.methodLink RX10 279 yX10_goAll, Cond.instanceMethod yX10_goAll, Cond.selects RX10 yX10_goAll yX10_goAll, Cond.code yX10_goAll cX10_goAll 2 none, Cond.fieldLink RX10 67 "MoatRanksModel" "now" "[I", Cond.methodLink RX10 273 yX10_goYear, Cond.instanceMethod yX10_goYear, Cond.selects RX10 yX10_goYear yX10_goYear, Cond.code yX10_goYear cX10_goYear 5 none, Cond.fieldLink RX10 64 "MoatRanksModel" "lostAt" "[I", Cond.methodLink RX10 135 Lib.Math.min.name, Cond.static Lib.Math.min.name, Cond.code Lib.Math.min.name Lib.Math.min.code 2 (some .int), Cond.fieldLink RX10 61 "MoatRanksModel" "drainedAt" "[I", Cond.fieldLink RX10 55 "MoatRanksModel" "waterAt" "[I", Cond.methodLink RX10 261 yX10_ranks, Cond.instanceMethod yX10_ranks, Cond.selects RX10 yX10_ranks yX10_ranks, Cond.code yX10_ranks cX10_ranks 1 (some .int), Cond.methodLink RX10 264 yX10_isFrost, Cond.instanceMethod yX10_isFrost, Cond.selects RX10 yX10_isFrost yX10_isFrost, Cond.code yX10_isFrost cX10_isFrost 2 (some .boolean), Cond.methodLink RX10 258 yX10_bit]
def wsX10_drawn_r4 : List Cond := [Cond.static yX10_bit, Cond.code yX10_bit cX10_bit 2 (some .int), Cond.methodLink RX10 267 yX10_runsOver, Cond.instanceMethod yX10_runsOver, Cond.selects RX10 yX10_runsOver yX10_runsOver, Cond.code yX10_runsOver cX10_runsOver 6 none, Cond.fieldLink RX10 58 "MoatRanksModel" "spillsAt" "[I", Cond.methodLink RX10 334 yX10_keptSet, Cond.instanceMethod yX10_keptSet, Cond.selects RX10 yX10_keptSet yX10_keptSet, Cond.code yX10_keptSet cX10_keptSet 3 (some .int), Cond.methodLink RX10 331 yX10_isKept, Cond.instanceMethod yX10_isKept, Cond.selects RX10 yX10_isKept yX10_isKept, Cond.code yX10_isKept cX10_isKept 2 (some .boolean), Cond.methodLink RX10 243 yX10_inviteOf, Cond.instanceMethod yX10_inviteOf, Cond.selects RX10 yX10_inviteOf yX10_inviteOf, Cond.code yX10_inviteOf cX10_inviteOf 3 (some .int), Cond.methodLink RX10 288 yX10_isYear, Cond.instanceMethod yX10_isYear, Cond.selects RX10 yX10_isYear yX10_isYear, Cond.code yX10_isYear cX10_isYear 3 (some .boolean), Cond.methodLink RX10 307 yX10_doesCome]
def wsX10_drawn_r5 : List Cond := [Cond.instanceMethod yX10_doesCome, Cond.selects RX10 yX10_doesCome yX10_doesCome, Cond.code yX10_doesCome cX10_doesCome 4 (some .boolean), Cond.methodLink RX10 303 yX10_doesFord, Cond.instanceMethod yX10_doesFord, Cond.selects RX10 yX10_doesFord yX10_doesFord, Cond.code yX10_doesFord cX10_doesFord 4 (some .boolean), Cond.methodLink RX10 294 yX10_waterIn, Cond.instanceMethod yX10_waterIn, Cond.selects RX10 yX10_waterIn yX10_waterIn, Cond.code yX10_waterIn cX10_waterIn 3 (some .int), Cond.methodLink RX10 300 yX10_hasPlank, Cond.instanceMethod yX10_hasPlank, Cond.selects RX10 yX10_hasPlank yX10_hasPlank, Cond.code yX10_hasPlank cX10_hasPlank 4 (some .boolean)]
def wsX10_drawn : List Cond := .code yX10_drawn cX10_drawn 3 (some .int) :: ((wsX10_drawn_r1 ++ (wsX10_drawn_r2 ++ (wsX10_drawn_r3 ++ (wsX10_drawn_r4 ++ wsX10_drawn_r5)))) ++ wsX100)
def wsX10_luck_r1 : List Cond := [Cond.constantLong RX10 460 (20), Cond.methodLink RX10 453 yX10_isSeed, Cond.static yX10_isSeed, Cond.initialized RX10, Cond.code yX10_isSeed cX10_isSeed 1 (some .boolean), Cond.constantLong RX10 451 (2000000000), Cond.methodLink RX10 100 yX10_in, Cond.static yX10_in, Cond.code yX10_in cX10_in 6 (some .boolean), Cond.methodLink RX10 239 yX10_isInvite, Cond.instanceMethod yX10_isInvite, Cond.selects RX10 yX10_isInvite yX10_isInvite, Cond.code yX10_isInvite cX10_isInvite 2 (some .boolean), Cond.fieldLink RX10 9 "MoatRanksModel" "world" "[I", Cond.methodLink RX10 456 yX10_goDrawn, Cond.instanceMethod yX10_goDrawn, Cond.selects RX10 yX10_goDrawn yX10_goDrawn, Cond.code yX10_goDrawn cX10_goDrawn 6 none, Cond.fieldLink RX10 252 "MoatRanksModel" "frostSet" "I", Cond.constantLong RX10 441 (1103515245), Cond.constantLong RX10 443 (12345), Cond.constantLong RX10 445 (2147483648), Cond.constantLong RX10 447 (65536), Cond.constantLong RX10 449 (10)]
def wsX10_luck_r2 : List Cond := [Cond.methodLink RX10 276 yX10_asItIs, Cond.instanceMethod yX10_asItIs, Cond.selects RX10 yX10_asItIs yX10_asItIs, Cond.code yX10_asItIs cX10_asItIs 3 none, Cond.fieldLink RX10 246 "MoatRanksModel" "lawNow" "I", Cond.fieldLink RX10 249 "MoatRanksModel" "filledSet" "I", Cond.fieldLink RX10 34 "MoatRanksModel" "waterOf" "[I", Cond.fieldLink RX10 37 "MoatRanksModel" "drainsOf" "[I", Cond.fieldLink RX10 40 "MoatRanksModel" "swimsOf" "[I", Cond.fieldLink RX10 46 "MoatRanksModel" "longestMore" "[I", Cond.fieldLink RX10 43 "MoatRanksModel" "plankOn" "[I", Cond.fieldLink RX10 49 "MoatRanksModel" "rainIn" "[I", Cond.fieldLink RX10 52 "MoatRanksModel" "dredgedIn" "[I", Cond.methodLink RX10 255 Lib.Math.max.name, Cond.static Lib.Math.max.name, Cond.initialized "java/lang/Math", Cond.code Lib.Math.max.name Lib.Math.max.code 2 (some .int), Cond.methodLink RX10 236 yX10_of, Cond.instanceMethod yX10_of, Cond.selects RX10 yX10_of yX10_of, Cond.code yX10_of cX10_of 3 (some .int), Cond.methodLink RX10 271 yX10_years, Cond.instanceMethod yX10_years, Cond.selects RX10 yX10_years yX10_years]
def wsX10_luck_r3 : List Cond := [Cond.code yX10_years cX10_years 1 (some .int), Cond.methodLink RX10 279 yX10_goAll, Cond.instanceMethod yX10_goAll, Cond.selects RX10 yX10_goAll yX10_goAll, Cond.code yX10_goAll cX10_goAll 2 none, Cond.fieldLink RX10 67 "MoatRanksModel" "now" "[I", Cond.methodLink RX10 273 yX10_goYear, Cond.instanceMethod yX10_goYear, Cond.selects RX10 yX10_goYear yX10_goYear, Cond.code yX10_goYear cX10_goYear 5 none, Cond.fieldLink RX10 64 "MoatRanksModel" "lostAt" "[I", Cond.methodLink RX10 135 Lib.Math.min.name, Cond.static Lib.Math.min.name, Cond.code Lib.Math.min.name Lib.Math.min.code 2 (some .int), Cond.fieldLink RX10 61 "MoatRanksModel" "drainedAt" "[I", Cond.fieldLink RX10 55 "MoatRanksModel" "waterAt" "[I", Cond.methodLink RX10 261 yX10_ranks, Cond.instanceMethod yX10_ranks, Cond.selects RX10 yX10_ranks yX10_ranks, Cond.code yX10_ranks cX10_ranks 1 (some .int), Cond.methodLink RX10 264 yX10_isFrost, Cond.instanceMethod yX10_isFrost, Cond.selects RX10 yX10_isFrost yX10_isFrost, Cond.code yX10_isFrost cX10_isFrost 2 (some .boolean)]
def wsX10_luck_r4 : List Cond := [Cond.methodLink RX10 258 yX10_bit, Cond.static yX10_bit, Cond.code yX10_bit cX10_bit 2 (some .int), Cond.methodLink RX10 267 yX10_runsOver, Cond.instanceMethod yX10_runsOver, Cond.selects RX10 yX10_runsOver yX10_runsOver, Cond.code yX10_runsOver cX10_runsOver 6 none, Cond.fieldLink RX10 58 "MoatRanksModel" "spillsAt" "[I", Cond.methodLink RX10 331 yX10_isKept, Cond.instanceMethod yX10_isKept, Cond.selects RX10 yX10_isKept yX10_isKept, Cond.code yX10_isKept cX10_isKept 2 (some .boolean), Cond.methodLink RX10 243 yX10_inviteOf, Cond.instanceMethod yX10_inviteOf, Cond.selects RX10 yX10_inviteOf yX10_inviteOf, Cond.code yX10_inviteOf cX10_inviteOf 3 (some .int), Cond.methodLink RX10 288 yX10_isYear, Cond.instanceMethod yX10_isYear, Cond.selects RX10 yX10_isYear yX10_isYear, Cond.code yX10_isYear cX10_isYear 3 (some .boolean), Cond.methodLink RX10 307 yX10_doesCome, Cond.instanceMethod yX10_doesCome, Cond.selects RX10 yX10_doesCome yX10_doesCome, Cond.code yX10_doesCome cX10_doesCome 4 (some .boolean)]
def wsX10_luck_r5 : List Cond := [Cond.methodLink RX10 303 yX10_doesFord, Cond.instanceMethod yX10_doesFord, Cond.selects RX10 yX10_doesFord yX10_doesFord, Cond.code yX10_doesFord cX10_doesFord 4 (some .boolean), Cond.methodLink RX10 294 yX10_waterIn, Cond.instanceMethod yX10_waterIn, Cond.selects RX10 yX10_waterIn yX10_waterIn, Cond.code yX10_waterIn cX10_waterIn 3 (some .int), Cond.methodLink RX10 300 yX10_hasPlank, Cond.instanceMethod yX10_hasPlank, Cond.selects RX10 yX10_hasPlank yX10_hasPlank, Cond.code yX10_hasPlank cX10_hasPlank 4 (some .boolean)]
def wsX10_luck : List Cond := .code yX10_luck cX10_luck 6 (some .int) :: ((wsX10_luck_r1 ++ (wsX10_luck_r2 ++ (wsX10_luck_r3 ++ (wsX10_luck_r4 ++ wsX10_luck_r5)))) ++ wsX100)
def wsX10_digs : List Cond := .code yX10_digs cX10_digs 4 (some .int) :: ([.constantLong RX10 436 (9), .fieldLink RX10 9 "MoatRanksModel" "world" "[I", .methodLink RX10 230 yX10_isRank, .instanceMethod yX10_isRank, .selects RX10 yX10_isRank yX10_isRank, .initialized RX10, .code yX10_isRank cX10_isRank 3 (some .boolean), .methodLink RX10 100 yX10_in, .static yX10_in, .code yX10_in cX10_in 6 (some .boolean), .methodLink RX10 236 yX10_of, .instanceMethod yX10_of, .selects RX10 yX10_of yX10_of, .code yX10_of cX10_of 3 (some .int)] ++ wsX100)
def wsX10_count : List Cond := .code yX10_count cX10_count 4 (some .int) :: ([.constantLong RX10 436 (9), .fieldLink RX10 9 "MoatRanksModel" "world" "[I", .fieldLink RX10 104 "MoatRanksModel" "taped" "I", .fieldLink RX10 82 "MoatRanksModel" "many" "[I", .methodLink RX10 100 yX10_in, .static yX10_in, .initialized RX10, .code yX10_in cX10_in 6 (some .boolean)] ++ wsX100)
def wsX10_cut : List Cond := .code yX10_cut cX10_cut 4 (some .long) :: ([])
def wsX10_row : List Cond := .code yX10_row cX10_row 5 (some .int) :: ([.constantLong RX10 234 (3), .fieldLink RX10 82 "MoatRanksModel" "many" "[I", .fieldLink RX10 85 "MoatRanksModel" "width" "[I", .fieldLink RX10 88 "MoatRanksModel" "numbers" "[J", .methodLink RX10 367 yX10_isSlot, .static yX10_isSlot, .initialized RX10, .code yX10_isSlot cX10_isSlot 1 (some .boolean), .methodLink RX10 100 yX10_in, .static yX10_in, .code yX10_in cX10_in 6 (some .boolean)] ++ wsX100)
def wsX10_write : List Cond := .code yX10_write cX10_write 5 (some .int) :: ([.fieldLink RX10 82 "MoatRanksModel" "many" "[I", .fieldLink RX10 88 "MoatRanksModel" "numbers" "[J", .fieldLink RX10 85 "MoatRanksModel" "width" "[I", .methodLink RX10 367 yX10_isSlot, .static yX10_isSlot, .initialized RX10, .code yX10_isSlot cX10_isSlot 1 (some .boolean), .constantLong RX10 234 (3), .methodLink RX10 100 yX10_in, .static yX10_in, .code yX10_in cX10_in 6 (some .boolean), .methodLink RX10 462 yX10_cut, .static yX10_cut, .code yX10_cut cX10_cut 4 (some .long)] ++ wsX100)
def wsX10_paste : List Cond := .code yX10_paste cX10_paste 7 (some .int) :: ([.fieldLink RX10 82 "MoatRanksModel" "many" "[I", .fieldLink RX10 85 "MoatRanksModel" "width" "[I", .fieldLink RX10 92 "MoatRanksModel" "moving" "[J", .fieldLink RX10 88 "MoatRanksModel" "numbers" "[J", .methodLink RX10 367 yX10_isSlot, .static yX10_isSlot, .initialized RX10, .code yX10_isSlot cX10_isSlot 1 (some .boolean), .constantLong RX10 234 (3), .methodLink RX10 100 yX10_in, .static yX10_in, .code yX10_in cX10_in 6 (some .boolean)] ++ wsX100)
def wsJ9_abs_067f4 : List Cond := .code yJ9_abs_067f4 cJ9_abs_067f4 2 (some .long) :: ([])
def wsJ9_max_7cf53 : List Cond := .code yJ9_max_7cf53 cJ9_max_7cf53 2 (some .int) :: ([])
def wsJ9_min_7cf53 : List Cond := .code yJ9_min_7cf53 cJ9_min_7cf53 2 (some .int) :: ([])
def wsL_law_r1 : List Cond := [Cond.classLink RL 7 RX9, Cond.instantiable RX9 11, Cond.initialized RX9, Cond.classLink RL 10 RX10, Cond.instantiable RX10 45, Cond.initialized RX10, Cond.constantLong RL 313 (4294967295), Cond.methodLink RL 9 yX9_init, Cond.instanceMethod yX9_init, Cond.code yX9_init cX9_init 2 none, Cond.methodLink RX9 3 objectInit, Cond.instanceMethod objectInit, Cond.code objectInit ⟨#[0xb1]⟩ 1 none, Cond.classLink RX9 9 RX8, Cond.instantiable RX8 2, Cond.initialized RX8, Cond.fieldLink RX9 12 "MoatRanks" "tape" "LMoatRanks$Tape;", Cond.classLink RX9 16 RX5, Cond.instantiable RX5 7, Cond.initialized RX5, Cond.fieldLink RX9 21 "MoatRanks" "reader" "LMoatRanks$Reader;", Cond.classLink RX9 25 RX6, Cond.instantiable RX6 18, Cond.initialized RX6]
def wsL_law_r2 : List Cond := [Cond.fieldLink RX9 28 "MoatRanks" "realm" "LMoatRanks$Realm;", Cond.fieldLink RX9 32 "MoatRanks" "draft" "LMoatRanks$Realm;", Cond.fieldLink RX9 35 "MoatRanks" "images" "[LMoatRanks$Realm;", Cond.fieldLink RX9 39 "MoatRanks" "imagesKept" "I", Cond.classLink RX9 43 RX1, Cond.instantiable RX1 12, Cond.initialized RX1, Cond.fieldLink RX9 48 "MoatRanks" "now" "LMoatRanks$Course;", Cond.fieldLink RX9 52 "MoatRanks" "supposed" "LMoatRanks$Course;", Cond.classLink RX9 55 RX4, Cond.instantiable RX4 3, Cond.initialized RX4, Cond.fieldLink RX9 58 "MoatRanks" "laying" "LMoatRanks$Laying;", Cond.classLink RX9 62 RX2, Cond.instantiable RX2 4, Cond.initialized RX2, Cond.fieldLink RX9 65 "MoatRanks" "guess" "LMoatRanks$Guess;", Cond.classLink RX9 69 RX7, Cond.fieldLink RX9 71 "MoatRanks" "rows" "[LMoatRanks$Row;", Cond.instantiable RX7 3, Cond.initialized RX7, Cond.instanceMethod yX8_init, Cond.code yX8_init cX8_init 1 none, Cond.methodLink RX8 3 objectInit]
def wsL_law_r3 : List Cond := [Cond.arrayClass .byte, Cond.fieldLink RX8 9 "MoatRanks$Tape" "bytes" "[B", Cond.fieldLink RX8 15 "MoatRanks$Tape" "size" "I", Cond.instanceMethod yX5_init, Cond.code yX5_init cX5_init 2 none, Cond.methodLink RX5 3 objectInit, Cond.fieldLink RX5 9 "MoatRanks$Reader" "fault" "I", Cond.fieldLink RX5 15 "MoatRanks$Reader" "place" "I", Cond.fieldLink RX5 18 "MoatRanks$Reader" "kind" "I", Cond.fieldLink RX5 21 "MoatRanks$Reader" "start" "I", Cond.fieldLink RX5 24 "MoatRanks$Reader" "behind" "I", Cond.fieldLink RX5 27 "MoatRanks$Reader" "value" "I", Cond.fieldLink RX5 30 "MoatRanks$Reader" "tape" "LMoatRanks$Tape;", Cond.instanceMethod yX6_init, Cond.code yX6_init cX6_init 1 none, Cond.methodLink RX6 3 objectInit, Cond.fieldLink RX6 9 "MoatRanks$Realm" "lines" "I", Cond.fieldLink RX6 15 "MoatRanks$Realm" "years" "I", Cond.fieldLink RX6 18 "MoatRanks$Realm" "law" "I", Cond.fieldLink RX6 21 "MoatRanks$Realm" "odds" "I", Cond.fieldLink RX6 24 "MoatRanks$Realm" "ranks" "I", Cond.arrayClass .int, Cond.fieldLink RX6 27 "MoatRanks$Realm" "wide" "[I", Cond.fieldLink RX6 31 "MoatRanks$Realm" "told" "[I"]
def wsL_law_r4 : List Cond := [Cond.fieldLink RX6 34 "MoatRanks$Realm" "drains" "[I", Cond.fieldLink RX6 37 "MoatRanks$Realm" "swims" "[I", Cond.fieldLink RX6 40 "MoatRanks$Realm" "planks" "I", Cond.fieldLink RX6 43 "MoatRanks$Realm" "plankLong" "[I", Cond.fieldLink RX6 46 "MoatRanks$Realm" "plankOn" "[I", Cond.fieldLink RX6 49 "MoatRanks$Realm" "rains" "I", Cond.fieldLink RX6 52 "MoatRanks$Realm" "rainOf" "[I", Cond.fieldLink RX6 55 "MoatRanks$Realm" "frosts" "I", Cond.fieldLink RX6 58 "MoatRanks$Realm" "frostBits" "I", Cond.classLink RX6 61 RX3, Cond.instantiable RX3 4, Cond.initialized RX3, Cond.fieldLink RX6 64 "MoatRanks$Realm" "invites" "LMoatRanks$Invites;", Cond.classLink RX6 68 RX0, Cond.instantiable RX0 4, Cond.initialized RX0, Cond.fieldLink RX6 71 "MoatRanks$Realm" "acts" "LMoatRanks$Acts;", Cond.instanceMethod yX3_init, Cond.code yX3_init cX3_init 1 none, Cond.methodLink RX3 3 objectInit, Cond.fieldLink RX3 9 "MoatRanks$Invites" "size" "I", Cond.fieldLink RX3 15 "MoatRanks$Invites" "guest" "[I", Cond.fieldLink RX3 19 "MoatRanks$Invites" "host" "[I", Cond.fieldLink RX3 22 "MoatRanks$Invites" "year" "[I"]
def wsL_law_r5 : List Cond := [Cond.instanceMethod yX0_init, Cond.code yX0_init cX0_init 1 none, Cond.methodLink RX0 3 objectInit, Cond.fieldLink RX0 9 "MoatRanks$Acts" "size" "I", Cond.fieldLink RX0 15 "MoatRanks$Acts" "rank" "[I", Cond.fieldLink RX0 19 "MoatRanks$Acts" "plankLong" "[I", Cond.fieldLink RX0 22 "MoatRanks$Acts" "year" "[I", Cond.instanceMethod yX1_init, Cond.code yX1_init cX1_init 2 none, Cond.methodLink RX1 3 objectInit, Cond.fieldLink RX1 9 "MoatRanks$Course" "law" "I", Cond.fieldLink RX1 15 "MoatRanks$Course" "frosts" "I", Cond.fieldLink RX1 18 "MoatRanks$Course" "open" "I", Cond.fieldLink RX1 21 "MoatRanks$Course" "told" "[I", Cond.fieldLink RX1 25 "MoatRanks$Course" "drains" "[I", Cond.fieldLink RX1 28 "MoatRanks$Course" "dredged" "[I", Cond.fieldLink RX1 31 "MoatRanks$Course" "water" "[I", Cond.fieldLink RX1 34 "MoatRanks$Course" "spilled" "[I", Cond.fieldLink RX1 37 "MoatRanks$Course" "drained" "[I", Cond.fieldLink RX1 40 "MoatRanks$Course" "lost" "[I", Cond.fieldLink RX1 43 "MoatRanks$Course" "deepWater" "[I", Cond.fieldLink RX1 46 "MoatRanks$Course" "realm" "LMoatRanks$Realm;", Cond.instanceMethod yX4_init, Cond.code yX4_init cX4_init 1 none]
def wsL_law_r6 : List Cond := [Cond.methodLink RX4 3 objectInit, Cond.fieldLink RX4 9 "MoatRanks$Laying" "most" "[I", Cond.fieldLink RX4 15 "MoatRanks$Laying" "rows" "[I", Cond.fieldLink RX4 18 "MoatRanks$Laying" "ahead" "I", Cond.instanceMethod yX2_init, Cond.code yX2_init cX2_init 1 none, Cond.methodLink RX2 3 objectInit, Cond.fieldLink RX2 9 "MoatRanks$Guess" "size" "I", Cond.fieldLink RX2 15 "MoatRanks$Guess" "lowest" "I", Cond.fieldLink RX2 18 "MoatRanks$Guess" "highest" "I", Cond.fieldLink RX2 21 "MoatRanks$Guess" "tally" "[I", Cond.instanceMethod yX7_init, Cond.code yX7_init cX7_init 1 none, Cond.methodLink RX7 3 objectInit, Cond.fieldLink RX7 9 "MoatRanks$Row" "width" "I", Cond.fieldLink RX7 15 "MoatRanks$Row" "size" "I", Cond.arrayClass .long, Cond.fieldLink RX7 18 "MoatRanks$Row" "numbers" "[J", Cond.methodLink RL 12 yX10_init, Cond.instanceMethod yX10_init, Cond.code yX10_init cX10_init 1 none, Cond.methodLink RX10 3 objectInit, Cond.fieldLink RX10 9 "MoatRanksModel" "world" "[I", Cond.fieldLink RX10 13 "MoatRanksModel" "images" "[I"]
def wsL_law_r7 : List Cond := [Cond.arrayClass .boolean, Cond.fieldLink RX10 16 "MoatRanksModel" "hasImage" "[Z", Cond.fieldLink RX10 20 "MoatRanksModel" "tape" "[B", Cond.fieldLink RX10 24 "MoatRanksModel" "five" "[I", Cond.fieldLink RX10 27 "MoatRanksModel" "faultPlace" "I", Cond.fieldLink RX10 31 "MoatRanksModel" "fresh" "[I", Cond.fieldLink RX10 34 "MoatRanksModel" "waterOf" "[I", Cond.fieldLink RX10 37 "MoatRanksModel" "drainsOf" "[I", Cond.fieldLink RX10 40 "MoatRanksModel" "swimsOf" "[I", Cond.fieldLink RX10 43 "MoatRanksModel" "plankOn" "[I", Cond.fieldLink RX10 46 "MoatRanksModel" "longestMore" "[I", Cond.fieldLink RX10 49 "MoatRanksModel" "rainIn" "[I", Cond.fieldLink RX10 52 "MoatRanksModel" "dredgedIn" "[I", Cond.fieldLink RX10 55 "MoatRanksModel" "waterAt" "[I", Cond.fieldLink RX10 58 "MoatRanksModel" "spillsAt" "[I", Cond.fieldLink RX10 61 "MoatRanksModel" "drainedAt" "[I", Cond.fieldLink RX10 64 "MoatRanksModel" "lostAt" "[I", Cond.fieldLink RX10 67 "MoatRanksModel" "now" "[I", Cond.fieldLink RX10 70 "MoatRanksModel" "firstRow" "[I", Cond.fieldLink RX10 73 "MoatRanksModel" "fitsOf" "[I", Cond.fieldLink RX10 76 "MoatRanksModel" "waterBy" "[I", Cond.fieldLink RX10 79 "MoatRanksModel" "worthOf" "[I", Cond.fieldLink RX10 82 "MoatRanksModel" "many" "[I", Cond.fieldLink RX10 85 "MoatRanksModel" "width" "[I"]
def wsL_law_r8 : List Cond := [Cond.fieldLink RX10 88 "MoatRanksModel" "numbers" "[J", Cond.fieldLink RX10 92 "MoatRanksModel" "moving" "[J", Cond.methodLink RL 13 yX9_feed, Cond.instanceMethod yX9_feed, Cond.selects RX9 yX9_feed yX9_feed, Cond.code yX9_feed cX9_feed 6 (some .int), Cond.instanceMethod yX8_put, Cond.selects RX8 yX8_put yX8_put, Cond.code yX8_put cX8_put 3 none, Cond.methodLink RL 17 yX10_feed, Cond.instanceMethod yX10_feed, Cond.selects RX10 yX10_feed yX10_feed, Cond.code yX10_feed cX10_feed 7 (some .int), Cond.fieldLink RX10 104 "MoatRanksModel" "taped" "I", Cond.methodLink RL 18 yX9_end, Cond.instanceMethod yX9_end, Cond.selects RX9 yX9_end yX9_end, Cond.code yX9_end cX9_end 2 (some .int), Cond.methodLink RL 22 yX10_end, Cond.instanceMethod yX10_end, Cond.selects RX10 yX10_end yX10_end, Cond.code yX10_end cX10_end 2 (some .int), Cond.methodLink RX10 100 yX10_in, Cond.static yX10_in]
def wsL_law_r9 : List Cond := [Cond.code yX10_in cX10_in 6 (some .boolean), Cond.methodLink RL 23 yX9_dukedom, Cond.instanceMethod yX9_dukedom, Cond.selects RX9 yX9_dukedom yX9_dukedom, Cond.code yX9_dukedom cX9_dukedom 2 (some .int), Cond.instanceMethod yX5_read, Cond.selects RX5 yX5_read yX5_read, Cond.code yX5_read cX5_read 3 none, Cond.instanceMethod yX6_clear, Cond.selects RX6 yX6_clear yX6_clear, Cond.code yX6_clear cX6_clear 1 none, Cond.methodLink RX6 75 yJ7_fill_53178, Cond.static yJ7_fill_53178, Cond.initialized RJ7, Cond.code yJ7_fill_53178 cJ7_fill_53178 4 none, Cond.methodLink RX5 39 yX5_step, Cond.instanceMethod yX5_step, Cond.selects RX5 yX5_step yX5_step, Cond.code yX5_step cX5_step 2 none, Cond.methodLink RX5 194 Lib.Math.min.name, Cond.static Lib.Math.min.name, Cond.initialized "java/lang/Math", Cond.code Lib.Math.min.name Lib.Math.min.code 2 (some .int), Cond.instanceMethod yX8_at]
def wsL_law_r10 : List Cond := [Cond.selects RX8 yX8_at yX8_at, Cond.code yX8_at cX8_at 2 (some .int), Cond.methodLink RX5 191 yX5_kindOf, Cond.static yX5_kindOf, Cond.code yX5_kindOf cX5_kindOf 1 (some .int), Cond.methodLink RX5 199 yX5_isLong, Cond.static yX5_isLong, Cond.code yX5_isLong cX5_isLong 1 (some .boolean), Cond.methodLink RX5 42 yX5_line, Cond.instanceMethod yX5_line, Cond.selects RX5 yX5_line yX5_line, Cond.code yX5_line cX5_line 2 none, Cond.methodLink RX5 49 yX5_dukedomLine, Cond.instanceMethod yX5_dukedomLine, Cond.selects RX5 yX5_dukedomLine yX5_dukedomLine, Cond.code yX5_dukedomLine cX5_dukedomLine 2 none, Cond.methodLink RX5 95 yX5_word, Cond.instanceMethod yX5_word, Cond.selects RX5 yX5_word yX5_word, Cond.code yX5_word cX5_word 2 none, Cond.methodLink RX5 54 yX5_isWord, Cond.instanceMethod yX5_isWord, Cond.selects RX5 yX5_isWord yX5_isWord, Cond.code yX5_isWord cX5_isWord 3 (some .boolean)]
def wsL_law_r11 : List Cond := [Cond.methodLink RX5 175 yJ0_length_8abf5, Cond.instanceMethod yJ0_length_8abf5, Cond.selects RJ0 yJ0_length_8abf5 yJ0_length_8abf5, Cond.initialized RJ0, Cond.code yJ0_length_8abf5 cJ0_length_8abf5 1 (some .int), Cond.fieldLink RJ0 9 "java/lang/String" "value" "[B", Cond.methodLink RJ0 335 yJ0_coder_7d493, Cond.instanceMethod yJ0_coder_7d493, Cond.selects RJ0 yJ0_coder_7d493 yJ0_coder_7d493, Cond.code yJ0_coder_7d493 cJ0_coder_7d493 1 (some .byte), Cond.fieldLink RJ0 38 "java/lang/String" "COMPACT_STRINGS" "Z", Cond.fieldLink RJ0 15 "java/lang/String" "coder" "B", Cond.methodLink RX5 186 yJ0_charAt_5068e, Cond.instanceMethod yJ0_charAt_5068e, Cond.selects RJ0 yJ0_charAt_5068e yJ0_charAt_5068e, Cond.code yJ0_charAt_5068e cJ0_charAt_5068e 2 (some .char), Cond.methodLink RJ0 492 yJ0_isLatin1_aae02, Cond.instanceMethod yJ0_isLatin1_aae02, Cond.selects RJ0 yJ0_isLatin1_aae02 yJ0_isLatin1_aae02, Cond.code yJ0_isLatin1_aae02 cJ0_isLatin1_aae02 1 (some .boolean), Cond.methodLink RJ0 495 yJ1_charAt_3b067, Cond.static yJ1_charAt_3b067, Cond.initialized RJ1, Cond.code yJ1_charAt_3b067 cJ1_charAt_3b067 2 (some .char)]
def wsL_law_r12 : List Cond := [Cond.methodLink RJ1 9 yJ0_checkIndex_df160, Cond.static yJ0_checkIndex_df160, Cond.code yJ0_checkIndex_df160 cJ0_checkIndex_df160 2 none, Cond.fieldLink RJ0 1053 "jdk/internal/util/Preconditions" "SIOOBE_FORMATTER" "Ljava/util/function/BiFunction;", Cond.methodLink RJ0 1059 yJ3_checkIndex_8e157, Cond.static yJ3_checkIndex_8e157, Cond.initialized RJ3, Cond.code yJ3_checkIndex_8e157 cJ3_checkIndex_8e157 3 (some .int), Cond.methodLink RJ0 498 yJ2_charAt_3b067, Cond.static yJ2_charAt_3b067, Cond.initialized RJ2, Cond.code yJ2_charAt_3b067 cJ2_charAt_3b067 2 (some .char), Cond.methodLink RJ2 67 yJ2_checkIndex_2214a, Cond.static yJ2_checkIndex_2214a, Cond.code yJ2_checkIndex_2214a cJ2_checkIndex_2214a 2 none, Cond.methodLink RJ2 48 yJ2_length_9d52b, Cond.static yJ2_length_9d52b, Cond.code yJ2_length_9d52b cJ2_length_9d52b 1 (some .int), Cond.methodLink RJ2 414 yJ0_checkIndex_df160, Cond.methodLink RJ2 71 yJ2_getChar_3b067, Cond.static yJ2_getChar_3b067, Cond.code yJ2_getChar_3b067 cJ2_getChar_3b067 2 (some .char), Cond.fieldLink RJ2 44 "java/lang/StringUTF16" "$assertionsDisabled" "Z", Cond.fieldLink RJ2 59 "java/lang/StringUTF16" "HI_BYTE_SHIFT" "I"]
def wsL_law_r13 : List Cond := [Cond.fieldLink RJ2 63 "java/lang/StringUTF16" "LO_BYTE_SHIFT" "I", Cond.methodLink RX5 86 yX5_fail, Cond.instanceMethod yX5_fail, Cond.selects RX5 yX5_fail yX5_fail, Cond.code yX5_fail cX5_fail 2 none, Cond.methodLink RX5 101 yX5_number, Cond.instanceMethod yX5_number, Cond.selects RX5 yX5_number yX5_number, Cond.code yX5_number cX5_number 4 (some .int), Cond.methodLink RX5 58 yX5_rankLine, Cond.instanceMethod yX5_rankLine, Cond.selects RX5 yX5_rankLine yX5_rankLine, Cond.code yX5_rankLine cX5_rankLine 2 none, Cond.methodLink RX5 63 yX5_plankLine, Cond.instanceMethod yX5_plankLine, Cond.selects RX5 yX5_plankLine yX5_plankLine, Cond.code yX5_plankLine cX5_plankLine 2 none, Cond.methodLink RX5 68 yX5_rainLine, Cond.instanceMethod yX5_rainLine, Cond.selects RX5 yX5_rainLine yX5_rainLine, Cond.code yX5_rainLine cX5_rainLine 3 none, Cond.methodLink RX5 73 yX5_frostLine, Cond.instanceMethod yX5_frostLine, Cond.selects RX5 yX5_frostLine yX5_frostLine]
def wsL_law_r14 : List Cond := [Cond.code yX5_frostLine cX5_frostLine 2 none, Cond.methodLink RX5 82 yX5_inviteLine, Cond.instanceMethod yX5_inviteLine, Cond.selects RX5 yX5_inviteLine yX5_inviteLine, Cond.code yX5_inviteLine cX5_inviteLine 5 none, Cond.methodLink RX5 90 yX5_sign, Cond.instanceMethod yX5_sign, Cond.selects RX5 yX5_sign yX5_sign, Cond.code yX5_sign cX5_sign 1 none, Cond.methodLink RX9 89 yX9_settle, Cond.instanceMethod yX9_settle, Cond.selects RX9 yX9_settle yX9_settle, Cond.code yX9_settle cX9_settle 1 none, Cond.instanceMethod yX1_take, Cond.selects RX1 yX1_take yX1_take, Cond.code yX1_take cX1_take 3 none, Cond.methodLink RX1 68 arraycopyName, Cond.native arraycopyName, Cond.static arraycopyName, Cond.initialized "java/lang/System", Cond.instanceMethod yX6_openedByTold, Cond.selects RX6 yX6_openedByTold yX6_openedByTold, Cond.code yX6_openedByTold cX6_openedByTold 4 (some .int), Cond.methodLink RX6 105 yX6_opened]
def wsL_law_r15 : List Cond := [Cond.instanceMethod yX6_opened, Cond.selects RX6 yX6_opened yX6_opened, Cond.code yX6_opened cX6_opened 3 (some .int), Cond.methodLink RX6 98 yX6_hasRank, Cond.instanceMethod yX6_hasRank, Cond.selects RX6 yX6_hasRank yX6_hasRank, Cond.code yX6_hasRank cX6_hasRank 2 (some .boolean), Cond.instanceMethod yX6_openedByActs, Cond.selects RX6 yX6_openedByActs yX6_openedByActs, Cond.code yX6_openedByActs cX6_openedByActs 3 (some .int), Cond.methodLink RX1 75 yJ7_fill_53178, Cond.instanceMethod yX1_runAll, Cond.selects RX1 yX1_runAll yX1_runAll, Cond.code yX1_runAll cX1_runAll 2 none, Cond.methodLink RX1 109 yX1_run, Cond.instanceMethod yX1_run, Cond.selects RX1 yX1_run yX1_run, Cond.code yX1_run cX1_run 3 none, Cond.methodLink RX1 99 yX1_rainAndDrain, Cond.instanceMethod yX1_rainAndDrain, Cond.selects RX1 yX1_rainAndDrain yX1_rainAndDrain, Cond.code yX1_rainAndDrain cX1_rainAndDrain 8 none, Cond.methodLink RX1 136 Lib.Math.min.name, Cond.methodLink RX1 122 yX1_isFrost]
def wsL_law_r16 : List Cond := [Cond.instanceMethod yX1_isFrost, Cond.selects RX1 yX1_isFrost yX1_isFrost, Cond.code yX1_isFrost cX1_isFrost 2 (some .boolean), Cond.static yX9_cell, Cond.code yX9_cell cX9_cell 2 (some .int), Cond.methodLink RX1 103 yX1_runOver, Cond.instanceMethod yX1_runOver, Cond.selects RX1 yX1_runOver yX1_runOver, Cond.code yX1_runOver cX1_runOver 10 none, Cond.methodLink RX1 144 Lib.Math.max.name, Cond.static Lib.Math.max.name, Cond.code Lib.Math.max.name Lib.Math.max.code 2 (some .int), Cond.methodLink RX1 106 yX1_emptyDredged, Cond.instanceMethod yX1_emptyDredged, Cond.selects RX1 yX1_emptyDredged yX1_emptyDredged, Cond.code yX1_emptyDredged cX1_emptyDredged 3 none, Cond.methodLink RX1 119 yX1_deepWaterFor, Cond.instanceMethod yX1_deepWaterFor, Cond.selects RX1 yX1_deepWaterFor yX1_deepWaterFor, Cond.code yX1_deepWaterFor cX1_deepWaterFor 6 (some .int), Cond.instanceMethod yX6_hasYear, Cond.selects RX6 yX6_hasYear yX6_hasYear, Cond.code yX6_hasYear cX6_hasYear 2 (some .boolean), Cond.methodLink RX1 150 yX1_swimsOver]
def wsL_law_r17 : List Cond := [Cond.instanceMethod yX1_swimsOver, Cond.selects RX1 yX1_swimsOver yX1_swimsOver, Cond.code yX1_swimsOver cX1_swimsOver 4 (some .boolean), Cond.methodLink RL 27 yX10_dukedom, Cond.instanceMethod yX10_dukedom, Cond.selects RX10 yX10_dukedom yX10_dukedom, Cond.code yX10_dukedom cX10_dukedom 2 (some .int), Cond.fieldLink RX10 107 "MoatRanksModel" "size" "I", Cond.fieldLink RX10 110 "MoatRanksModel" "at" "I", Cond.fieldLink RX10 141 "MoatRanksModel" "faultKind" "I", Cond.fieldLink RX10 120 "MoatRanksModel" "token" "I", Cond.methodLink RX10 162 yX10_advance, Cond.instanceMethod yX10_advance, Cond.selects RX10 yX10_advance yX10_advance, Cond.code yX10_advance cX10_advance 2 none, Cond.fieldLink RX10 117 "MoatRanksModel" "from" "I", Cond.constantLong RX10 123 (97), Cond.constantLong RX10 125 (122), Cond.constantLong RX10 127 (48), Cond.constantLong RX10 129 (57), Cond.fieldLink RX10 131 "MoatRanksModel" "value" "I", Cond.constant RX10 134 (99999), Cond.methodLink RX10 135 Lib.Math.min.name, Cond.methodLink RX10 113 yX10_see]
def wsL_law_r18 : List Cond := [Cond.instanceMethod yX10_see, Cond.selects RX10 yX10_see yX10_see, Cond.code yX10_see cX10_see 2 (some .int), Cond.methodLink RX10 144 yX10_good, Cond.instanceMethod yX10_good, Cond.selects RX10 yX10_good yX10_good, Cond.code yX10_good cX10_good 1 (some .boolean), Cond.methodLink RX10 227 yX10_readLine, Cond.instanceMethod yX10_readLine, Cond.selects RX10 yX10_readLine yX10_readLine, Cond.code yX10_readLine cX10_readLine 1 none, Cond.methodLink RX10 221 yX10_readFirst, Cond.instanceMethod yX10_readFirst, Cond.selects RX10 yX10_readFirst yX10_readFirst, Cond.code yX10_readFirst cX10_readFirst 1 none, Cond.methodLink RX10 172 yX10_needs, Cond.instanceMethod yX10_needs, Cond.selects RX10 yX10_needs yX10_needs, Cond.code yX10_needs cX10_needs 2 none, Cond.methodLink RX10 165 yX10_takes, Cond.instanceMethod yX10_takes, Cond.selects RX10 yX10_takes yX10_takes, Cond.code yX10_takes cX10_takes 3 (some .boolean), Cond.methodLink RX10 158 yX10_is]
def wsL_law_r19 : List Cond := [Cond.instanceMethod yX10_is, Cond.selects RX10 yX10_is yX10_is, Cond.code yX10_is cX10_is 4 (some .boolean), Cond.methodLink RX10 148 yJ0_length_8abf5, Cond.methodLink RX10 154 yJ0_charAt_5068e, Cond.methodLink RX10 168 yX10_errs, Cond.instanceMethod yX10_errs, Cond.selects RX10 yX10_errs yX10_errs, Cond.code yX10_errs cX10_errs 2 none, Cond.methodLink RX10 183 yX10_told, Cond.instanceMethod yX10_told, Cond.selects RX10 yX10_told yX10_told, Cond.code yX10_told cX10_told 4 (some .int), Cond.methodLink RX10 176 yX10_number, Cond.instanceMethod yX10_number, Cond.selects RX10 yX10_number yX10_number, Cond.code yX10_number cX10_number 4 (some .int), Cond.methodLink RX10 224 yX10_readNext, Cond.instanceMethod yX10_readNext, Cond.selects RX10 yX10_readNext yX10_readNext, Cond.code yX10_readNext cX10_readNext 3 none, Cond.methodLink RX10 210 yX10_isFull, Cond.instanceMethod yX10_isFull, Cond.selects RX10 yX10_isFull yX10_isFull]
def wsL_law_r20 : List Cond := [Cond.code yX10_isFull cX10_isFull 1 (some .boolean), Cond.methodLink RX10 213 yX10_readRank, Cond.instanceMethod yX10_readRank, Cond.selects RX10 yX10_readRank yX10_readRank, Cond.code yX10_readRank cX10_readRank 2 none, Cond.methodLink RX10 218 yX10_readInvite, Cond.instanceMethod yX10_readInvite, Cond.selects RX10 yX10_readInvite yX10_readInvite, Cond.code yX10_readInvite cX10_readInvite 2 none, Cond.methodLink RL 28 yX9_fault, Cond.instanceMethod yX9_fault, Cond.selects RX9 yX9_fault yX9_fault, Cond.code yX9_fault cX9_fault 2 (some .int), Cond.methodLink RL 31 yX10_fault, Cond.instanceMethod yX10_fault, Cond.selects RX10 yX10_fault yX10_fault, Cond.code yX10_fault cX10_fault 2 (some .int), Cond.methodLink RL 32 yX9_rank, Cond.instanceMethod yX9_rank, Cond.selects RX9 yX9_rank yX9_rank, Cond.code yX9_rank cX9_rank 3 (some .int), Cond.methodLink RL 36 yX10_rank, Cond.instanceMethod yX10_rank, Cond.selects RX10 yX10_rank yX10_rank]
def wsL_law_r21 : List Cond := [Cond.code yX10_rank cX10_rank 3 (some .int), Cond.constantLong RX10 234 (3), Cond.methodLink RX10 230 yX10_isRank, Cond.instanceMethod yX10_isRank, Cond.selects RX10 yX10_isRank yX10_isRank, Cond.code yX10_isRank cX10_isRank 3 (some .boolean), Cond.methodLink RX10 236 yX10_of, Cond.instanceMethod yX10_of, Cond.selects RX10 yX10_of yX10_of, Cond.code yX10_of cX10_of 3 (some .int), Cond.methodLink RL 37 yX9_plank, Cond.instanceMethod yX9_plank, Cond.selects RX9 yX9_plank yX9_plank, Cond.code yX9_plank cX9_plank 3 (some .int), Cond.instanceMethod yX6_hasPlank, Cond.selects RX6 yX6_hasPlank yX6_hasPlank, Cond.code yX6_hasPlank cX6_hasPlank 2 (some .boolean), Cond.methodLink RL 40 yX10_plank, Cond.instanceMethod yX10_plank, Cond.selects RX10 yX10_plank yX10_plank, Cond.code yX10_plank cX10_plank 3 (some .int), Cond.methodLink RL 41 yX9_invite, Cond.instanceMethod yX9_invite, Cond.selects RX9 yX9_invite yX9_invite]
def wsL_law_r22 : List Cond := [Cond.code yX9_invite cX9_invite 4 (some .int), Cond.instanceMethod yX3_has, Cond.selects RX3 yX3_has yX3_has, Cond.code yX3_has cX3_has 2 (some .boolean), Cond.methodLink RL 44 yX10_invite, Cond.instanceMethod yX10_invite, Cond.selects RX10 yX10_invite yX10_invite, Cond.code yX10_invite cX10_invite 3 (some .int), Cond.constantLong RX10 98 (2), Cond.methodLink RX10 239 yX10_isInvite, Cond.instanceMethod yX10_isInvite, Cond.selects RX10 yX10_isInvite yX10_isInvite, Cond.code yX10_isInvite cX10_isInvite 2 (some .boolean), Cond.methodLink RX10 243 yX10_inviteOf, Cond.instanceMethod yX10_inviteOf, Cond.selects RX10 yX10_inviteOf yX10_inviteOf, Cond.code yX10_inviteOf cX10_inviteOf 3 (some .int), Cond.methodLink RL 45 yX9_rain, Cond.instanceMethod yX9_rain, Cond.selects RX9 yX9_rain yX9_rain, Cond.code yX9_rain cX9_rain 2 (some .int), Cond.methodLink RL 48 yX10_rain, Cond.instanceMethod yX10_rain, Cond.selects RX10 yX10_rain yX10_rain]
def wsL_law_r23 : List Cond := [Cond.code yX10_rain cX10_rain 2 (some .int), Cond.methodLink RX10 276 yX10_asItIs, Cond.instanceMethod yX10_asItIs, Cond.selects RX10 yX10_asItIs yX10_asItIs, Cond.code yX10_asItIs cX10_asItIs 3 none, Cond.fieldLink RX10 246 "MoatRanksModel" "lawNow" "I", Cond.fieldLink RX10 249 "MoatRanksModel" "filledSet" "I", Cond.fieldLink RX10 252 "MoatRanksModel" "frostSet" "I", Cond.methodLink RX10 255 Lib.Math.max.name, Cond.methodLink RX10 288 yX10_isYear, Cond.instanceMethod yX10_isYear, Cond.selects RX10 yX10_isYear yX10_isYear, Cond.code yX10_isYear cX10_isYear 3 (some .boolean), Cond.methodLink RL 49 yX9_frosts, Cond.instanceMethod yX9_frosts, Cond.selects RX9 yX9_frosts yX9_frosts, Cond.code yX9_frosts cX9_frosts 1 (some .int), Cond.instanceMethod yX6_isTold, Cond.selects RX6 yX6_isTold yX6_isTold, Cond.code yX6_isTold cX6_isTold 1 (some .boolean), Cond.methodLink RL 52 yX10_frosts, Cond.instanceMethod yX10_frosts, Cond.selects RX10 yX10_frosts yX10_frosts, Cond.code yX10_frosts cX10_frosts 1 (some .int)]
def wsL_law_r24 : List Cond := [Cond.methodLink RX10 282 yX10_isDukedom, Cond.instanceMethod yX10_isDukedom, Cond.selects RX10 yX10_isDukedom yX10_isDukedom, Cond.code yX10_isDukedom cX10_isDukedom 1 (some .boolean), Cond.methodLink RX10 271 yX10_years, Cond.instanceMethod yX10_years, Cond.selects RX10 yX10_years yX10_years, Cond.code yX10_years cX10_years 1 (some .int), Cond.methodLink RL 53 yX9_water, Cond.instanceMethod yX9_water, Cond.selects RX9 yX9_water yX9_water, Cond.code yX9_water cX9_water 3 (some .int), Cond.instanceMethod yX6_hasBoth, Cond.selects RX6 yX6_hasBoth yX6_hasBoth, Cond.code yX6_hasBoth cX6_hasBoth 3 (some .boolean), Cond.methodLink RX6 102 yX6_hasYear, Cond.methodLink RX9 162 yX9_cell, Cond.methodLink RL 56 yX10_water, Cond.instanceMethod yX10_water, Cond.selects RX10 yX10_water yX10_water, Cond.code yX10_water cX10_water 3 (some .int), Cond.methodLink RX10 291 yX10_asksYear, Cond.instanceMethod yX10_asksYear, Cond.selects RX10 yX10_asksYear yX10_asksYear]
def wsL_law_r25 : List Cond := [Cond.code yX10_asksYear cX10_asksYear 2 (some .boolean), Cond.methodLink RX10 285 yX10_asksDukedom, Cond.instanceMethod yX10_asksDukedom, Cond.selects RX10 yX10_asksDukedom yX10_asksDukedom, Cond.code yX10_asksDukedom cX10_asksDukedom 1 (some .boolean), Cond.methodLink RX10 279 yX10_goAll, Cond.instanceMethod yX10_goAll, Cond.selects RX10 yX10_goAll yX10_goAll, Cond.code yX10_goAll cX10_goAll 2 none, Cond.methodLink RX10 273 yX10_goYear, Cond.instanceMethod yX10_goYear, Cond.selects RX10 yX10_goYear yX10_goYear, Cond.code yX10_goYear cX10_goYear 5 none, Cond.methodLink RX10 261 yX10_ranks, Cond.instanceMethod yX10_ranks, Cond.selects RX10 yX10_ranks yX10_ranks, Cond.code yX10_ranks cX10_ranks 1 (some .int), Cond.methodLink RX10 264 yX10_isFrost, Cond.instanceMethod yX10_isFrost, Cond.selects RX10 yX10_isFrost yX10_isFrost, Cond.code yX10_isFrost cX10_isFrost 2 (some .boolean), Cond.methodLink RX10 258 yX10_bit, Cond.static yX10_bit, Cond.code yX10_bit cX10_bit 2 (some .int)]
def wsL_law_r26 : List Cond := [Cond.methodLink RX10 267 yX10_runsOver, Cond.instanceMethod yX10_runsOver, Cond.selects RX10 yX10_runsOver yX10_runsOver, Cond.code yX10_runsOver cX10_runsOver 6 none, Cond.methodLink RX10 294 yX10_waterIn, Cond.instanceMethod yX10_waterIn, Cond.selects RX10 yX10_waterIn yX10_waterIn, Cond.code yX10_waterIn cX10_waterIn 3 (some .int), Cond.methodLink RL 57 yX9_spills, Cond.instanceMethod yX9_spills, Cond.selects RX9 yX9_spills yX9_spills, Cond.code yX9_spills cX9_spills 3 (some .int), Cond.methodLink RL 60 yX10_spills, Cond.instanceMethod yX10_spills, Cond.selects RX10 yX10_spills yX10_spills, Cond.code yX10_spills cX10_spills 3 (some .int), Cond.methodLink RL 61 yX9_lost, Cond.instanceMethod yX9_lost, Cond.selects RX9 yX9_lost yX9_lost, Cond.code yX9_lost cX9_lost 2 (some .int), Cond.methodLink RL 64 yX10_lost, Cond.instanceMethod yX10_lost, Cond.selects RX10 yX10_lost yX10_lost, Cond.code yX10_lost cX10_lost 2 (some .int)]
def wsL_law_r27 : List Cond := [Cond.methodLink RL 65 yX9_drained, Cond.instanceMethod yX9_drained, Cond.selects RX9 yX9_drained yX9_drained, Cond.code yX9_drained cX9_drained 3 (some .int), Cond.methodLink RL 68 yX10_drained, Cond.instanceMethod yX10_drained, Cond.selects RX10 yX10_drained yX10_drained, Cond.code yX10_drained cX10_drained 3 (some .int), Cond.methodLink RL 69 yX9_all, Cond.instanceMethod yX9_all, Cond.selects RX9 yX9_all yX9_all, Cond.code yX9_all cX9_all 4 (some .int), Cond.methodLink RL 72 yX10_all, Cond.instanceMethod yX10_all, Cond.selects RX10 yX10_all yX10_all, Cond.code yX10_all cX10_all 4 (some .int), Cond.methodLink RL 73 yX9_dry, Cond.instanceMethod yX9_dry, Cond.selects RX9 yX9_dry yX9_dry, Cond.code yX9_dry cX9_dry 4 (some .int), Cond.methodLink RL 76 yX10_dry, Cond.instanceMethod yX10_dry, Cond.selects RX10 yX10_dry yX10_dry, Cond.code yX10_dry cX10_dry 4 (some .int)]
def wsL_law_r28 : List Cond := [Cond.methodLink RL 77 yX9_deepest, Cond.instanceMethod yX9_deepest, Cond.selects RX9 yX9_deepest yX9_deepest, Cond.code yX9_deepest cX9_deepest 6 (some .int), Cond.methodLink RL 80 yX10_deepest, Cond.instanceMethod yX10_deepest, Cond.selects RX10 yX10_deepest yX10_deepest, Cond.code yX10_deepest cX10_deepest 4 (some .int), Cond.methodLink RL 81 yX9_most, Cond.instanceMethod yX9_most, Cond.selects RX9 yX9_most yX9_most, Cond.code yX9_most cX9_most 4 (some .int), Cond.methodLink RX9 181 Lib.Math.max.name, Cond.methodLink RL 84 yX10_most, Cond.instanceMethod yX10_most, Cond.selects RX10 yX10_most yX10_most, Cond.code yX10_most cX10_most 4 (some .int), Cond.methodLink RX10 297 yX10_asksRank, Cond.instanceMethod yX10_asksRank, Cond.selects RX10 yX10_asksRank yX10_asksRank, Cond.code yX10_asksRank cX10_asksRank 2 (some .boolean), Cond.methodLink RL 85 yX9_dries, Cond.instanceMethod yX9_dries, Cond.selects RX9 yX9_dries yX9_dries]
def wsL_law_r29 : List Cond := [Cond.code yX9_dries cX9_dries 3 (some .int), Cond.methodLink RL 88 yX10_dries, Cond.instanceMethod yX10_dries, Cond.selects RX10 yX10_dries yX10_dries, Cond.code yX10_dries cX10_dries 3 (some .int), Cond.methodLink RL 89 yX9_wet, Cond.instanceMethod yX9_wet, Cond.selects RX9 yX9_wet yX9_wet, Cond.code yX9_wet cX9_wet 4 (some .int), Cond.methodLink RL 92 yX10_wet, Cond.instanceMethod yX10_wet, Cond.selects RX10 yX10_wet yX10_wet, Cond.code yX10_wet cX10_wet 4 (some .int), Cond.methodLink RL 93 yX9_flood, Cond.instanceMethod yX9_flood, Cond.selects RX9 yX9_flood yX9_flood, Cond.code yX9_flood cX9_flood 4 (some .int), Cond.methodLink RL 96 yX10_flood, Cond.instanceMethod yX10_flood, Cond.selects RX10 yX10_flood yX10_flood, Cond.code yX10_flood cX10_flood 3 (some .int), Cond.methodLink RL 97 yX9_rains, Cond.instanceMethod yX9_rains, Cond.selects RX9 yX9_rains yX9_rains]
def wsL_law_r30 : List Cond := [Cond.code yX9_rains cX9_rains 3 (some .int), Cond.methodLink RL 100 yX10_rains, Cond.instanceMethod yX10_rains, Cond.selects RX10 yX10_rains yX10_rains, Cond.code yX10_rains cX10_rains 3 (some .int), Cond.methodLink RL 101 yX9_lone, Cond.instanceMethod yX9_lone, Cond.selects RX9 yX9_lone yX9_lone, Cond.code yX9_lone cX9_lone 4 (some .int), Cond.instanceMethod yX1_visitedBy, Cond.selects RX1 yX1_visitedBy yX1_visitedBy, Cond.code yX1_visitedBy cX1_visitedBy 5 (some .int), Cond.methodLink RX1 157 yX1_visits, Cond.instanceMethod yX1_visits, Cond.selects RX1 yX1_visits yX1_visits, Cond.code yX1_visits cX1_visits 4 (some .boolean), Cond.methodLink RX1 154 yX1_crosses, Cond.instanceMethod yX1_crosses, Cond.selects RX1 yX1_crosses yX1_crosses, Cond.code yX1_crosses cX1_crosses 4 (some .boolean), Cond.instanceMethod yX6_everyRank, Cond.selects RX6 yX6_everyRank yX6_everyRank, Cond.code yX6_everyRank cX6_everyRank 1 (some .int), Cond.methodLink RL 104 yX10_lone]
def wsL_law_r31 : List Cond := [Cond.instanceMethod yX10_lone, Cond.selects RX10 yX10_lone yX10_lone, Cond.code yX10_lone cX10_lone 5 (some .int), Cond.methodLink RX10 313 yX10_guestsOf, Cond.instanceMethod yX10_guestsOf, Cond.selects RX10 yX10_guestsOf yX10_guestsOf, Cond.code yX10_guestsOf cX10_guestsOf 5 (some .int), Cond.methodLink RX10 307 yX10_doesCome, Cond.instanceMethod yX10_doesCome, Cond.selects RX10 yX10_doesCome yX10_doesCome, Cond.code yX10_doesCome cX10_doesCome 4 (some .boolean), Cond.methodLink RX10 303 yX10_doesFord, Cond.instanceMethod yX10_doesFord, Cond.selects RX10 yX10_doesFord yX10_doesFord, Cond.code yX10_doesFord cX10_doesFord 4 (some .boolean), Cond.methodLink RX10 300 yX10_hasPlank, Cond.instanceMethod yX10_hasPlank, Cond.selects RX10 yX10_hasPlank yX10_hasPlank, Cond.code yX10_hasPlank cX10_hasPlank 4 (some .boolean), Cond.methodLink RL 105 yX9_over, Cond.instanceMethod yX9_over, Cond.selects RX9 yX9_over yX9_over, Cond.code yX9_over cX9_over 4 (some .int), Cond.methodLink RL 109 yX10_over]
def wsL_law_r32 : List Cond := [Cond.instanceMethod yX10_over, Cond.selects RX10 yX10_over yX10_over, Cond.code yX10_over cX10_over 4 (some .int), Cond.methodLink RL 110 yX9_comes, Cond.instanceMethod yX9_comes, Cond.selects RX9 yX9_comes yX9_comes, Cond.code yX9_comes cX9_comes 3 (some .int), Cond.methodLink RL 113 yX10_comes, Cond.instanceMethod yX10_comes, Cond.selects RX10 yX10_comes yX10_comes, Cond.code yX10_comes cX10_comes 3 (some .int), Cond.methodLink RX10 310 yX10_comesOf, Cond.instanceMethod yX10_comesOf, Cond.selects RX10 yX10_comesOf yX10_comesOf, Cond.code yX10_comesOf cX10_comesOf 5 (some .int), Cond.methodLink RL 114 yX9_guests, Cond.instanceMethod yX9_guests, Cond.selects RX9 yX9_guests yX9_guests, Cond.code yX9_guests cX9_guests 5 (some .int), Cond.methodLink RL 117 yX10_guests, Cond.instanceMethod yX10_guests, Cond.selects RX10 yX10_guests yX10_guests, Cond.code yX10_guests cX10_guests 3 (some .int), Cond.methodLink RL 118 yX9_first]
def wsL_law_r33 : List Cond := [Cond.instanceMethod yX9_first, Cond.selects RX9 yX9_first yX9_first, Cond.code yX9_first cX9_first 4 (some .int), Cond.instanceMethod yX6_hasTwo, Cond.selects RX6 yX6_hasTwo yX6_hasTwo, Cond.code yX6_hasTwo cX6_hasTwo 3 (some .boolean), Cond.methodLink RL 121 yX10_first, Cond.instanceMethod yX10_first, Cond.selects RX10 yX10_first yX10_first, Cond.code yX10_first cX10_first 4 (some .int), Cond.methodLink RX10 316 yX10_areTwo, Cond.instanceMethod yX10_areTwo, Cond.selects RX10 yX10_areTwo yX10_areTwo, Cond.code yX10_areTwo cX10_areTwo 3 (some .boolean), Cond.methodLink RL 122 yX9_often, Cond.instanceMethod yX9_often, Cond.selects RX9 yX9_often yX9_often, Cond.code yX9_often cX9_often 5 (some .int), Cond.methodLink RL 125 yX10_often, Cond.instanceMethod yX10_often, Cond.selects RX10 yX10_often yX10_often, Cond.code yX10_often cX10_often 5 (some .int), Cond.methodLink RL 126 yX9_news, Cond.instanceMethod yX9_news]
def wsL_law_r34 : List Cond := [Cond.selects RX9 yX9_news yX9_news, Cond.code yX9_news cX9_news 6 (some .int), Cond.instanceMethod yX1_spread, Cond.selects RX1 yX1_spread yX1_spread, Cond.code yX1_spread cX1_spread 5 (some .int), Cond.methodLink RX1 160 yX1_visitedBy, Cond.methodLink RL 129 yX10_news, Cond.instanceMethod yX10_news, Cond.selects RX10 yX10_news yX10_news, Cond.code yX10_news cX10_news 4 (some .int), Cond.methodLink RX10 321 yX10_newsOf, Cond.instanceMethod yX10_newsOf, Cond.selects RX10 yX10_newsOf yX10_newsOf, Cond.code yX10_newsOf cX10_newsOf 8 (some .int), Cond.constant RX10 320 (1000000000), Cond.methodLink RX10 325 yX10_orNone, Cond.static yX10_orNone, Cond.code yX10_orNone cX10_orNone 1 (some .int), Cond.methodLink RL 130 yX9_friends, Cond.instanceMethod yX9_friends, Cond.selects RX9 yX9_friends yX9_friends, Cond.code yX9_friends cX9_friends 2 (some .int), Cond.instanceMethod yX1_pairs, Cond.selects RX1 yX1_pairs yX1_pairs]
def wsL_law_r35 : List Cond := [Cond.code yX1_pairs cX1_pairs 5 (some .int), Cond.methodLink RL 133 yX10_friends, Cond.instanceMethod yX10_friends, Cond.selects RX10 yX10_friends yX10_friends, Cond.code yX10_friends cX10_friends 2 (some .int), Cond.methodLink RX10 328 yX10_friendsOf, Cond.instanceMethod yX10_friendsOf, Cond.selects RX10 yX10_friendsOf yX10_friendsOf, Cond.code yX10_friendsOf cX10_friendsOf 5 (some .int), Cond.methodLink RL 134 yX9_fair, Cond.instanceMethod yX9_fair, Cond.selects RX9 yX9_fair yX9_fair, Cond.code yX9_fair cX9_fair 5 (some .int), Cond.methodLink RL 137 yX10_fair, Cond.instanceMethod yX10_fair, Cond.selects RX10 yX10_fair yX10_fair, Cond.code yX10_fair cX10_fair 3 (some .int), Cond.methodLink RL 138 yX9_fords, Cond.instanceMethod yX9_fords, Cond.selects RX9 yX9_fords yX9_fords, Cond.code yX9_fords cX9_fords 5 (some .int), Cond.methodLink RL 141 yX10_fords, Cond.instanceMethod yX10_fords, Cond.selects RX10 yX10_fords yX10_fords]
def wsL_law_r36 : List Cond := [Cond.code yX10_fords cX10_fords 5 (some .int), Cond.methodLink RL 142 yX9_shut, Cond.instanceMethod yX9_shut, Cond.selects RX9 yX9_shut yX9_shut, Cond.code yX9_shut cX9_shut 4 (some .int), Cond.methodLink RL 145 yX10_shut, Cond.instanceMethod yX10_shut, Cond.selects RX10 yX10_shut yX10_shut, Cond.code yX10_shut cX10_shut 4 (some .int), Cond.methodLink RL 146 yX9_widest, Cond.instanceMethod yX9_widest, Cond.selects RX9 yX9_widest yX9_widest, Cond.code yX9_widest cX9_widest 4 (some .int), Cond.instanceMethod yX1_farthest, Cond.selects RX1 yX1_farthest yX1_farthest, Cond.code yX1_farthest cX1_farthest 7 (some .int), Cond.methodLink RX1 163 yX1_spread, Cond.methodLink RL 149 yX10_widest, Cond.instanceMethod yX10_widest, Cond.selects RX10 yX10_widest yX10_widest, Cond.code yX10_widest cX10_widest 5 (some .int), Cond.methodLink RL 150 yX9_kept, Cond.instanceMethod yX9_kept, Cond.selects RX9 yX9_kept yX9_kept]
def wsL_law_r37 : List Cond := [Cond.code yX9_kept cX9_kept 2 (some .int), Cond.instanceMethod yX1_isKept, Cond.selects RX1 yX1_isKept yX1_isKept, Cond.code yX1_isKept cX1_isKept 3 (some .boolean), Cond.methodLink RL 153 yX10_kept, Cond.instanceMethod yX10_kept, Cond.selects RX10 yX10_kept yX10_kept, Cond.code yX10_kept cX10_kept 2 (some .int), Cond.methodLink RX10 331 yX10_isKept, Cond.instanceMethod yX10_isKept, Cond.selects RX10 yX10_isKept yX10_isKept, Cond.code yX10_isKept cX10_isKept 2 (some .boolean), Cond.methodLink RL 154 yX9_keeps, Cond.instanceMethod yX9_keeps, Cond.selects RX9 yX9_keeps yX9_keeps, Cond.code yX9_keeps cX9_keeps 1 (some .int), Cond.instanceMethod yX1_keptBits, Cond.selects RX1 yX1_keptBits yX1_keptBits, Cond.code yX1_keptBits cX1_keptBits 4 (some .int), Cond.methodLink RX1 176 yX1_isKept, Cond.methodLink RL 157 yX10_keeps, Cond.instanceMethod yX10_keeps, Cond.selects RX10 yX10_keeps yX10_keeps, Cond.code yX10_keeps cX10_keeps 1 (some .int)]
def wsL_law_r38 : List Cond := [Cond.methodLink RX10 334 yX10_keptSet, Cond.instanceMethod yX10_keptSet, Cond.selects RX10 yX10_keptSet yX10_keptSet, Cond.code yX10_keptSet cX10_keptSet 3 (some .int), Cond.methodLink RL 158 yX9_hinders, Cond.instanceMethod yX9_hinders, Cond.selects RX9 yX9_hinders yX9_hinders, Cond.code yX9_hinders cX9_hinders 2 (some .int), Cond.instanceMethod yX1_hindrance, Cond.selects RX1 yX1_hindrance yX1_hindrance, Cond.code yX1_hindrance cX1_hindrance 2 (some .int), Cond.methodLink RL 161 yX10_hinders, Cond.instanceMethod yX10_hinders, Cond.selects RX10 yX10_hinders yX10_hinders, Cond.code yX10_hinders cX10_hinders 4 (some .int), Cond.methodLink RL 162 yX9_hosts, Cond.instanceMethod yX9_hosts, Cond.selects RX9 yX9_hosts yX9_hosts, Cond.code yX9_hosts cX9_hosts 2 (some .int), Cond.instanceMethod yX3_toWhom, Cond.selects RX3 yX3_toWhom yX3_toWhom, Cond.code yX3_toWhom cX3_toWhom 4 (some .int), Cond.methodLink RX9 228 yJ6_bitCount_0f7a4, Cond.static yJ6_bitCount_0f7a4]
def wsL_law_r39 : List Cond := [Cond.initialized RJ6, Cond.code yJ6_bitCount_0f7a4 cJ6_bitCount_0f7a4 1 (some .int), Cond.constant RJ6 265 (1431655765), Cond.constant RJ6 266 (858993459), Cond.constant RJ6 267 (252645135), Cond.methodLink RL 165 yX10_hosts, Cond.instanceMethod yX10_hosts, Cond.selects RX10 yX10_hosts yX10_hosts, Cond.code yX10_hosts cX10_hosts 2 (some .int), Cond.methodLink RX10 340 yX10_keptOf, Cond.instanceMethod yX10_keptOf, Cond.selects RX10 yX10_keptOf yX10_keptOf, Cond.code yX10_keptOf cX10_keptOf 5 (some .int), Cond.methodLink RL 166 yX9_goes, Cond.instanceMethod yX9_goes, Cond.selects RX9 yX9_goes yX9_goes, Cond.code yX9_goes cX9_goes 2 (some .int), Cond.instanceMethod yX3_ofWhom, Cond.selects RX3 yX3_ofWhom yX3_ofWhom, Cond.code yX3_ofWhom cX3_ofWhom 4 (some .int), Cond.methodLink RL 169 yX10_goes, Cond.instanceMethod yX10_goes, Cond.selects RX10 yX10_goes yX10_goes, Cond.code yX10_goes cX10_goes 2 (some .int)]
def wsL_law_r40 : List Cond := [Cond.methodLink RL 170 yX9_host, Cond.instanceMethod yX9_host, Cond.selects RX9 yX9_host yX9_host, Cond.code yX9_host cX9_host 6 (some .int), Cond.methodLink RL 173 yX10_host, Cond.instanceMethod yX10_host, Cond.selects RX10 yX10_host yX10_host, Cond.code yX10_host cX10_host 3 (some .int), Cond.methodLink RL 174 yX9_idle, Cond.instanceMethod yX9_idle, Cond.selects RX9 yX9_idle yX9_idle, Cond.code yX9_idle cX9_idle 5 (some .int), Cond.instanceMethod yX1_keptSum, Cond.selects RX1 yX1_keptSum yX1_keptSum, Cond.code yX1_keptSum cX1_keptSum 2 (some .int), Cond.methodLink RX1 180 yX1_keptBits, Cond.methodLink RX1 183 yJ6_bitCount_0f7a4, Cond.methodLink RL 177 yX10_idle, Cond.instanceMethod yX10_idle, Cond.selects RX10 yX10_idle yX10_idle, Cond.code yX10_idle cX10_idle 5 (some .int), Cond.methodLink RX10 343 yX10_keptMany, Cond.instanceMethod yX10_keptMany, Cond.selects RX10 yX10_keptMany yX10_keptMany]
def wsL_law_r41 : List Cond := [Cond.code yX10_keptMany cX10_keptMany 1 (some .int), Cond.methodLink RX10 337 yX10_bits, Cond.static yX10_bits, Cond.code yX10_bits cX10_bits 3 (some .int), Cond.methodLink RL 178 yX9_best, Cond.instanceMethod yX9_best, Cond.selects RX9 yX9_best yX9_best, Cond.code yX9_best cX9_best 1 (some .int), Cond.instanceMethod yX4_plan, Cond.selects RX4 yX4_plan yX4_plan, Cond.code yX4_plan cX4_plan 6 none, Cond.methodLink RX4 40 yX4_choose, Cond.instanceMethod yX4_choose, Cond.selects RX4 yX4_choose yX4_choose, Cond.code yX4_choose cX4_choose 8 none, Cond.methodLink RX4 44 yX4_behind, Cond.instanceMethod yX4_behind, Cond.selects RX4 yX4_behind yX4_behind, Cond.code yX4_behind cX4_behind 5 (some .int), Cond.instanceMethod yX4_mostKept, Cond.selects RX4 yX4_mostKept yX4_mostKept, Cond.code yX4_mostKept cX4_mostKept 1 (some .int), Cond.methodLink RL 181 yX10_best, Cond.instanceMethod yX10_best]
def wsL_law_r42 : List Cond := [Cond.selects RX10 yX10_best yX10_best, Cond.code yX10_best cX10_best 1 (some .int), Cond.fieldLink RX10 346 "MoatRanksModel" "rowMost" "I", Cond.methodLink RX10 355 yX10_asksRows, Cond.instanceMethod yX10_asksRows, Cond.selects RX10 yX10_asksRows yX10_asksRows, Cond.code yX10_asksRows cX10_asksRows 4 (some .boolean), Cond.fieldLink RX10 349 "MoatRanksModel" "rowMany" "I", Cond.methodLink RX10 352 yX10_nextRow, Cond.instanceMethod yX10_nextRow, Cond.selects RX10 yX10_nextRow yX10_nextRow, Cond.code yX10_nextRow cX10_nextRow 2 (some .boolean), Cond.methodLink RL 182 yX9_lay, Cond.instanceMethod yX9_lay, Cond.selects RX9 yX9_lay yX9_lay, Cond.code yX9_lay cX9_lay 2 (some .int), Cond.instanceMethod yX4_place, Cond.selects RX4 yX4_place yX4_place, Cond.code yX4_place cX4_place 6 (some .int), Cond.methodLink RX4 55 yX4_firstOfBest, Cond.instanceMethod yX4_firstOfBest, Cond.selects RX4 yX4_firstOfBest yX4_firstOfBest, Cond.code yX4_firstOfBest cX4_firstOfBest 5 (some .int), Cond.methodLink RL 185 yX10_lay]
def wsL_law_r43 : List Cond := [Cond.instanceMethod yX10_lay, Cond.selects RX10 yX10_lay yX10_lay, Cond.code yX10_lay cX10_lay 2 (some .int), Cond.methodLink RL 186 yX9_ways, Cond.instanceMethod yX9_ways, Cond.selects RX9 yX9_ways yX9_ways, Cond.code yX9_ways cX9_ways 1 (some .int), Cond.instanceMethod yX4_rowsOfBest, Cond.selects RX4 yX4_rowsOfBest yX4_rowsOfBest, Cond.code yX4_rowsOfBest cX4_rowsOfBest 1 (some .int), Cond.methodLink RL 189 yX10_ways, Cond.instanceMethod yX10_ways, Cond.selects RX10 yX10_ways yX10_ways, Cond.code yX10_ways cX10_ways 1 (some .int), Cond.methodLink RL 190 yX9_fills, Cond.instanceMethod yX9_fills, Cond.selects RX9 yX9_fills yX9_fills, Cond.code yX9_fills cX9_fills 1 (some .int), Cond.instanceMethod yX1_allHindrance, Cond.selects RX1 yX1_allHindrance yX1_allHindrance, Cond.code yX1_allHindrance cX1_allHindrance 3 (some .int), Cond.methodLink RX1 188 yX1_hindrance, Cond.methodLink RL 193 yX10_fills, Cond.instanceMethod yX10_fills]
def wsL_law_r44 : List Cond := [Cond.selects RX10 yX10_fills yX10_fills, Cond.code yX10_fills cX10_fills 1 (some .int), Cond.methodLink RX10 361 yX10_fillSet, Cond.instanceMethod yX10_fillSet, Cond.selects RX10 yX10_fillSet yX10_fillSet, Cond.code yX10_fillSet cX10_fillSet 3 (some .int), Cond.methodLink RX10 358 yX10_timely, Cond.instanceMethod yX10_timely, Cond.selects RX10 yX10_timely yX10_timely, Cond.code yX10_timely cX10_timely 3 (some .int), Cond.methodLink RL 194 yX9_filled, Cond.instanceMethod yX9_filled, Cond.selects RX9 yX9_filled yX9_filled, Cond.code yX9_filled cX9_filled 1 (some .int), Cond.methodLink RL 197 yX10_filled, Cond.instanceMethod yX10_filled, Cond.selects RX10 yX10_filled yX10_filled, Cond.code yX10_filled cX10_filled 1 (some .int), Cond.methodLink RL 198 yX9_path, Cond.instanceMethod yX9_path, Cond.selects RX9 yX9_path yX9_path, Cond.code yX9_path cX9_path 5 (some .int), Cond.methodLink RL 201 yX10_path, Cond.instanceMethod yX10_path]
def wsL_law_r45 : List Cond := [Cond.selects RX10 yX10_path yX10_path, Cond.code yX10_path cX10_path 4 (some .int), Cond.methodLink RL 202 yX9_drain, Cond.instanceMethod yX9_drain, Cond.selects RX9 yX9_drain yX9_drain, Cond.code yX9_drain cX9_drain 6 (some .int), Cond.methodLink RL 205 yX10_drain, Cond.instanceMethod yX10_drain, Cond.selects RX10 yX10_drain yX10_drain, Cond.code yX10_drain cX10_drain 5 (some .int), Cond.methodLink RL 206 yX9_learns, Cond.instanceMethod yX9_learns, Cond.selects RX9 yX9_learns yX9_learns, Cond.code yX9_learns cX9_learns 4 (some .int), Cond.instanceMethod yX1_deepestOnTheWay, Cond.selects RX1 yX1_deepestOnTheWay yX1_deepestOnTheWay, Cond.code yX1_deepestOnTheWay cX1_deepestOnTheWay 3 (some .int), Cond.methodLink RX1 191 yX1_toSwim, Cond.instanceMethod yX1_toSwim, Cond.selects RX1 yX1_toSwim yX1_toSwim, Cond.code yX1_toSwim cX1_toSwim 3 (some .int), Cond.methodLink RL 209 yX10_learns, Cond.instanceMethod yX10_learns, Cond.selects RX10 yX10_learns yX10_learns]
def wsL_law_r46 : List Cond := [Cond.code yX10_learns cX10_learns 4 (some .int), Cond.methodLink RL 210 yX9_by, Cond.instanceMethod yX9_by, Cond.selects RX9 yX9_by yX9_by, Cond.code yX9_by cX9_by 2 (some .int), Cond.methodLink RX9 275 yX9_keptByLaw, Cond.instanceMethod yX9_keptByLaw, Cond.selects RX9 yX9_keptByLaw yX9_keptByLaw, Cond.code yX9_keptByLaw cX9_keptByLaw 2 (some .int), Cond.methodLink RL 213 yX10_by, Cond.instanceMethod yX10_by, Cond.selects RX10 yX10_by yX10_by, Cond.code yX10_by cX10_by 2 (some .int), Cond.methodLink RX10 364 yX10_keptBy, Cond.instanceMethod yX10_keptBy, Cond.selects RX10 yX10_keptBy yX10_keptBy, Cond.code yX10_keptBy cX10_keptBy 2 (some .int), Cond.methodLink RL 214 yX9_law, Cond.instanceMethod yX9_law, Cond.selects RX9 yX9_law yX9_law, Cond.code yX9_law cX9_law 5 (some .int), Cond.methodLink RL 217 yX10_law, Cond.instanceMethod yX10_law, Cond.selects RX10 yX10_law yX10_law]
def wsL_law_r47 : List Cond := [Cond.code yX10_law cX10_law 3 (some .int), Cond.methodLink RL 218 yX9_waters, Cond.instanceMethod yX9_waters, Cond.selects RX9 yX9_waters yX9_waters, Cond.code yX9_waters cX9_waters 4 (some .int), Cond.methodLink RX9 278 yX9_guessTold, Cond.instanceMethod yX9_guessTold, Cond.selects RX9 yX9_guessTold yX9_guessTold, Cond.code yX9_guessTold cX9_guessTold 5 (some .int), Cond.methodLink RX9 294 yX9_whyNotSeen, Cond.instanceMethod yX9_whyNotSeen, Cond.selects RX9 yX9_whyNotSeen yX9_whyNotSeen, Cond.code yX9_whyNotSeen cX9_whyNotSeen 3 (some .int), Cond.methodLink RX9 370 yX9_isSlot, Cond.static yX9_isSlot, Cond.code yX9_isSlot cX9_isSlot 1 (some .boolean), Cond.instanceMethod yX7_isThere, Cond.selects RX7 yX7_isThere yX7_isThere, Cond.code yX7_isThere cX7_isThere 1 (some .boolean), Cond.instanceMethod yX7_tellsOf, Cond.selects RX7 yX7_tellsOf yX7_tellsOf, Cond.code yX7_tellsOf cX7_tellsOf 4 (some .boolean), Cond.methodLink RX7 33 yX7_isBelow, Cond.static yX7_isBelow]
def wsL_law_r48 : List Cond := [Cond.code yX7_isBelow cX7_isBelow 3 (some .boolean), Cond.instanceMethod yX2_clear, Cond.selects RX2 yX2_clear yX2_clear, Cond.code yX2_clear cX2_clear 1 none, Cond.methodLink RX2 25 yJ7_fill_53178, Cond.instanceMethod yX7_isSeenIn, Cond.selects RX7 yX7_isSeenIn yX7_isSeenIn, Cond.code yX7_isSeenIn cX7_isSeenIn 4 (some .boolean), Cond.instanceMethod yX2_add, Cond.selects RX2 yX2_add yX2_add, Cond.code yX2_add cX2_add 6 none, Cond.methodLink RL 221 yX10_waters, Cond.instanceMethod yX10_waters, Cond.selects RX10 yX10_waters yX10_waters, Cond.code yX10_waters cX10_waters 4 (some .int), Cond.fieldLink RX10 379 "MoatRanksModel" "fitMany" "I", Cond.methodLink RX10 385 yX10_layWaters, Cond.instanceMethod yX10_layWaters, Cond.selects RX10 yX10_layWaters yX10_layWaters, Cond.code yX10_layWaters cX10_layWaters 6 (some .int), Cond.methodLink RX10 376 yX10_askSeen, Cond.instanceMethod yX10_askSeen, Cond.selects RX10 yX10_askSeen yX10_askSeen, Cond.code yX10_askSeen cX10_askSeen 3 (some .int)]
def wsL_law_r49 : List Cond := [Cond.constantLong RX10 374 (99), Cond.methodLink RX10 367 yX10_isSlot, Cond.static yX10_isSlot, Cond.code yX10_isSlot cX10_isSlot 1 (some .boolean), Cond.methodLink RX10 370 yX10_numberAt, Cond.instanceMethod yX10_numberAt, Cond.selects RX10 yX10_numberAt yX10_numberAt, Cond.code yX10_numberAt cX10_numberAt 3 (some .long), Cond.methodLink RX10 382 yX10_isSeen, Cond.instanceMethod yX10_isSeen, Cond.selects RX10 yX10_isSeen yX10_isSeen, Cond.code yX10_isSeen cX10_isSeen 3 (some .boolean), Cond.methodLink RL 222 yX9_least, Cond.instanceMethod yX9_least, Cond.selects RX9 yX9_least yX9_least, Cond.code yX9_least cX9_least 4 (some .int), Cond.methodLink RL 225 yX10_least, Cond.instanceMethod yX10_least, Cond.selects RX10 yX10_least yX10_least, Cond.code yX10_least cX10_least 4 (some .int), Cond.methodLink RL 226 yX9_greatest, Cond.instanceMethod yX9_greatest, Cond.selects RX9 yX9_greatest yX9_greatest, Cond.code yX9_greatest cX9_greatest 4 (some .int)]
def wsL_law_r50 : List Cond := [Cond.methodLink RL 229 yX10_greatest, Cond.instanceMethod yX10_greatest, Cond.selects RX10 yX10_greatest yX10_greatest, Cond.code yX10_greatest cX10_greatest 4 (some .int), Cond.methodLink RL 230 yX9_ask, Cond.instanceMethod yX9_ask, Cond.selects RX9 yX9_ask yX9_ask, Cond.code yX9_ask cX9_ask 4 (some .int), Cond.instanceMethod yX2_yearToAsk, Cond.selects RX2 yX2_yearToAsk yX2_yearToAsk, Cond.code yX2_yearToAsk cX2_yearToAsk 6 (some .int), Cond.methodLink RX2 54 yX2_atWorst, Cond.instanceMethod yX2_atWorst, Cond.selects RX2 yX2_atWorst yX2_atWorst, Cond.code yX2_atWorst cX2_atWorst 4 (some .int), Cond.methodLink RX2 49 Lib.Math.max.name, Cond.methodLink RL 233 yX10_ask, Cond.instanceMethod yX10_ask, Cond.selects RX10 yX10_ask yX10_ask, Cond.code yX10_ask cX10_ask 4 (some .int), Cond.methodLink RX10 391 yX10_askOf, Cond.instanceMethod yX10_askOf, Cond.selects RX10 yX10_askOf yX10_askOf, Cond.code yX10_askOf cX10_askOf 7 (some .int)]
def wsL_law_r51 : List Cond := [Cond.fieldLink RX10 388 "MoatRanksModel" "askWorst" "I", Cond.methodLink RL 234 yX9_leaves, Cond.instanceMethod yX9_leaves, Cond.selects RX9 yX9_leaves yX9_leaves, Cond.code yX9_leaves cX9_leaves 5 (some .int), Cond.methodLink RL 237 yX10_leaves, Cond.instanceMethod yX10_leaves, Cond.selects RX10 yX10_leaves yX10_leaves, Cond.code yX10_leaves cX10_leaves 4 (some .int), Cond.methodLink RL 238 yX9_laws, Cond.instanceMethod yX9_laws, Cond.selects RX9 yX9_laws yX9_laws, Cond.code yX9_laws cX9_laws 5 (some .int), Cond.methodLink RL 241 yX10_laws, Cond.instanceMethod yX10_laws, Cond.selects RX10 yX10_laws yX10_laws, Cond.code yX10_laws cX10_laws 4 (some .int), Cond.methodLink RL 242 yX9_worth, Cond.instanceMethod yX9_worth, Cond.selects RX9 yX9_worth yX9_worth, Cond.code yX9_worth cX9_worth 2 (some .int), Cond.methodLink RL 245 yX10_worth, Cond.instanceMethod yX10_worth, Cond.selects RX10 yX10_worth yX10_worth]
def wsL_law_r52 : List Cond := [Cond.code yX10_worth cX10_worth 2 (some .int), Cond.methodLink RX10 394 yX10_keptWith, Cond.instanceMethod yX10_keptWith, Cond.selects RX10 yX10_keptWith yX10_keptWith, Cond.code yX10_keptWith cX10_keptWith 2 (some .int), Cond.methodLink RL 246 yX9_share, Cond.instanceMethod yX9_share, Cond.selects RX9 yX9_share yX9_share, Cond.code yX9_share cX9_share 6 (some .int), Cond.constantLong RX9 311 (2), Cond.methodLink RX9 308 yX9_isEither, Cond.static yX9_isEither, Cond.code yX9_isEither cX9_isEither 1 (some .boolean), Cond.methodLink RX9 313 yX9_inLowestTerms, Cond.static yX9_inLowestTerms, Cond.code yX9_inLowestTerms cX9_inLowestTerms 12 (some .long), Cond.constantLong RX9 324 (-2), Cond.methodLink RL 249 yX10_share, Cond.instanceMethod yX10_share, Cond.selects RX10 yX10_share yX10_share, Cond.code yX10_share cX10_share 6 (some .int), Cond.methodLink RX10 405 yX10_factorial, Cond.static yX10_factorial, Cond.code yX10_factorial cX10_factorial 3 (some .int)]
def wsL_law_r53 : List Cond := [Cond.methodLink RX10 408 yX10_part, Cond.static yX10_part, Cond.code yX10_part cX10_part 5 (some .long), Cond.methodLink RX10 401 yX10_divisor, Cond.static yX10_divisor, Cond.code yX10_divisor cX10_divisor 10 (some .long), Cond.methodLink RX10 397 Lib.MathLoose.abs_long.x, Cond.static Lib.MathLoose.abs_long.x, Cond.code Lib.MathLoose.abs_long.x Lib.MathLoose.abs_long.code 2 (some .long), Cond.methodLink RL 250 yX9_rests, Cond.instanceMethod yX9_rests, Cond.selects RX9 yX9_rests yX9_rests, Cond.code yX9_rests cX9_rests 9 (some .int), Cond.methodLink RX9 317 yX9_gain, Cond.instanceMethod yX9_gain, Cond.selects RX9 yX9_gain yX9_gain, Cond.code yX9_gain cX9_gain 7 (some .int), Cond.methodLink RL 253 yX10_rests, Cond.instanceMethod yX10_rests, Cond.selects RX10 yX10_rests yX10_rests, Cond.code yX10_rests cX10_rests 8 (some .int), Cond.methodLink RX10 412 yX10_getsBy, Cond.instanceMethod yX10_getsBy, Cond.selects RX10 yX10_getsBy yX10_getsBy]
def wsL_law_r54 : List Cond := [Cond.code yX10_getsBy cX10_getsBy 7 (some .int), Cond.methodLink RL 254 yX9_gets, Cond.instanceMethod yX9_gets, Cond.selects RX9 yX9_gets yX9_gets, Cond.code yX9_gets cX9_gets 5 (some .int), Cond.methodLink RL 258 yX10_gets, Cond.instanceMethod yX10_gets, Cond.selects RX10 yX10_gets yX10_gets, Cond.code yX10_gets cX10_gets 5 (some .int), Cond.methodLink RL 259 yX9_chance, Cond.instanceMethod yX9_chance, Cond.selects RX9 yX9_chance yX9_chance, Cond.code yX9_chance cX9_chance 8 (some .long), Cond.methodLink RX9 321 yX9_isChanceYear, Cond.instanceMethod yX9_isChanceYear, Cond.selects RX9 yX9_isChanceYear yX9_isChanceYear, Cond.code yX9_isChanceYear cX9_isChanceYear 2 (some .boolean), Cond.methodLink RX9 326 yX9_weight, Cond.instanceMethod yX9_weight, Cond.selects RX9 yX9_weight yX9_weight, Cond.code yX9_weight cX9_weight 6 (some .long), Cond.methodLink RX9 330 yX9_allWeights, Cond.static yX9_allWeights, Cond.code yX9_allWeights cX9_allWeights 4 (some .long)]
def wsL_law_r55 : List Cond := [Cond.constantLong RX9 410 (10), Cond.methodLink RL 263 yX10_chance, Cond.instanceMethod yX10_chance, Cond.selects RX10 yX10_chance yX10_chance, Cond.code yX10_chance cX10_chance 5 (some .long), Cond.constantLong RX10 431 (-2), Cond.fieldLink RX10 420 "MoatRanksModel" "oftenComes" "J", Cond.fieldLink RX10 416 "MoatRanksModel" "oftenAll" "J", Cond.methodLink RX10 428 yX10_isFrosts, Cond.instanceMethod yX10_isFrosts, Cond.selects RX10 yX10_isFrosts yX10_isFrosts, Cond.code yX10_isFrosts cX10_isFrosts 3 (some .boolean), Cond.constantLong RX10 426 (7), Cond.methodLink RX10 433 yX10_layFrosts, Cond.instanceMethod yX10_layFrosts, Cond.selects RX10 yX10_layFrosts yX10_layFrosts, Cond.code yX10_layFrosts cX10_layFrosts 9 none, Cond.fieldLink RX10 423 "MoatRanksModel" "oftenWater" "J", Cond.methodLink RL 264 yX9_mean, Cond.instanceMethod yX9_mean, Cond.selects RX9 yX9_mean yX9_mean, Cond.code yX9_mean cX9_mean 7 (some .long), Cond.methodLink RL 268 yX10_mean, Cond.instanceMethod yX10_mean]
def wsL_law_r56 : List Cond := [Cond.selects RX10 yX10_mean yX10_mean, Cond.code yX10_mean cX10_mean 4 (some .long), Cond.methodLink RL 269 yX9_adds, Cond.instanceMethod yX9_adds, Cond.selects RX9 yX9_adds yX9_adds, Cond.code yX9_adds cX9_adds 5 (some .int), Cond.instanceMethod yX0_addPlank, Cond.selects RX0 yX0_addPlank yX0_addPlank, Cond.code yX0_addPlank cX0_addPlank 3 (some .boolean), Cond.methodLink RX0 25 yX0_add, Cond.instanceMethod yX0_add, Cond.selects RX0 yX0_add yX0_add, Cond.code yX0_add cX0_add 4 (some .boolean), Cond.methodLink RL 272 yX10_adds, Cond.instanceMethod yX10_adds, Cond.selects RX10 yX10_adds yX10_adds, Cond.code yX10_adds cX10_adds 5 (some .int), Cond.constantLong RX10 436 (9), Cond.methodLink RX10 438 yX10_keepAct, Cond.instanceMethod yX10_keepAct, Cond.selects RX10 yX10_keepAct yX10_keepAct, Cond.code yX10_keepAct cX10_keepAct 2 (some .int), Cond.methodLink RL 273 yX9_dredge, Cond.instanceMethod yX9_dredge]
def wsL_law_r57 : List Cond := [Cond.selects RX9 yX9_dredge yX9_dredge, Cond.code yX9_dredge cX9_dredge 3 (some .int), Cond.instanceMethod yX0_addDredging, Cond.selects RX0 yX0_addDredging yX0_addDredging, Cond.code yX0_addDredging cX0_addDredging 3 (some .boolean), Cond.methodLink RL 276 yX10_dredge, Cond.instanceMethod yX10_dredge, Cond.selects RX10 yX10_dredge yX10_dredge, Cond.code yX10_dredge cX10_dredge 3 (some .int), Cond.methodLink RL 277 yX9_undo, Cond.instanceMethod yX9_undo, Cond.selects RX9 yX9_undo yX9_undo, Cond.code yX9_undo cX9_undo 1 (some .int), Cond.methodLink RL 280 yX10_undo, Cond.instanceMethod yX10_undo, Cond.selects RX10 yX10_undo yX10_undo, Cond.code yX10_undo cX10_undo 1 (some .int), Cond.methodLink RL 281 yX9_anew, Cond.instanceMethod yX9_anew, Cond.selects RX9 yX9_anew yX9_anew, Cond.code yX9_anew cX9_anew 2 (some .int), Cond.methodLink RL 284 yX10_anew, Cond.instanceMethod yX10_anew, Cond.selects RX10 yX10_anew yX10_anew]
def wsL_law_r58 : List Cond := [Cond.code yX10_anew cX10_anew 2 (some .int), Cond.methodLink RL 285 yX9_drawn, Cond.instanceMethod yX9_drawn, Cond.selects RX9 yX9_drawn yX9_drawn, Cond.code yX9_drawn cX9_drawn 4 (some .int), Cond.methodLink RX9 347 yX9_isSeed, Cond.static yX9_isSeed, Cond.code yX9_isSeed cX9_isSeed 1 (some .boolean), Cond.constant RX9 401 (2000000000), Cond.methodLink RX9 350 yX9_drawFrosts, Cond.instanceMethod yX9_drawFrosts, Cond.selects RX9 yX9_drawFrosts yX9_drawFrosts, Cond.code yX9_drawFrosts cX9_drawFrosts 6 (some .int), Cond.constantLong RX9 402 (1103515245), Cond.constantLong RX9 404 (12345), Cond.constantLong RX9 406 (2147483648), Cond.constantLong RX9 408 (65536), Cond.methodLink RX9 353 yX9_keptInFrosts, Cond.instanceMethod yX9_keptInFrosts, Cond.selects RX9 yX9_keptInFrosts yX9_keptInFrosts, Cond.code yX9_keptInFrosts cX9_keptInFrosts 2 (some .int), Cond.methodLink RL 288 yX10_drawn, Cond.instanceMethod yX10_drawn, Cond.selects RX10 yX10_drawn yX10_drawn]
def wsL_law_r59 : List Cond := [Cond.code yX10_drawn cX10_drawn 3 (some .int), Cond.methodLink RX10 453 yX10_isSeed, Cond.static yX10_isSeed, Cond.code yX10_isSeed cX10_isSeed 1 (some .boolean), Cond.constantLong RX10 451 (2000000000), Cond.methodLink RX10 456 yX10_goDrawn, Cond.instanceMethod yX10_goDrawn, Cond.selects RX10 yX10_goDrawn yX10_goDrawn, Cond.code yX10_goDrawn cX10_goDrawn 6 none, Cond.constantLong RX10 441 (1103515245), Cond.constantLong RX10 443 (12345), Cond.constantLong RX10 445 (2147483648), Cond.constantLong RX10 447 (65536), Cond.constantLong RX10 449 (10), Cond.methodLink RL 289 yX9_luck, Cond.instanceMethod yX9_luck, Cond.selects RX9 yX9_luck yX9_luck, Cond.code yX9_luck cX9_luck 6 (some .int), Cond.methodLink RL 292 yX10_luck, Cond.instanceMethod yX10_luck, Cond.selects RX10 yX10_luck yX10_luck, Cond.code yX10_luck cX10_luck 6 (some .int), Cond.constantLong RX10 460 (20), Cond.methodLink RL 293 yX9_digs]
def wsL_law_r60 : List Cond := [Cond.instanceMethod yX9_digs, Cond.selects RX9 yX9_digs yX9_digs, Cond.code yX9_digs cX9_digs 4 (some .int), Cond.methodLink RL 296 yX10_digs, Cond.instanceMethod yX10_digs, Cond.selects RX10 yX10_digs yX10_digs, Cond.code yX10_digs cX10_digs 4 (some .int), Cond.methodLink RL 297 yX9_count, Cond.instanceMethod yX9_count, Cond.selects RX9 yX9_count yX9_count, Cond.code yX9_count cX9_count 2 (some .int), Cond.methodLink RX9 364 yX9_rowsThere, Cond.instanceMethod yX9_rowsThere, Cond.selects RX9 yX9_rowsThere yX9_rowsThere, Cond.code yX9_rowsThere cX9_rowsThere 3 (some .int), Cond.methodLink RL 300 yX10_count, Cond.instanceMethod yX10_count, Cond.selects RX10 yX10_count yX10_count, Cond.code yX10_count cX10_count 4 (some .int), Cond.methodLink RL 301 yX9_image, Cond.instanceMethod yX9_image, Cond.selects RX9 yX9_image yX9_image, Cond.code yX9_image cX9_image 2 (some .int), Cond.instanceMethod yX6_copy]
def wsL_law_r61 : List Cond := [Cond.selects RX6 yX6_copy yX6_copy, Cond.code yX6_copy cX6_copy 2 none, Cond.methodLink RX6 85 arraycopyName, Cond.instanceMethod yX3_copy, Cond.selects RX3 yX3_copy yX3_copy, Cond.code yX3_copy cX3_copy 2 none, Cond.methodLink RX3 25 arraycopyName, Cond.instanceMethod yX0_copy, Cond.selects RX0 yX0_copy yX0_copy, Cond.code yX0_copy cX0_copy 2 none, Cond.methodLink RX0 29 arraycopyName, Cond.methodLink RL 304 yX10_image, Cond.instanceMethod yX10_image, Cond.selects RX10 yX10_image yX10_image, Cond.code yX10_image cX10_image 3 (some .int), Cond.methodLink RL 305 yX9_back, Cond.instanceMethod yX9_back, Cond.selects RX9 yX9_back yX9_back, Cond.code yX9_back cX9_back 2 (some .int), Cond.methodLink RL 308 yX10_back, Cond.instanceMethod yX10_back, Cond.selects RX10 yX10_back yX10_back, Cond.code yX10_back cX10_back 3 (some .int), Cond.methodLink RL 309 yX9_row]
def wsL_law_r62 : List Cond := [Cond.instanceMethod yX9_row, Cond.selects RX9 yX9_row yX9_row, Cond.code yX9_row cX9_row 4 (some .int), Cond.instanceMethod yX7_make, Cond.selects RX7 yX7_make yX7_make, Cond.code yX7_make cX7_make 3 none, Cond.methodLink RX7 22 yJ7_fill_d0a16, Cond.static yJ7_fill_d0a16, Cond.code yJ7_fill_d0a16 cJ7_fill_d0a16 5 none, Cond.methodLink RL 312 yX10_row, Cond.instanceMethod yX10_row, Cond.selects RX10 yX10_row yX10_row, Cond.code yX10_row cX10_row 5 (some .int), Cond.methodLink RL 315 yX9_write, Cond.instanceMethod yX9_write, Cond.selects RX9 yX9_write yX9_write, Cond.code yX9_write cX9_write 6 (some .int), Cond.methodLink RX9 388 yX9_cutToWidth, Cond.static yX9_cutToWidth, Cond.code yX9_cutToWidth cX9_cutToWidth 3 (some .long), Cond.methodLink RL 319 yX10_write, Cond.instanceMethod yX10_write, Cond.selects RX10 yX10_write yX10_write, Cond.code yX10_write cX10_write 5 (some .int)]
def wsL_law_r63 : List Cond := [Cond.methodLink RX10 462 yX10_cut, Cond.static yX10_cut, Cond.code yX10_cut cX10_cut 4 (some .long), Cond.methodLink RL 320 yX9_paste, Cond.instanceMethod yX9_paste, Cond.selects RX9 yX9_paste yX9_paste, Cond.code yX9_paste cX9_paste 8 (some .int), Cond.methodLink RX9 395 arraycopyName, Cond.instanceMethod yX7_hasRange, Cond.selects RX7 yX7_hasRange yX7_hasRange, Cond.code yX7_hasRange cX7_hasRange 3 (some .boolean), Cond.methodLink RL 323 yX10_paste, Cond.instanceMethod yX10_paste, Cond.selects RX10 yX10_paste yX10_paste, Cond.code yX10_paste cX10_paste 7 (some .int)]
def wsL_law : List Cond := (wsL_law_r1 ++ (wsL_law_r2 ++ (wsL_law_r3 ++ (wsL_law_r4 ++ (wsL_law_r5 ++ (wsL_law_r6 ++ (wsL_law_r7 ++ (wsL_law_r8 ++ (wsL_law_r9 ++ (wsL_law_r10 ++ (wsL_law_r11 ++ (wsL_law_r12 ++ (wsL_law_r13 ++ (wsL_law_r14 ++ (wsL_law_r15 ++ (wsL_law_r16 ++ (wsL_law_r17 ++ (wsL_law_r18 ++ (wsL_law_r19 ++ (wsL_law_r20 ++ (wsL_law_r21 ++ (wsL_law_r22 ++ (wsL_law_r23 ++ (wsL_law_r24 ++ (wsL_law_r25 ++ (wsL_law_r26 ++ (wsL_law_r27 ++ (wsL_law_r28 ++ (wsL_law_r29 ++ (wsL_law_r30 ++ (wsL_law_r31 ++ (wsL_law_r32 ++ (wsL_law_r33 ++ (wsL_law_r34 ++ (wsL_law_r35 ++ (wsL_law_r36 ++ (wsL_law_r37 ++ (wsL_law_r38 ++ (wsL_law_r39 ++ (wsL_law_r40 ++ (wsL_law_r41 ++ (wsL_law_r42 ++ (wsL_law_r43 ++ (wsL_law_r44 ++ (wsL_law_r45 ++ (wsL_law_r46 ++ (wsL_law_r47 ++ (wsL_law_r48 ++ (wsL_law_r49 ++ (wsL_law_r50 ++ (wsL_law_r51 ++ (wsL_law_r52 ++ (wsL_law_r53 ++ (wsL_law_r54 ++ (wsL_law_r55 ++ (wsL_law_r56 ++ (wsL_law_r57 ++ (wsL_law_r58 ++ (wsL_law_r59 ++ (wsL_law_r60 ++ (wsL_law_r61 ++ (wsL_law_r62 ++ wsL_law_r63)))))))))))))))))))))))))))))))))))))))))))))))))))))))))))))) ++ wsX90 ++ wsX100 ++ wsX80 ++ wsX50 ++ wsX60 ++ wsX10 ++ wsX40 ++ wsX20 ++ wsX70 ++ wsX30 ++ wsX00 ++ ([] : List Cond)
set_option maxRecDepth 20000 in
theorem wsL_law_in : ∀ w ∈ wsL_law, w ∈ lw_tbl := fun w h => (goodIn_p wsL_law [168, 171, 176, 192, 222, 228, 261, 395, 450, 466, 489, 1331, 542, 546, 1484, 550, 1488, 1476, 554, 558, 562, 565, 569, 579, 573, 576, 582, 586, 590, 595, 599, 603, 607, 613, 617, 620, 623, 628, 631, 634, 637, 641, 651, 656, 663, 672, 678, 684, 689, 693, 697, 701, 705, 709, 713, 717, 725, 729, 733, 737, 740, 745, 748, 752, 756, 760, 764, 1496, 1500, 1504, 1514, 1518, 1522, 1527, 1531, 1535, 1541, 1546, 1550, 1556, 1565, 1569, 1579, 768, 1492, 772, 1583, 1587, 1592, 777, 781, 1596, 785, 789, 1600, 1604, 1608, 793, 1612, 1616, 1621, 798, 802, 1625, 1629, 1633, 806, 810, 1637, 1641, 1645, 1649, 1653, 1657, 1661, 1664, 1668, 1672, 816, 1676, 820, 1680, 824, 1684, 828, 1688, 832, 1692, 836, 1696, 840, 1700, 1704, 845, 1708, 849, 1712, 853, 1716, 857, 1720, 861, 865, 869, 873, 877, 1804, 1752, 1744, 1728, 1732, 881, 1724, 886, 1736, 1740, 890, 1748, 895, 899, 1756, 1760, 903, 1764, 907, 911, 1768, 1772, 1776, 916, 920, 1784, 1788, 924, 1792, 928, 1796, 932, 1800, 936, 940, 1780, 945, 949, 1808, 1812, 953, 957, 1816, 1820, 962, 966, 1824, 970, 974, 977, 1828, 1832, 984, 988, 1836, 992, 1840, 996, 1000, 1844, 1848, 1851, 1008, 1012, 1018, 1022, 1027, 1855, 1859, 1863, 1031, 1035, 1039, 1871, 1043, 1047, 1867, 1051, 1055, 1875, 1879, 1883, 1060, 1887, 1064, 1891, 1068, 1895, 1072, 1076, 1080, 1899, 1084, 1088, 1903, 1907, 1092, 1911, 1096, 1100, 1104, 1107, 1111, 1115, 1118, 1122, 1128, 1133, 1915, 1919, 1923, 1926, 1930, 1935, 1138, 1939, 1142, 1943, 1146, 1150, 1154, 1947, 1951, 1159, 1955, 1164, 1959, 1168, 1963, 1967, 1172, 1175, 1179, 1971, 1974, 1977, 1980, 1983, 1184, 1188, 1987, 1991, 1192, 1995, 1196, 1200, 1204, 1207, 1999, 2003, 2009, 1212, 2013, 1216, 1220, 1224, 2017, 2022, 1228, 1232, 2026, 1236, 2030, 1240, 2034, 1244, 1247, 1252, 1260, 2038, 2041, 2046, 1264, 2055, 1268, 2060, 1272, 1276, 2064, 1280, 1284, 1289, 1294, 1472, 1299, 1480, 1303, 1307, 1310, 2068, 1314, 1317, 2072, 2075, 1321, 1325, 2079] (by decide +kernel) (by decide +kernel) w h).1
theorem inlX0 : ∀ w ∈ wsX00, w ∈ wsL_law := fun _ h => List.mem_append_left _ (List.mem_append_right _ h)
theorem inX0 : ∀ w ∈ wsX00, w ∈ lw_tbl := fun w h => wsL_law_in w (inlX0 w h)
theorem inlX1 : ∀ w ∈ wsX10, w ∈ wsL_law := fun _ h => List.mem_append_left _ (List.mem_append_left _ (List.mem_append_left _ (List.mem_append_left _ (List.mem_append_left _ (List.mem_append_left _ (List.mem_append_right _ h))))))
theorem inX1 : ∀ w ∈ wsX10, w ∈ lw_tbl := fun w h => wsL_law_in w (inlX1 w h)
theorem inlX2 : ∀ w ∈ wsX20, w ∈ wsL_law := fun _ h => List.mem_append_left _ (List.mem_append_left _ (List.mem_append_left _ (List.mem_append_left _ (List.mem_append_right _ h))))
theorem inX2 : ∀ w ∈ wsX20, w ∈ lw_tbl := fun w h => wsL_law_in w (inlX2 w h)
theorem inlX3 : ∀ w ∈ wsX30, w ∈ wsL_law := fun _ h => List.mem_append_left _ (List.mem_append_left _ (List.mem_append_right _ h))
theorem inX3 : ∀ w ∈ wsX30, w ∈ lw_tbl := fun w h => wsL_law_in w (inlX3 w h)
theorem inlX4 : ∀ w ∈ wsX40, w ∈ wsL_law := fun _ h => List.mem_append_left _ (List.mem_append_left _ (List.mem_append_left _ (List.mem_append_left _ (List.mem_append_left _ (List.mem_append_right _ h)))))
theorem inX4 : ∀ w ∈ wsX40, w ∈ lw_tbl := fun w h => wsL_law_in w (inlX4 w h)
theorem inlX5 : ∀ w ∈ wsX50, w ∈ wsL_law := fun _ h => List.mem_append_left _ (List.mem_append_left _ (List.mem_append_left _ (List.mem_append_left _ (List.mem_append_left _ (List.mem_append_left _ (List.mem_append_left _ (List.mem_append_left _ (List.mem_append_right _ h))))))))
theorem inX5 : ∀ w ∈ wsX50, w ∈ lw_tbl := fun w h => wsL_law_in w (inlX5 w h)
theorem inlX6 : ∀ w ∈ wsX60, w ∈ wsL_law := fun _ h => List.mem_append_left _ (List.mem_append_left _ (List.mem_append_left _ (List.mem_append_left _ (List.mem_append_left _ (List.mem_append_left _ (List.mem_append_left _ (List.mem_append_right _ h)))))))
theorem inX6 : ∀ w ∈ wsX60, w ∈ lw_tbl := fun w h => wsL_law_in w (inlX6 w h)
theorem inlX7 : ∀ w ∈ wsX70, w ∈ wsL_law := fun _ h => List.mem_append_left _ (List.mem_append_left _ (List.mem_append_left _ (List.mem_append_right _ h)))
theorem inX7 : ∀ w ∈ wsX70, w ∈ lw_tbl := fun w h => wsL_law_in w (inlX7 w h)
theorem inlX8 : ∀ w ∈ wsX80, w ∈ wsL_law := fun _ h => List.mem_append_left _ (List.mem_append_left _ (List.mem_append_left _ (List.mem_append_left _ (List.mem_append_left _ (List.mem_append_left _ (List.mem_append_left _ (List.mem_append_left _ (List.mem_append_left _ (List.mem_append_right _ h)))))))))
theorem inX8 : ∀ w ∈ wsX80, w ∈ lw_tbl := fun w h => wsL_law_in w (inlX8 w h)
theorem inlX9 : ∀ w ∈ wsX90, w ∈ wsL_law := fun _ h => List.mem_append_left _ (List.mem_append_left _ (List.mem_append_left _ (List.mem_append_left _ (List.mem_append_left _ (List.mem_append_left _ (List.mem_append_left _ (List.mem_append_left _ (List.mem_append_left _ (List.mem_append_left _ (List.mem_append_left _ (List.mem_append_right _ h)))))))))))
theorem inX9 : ∀ w ∈ wsX90, w ∈ lw_tbl := fun w h => wsL_law_in w (inlX9 w h)
theorem inlX10 : ∀ w ∈ wsX100, w ∈ wsL_law := fun _ h => List.mem_append_left _ (List.mem_append_left _ (List.mem_append_left _ (List.mem_append_left _ (List.mem_append_left _ (List.mem_append_left _ (List.mem_append_left _ (List.mem_append_left _ (List.mem_append_left _ (List.mem_append_left _ (List.mem_append_right _ h))))))))))
theorem inX10 : ∀ w ∈ wsX100, w ∈ lw_tbl := fun w h => wsL_law_in w (inlX10 w h)
theorem inJx145de : ∀ w ∈ wsJx145de0, w ∈ lw_tbl := by decide +kernel
theorem inJx9f9b0 : ∀ w ∈ wsJx9f9b00, w ∈ lw_tbl := by decide +kernel
theorem inJxb160c : ∀ w ∈ wsJxb160c0, w ∈ lw_tbl := by decide +kernel
theorem inJ6 : ∀ w ∈ wsJ60, w ∈ lw_tbl := by decide +kernel
theorem inJ9 : ∀ w ∈ wsJ90, w ∈ lw_tbl := by decide +kernel
theorem inJ0 : ∀ w ∈ wsJ00, w ∈ lw_tbl := by decide +kernel
theorem inJ1 : ∀ w ∈ wsJ10, w ∈ lw_tbl := by decide +kernel
theorem inJ2 : ∀ w ∈ wsJ20, w ∈ lw_tbl := by decide +kernel
theorem inJ10 : ∀ w ∈ wsJ100, w ∈ lw_tbl := by decide +kernel
theorem inJxfd54e : ∀ w ∈ wsJxfd54e0, w ∈ lw_tbl := by decide +kernel
theorem inJx3cf43 : ∀ w ∈ wsJx3cf430, w ∈ lw_tbl := by decide +kernel
theorem inJ7 : ∀ w ∈ wsJ70, w ∈ lw_tbl := by decide +kernel
theorem inJ3 : ∀ w ∈ wsJ30, w ∈ lw_tbl := by decide +kernel
theorem dX0_init_0 : decode cX0_init 0 = .ok (.aload_n 0, 1) := by decide +kernel
theorem dX0_init_1 : decode cX0_init 1 = .ok (.invokespecial 3, 3) := by decide +kernel
theorem dX0_init_4 : decode cX0_init 4 = .ok (.aload_n 0, 1) := by decide +kernel
theorem dX0_init_5 : decode cX0_init 5 = .ok (.iconst 0, 1) := by decide +kernel
theorem dX0_init_6 : decode cX0_init 6 = .ok (.putfield 9, 3) := by decide +kernel
theorem dX0_init_9 : decode cX0_init 9 = .ok (.aload_n 0, 1) := by decide +kernel
theorem dX0_init_10 : decode cX0_init 10 = .ok (.bipush 30, 2) := by decide +kernel
theorem dX0_init_12 : decode cX0_init 12 = .ok (.newarray .int, 2) := by decide +kernel
theorem dX0_init_14 : decode cX0_init 14 = .ok (.putfield 15, 3) := by decide +kernel
theorem dX0_init_17 : decode cX0_init 17 = .ok (.aload_n 0, 1) := by decide +kernel
theorem dX0_init_18 : decode cX0_init 18 = .ok (.bipush 30, 2) := by decide +kernel
theorem dX0_init_20 : decode cX0_init 20 = .ok (.newarray .int, 2) := by decide +kernel
theorem dX0_init_22 : decode cX0_init 22 = .ok (.putfield 19, 3) := by decide +kernel
theorem dX0_init_25 : decode cX0_init 25 = .ok (.aload_n 0, 1) := by decide +kernel
theorem dX0_init_26 : decode cX0_init 26 = .ok (.bipush 30, 2) := by decide +kernel
theorem dX0_init_28 : decode cX0_init 28 = .ok (.newarray .int, 2) := by decide +kernel
theorem dX0_init_30 : decode cX0_init 30 = .ok (.putfield 22, 3) := by decide +kernel
theorem dX0_init_33 : decode cX0_init 33 = .ok (.return_, 1) := by decide +kernel
set_option maxRecDepth 20000 in
theorem ggX0_addPlank_X0_add : GoodIn wsX0_addPlank wsX0_add := goodIn_r _ [5, 6, 7, 8, 9, 10, 11, 12, 13] (by decide +kernel) (by decide +kernel)
set_option maxRecDepth 20000 in
theorem gX0_addPlank_X0_add : GoodIn wsX0_addPlank (wsV RX0 25 RX0 yX0_add wsX0_add) := goodIn_app (goodIn_of _ (by decide +kernel)) ggX0_addPlank_X0_add
theorem dX0_addPlank_0 : decode cX0_addPlank 0 = .ok (.aload_n 0, 1) := by decide +kernel
theorem dX0_addPlank_1 : decode cX0_addPlank 1 = .ok (.iload_n 1, 1) := by decide +kernel
theorem dX0_addPlank_2 : decode cX0_addPlank 2 = .ok (.iload_n 2, 1) := by decide +kernel
theorem dX0_addPlank_3 : decode cX0_addPlank 3 = .ok (.iconst 0, 1) := by decide +kernel
theorem dX0_addPlank_4 : decode cX0_addPlank 4 = .ok (.invokevirtual 25, 3) := by decide +kernel
theorem dX0_addPlank_7 : decode cX0_addPlank 7 = .ok (.ireturn, 1) := by decide +kernel
set_option maxRecDepth 20000 in
theorem ggX0_addDredging_X0_add : GoodIn wsX0_addDredging wsX0_add := goodIn_r _ [5, 6, 7, 8, 9, 10, 11, 12, 13] (by decide +kernel) (by decide +kernel)
set_option maxRecDepth 20000 in
theorem gX0_addDredging_X0_add : GoodIn wsX0_addDredging (wsV RX0 25 RX0 yX0_add wsX0_add) := goodIn_app (goodIn_of _ (by decide +kernel)) ggX0_addDredging_X0_add
theorem dX0_addDredging_0 : decode cX0_addDredging 0 = .ok (.aload_n 0, 1) := by decide +kernel
theorem dX0_addDredging_1 : decode cX0_addDredging 1 = .ok (.iload_n 1, 1) := by decide +kernel
theorem dX0_addDredging_2 : decode cX0_addDredging 2 = .ok (.iconst 0, 1) := by decide +kernel
theorem dX0_addDredging_3 : decode cX0_addDredging 3 = .ok (.iload_n 2, 1) := by decide +kernel
theorem dX0_addDredging_4 : decode cX0_addDredging 4 = .ok (.invokevirtual 25, 3) := by decide +kernel
theorem dX0_addDredging_7 : decode cX0_addDredging 7 = .ok (.ireturn, 1) := by decide +kernel
theorem dX0_add_0 : decode cX0_add 0 = .ok (.aload_n 0, 1) := by decide +kernel
theorem dX0_add_1 : decode cX0_add 1 = .ok (.getfield 9, 3) := by decide +kernel
theorem dX0_add_4 : decode cX0_add 4 = .ok (.bipush 30, 2) := by decide +kernel
theorem dX0_add_6 : decode cX0_add 6 = .ok (.if_icmp .lt 5, 3) := by decide +kernel
theorem dX0_add_9 : decode cX0_add 9 = .ok (.iconst 0, 1) := by decide +kernel
theorem dX0_add_10 : decode cX0_add 10 = .ok (.ireturn, 1) := by decide +kernel
theorem dX0_add_11 : decode cX0_add 11 = .ok (.aload_n 0, 1) := by decide +kernel
theorem dX0_add_12 : decode cX0_add 12 = .ok (.getfield 15, 3) := by decide +kernel
theorem dX0_add_15 : decode cX0_add 15 = .ok (.aload_n 0, 1) := by decide +kernel
theorem dX0_add_16 : decode cX0_add 16 = .ok (.getfield 9, 3) := by decide +kernel
theorem dX0_add_19 : decode cX0_add 19 = .ok (.iload_n 1, 1) := by decide +kernel
theorem dX0_add_20 : decode cX0_add 20 = .ok (.iastore, 1) := by decide +kernel
theorem dX0_add_21 : decode cX0_add 21 = .ok (.aload_n 0, 1) := by decide +kernel
theorem dX0_add_22 : decode cX0_add 22 = .ok (.getfield 19, 3) := by decide +kernel
theorem dX0_add_25 : decode cX0_add 25 = .ok (.aload_n 0, 1) := by decide +kernel
theorem dX0_add_26 : decode cX0_add 26 = .ok (.getfield 9, 3) := by decide +kernel
theorem dX0_add_29 : decode cX0_add 29 = .ok (.iload_n 2, 1) := by decide +kernel
theorem dX0_add_30 : decode cX0_add 30 = .ok (.iastore, 1) := by decide +kernel
theorem dX0_add_31 : decode cX0_add 31 = .ok (.aload_n 0, 1) := by decide +kernel
theorem dX0_add_32 : decode cX0_add 32 = .ok (.getfield 22, 3) := by decide +kernel
theorem dX0_add_35 : decode cX0_add 35 = .ok (.aload_n 0, 1) := by decide +kernel
theorem dX0_add_36 : decode cX0_add 36 = .ok (.getfield 9, 3) := by decide +kernel
theorem dX0_add_39 : decode cX0_add 39 = .ok (.iload_n 3, 1) := by decide +kernel
theorem dX0_add_40 : decode cX0_add 40 = .ok (.iastore, 1) := by decide +kernel
theorem dX0_add_41 : decode cX0_add 41 = .ok (.aload_n 0, 1) := by decide +kernel
theorem dX0_add_42 : decode cX0_add 42 = .ok (.dup, 1) := by decide +kernel
theorem dX0_add_43 : decode cX0_add 43 = .ok (.getfield 9, 3) := by decide +kernel
theorem dX0_add_46 : decode cX0_add 46 = .ok (.iconst 1, 1) := by decide +kernel
theorem dX0_add_47 : decode cX0_add 47 = .ok (.iadd, 1) := by decide +kernel
theorem dX0_add_48 : decode cX0_add 48 = .ok (.putfield 9, 3) := by decide +kernel
theorem dX0_add_51 : decode cX0_add 51 = .ok (.iconst 1, 1) := by decide +kernel
theorem dX0_add_52 : decode cX0_add 52 = .ok (.ireturn, 1) := by decide +kernel
theorem dX0_copy_0 : decode cX0_copy 0 = .ok (.aload_n 0, 1) := by decide +kernel
theorem dX0_copy_1 : decode cX0_copy 1 = .ok (.aload_n 1, 1) := by decide +kernel
theorem dX0_copy_2 : decode cX0_copy 2 = .ok (.getfield 9, 3) := by decide +kernel
theorem dX0_copy_5 : decode cX0_copy 5 = .ok (.putfield 9, 3) := by decide +kernel
theorem dX0_copy_8 : decode cX0_copy 8 = .ok (.aload_n 1, 1) := by decide +kernel
theorem dX0_copy_9 : decode cX0_copy 9 = .ok (.getfield 15, 3) := by decide +kernel
theorem dX0_copy_12 : decode cX0_copy 12 = .ok (.iconst 0, 1) := by decide +kernel
theorem dX0_copy_13 : decode cX0_copy 13 = .ok (.aload_n 0, 1) := by decide +kernel
theorem dX0_copy_14 : decode cX0_copy 14 = .ok (.getfield 15, 3) := by decide +kernel
theorem dX0_copy_17 : decode cX0_copy 17 = .ok (.iconst 0, 1) := by decide +kernel
theorem dX0_copy_18 : decode cX0_copy 18 = .ok (.bipush 30, 2) := by decide +kernel
theorem dX0_copy_20 : decode cX0_copy 20 = .ok (.invokestatic 29, 3) := by decide +kernel
theorem dX0_copy_23 : decode cX0_copy 23 = .ok (.aload_n 1, 1) := by decide +kernel
theorem dX0_copy_24 : decode cX0_copy 24 = .ok (.getfield 19, 3) := by decide +kernel
theorem dX0_copy_27 : decode cX0_copy 27 = .ok (.iconst 0, 1) := by decide +kernel
theorem dX0_copy_28 : decode cX0_copy 28 = .ok (.aload_n 0, 1) := by decide +kernel
theorem dX0_copy_29 : decode cX0_copy 29 = .ok (.getfield 19, 3) := by decide +kernel
theorem dX0_copy_32 : decode cX0_copy 32 = .ok (.iconst 0, 1) := by decide +kernel
theorem dX0_copy_33 : decode cX0_copy 33 = .ok (.bipush 30, 2) := by decide +kernel
theorem dX0_copy_35 : decode cX0_copy 35 = .ok (.invokestatic 29, 3) := by decide +kernel
theorem dX0_copy_38 : decode cX0_copy 38 = .ok (.aload_n 1, 1) := by decide +kernel
theorem dX0_copy_39 : decode cX0_copy 39 = .ok (.getfield 22, 3) := by decide +kernel
theorem dX0_copy_42 : decode cX0_copy 42 = .ok (.iconst 0, 1) := by decide +kernel
theorem dX0_copy_43 : decode cX0_copy 43 = .ok (.aload_n 0, 1) := by decide +kernel
theorem dX0_copy_44 : decode cX0_copy 44 = .ok (.getfield 22, 3) := by decide +kernel
theorem dX0_copy_47 : decode cX0_copy 47 = .ok (.iconst 0, 1) := by decide +kernel
theorem dX0_copy_48 : decode cX0_copy 48 = .ok (.bipush 30, 2) := by decide +kernel
theorem dX0_copy_50 : decode cX0_copy 50 = .ok (.invokestatic 29, 3) := by decide +kernel
theorem dX0_copy_53 : decode cX0_copy 53 = .ok (.return_, 1) := by decide +kernel
theorem dX1_init_0 : decode cX1_init 0 = .ok (.aload_n 0, 1) := by decide +kernel
theorem dX1_init_1 : decode cX1_init 1 = .ok (.invokespecial 3, 3) := by decide +kernel
theorem dX1_init_4 : decode cX1_init 4 = .ok (.aload_n 0, 1) := by decide +kernel
theorem dX1_init_5 : decode cX1_init 5 = .ok (.iconst 0, 1) := by decide +kernel
theorem dX1_init_6 : decode cX1_init 6 = .ok (.putfield 9, 3) := by decide +kernel
theorem dX1_init_9 : decode cX1_init 9 = .ok (.aload_n 0, 1) := by decide +kernel
theorem dX1_init_10 : decode cX1_init 10 = .ok (.iconst 0, 1) := by decide +kernel
theorem dX1_init_11 : decode cX1_init 11 = .ok (.putfield 15, 3) := by decide +kernel
theorem dX1_init_14 : decode cX1_init 14 = .ok (.aload_n 0, 1) := by decide +kernel
theorem dX1_init_15 : decode cX1_init 15 = .ok (.iconst 0, 1) := by decide +kernel
theorem dX1_init_16 : decode cX1_init 16 = .ok (.putfield 18, 3) := by decide +kernel
theorem dX1_init_19 : decode cX1_init 19 = .ok (.aload_n 0, 1) := by decide +kernel
theorem dX1_init_20 : decode cX1_init 20 = .ok (.bipush 6, 2) := by decide +kernel
theorem dX1_init_22 : decode cX1_init 22 = .ok (.newarray .int, 2) := by decide +kernel
theorem dX1_init_24 : decode cX1_init 24 = .ok (.putfield 21, 3) := by decide +kernel
theorem dX1_init_27 : decode cX1_init 27 = .ok (.aload_n 0, 1) := by decide +kernel
theorem dX1_init_28 : decode cX1_init 28 = .ok (.bipush 6, 2) := by decide +kernel
theorem dX1_init_30 : decode cX1_init 30 = .ok (.newarray .int, 2) := by decide +kernel
theorem dX1_init_32 : decode cX1_init 32 = .ok (.putfield 25, 3) := by decide +kernel
theorem dX1_init_35 : decode cX1_init 35 = .ok (.aload_n 0, 1) := by decide +kernel
theorem dX1_init_36 : decode cX1_init 36 = .ok (.bipush 16, 2) := by decide +kernel
theorem dX1_init_38 : decode cX1_init 38 = .ok (.newarray .int, 2) := by decide +kernel
theorem dX1_init_40 : decode cX1_init 40 = .ok (.putfield 28, 3) := by decide +kernel
theorem dX1_init_43 : decode cX1_init 43 = .ok (.aload_n 0, 1) := by decide +kernel
theorem dX1_init_44 : decode cX1_init 44 = .ok (.bipush 96, 2) := by decide +kernel
theorem dX1_init_46 : decode cX1_init 46 = .ok (.newarray .int, 2) := by decide +kernel
theorem dX1_init_48 : decode cX1_init 48 = .ok (.putfield 31, 3) := by decide +kernel
theorem dX1_init_51 : decode cX1_init 51 = .ok (.aload_n 0, 1) := by decide +kernel
theorem dX1_init_52 : decode cX1_init 52 = .ok (.bipush 96, 2) := by decide +kernel
theorem dX1_init_54 : decode cX1_init 54 = .ok (.newarray .int, 2) := by decide +kernel
theorem dX1_init_56 : decode cX1_init 56 = .ok (.putfield 34, 3) := by decide +kernel
theorem dX1_init_59 : decode cX1_init 59 = .ok (.aload_n 0, 1) := by decide +kernel
theorem dX1_init_60 : decode cX1_init 60 = .ok (.bipush 96, 2) := by decide +kernel
theorem dX1_init_62 : decode cX1_init 62 = .ok (.newarray .int, 2) := by decide +kernel
theorem dX1_init_64 : decode cX1_init 64 = .ok (.putfield 37, 3) := by decide +kernel
theorem dX1_init_67 : decode cX1_init 67 = .ok (.aload_n 0, 1) := by decide +kernel
theorem dX1_init_68 : decode cX1_init 68 = .ok (.bipush 16, 2) := by decide +kernel
theorem dX1_init_70 : decode cX1_init 70 = .ok (.newarray .int, 2) := by decide +kernel
theorem dX1_init_72 : decode cX1_init 72 = .ok (.putfield 40, 3) := by decide +kernel
theorem dX1_init_75 : decode cX1_init 75 = .ok (.aload_n 0, 1) := by decide +kernel
theorem dX1_init_76 : decode cX1_init 76 = .ok (.bipush 8, 2) := by decide +kernel
theorem dX1_init_78 : decode cX1_init 78 = .ok (.newarray .int, 2) := by decide +kernel
theorem dX1_init_80 : decode cX1_init 80 = .ok (.putfield 43, 3) := by decide +kernel
theorem dX1_init_83 : decode cX1_init 83 = .ok (.aload_n 0, 1) := by decide +kernel
theorem dX1_init_84 : decode cX1_init 84 = .ok (.aload_n 1, 1) := by decide +kernel
theorem dX1_init_85 : decode cX1_init 85 = .ok (.putfield 46, 3) := by decide +kernel
theorem dX1_init_88 : decode cX1_init 88 = .ok (.return_, 1) := by decide +kernel
set_option maxRecDepth 20000 in
theorem ggX1_take_X6_openedByTold : GoodIn wsX1_take wsX6_openedByTold := goodIn_r _ [15, 16, 17, 18, 19, 20, 21, 13, 22, 23, 24, 25, 26, 27, 28, 49, 50, 51, 52, 53, 54, 55, 56, 57, 58, 59, 60, 61, 62, 63, 64, 65, 66] (by decide +kernel) (by decide +kernel)
set_option maxRecDepth 20000 in
theorem gX1_take_X6_openedByTold_n59 : GoodIn wsX1_take (wsX6_openedByTold) := ggX1_take_X6_openedByTold
set_option maxRecDepth 20000 in
theorem ggX1_take_X6_openedByActs : GoodIn wsX1_take wsX6_openedByActs := goodIn_r _ [31, 32, 19, 20, 21, 13, 22, 23, 24, 25, 26, 27, 28, 49, 50, 51, 52, 53, 54, 55, 56, 57, 58, 59, 60, 61, 62, 63, 64, 65, 66, 67, 68, 69, 70] (by decide +kernel) (by decide +kernel)
set_option maxRecDepth 20000 in
theorem gX1_take_X6_openedByActs_n63 : GoodIn wsX1_take (wsX6_openedByActs) := ggX1_take_X6_openedByActs
set_option maxRecDepth 20000 in
theorem ggX1_take_J7_fill_53178 : GoodIn wsX1_take wsJ7_fill_53178 := goodIn_r _ [36] (by decide +kernel) (by decide +kernel)
set_option maxRecDepth 20000 in
theorem gX1_take_J7_fill_53178 : GoodIn wsX1_take (va_wsS RX1 75 yJ7_fill_53178 wsJ7_fill_53178) := goodIn_app (goodIn_of _ (by decide +kernel)) ggX1_take_J7_fill_53178
theorem dX1_take_0 : decode cX1_take 0 = .ok (.aload_n 0, 1) := by decide +kernel
theorem dX1_take_1 : decode cX1_take 1 = .ok (.aload_n 1, 1) := by decide +kernel
theorem dX1_take_2 : decode cX1_take 2 = .ok (.putfield 46, 3) := by decide +kernel
theorem dX1_take_5 : decode cX1_take 5 = .ok (.aload_n 0, 1) := by decide +kernel
theorem dX1_take_6 : decode cX1_take 6 = .ok (.aload_n 1, 1) := by decide +kernel
theorem dX1_take_7 : decode cX1_take 7 = .ok (.getfield 50, 3) := by decide +kernel
theorem dX1_take_10 : decode cX1_take 10 = .ok (.putfield 9, 3) := by decide +kernel
theorem dX1_take_13 : decode cX1_take 13 = .ok (.aload_n 0, 1) := by decide +kernel
theorem dX1_take_14 : decode cX1_take 14 = .ok (.aload_n 1, 1) := by decide +kernel
theorem dX1_take_15 : decode cX1_take 15 = .ok (.getfield 53, 3) := by decide +kernel
theorem dX1_take_18 : decode cX1_take 18 = .ok (.iconst 1, 1) := by decide +kernel
theorem dX1_take_19 : decode cX1_take 19 = .ok (.aload_n 1, 1) := by decide +kernel
theorem dX1_take_20 : decode cX1_take 20 = .ok (.getfield 56, 3) := by decide +kernel
theorem dX1_take_23 : decode cX1_take 23 = .ok (.ishl, 1) := by decide +kernel
theorem dX1_take_24 : decode cX1_take 24 = .ok (.iconst 1, 1) := by decide +kernel
theorem dX1_take_25 : decode cX1_take 25 = .ok (.isub, 1) := by decide +kernel
theorem dX1_take_26 : decode cX1_take 26 = .ok (.iand, 1) := by decide +kernel
theorem dX1_take_27 : decode cX1_take 27 = .ok (.putfield 15, 3) := by decide +kernel
theorem dX1_take_30 : decode cX1_take 30 = .ok (.aload_n 0, 1) := by decide +kernel
theorem dX1_take_31 : decode cX1_take 31 = .ok (.aload_n 1, 1) := by decide +kernel
theorem dX1_take_32 : decode cX1_take 32 = .ok (.iconst (-1), 1) := by decide +kernel
theorem dX1_take_33 : decode cX1_take 33 = .ok (.invokevirtual 59, 3) := by decide +kernel
theorem dX1_take_36 : decode cX1_take 36 = .ok (.aload_n 1, 1) := by decide +kernel
theorem dX1_take_37 : decode cX1_take 37 = .ok (.invokevirtual 63, 3) := by decide +kernel
theorem dX1_take_40 : decode cX1_take 40 = .ok (.ior, 1) := by decide +kernel
theorem dX1_take_41 : decode cX1_take 41 = .ok (.putfield 18, 3) := by decide +kernel
theorem dX1_take_44 : decode cX1_take 44 = .ok (.aload_n 1, 1) := by decide +kernel
theorem dX1_take_45 : decode cX1_take 45 = .ok (.getfield 67, 3) := by decide +kernel
theorem dX1_take_48 : decode cX1_take 48 = .ok (.iconst 0, 1) := by decide +kernel
theorem dX1_take_49 : decode cX1_take 49 = .ok (.aload_n 0, 1) := by decide +kernel
theorem dX1_take_50 : decode cX1_take 50 = .ok (.getfield 21, 3) := by decide +kernel
theorem dX1_take_53 : decode cX1_take 53 = .ok (.iconst 0, 1) := by decide +kernel
theorem dX1_take_54 : decode cX1_take 54 = .ok (.bipush 6, 2) := by decide +kernel
theorem dX1_take_56 : decode cX1_take 56 = .ok (.invokestatic 68, 3) := by decide +kernel
theorem dX1_take_59 : decode cX1_take 59 = .ok (.aload_n 1, 1) := by decide +kernel
theorem dX1_take_60 : decode cX1_take 60 = .ok (.getfield 74, 3) := by decide +kernel
theorem dX1_take_63 : decode cX1_take 63 = .ok (.iconst 0, 1) := by decide +kernel
theorem dX1_take_64 : decode cX1_take 64 = .ok (.aload_n 0, 1) := by decide +kernel
theorem dX1_take_65 : decode cX1_take 65 = .ok (.getfield 25, 3) := by decide +kernel
theorem dX1_take_68 : decode cX1_take 68 = .ok (.iconst 0, 1) := by decide +kernel
theorem dX1_take_69 : decode cX1_take 69 = .ok (.bipush 6, 2) := by decide +kernel
theorem dX1_take_71 : decode cX1_take 71 = .ok (.invokestatic 68, 3) := by decide +kernel
theorem dX1_take_74 : decode cX1_take 74 = .ok (.aload_n 0, 1) := by decide +kernel
theorem dX1_take_75 : decode cX1_take 75 = .ok (.getfield 28, 3) := by decide +kernel
theorem dX1_take_78 : decode cX1_take 78 = .ok (.iconst 0, 1) := by decide +kernel
theorem dX1_take_79 : decode cX1_take 79 = .ok (.invokestatic 75, 3) := by decide +kernel
theorem dX1_take_82 : decode cX1_take 82 = .ok (.iconst 0, 1) := by decide +kernel
theorem dX1_take_83 : decode cX1_take 83 = .ok (.istore_n 2, 1) := by decide +kernel
theorem dX1_take_84 : decode cX1_take 84 = .ok (.iload_n 2, 1) := by decide +kernel
theorem dX1_take_85 : decode cX1_take 85 = .ok (.aload_n 1, 1) := by decide +kernel
theorem dX1_take_86 : decode cX1_take 86 = .ok (.getfield 81, 3) := by decide +kernel
theorem dX1_take_89 : decode cX1_take 89 = .ok (.getfield 85, 3) := by decide +kernel
theorem dX1_take_92 : decode cX1_take 92 = .ok (.if_icmp .ge 49, 3) := by decide +kernel
theorem dX1_take_95 : decode cX1_take 95 = .ok (.aload_n 1, 1) := by decide +kernel
theorem dX1_take_96 : decode cX1_take 96 = .ok (.getfield 81, 3) := by decide +kernel
theorem dX1_take_99 : decode cX1_take 99 = .ok (.getfield 90, 3) := by decide +kernel
theorem dX1_take_102 : decode cX1_take 102 = .ok (.iload_n 2, 1) := by decide +kernel
theorem dX1_take_103 : decode cX1_take 103 = .ok (.iaload, 1) := by decide +kernel
theorem dX1_take_104 : decode cX1_take 104 = .ok (.ifCond .ne 31, 3) := by decide +kernel
theorem dX1_take_107 : decode cX1_take 107 = .ok (.aload_n 0, 1) := by decide +kernel
theorem dX1_take_108 : decode cX1_take 108 = .ok (.getfield 28, 3) := by decide +kernel
theorem dX1_take_111 : decode cX1_take 111 = .ok (.aload_n 1, 1) := by decide +kernel
theorem dX1_take_112 : decode cX1_take 112 = .ok (.getfield 81, 3) := by decide +kernel
theorem dX1_take_115 : decode cX1_take 115 = .ok (.getfield 93, 3) := by decide +kernel
theorem dX1_take_118 : decode cX1_take 118 = .ok (.iload_n 2, 1) := by decide +kernel
theorem dX1_take_119 : decode cX1_take 119 = .ok (.iaload, 1) := by decide +kernel
theorem dX1_take_120 : decode cX1_take 120 = .ok (.dup2, 1) := by decide +kernel
theorem dX1_take_121 : decode cX1_take 121 = .ok (.iaload, 1) := by decide +kernel
theorem dX1_take_122 : decode cX1_take 122 = .ok (.iconst 1, 1) := by decide +kernel
theorem dX1_take_123 : decode cX1_take 123 = .ok (.aload_n 1, 1) := by decide +kernel
theorem dX1_take_124 : decode cX1_take 124 = .ok (.getfield 81, 3) := by decide +kernel
theorem dX1_take_127 : decode cX1_take 127 = .ok (.getfield 96, 3) := by decide +kernel
theorem dX1_take_130 : decode cX1_take 130 = .ok (.iload_n 2, 1) := by decide +kernel
theorem dX1_take_131 : decode cX1_take 131 = .ok (.iaload, 1) := by decide +kernel
theorem dX1_take_132 : decode cX1_take 132 = .ok (.ishl, 1) := by decide +kernel
theorem dX1_take_133 : decode cX1_take 133 = .ok (.ior, 1) := by decide +kernel
theorem dX1_take_134 : decode cX1_take 134 = .ok (.iastore, 1) := by decide +kernel
theorem dX1_take_135 : decode cX1_take 135 = .ok (.iinc 2 1, 3) := by decide +kernel
theorem dX1_take_138 : decode cX1_take 138 = .ok (.goto (-54), 3) := by decide +kernel
theorem dX1_take_141 : decode cX1_take 141 = .ok (.return_, 1) := by decide +kernel
set_option maxRecDepth 20000 in
theorem ggX1_run_X1_rainAndDrain : GoodIn wsX1_run wsX1_rainAndDrain := goodIn_r _ [6, 7, 8, 9, 10, 11, 12, 13, 14, 15, 16, 17, 18, 5, 19, 20, 21, 22, 23, 38, 39, 40, 41, 42, 43, 44, 45, 46, 47, 48, 49, 50, 51, 52, 53, 54, 55, 56, 57, 58, 59, 60, 61, 62, 63, 64, 65, 66, 67] (by decide +kernel) (by decide +kernel)
set_option maxRecDepth 20000 in
theorem gX1_run_X1_rainAndDrain : GoodIn wsX1_run (wsV RX1 99 RX1 yX1_rainAndDrain wsX1_rainAndDrain) := goodIn_app (goodIn_of _ (by decide +kernel)) ggX1_run_X1_rainAndDrain
set_option maxRecDepth 20000 in
theorem ggX1_run_X1_runOver : GoodIn wsX1_run wsX1_runOver := goodIn_r _ [27, 7, 28, 29, 9, 30, 31, 13, 32, 33, 21, 22, 23, 38, 39, 40, 41, 42, 43, 44, 45, 46, 47, 48, 49, 50, 51, 52, 53, 54, 55, 56, 57, 58, 59, 60, 61, 62, 63, 64, 65, 66, 67] (by decide +kernel) (by decide +kernel)
set_option maxRecDepth 20000 in
theorem gX1_run_X1_runOver : GoodIn wsX1_run (wsV RX1 103 RX1 yX1_runOver wsX1_runOver) := goodIn_app (goodIn_of _ (by decide +kernel)) ggX1_run_X1_runOver
set_option maxRecDepth 20000 in
theorem ggX1_run_X1_emptyDredged : GoodIn wsX1_run wsX1_emptyDredged := goodIn_r _ [37, 7, 1, 9, 21, 22, 23, 38, 39, 40, 41, 42, 43, 44, 45, 46, 47, 48, 49, 50, 51, 52, 53, 54, 55, 56, 57, 58, 59, 60, 61, 62, 63, 64, 65, 66, 67] (by decide +kernel) (by decide +kernel)
set_option maxRecDepth 20000 in
theorem gX1_run_X1_emptyDredged : GoodIn wsX1_run (wsV RX1 106 RX1 yX1_emptyDredged wsX1_emptyDredged) := goodIn_app (goodIn_of _ (by decide +kernel)) ggX1_run_X1_emptyDredged
theorem dX1_run_0 : decode cX1_run 0 = .ok (.iconst 0, 1) := by decide +kernel
theorem dX1_run_1 : decode cX1_run 1 = .ok (.istore_n 2, 1) := by decide +kernel
theorem dX1_run_2 : decode cX1_run 2 = .ok (.iload_n 2, 1) := by decide +kernel
theorem dX1_run_3 : decode cX1_run 3 = .ok (.iload_n 1, 1) := by decide +kernel
theorem dX1_run_4 : decode cX1_run 4 = .ok (.if_icmp .ge 39, 3) := by decide +kernel
theorem dX1_run_7 : decode cX1_run 7 = .ok (.iload_n 2, 1) := by decide +kernel
theorem dX1_run_8 : decode cX1_run 8 = .ok (.bipush 16, 2) := by decide +kernel
theorem dX1_run_10 : decode cX1_run 10 = .ok (.if_icmp .ge 33, 3) := by decide +kernel
theorem dX1_run_13 : decode cX1_run 13 = .ok (.aload_n 0, 1) := by decide +kernel
theorem dX1_run_14 : decode cX1_run 14 = .ok (.iload_n 2, 1) := by decide +kernel
theorem dX1_run_15 : decode cX1_run 15 = .ok (.invokevirtual 99, 3) := by decide +kernel
theorem dX1_run_18 : decode cX1_run 18 = .ok (.aload_n 0, 1) := by decide +kernel
theorem dX1_run_19 : decode cX1_run 19 = .ok (.iload_n 2, 1) := by decide +kernel
theorem dX1_run_20 : decode cX1_run 20 = .ok (.invokevirtual 103, 3) := by decide +kernel
theorem dX1_run_23 : decode cX1_run 23 = .ok (.aload_n 0, 1) := by decide +kernel
theorem dX1_run_24 : decode cX1_run 24 = .ok (.getfield 28, 3) := by decide +kernel
theorem dX1_run_27 : decode cX1_run 27 = .ok (.iload_n 2, 1) := by decide +kernel
theorem dX1_run_28 : decode cX1_run 28 = .ok (.iaload, 1) := by decide +kernel
theorem dX1_run_29 : decode cX1_run 29 = .ok (.ifCond .eq 8, 3) := by decide +kernel
theorem dX1_run_32 : decode cX1_run 32 = .ok (.aload_n 0, 1) := by decide +kernel
theorem dX1_run_33 : decode cX1_run 33 = .ok (.iload_n 2, 1) := by decide +kernel
theorem dX1_run_34 : decode cX1_run 34 = .ok (.invokevirtual 106, 3) := by decide +kernel
theorem dX1_run_37 : decode cX1_run 37 = .ok (.iinc 2 1, 3) := by decide +kernel
theorem dX1_run_40 : decode cX1_run 40 = .ok (.goto (-38), 3) := by decide +kernel
theorem dX1_run_43 : decode cX1_run 43 = .ok (.return_, 1) := by decide +kernel
set_option maxRecDepth 20000 in
theorem ggX1_runAll_X1_run : GoodIn wsX1_runAll wsX1_run := goodIn_r _ [7, 8, 9, 10, 11, 6, 12, 1, 13, 14, 15, 16, 17, 18, 19, 20, 21, 22, 23, 24, 25, 26, 27, 28, 29, 30, 31, 32, 33, 34, 35, 36, 37, 38, 39, 40, 41, 42, 56, 57, 58, 59, 60, 61, 62, 63, 64, 65, 66, 67, 68, 69, 70, 71, 72, 73, 74, 75, 76, 77, 78, 79, 80, 81, 82, 83, 84, 85] (by decide +kernel) (by decide +kernel)
set_option maxRecDepth 20000 in
theorem gX1_runAll_X1_run : GoodIn wsX1_runAll (wsV RX1 109 RX1 yX1_run wsX1_run) := goodIn_app (goodIn_of _ (by decide +kernel)) ggX1_runAll_X1_run
set_option maxRecDepth 20000 in
theorem ggX1_runAll_X1_deepWaterFor : GoodIn wsX1_runAll wsX1_deepWaterFor := goodIn_r _ [46, 1, 47, 48, 49, 50, 51, 21, 22, 23, 6, 24, 25, 52, 53, 54, 55, 14, 26, 27, 28, 56, 57, 58, 59, 60, 61, 62, 63, 64, 65, 66, 67, 68, 69, 70, 71, 72, 73, 74, 75, 76, 77, 78, 79, 80, 81, 82, 83, 84, 85, 86, 87, 88, 89] (by decide +kernel) (by decide +kernel)
set_option maxRecDepth 20000 in
theorem gX1_runAll_X1_deepWaterFor : GoodIn wsX1_runAll (wsV RX1 119 RX1 yX1_deepWaterFor wsX1_deepWaterFor) := goodIn_app (goodIn_of _ (by decide +kernel)) ggX1_runAll_X1_deepWaterFor
theorem dX1_runAll_0 : decode cX1_runAll 0 = .ok (.aload_n 0, 1) := by decide +kernel
theorem dX1_runAll_1 : decode cX1_runAll 1 = .ok (.aload_n 0, 1) := by decide +kernel
theorem dX1_runAll_2 : decode cX1_runAll 2 = .ok (.getfield 46, 3) := by decide +kernel
theorem dX1_runAll_5 : decode cX1_runAll 5 = .ok (.getfield 56, 3) := by decide +kernel
theorem dX1_runAll_8 : decode cX1_runAll 8 = .ok (.invokevirtual 109, 3) := by decide +kernel
theorem dX1_runAll_11 : decode cX1_runAll 11 = .ok (.iconst 0, 1) := by decide +kernel
theorem dX1_runAll_12 : decode cX1_runAll 12 = .ok (.istore_n 1, 1) := by decide +kernel
theorem dX1_runAll_13 : decode cX1_runAll 13 = .ok (.iload_n 1, 1) := by decide +kernel
theorem dX1_runAll_14 : decode cX1_runAll 14 = .ok (.aload_n 0, 1) := by decide +kernel
theorem dX1_runAll_15 : decode cX1_runAll 15 = .ok (.getfield 46, 3) := by decide +kernel
theorem dX1_runAll_18 : decode cX1_runAll 18 = .ok (.getfield 112, 3) := by decide +kernel
theorem dX1_runAll_21 : decode cX1_runAll 21 = .ok (.getfield 116, 3) := by decide +kernel
theorem dX1_runAll_24 : decode cX1_runAll 24 = .ok (.if_icmp .ge 20, 3) := by decide +kernel
theorem dX1_runAll_27 : decode cX1_runAll 27 = .ok (.aload_n 0, 1) := by decide +kernel
theorem dX1_runAll_28 : decode cX1_runAll 28 = .ok (.getfield 43, 3) := by decide +kernel
theorem dX1_runAll_31 : decode cX1_runAll 31 = .ok (.iload_n 1, 1) := by decide +kernel
theorem dX1_runAll_32 : decode cX1_runAll 32 = .ok (.aload_n 0, 1) := by decide +kernel
theorem dX1_runAll_33 : decode cX1_runAll 33 = .ok (.iload_n 1, 1) := by decide +kernel
theorem dX1_runAll_34 : decode cX1_runAll 34 = .ok (.invokevirtual 119, 3) := by decide +kernel
theorem dX1_runAll_37 : decode cX1_runAll 37 = .ok (.iastore, 1) := by decide +kernel
theorem dX1_runAll_38 : decode cX1_runAll 38 = .ok (.iinc 1 1, 3) := by decide +kernel
theorem dX1_runAll_41 : decode cX1_runAll 41 = .ok (.goto (-28), 3) := by decide +kernel
theorem dX1_runAll_44 : decode cX1_runAll 44 = .ok (.return_, 1) := by decide +kernel
set_option maxRecDepth 20000 in
theorem ggX1_rainAndDrain_X1_isFrost : GoodIn wsX1_rainAndDrain wsX1_isFrost := goodIn_r _ [14, 15, 19, 20, 21, 22, 23, 24, 25, 26, 27, 28, 29, 30] (by decide +kernel) (by decide +kernel)
set_option maxRecDepth 20000 in
theorem gX1_rainAndDrain_X1_isFrost : GoodIn wsX1_rainAndDrain (wsV RX1 122 RX1 yX1_isFrost wsX1_isFrost) := goodIn_app (goodIn_of _ (by decide +kernel)) ggX1_rainAndDrain_X1_isFrost
set_option maxRecDepth 20000 in
theorem ggX1_rainAndDrain_X9_cell : GoodIn wsX1_rainAndDrain wsX9_cell := goodIn_r _ [18] (by decide +kernel) (by decide +kernel)
set_option maxRecDepth 20000 in
theorem gX1_rainAndDrain_X9_cell_n132 : GoodIn wsX1_rainAndDrain (wsX9_cell) := ggX1_rainAndDrain_X9_cell
theorem dX1_rainAndDrain_0 : decode cX1_rainAndDrain 0 = .ok (.aload_n 0, 1) := by decide +kernel
theorem dX1_rainAndDrain_1 : decode cX1_rainAndDrain 1 = .ok (.iload_n 1, 1) := by decide +kernel
theorem dX1_rainAndDrain_2 : decode cX1_rainAndDrain 2 = .ok (.invokevirtual 122, 3) := by decide +kernel
theorem dX1_rainAndDrain_5 : decode cX1_rainAndDrain 5 = .ok (.istore_n 2, 1) := by decide +kernel
theorem dX1_rainAndDrain_6 : decode cX1_rainAndDrain 6 = .ok (.aload_n 0, 1) := by decide +kernel
theorem dX1_rainAndDrain_7 : decode cX1_rainAndDrain 7 = .ok (.getfield 46, 3) := by decide +kernel
theorem dX1_rainAndDrain_10 : decode cX1_rainAndDrain 10 = .ok (.getfield 126, 3) := by decide +kernel
theorem dX1_rainAndDrain_13 : decode cX1_rainAndDrain 13 = .ok (.iload_n 1, 1) := by decide +kernel
theorem dX1_rainAndDrain_14 : decode cX1_rainAndDrain 14 = .ok (.iaload, 1) := by decide +kernel
theorem dX1_rainAndDrain_15 : decode cX1_rainAndDrain 15 = .ok (.istore_n 3, 1) := by decide +kernel
theorem dX1_rainAndDrain_16 : decode cX1_rainAndDrain 16 = .ok (.iconst 0, 1) := by decide +kernel
theorem dX1_rainAndDrain_17 : decode cX1_rainAndDrain 17 = .ok (.istore 4, 2) := by decide +kernel
theorem dX1_rainAndDrain_19 : decode cX1_rainAndDrain 19 = .ok (.iload 4, 2) := by decide +kernel
theorem dX1_rainAndDrain_21 : decode cX1_rainAndDrain 21 = .ok (.aload_n 0, 1) := by decide +kernel
theorem dX1_rainAndDrain_22 : decode cX1_rainAndDrain 22 = .ok (.getfield 46, 3) := by decide +kernel
theorem dX1_rainAndDrain_25 : decode cX1_rainAndDrain 25 = .ok (.getfield 129, 3) := by decide +kernel
theorem dX1_rainAndDrain_28 : decode cX1_rainAndDrain 28 = .ok (.if_icmp .ge 91, 3) := by decide +kernel
theorem dX1_rainAndDrain_31 : decode cX1_rainAndDrain 31 = .ok (.iload 4, 2) := by decide +kernel
theorem dX1_rainAndDrain_33 : decode cX1_rainAndDrain 33 = .ok (.iload_n 1, 1) := by decide +kernel
theorem dX1_rainAndDrain_34 : decode cX1_rainAndDrain 34 = .ok (.invokestatic 132, 3) := by decide +kernel
theorem dX1_rainAndDrain_37 : decode cX1_rainAndDrain 37 = .ok (.istore 5, 2) := by decide +kernel
theorem dX1_rainAndDrain_39 : decode cX1_rainAndDrain 39 = .ok (.iload_n 1, 1) := by decide +kernel
theorem dX1_rainAndDrain_40 : decode cX1_rainAndDrain 40 = .ok (.ifCond .ne 13, 3) := by decide +kernel
theorem dX1_rainAndDrain_43 : decode cX1_rainAndDrain 43 = .ok (.aload_n 0, 1) := by decide +kernel
theorem dX1_rainAndDrain_44 : decode cX1_rainAndDrain 44 = .ok (.getfield 21, 3) := by decide +kernel
theorem dX1_rainAndDrain_47 : decode cX1_rainAndDrain 47 = .ok (.iload 4, 2) := by decide +kernel
theorem dX1_rainAndDrain_49 : decode cX1_rainAndDrain 49 = .ok (.iaload, 1) := by decide +kernel
theorem dX1_rainAndDrain_50 : decode cX1_rainAndDrain 50 = .ok (.goto 13, 3) := by decide +kernel
theorem dX1_rainAndDrain_53 : decode cX1_rainAndDrain 53 = .ok (.aload_n 0, 1) := by decide +kernel
theorem dX1_rainAndDrain_54 : decode cX1_rainAndDrain 54 = .ok (.getfield 31, 3) := by decide +kernel
theorem dX1_rainAndDrain_57 : decode cX1_rainAndDrain 57 = .ok (.iload 5, 2) := by decide +kernel
theorem dX1_rainAndDrain_59 : decode cX1_rainAndDrain 59 = .ok (.bipush 6, 2) := by decide +kernel
theorem dX1_rainAndDrain_61 : decode cX1_rainAndDrain 61 = .ok (.isub, 1) := by decide +kernel
theorem dX1_rainAndDrain_62 : decode cX1_rainAndDrain 62 = .ok (.iaload, 1) := by decide +kernel
theorem dX1_rainAndDrain_63 : decode cX1_rainAndDrain 63 = .ok (.istore 6, 2) := by decide +kernel
theorem dX1_rainAndDrain_65 : decode cX1_rainAndDrain 65 = .ok (.iconst 0, 1) := by decide +kernel
theorem dX1_rainAndDrain_66 : decode cX1_rainAndDrain 66 = .ok (.istore 7, 2) := by decide +kernel
theorem dX1_rainAndDrain_68 : decode cX1_rainAndDrain 68 = .ok (.iload_n 2, 1) := by decide +kernel
theorem dX1_rainAndDrain_69 : decode cX1_rainAndDrain 69 = .ok (.ifCond .ne 23, 3) := by decide +kernel
theorem dX1_rainAndDrain_72 : decode cX1_rainAndDrain 72 = .ok (.iload 6, 2) := by decide +kernel
theorem dX1_rainAndDrain_74 : decode cX1_rainAndDrain 74 = .ok (.iload_n 3, 1) := by decide +kernel
theorem dX1_rainAndDrain_75 : decode cX1_rainAndDrain 75 = .ok (.iadd, 1) := by decide +kernel
theorem dX1_rainAndDrain_76 : decode cX1_rainAndDrain 76 = .ok (.istore 6, 2) := by decide +kernel
theorem dX1_rainAndDrain_78 : decode cX1_rainAndDrain 78 = .ok (.iload 6, 2) := by decide +kernel
theorem dX1_rainAndDrain_80 : decode cX1_rainAndDrain 80 = .ok (.aload_n 0, 1) := by decide +kernel
theorem dX1_rainAndDrain_81 : decode cX1_rainAndDrain 81 = .ok (.getfield 25, 3) := by decide +kernel
theorem dX1_rainAndDrain_84 : decode cX1_rainAndDrain 84 = .ok (.iload 4, 2) := by decide +kernel
theorem dX1_rainAndDrain_86 : decode cX1_rainAndDrain 86 = .ok (.iaload, 1) := by decide +kernel
theorem dX1_rainAndDrain_87 : decode cX1_rainAndDrain 87 = .ok (.invokestatic 136, 3) := by decide +kernel
theorem dX1_rainAndDrain_90 : decode cX1_rainAndDrain 90 = .ok (.istore 7, 2) := by decide +kernel
theorem dX1_rainAndDrain_92 : decode cX1_rainAndDrain 92 = .ok (.aload_n 0, 1) := by decide +kernel
theorem dX1_rainAndDrain_93 : decode cX1_rainAndDrain 93 = .ok (.getfield 37, 3) := by decide +kernel
theorem dX1_rainAndDrain_96 : decode cX1_rainAndDrain 96 = .ok (.iload 5, 2) := by decide +kernel
theorem dX1_rainAndDrain_98 : decode cX1_rainAndDrain 98 = .ok (.iload 7, 2) := by decide +kernel
theorem dX1_rainAndDrain_100 : decode cX1_rainAndDrain 100 = .ok (.iastore, 1) := by decide +kernel
theorem dX1_rainAndDrain_101 : decode cX1_rainAndDrain 101 = .ok (.aload_n 0, 1) := by decide +kernel
theorem dX1_rainAndDrain_102 : decode cX1_rainAndDrain 102 = .ok (.getfield 31, 3) := by decide +kernel
theorem dX1_rainAndDrain_105 : decode cX1_rainAndDrain 105 = .ok (.iload 5, 2) := by decide +kernel
theorem dX1_rainAndDrain_107 : decode cX1_rainAndDrain 107 = .ok (.iload 6, 2) := by decide +kernel
theorem dX1_rainAndDrain_109 : decode cX1_rainAndDrain 109 = .ok (.iload 7, 2) := by decide +kernel
theorem dX1_rainAndDrain_111 : decode cX1_rainAndDrain 111 = .ok (.isub, 1) := by decide +kernel
theorem dX1_rainAndDrain_112 : decode cX1_rainAndDrain 112 = .ok (.iastore, 1) := by decide +kernel
theorem dX1_rainAndDrain_113 : decode cX1_rainAndDrain 113 = .ok (.iinc 4 1, 3) := by decide +kernel
theorem dX1_rainAndDrain_116 : decode cX1_rainAndDrain 116 = .ok (.goto (-97), 3) := by decide +kernel
theorem dX1_rainAndDrain_119 : decode cX1_rainAndDrain 119 = .ok (.return_, 1) := by decide +kernel
set_option maxRecDepth 20000 in
theorem ggX1_runOver_X9_cell : GoodIn wsX1_runOver wsX9_cell := goodIn_r _ [12] (by decide +kernel) (by decide +kernel)
set_option maxRecDepth 20000 in
theorem gX1_runOver_X9_cell_n132 : GoodIn wsX1_runOver (wsX9_cell) := ggX1_runOver_X9_cell
theorem dX1_runOver_0 : decode cX1_runOver 0 = .ok (.aload_n 0, 1) := by decide +kernel
theorem dX1_runOver_1 : decode cX1_runOver 1 = .ok (.getfield 46, 3) := by decide +kernel
theorem dX1_runOver_4 : decode cX1_runOver 4 = .ok (.getfield 129, 3) := by decide +kernel
theorem dX1_runOver_7 : decode cX1_runOver 7 = .ok (.istore_n 2, 1) := by decide +kernel
theorem dX1_runOver_8 : decode cX1_runOver 8 = .ok (.aload_n 0, 1) := by decide +kernel
theorem dX1_runOver_9 : decode cX1_runOver 9 = .ok (.getfield 9, 3) := by decide +kernel
theorem dX1_runOver_12 : decode cX1_runOver 12 = .ok (.iconst 2, 1) := by decide +kernel
theorem dX1_runOver_13 : decode cX1_runOver 13 = .ok (.if_icmp .ne 7, 3) := by decide +kernel
theorem dX1_runOver_16 : decode cX1_runOver 16 = .ok (.iconst (-1), 1) := by decide +kernel
theorem dX1_runOver_17 : decode cX1_runOver 17 = .ok (.goto 4, 3) := by decide +kernel
theorem dX1_runOver_20 : decode cX1_runOver 20 = .ok (.iconst 1, 1) := by decide +kernel
theorem dX1_runOver_21 : decode cX1_runOver 21 = .ok (.istore_n 3, 1) := by decide +kernel
theorem dX1_runOver_22 : decode cX1_runOver 22 = .ok (.aload_n 0, 1) := by decide +kernel
theorem dX1_runOver_23 : decode cX1_runOver 23 = .ok (.getfield 9, 3) := by decide +kernel
theorem dX1_runOver_26 : decode cX1_runOver 26 = .ok (.iconst 1, 1) := by decide +kernel
theorem dX1_runOver_27 : decode cX1_runOver 27 = .ok (.if_icmp .eq 11, 3) := by decide +kernel
theorem dX1_runOver_30 : decode cX1_runOver 30 = .ok (.aload_n 0, 1) := by decide +kernel
theorem dX1_runOver_31 : decode cX1_runOver 31 = .ok (.getfield 9, 3) := by decide +kernel
theorem dX1_runOver_34 : decode cX1_runOver 34 = .ok (.iconst 2, 1) := by decide +kernel
theorem dX1_runOver_35 : decode cX1_runOver 35 = .ok (.if_icmp .ne 7, 3) := by decide +kernel
theorem dX1_runOver_38 : decode cX1_runOver 38 = .ok (.iconst 1, 1) := by decide +kernel
theorem dX1_runOver_39 : decode cX1_runOver 39 = .ok (.goto 4, 3) := by decide +kernel
theorem dX1_runOver_42 : decode cX1_runOver 42 = .ok (.iconst 0, 1) := by decide +kernel
theorem dX1_runOver_43 : decode cX1_runOver 43 = .ok (.istore 4, 2) := by decide +kernel
theorem dX1_runOver_45 : decode cX1_runOver 45 = .ok (.aload_n 0, 1) := by decide +kernel
theorem dX1_runOver_46 : decode cX1_runOver 46 = .ok (.getfield 9, 3) := by decide +kernel
theorem dX1_runOver_49 : decode cX1_runOver 49 = .ok (.iconst 2, 1) := by decide +kernel
theorem dX1_runOver_50 : decode cX1_runOver 50 = .ok (.if_icmp .ne 9, 3) := by decide +kernel
theorem dX1_runOver_53 : decode cX1_runOver 53 = .ok (.iload_n 2, 1) := by decide +kernel
theorem dX1_runOver_54 : decode cX1_runOver 54 = .ok (.iconst 1, 1) := by decide +kernel
theorem dX1_runOver_55 : decode cX1_runOver 55 = .ok (.isub, 1) := by decide +kernel
theorem dX1_runOver_56 : decode cX1_runOver 56 = .ok (.goto 4, 3) := by decide +kernel
theorem dX1_runOver_59 : decode cX1_runOver 59 = .ok (.iconst 0, 1) := by decide +kernel
theorem dX1_runOver_60 : decode cX1_runOver 60 = .ok (.istore 5, 2) := by decide +kernel
theorem dX1_runOver_62 : decode cX1_runOver 62 = .ok (.aload_n 0, 1) := by decide +kernel
theorem dX1_runOver_63 : decode cX1_runOver 63 = .ok (.getfield 40, 3) := by decide +kernel
theorem dX1_runOver_66 : decode cX1_runOver 66 = .ok (.iload_n 1, 1) := by decide +kernel
theorem dX1_runOver_67 : decode cX1_runOver 67 = .ok (.iconst 0, 1) := by decide +kernel
theorem dX1_runOver_68 : decode cX1_runOver 68 = .ok (.iastore, 1) := by decide +kernel
theorem dX1_runOver_69 : decode cX1_runOver 69 = .ok (.iconst 0, 1) := by decide +kernel
theorem dX1_runOver_70 : decode cX1_runOver 70 = .ok (.istore 6, 2) := by decide +kernel
theorem dX1_runOver_72 : decode cX1_runOver 72 = .ok (.iload 6, 2) := by decide +kernel
theorem dX1_runOver_74 : decode cX1_runOver 74 = .ok (.iload_n 2, 1) := by decide +kernel
theorem dX1_runOver_75 : decode cX1_runOver 75 = .ok (.if_icmp .ge 127, 3) := by decide +kernel
theorem dX1_runOver_78 : decode cX1_runOver 78 = .ok (.iload 5, 2) := by decide +kernel
theorem dX1_runOver_80 : decode cX1_runOver 80 = .ok (.iload_n 1, 1) := by decide +kernel
theorem dX1_runOver_81 : decode cX1_runOver 81 = .ok (.invokestatic 132, 3) := by decide +kernel
theorem dX1_runOver_84 : decode cX1_runOver 84 = .ok (.istore 7, 2) := by decide +kernel
theorem dX1_runOver_86 : decode cX1_runOver 86 = .ok (.aload_n 0, 1) := by decide +kernel
theorem dX1_runOver_87 : decode cX1_runOver 87 = .ok (.getfield 9, 3) := by decide +kernel
theorem dX1_runOver_90 : decode cX1_runOver 90 = .ok (.ifCond .ne 8, 3) := by decide +kernel
theorem dX1_runOver_93 : decode cX1_runOver 93 = .ok (.bipush 99, 2) := by decide +kernel
theorem dX1_runOver_95 : decode cX1_runOver 95 = .ok (.goto 15, 3) := by decide +kernel
theorem dX1_runOver_98 : decode cX1_runOver 98 = .ok (.iconst 5, 1) := by decide +kernel
theorem dX1_runOver_99 : decode cX1_runOver 99 = .ok (.aload_n 0, 1) := by decide +kernel
theorem dX1_runOver_100 : decode cX1_runOver 100 = .ok (.getfield 46, 3) := by decide +kernel
theorem dX1_runOver_103 : decode cX1_runOver 103 = .ok (.getfield 141, 3) := by decide +kernel
theorem dX1_runOver_106 : decode cX1_runOver 106 = .ok (.iload 5, 2) := by decide +kernel
theorem dX1_runOver_108 : decode cX1_runOver 108 = .ok (.iaload, 1) := by decide +kernel
theorem dX1_runOver_109 : decode cX1_runOver 109 = .ok (.imul, 1) := by decide +kernel
theorem dX1_runOver_110 : decode cX1_runOver 110 = .ok (.istore 8, 2) := by decide +kernel
theorem dX1_runOver_112 : decode cX1_runOver 112 = .ok (.iconst 0, 1) := by decide +kernel
theorem dX1_runOver_113 : decode cX1_runOver 113 = .ok (.aload_n 0, 1) := by decide +kernel
theorem dX1_runOver_114 : decode cX1_runOver 114 = .ok (.getfield 31, 3) := by decide +kernel
theorem dX1_runOver_117 : decode cX1_runOver 117 = .ok (.iload 7, 2) := by decide +kernel
theorem dX1_runOver_119 : decode cX1_runOver 119 = .ok (.iaload, 1) := by decide +kernel
theorem dX1_runOver_120 : decode cX1_runOver 120 = .ok (.iload 8, 2) := by decide +kernel
theorem dX1_runOver_122 : decode cX1_runOver 122 = .ok (.isub, 1) := by decide +kernel
theorem dX1_runOver_123 : decode cX1_runOver 123 = .ok (.invokestatic 144, 3) := by decide +kernel
theorem dX1_runOver_126 : decode cX1_runOver 126 = .ok (.istore 9, 2) := by decide +kernel
theorem dX1_runOver_128 : decode cX1_runOver 128 = .ok (.aload_n 0, 1) := by decide +kernel
theorem dX1_runOver_129 : decode cX1_runOver 129 = .ok (.getfield 34, 3) := by decide +kernel
theorem dX1_runOver_132 : decode cX1_runOver 132 = .ok (.iload 7, 2) := by decide +kernel
theorem dX1_runOver_134 : decode cX1_runOver 134 = .ok (.iload 9, 2) := by decide +kernel
theorem dX1_runOver_136 : decode cX1_runOver 136 = .ok (.iastore, 1) := by decide +kernel
theorem dX1_runOver_137 : decode cX1_runOver 137 = .ok (.aload_n 0, 1) := by decide +kernel
theorem dX1_runOver_138 : decode cX1_runOver 138 = .ok (.getfield 31, 3) := by decide +kernel
theorem dX1_runOver_141 : decode cX1_runOver 141 = .ok (.iload 7, 2) := by decide +kernel
theorem dX1_runOver_143 : decode cX1_runOver 143 = .ok (.dup2, 1) := by decide +kernel
theorem dX1_runOver_144 : decode cX1_runOver 144 = .ok (.iaload, 1) := by decide +kernel
theorem dX1_runOver_145 : decode cX1_runOver 145 = .ok (.iload 9, 2) := by decide +kernel
theorem dX1_runOver_147 : decode cX1_runOver 147 = .ok (.isub, 1) := by decide +kernel
theorem dX1_runOver_148 : decode cX1_runOver 148 = .ok (.iastore, 1) := by decide +kernel
theorem dX1_runOver_149 : decode cX1_runOver 149 = .ok (.iload 4, 2) := by decide +kernel
theorem dX1_runOver_151 : decode cX1_runOver 151 = .ok (.ifCond .eq 28, 3) := by decide +kernel
theorem dX1_runOver_154 : decode cX1_runOver 154 = .ok (.iload 6, 2) := by decide +kernel
theorem dX1_runOver_156 : decode cX1_runOver 156 = .ok (.iload_n 2, 1) := by decide +kernel
theorem dX1_runOver_157 : decode cX1_runOver 157 = .ok (.iconst 1, 1) := by decide +kernel
theorem dX1_runOver_158 : decode cX1_runOver 158 = .ok (.isub, 1) := by decide +kernel
theorem dX1_runOver_159 : decode cX1_runOver 159 = .ok (.if_icmp .ge 20, 3) := by decide +kernel
theorem dX1_runOver_162 : decode cX1_runOver 162 = .ok (.aload_n 0, 1) := by decide +kernel
theorem dX1_runOver_163 : decode cX1_runOver 163 = .ok (.getfield 31, 3) := by decide +kernel
theorem dX1_runOver_166 : decode cX1_runOver 166 = .ok (.iload 7, 2) := by decide +kernel
theorem dX1_runOver_168 : decode cX1_runOver 168 = .ok (.iload_n 3, 1) := by decide +kernel
theorem dX1_runOver_169 : decode cX1_runOver 169 = .ok (.iadd, 1) := by decide +kernel
theorem dX1_runOver_170 : decode cX1_runOver 170 = .ok (.dup2, 1) := by decide +kernel
theorem dX1_runOver_171 : decode cX1_runOver 171 = .ok (.iaload, 1) := by decide +kernel
theorem dX1_runOver_172 : decode cX1_runOver 172 = .ok (.iload 9, 2) := by decide +kernel
theorem dX1_runOver_174 : decode cX1_runOver 174 = .ok (.iadd, 1) := by decide +kernel
theorem dX1_runOver_175 : decode cX1_runOver 175 = .ok (.iastore, 1) := by decide +kernel
theorem dX1_runOver_176 : decode cX1_runOver 176 = .ok (.goto 14, 3) := by decide +kernel
theorem dX1_runOver_179 : decode cX1_runOver 179 = .ok (.aload_n 0, 1) := by decide +kernel
theorem dX1_runOver_180 : decode cX1_runOver 180 = .ok (.getfield 40, 3) := by decide +kernel
theorem dX1_runOver_183 : decode cX1_runOver 183 = .ok (.iload_n 1, 1) := by decide +kernel
theorem dX1_runOver_184 : decode cX1_runOver 184 = .ok (.dup2, 1) := by decide +kernel
theorem dX1_runOver_185 : decode cX1_runOver 185 = .ok (.iaload, 1) := by decide +kernel
theorem dX1_runOver_186 : decode cX1_runOver 186 = .ok (.iload 9, 2) := by decide +kernel
theorem dX1_runOver_188 : decode cX1_runOver 188 = .ok (.iadd, 1) := by decide +kernel
theorem dX1_runOver_189 : decode cX1_runOver 189 = .ok (.iastore, 1) := by decide +kernel
theorem dX1_runOver_190 : decode cX1_runOver 190 = .ok (.iload 5, 2) := by decide +kernel
theorem dX1_runOver_192 : decode cX1_runOver 192 = .ok (.iload_n 3, 1) := by decide +kernel
theorem dX1_runOver_193 : decode cX1_runOver 193 = .ok (.iadd, 1) := by decide +kernel
theorem dX1_runOver_194 : decode cX1_runOver 194 = .ok (.istore 5, 2) := by decide +kernel
theorem dX1_runOver_196 : decode cX1_runOver 196 = .ok (.iinc 6 1, 3) := by decide +kernel
theorem dX1_runOver_199 : decode cX1_runOver 199 = .ok (.goto (-127), 3) := by decide +kernel
theorem dX1_runOver_202 : decode cX1_runOver 202 = .ok (.return_, 1) := by decide +kernel
set_option maxRecDepth 20000 in
theorem ggX1_emptyDredged_X9_cell : GoodIn wsX1_emptyDredged wsX9_cell := goodIn_r _ [6] (by decide +kernel) (by decide +kernel)
set_option maxRecDepth 20000 in
theorem gX1_emptyDredged_X9_cell_n132 : GoodIn wsX1_emptyDredged (wsX9_cell) := ggX1_emptyDredged_X9_cell
theorem dX1_emptyDredged_0 : decode cX1_emptyDredged 0 = .ok (.iconst 0, 1) := by decide +kernel
theorem dX1_emptyDredged_1 : decode cX1_emptyDredged 1 = .ok (.istore_n 2, 1) := by decide +kernel
theorem dX1_emptyDredged_2 : decode cX1_emptyDredged 2 = .ok (.iload_n 2, 1) := by decide +kernel
theorem dX1_emptyDredged_3 : decode cX1_emptyDredged 3 = .ok (.aload_n 0, 1) := by decide +kernel
theorem dX1_emptyDredged_4 : decode cX1_emptyDredged 4 = .ok (.getfield 46, 3) := by decide +kernel
theorem dX1_emptyDredged_7 : decode cX1_emptyDredged 7 = .ok (.getfield 129, 3) := by decide +kernel
theorem dX1_emptyDredged_10 : decode cX1_emptyDredged 10 = .ok (.if_icmp .ge 33, 3) := by decide +kernel
theorem dX1_emptyDredged_13 : decode cX1_emptyDredged 13 = .ok (.aload_n 0, 1) := by decide +kernel
theorem dX1_emptyDredged_14 : decode cX1_emptyDredged 14 = .ok (.getfield 28, 3) := by decide +kernel
theorem dX1_emptyDredged_17 : decode cX1_emptyDredged 17 = .ok (.iload_n 1, 1) := by decide +kernel
theorem dX1_emptyDredged_18 : decode cX1_emptyDredged 18 = .ok (.iaload, 1) := by decide +kernel
theorem dX1_emptyDredged_19 : decode cX1_emptyDredged 19 = .ok (.iload_n 2, 1) := by decide +kernel
theorem dX1_emptyDredged_20 : decode cX1_emptyDredged 20 = .ok (.ishr, 1) := by decide +kernel
theorem dX1_emptyDredged_21 : decode cX1_emptyDredged 21 = .ok (.iconst 1, 1) := by decide +kernel
theorem dX1_emptyDredged_22 : decode cX1_emptyDredged 22 = .ok (.iand, 1) := by decide +kernel
theorem dX1_emptyDredged_23 : decode cX1_emptyDredged 23 = .ok (.ifCond .eq 14, 3) := by decide +kernel
theorem dX1_emptyDredged_26 : decode cX1_emptyDredged 26 = .ok (.aload_n 0, 1) := by decide +kernel
theorem dX1_emptyDredged_27 : decode cX1_emptyDredged 27 = .ok (.getfield 31, 3) := by decide +kernel
theorem dX1_emptyDredged_30 : decode cX1_emptyDredged 30 = .ok (.iload_n 2, 1) := by decide +kernel
theorem dX1_emptyDredged_31 : decode cX1_emptyDredged 31 = .ok (.iload_n 1, 1) := by decide +kernel
theorem dX1_emptyDredged_32 : decode cX1_emptyDredged 32 = .ok (.invokestatic 132, 3) := by decide +kernel
theorem dX1_emptyDredged_35 : decode cX1_emptyDredged 35 = .ok (.iconst 0, 1) := by decide +kernel
theorem dX1_emptyDredged_36 : decode cX1_emptyDredged 36 = .ok (.iastore, 1) := by decide +kernel
theorem dX1_emptyDredged_37 : decode cX1_emptyDredged 37 = .ok (.iinc 2 1, 3) := by decide +kernel
theorem dX1_emptyDredged_40 : decode cX1_emptyDredged 40 = .ok (.goto (-38), 3) := by decide +kernel
theorem dX1_emptyDredged_43 : decode cX1_emptyDredged 43 = .ok (.return_, 1) := by decide +kernel
theorem dX1_isFrost_0 : decode cX1_isFrost 0 = .ok (.aload_n 0, 1) := by decide +kernel
theorem dX1_isFrost_1 : decode cX1_isFrost 1 = .ok (.getfield 15, 3) := by decide +kernel
theorem dX1_isFrost_4 : decode cX1_isFrost 4 = .ok (.iload_n 1, 1) := by decide +kernel
theorem dX1_isFrost_5 : decode cX1_isFrost 5 = .ok (.ishr, 1) := by decide +kernel
theorem dX1_isFrost_6 : decode cX1_isFrost 6 = .ok (.iconst 1, 1) := by decide +kernel
theorem dX1_isFrost_7 : decode cX1_isFrost 7 = .ok (.iand, 1) := by decide +kernel
theorem dX1_isFrost_8 : decode cX1_isFrost 8 = .ok (.ifCond .eq 7, 3) := by decide +kernel
theorem dX1_isFrost_11 : decode cX1_isFrost 11 = .ok (.iconst 1, 1) := by decide +kernel
theorem dX1_isFrost_12 : decode cX1_isFrost 12 = .ok (.goto 4, 3) := by decide +kernel
theorem dX1_isFrost_15 : decode cX1_isFrost 15 = .ok (.iconst 0, 1) := by decide +kernel
theorem dX1_isFrost_16 : decode cX1_isFrost 16 = .ok (.ireturn, 1) := by decide +kernel
set_option maxRecDepth 20000 in
theorem ggX1_swimsOver_X9_cell : GoodIn wsX1_swimsOver wsX9_cell := goodIn_r _ [5] (by decide +kernel) (by decide +kernel)
set_option maxRecDepth 20000 in
theorem gX1_swimsOver_X9_cell_n132 : GoodIn wsX1_swimsOver (wsX9_cell) := ggX1_swimsOver_X9_cell
theorem dX1_swimsOver_0 : decode cX1_swimsOver 0 = .ok (.aload_n 0, 1) := by decide +kernel
theorem dX1_swimsOver_1 : decode cX1_swimsOver 1 = .ok (.getfield 31, 3) := by decide +kernel
theorem dX1_swimsOver_4 : decode cX1_swimsOver 4 = .ok (.iload_n 2, 1) := by decide +kernel
theorem dX1_swimsOver_5 : decode cX1_swimsOver 5 = .ok (.iload_n 3, 1) := by decide +kernel
theorem dX1_swimsOver_6 : decode cX1_swimsOver 6 = .ok (.invokestatic 132, 3) := by decide +kernel
theorem dX1_swimsOver_9 : decode cX1_swimsOver 9 = .ok (.iaload, 1) := by decide +kernel
theorem dX1_swimsOver_10 : decode cX1_swimsOver 10 = .ok (.aload_n 0, 1) := by decide +kernel
theorem dX1_swimsOver_11 : decode cX1_swimsOver 11 = .ok (.getfield 46, 3) := by decide +kernel
theorem dX1_swimsOver_14 : decode cX1_swimsOver 14 = .ok (.getfield 147, 3) := by decide +kernel
theorem dX1_swimsOver_17 : decode cX1_swimsOver 17 = .ok (.iload_n 1, 1) := by decide +kernel
theorem dX1_swimsOver_18 : decode cX1_swimsOver 18 = .ok (.iaload, 1) := by decide +kernel
theorem dX1_swimsOver_19 : decode cX1_swimsOver 19 = .ok (.if_icmp .gt 7, 3) := by decide +kernel
theorem dX1_swimsOver_22 : decode cX1_swimsOver 22 = .ok (.iconst 1, 1) := by decide +kernel
theorem dX1_swimsOver_23 : decode cX1_swimsOver 23 = .ok (.goto 4, 3) := by decide +kernel
theorem dX1_swimsOver_26 : decode cX1_swimsOver 26 = .ok (.iconst 0, 1) := by decide +kernel
theorem dX1_swimsOver_27 : decode cX1_swimsOver 27 = .ok (.ireturn, 1) := by decide +kernel
set_option maxRecDepth 20000 in
theorem ggX1_crosses_X1_isFrost : GoodIn wsX1_crosses wsX1_isFrost := goodIn_r _ [6, 7, 17, 18, 19, 20, 21, 22, 23, 24, 25, 26, 27, 28] (by decide +kernel) (by decide +kernel)
set_option maxRecDepth 20000 in
theorem gX1_crosses_X1_isFrost : GoodIn wsX1_crosses (wsV RX1 122 RX1 yX1_isFrost wsX1_isFrost) := goodIn_app (goodIn_of _ (by decide +kernel)) ggX1_crosses_X1_isFrost
set_option maxRecDepth 20000 in
theorem ggX1_crosses_X1_swimsOver : GoodIn wsX1_crosses wsX1_swimsOver := goodIn_r _ [11, 12, 13, 14, 15, 16, 17, 18, 19, 20, 21, 22, 23, 24, 25, 26, 27, 28, 29, 30, 31, 32, 33, 34, 35, 36, 37, 38, 39, 40, 41, 42, 43, 44, 45, 46] (by decide +kernel) (by decide +kernel)
set_option maxRecDepth 20000 in
theorem gX1_crosses_X1_swimsOver : GoodIn wsX1_crosses (wsV RX1 150 RX1 yX1_swimsOver wsX1_swimsOver) := goodIn_app (goodIn_of _ (by decide +kernel)) ggX1_crosses_X1_swimsOver
theorem dX1_crosses_0 : decode cX1_crosses 0 = .ok (.aload_n 0, 1) := by decide +kernel
theorem dX1_crosses_1 : decode cX1_crosses 1 = .ok (.iload_n 3, 1) := by decide +kernel
theorem dX1_crosses_2 : decode cX1_crosses 2 = .ok (.invokevirtual 122, 3) := by decide +kernel
theorem dX1_crosses_5 : decode cX1_crosses 5 = .ok (.ifCond .ne 24, 3) := by decide +kernel
theorem dX1_crosses_8 : decode cX1_crosses 8 = .ok (.aload_n 0, 1) := by decide +kernel
theorem dX1_crosses_9 : decode cX1_crosses 9 = .ok (.getfield 18, 3) := by decide +kernel
theorem dX1_crosses_12 : decode cX1_crosses 12 = .ok (.iload_n 2, 1) := by decide +kernel
theorem dX1_crosses_13 : decode cX1_crosses 13 = .ok (.ishr, 1) := by decide +kernel
theorem dX1_crosses_14 : decode cX1_crosses 14 = .ok (.iconst 1, 1) := by decide +kernel
theorem dX1_crosses_15 : decode cX1_crosses 15 = .ok (.iand, 1) := by decide +kernel
theorem dX1_crosses_16 : decode cX1_crosses 16 = .ok (.ifCond .ne 13, 3) := by decide +kernel
theorem dX1_crosses_19 : decode cX1_crosses 19 = .ok (.aload_n 0, 1) := by decide +kernel
theorem dX1_crosses_20 : decode cX1_crosses 20 = .ok (.iload_n 1, 1) := by decide +kernel
theorem dX1_crosses_21 : decode cX1_crosses 21 = .ok (.iload_n 2, 1) := by decide +kernel
theorem dX1_crosses_22 : decode cX1_crosses 22 = .ok (.iload_n 3, 1) := by decide +kernel
theorem dX1_crosses_23 : decode cX1_crosses 23 = .ok (.invokevirtual 150, 3) := by decide +kernel
theorem dX1_crosses_26 : decode cX1_crosses 26 = .ok (.ifCond .eq 7, 3) := by decide +kernel
theorem dX1_crosses_29 : decode cX1_crosses 29 = .ok (.iconst 1, 1) := by decide +kernel
theorem dX1_crosses_30 : decode cX1_crosses 30 = .ok (.goto 4, 3) := by decide +kernel
theorem dX1_crosses_33 : decode cX1_crosses 33 = .ok (.iconst 0, 1) := by decide +kernel
theorem dX1_crosses_34 : decode cX1_crosses 34 = .ok (.ireturn, 1) := by decide +kernel
set_option maxRecDepth 20000 in
theorem ggX1_visits_X1_crosses : GoodIn wsX1_visits wsX1_crosses := goodIn_r _ [5, 6, 7, 8, 9, 4, 10, 11, 12, 13, 14, 15, 16, 17, 18, 19, 20, 21, 22, 23, 24, 25, 26, 27, 28, 29, 30, 31, 32, 33, 34, 35, 36, 37, 38, 39, 40, 41, 42, 43, 44, 45, 46, 47, 48, 49, 50] (by decide +kernel) (by decide +kernel)
set_option maxRecDepth 20000 in
theorem gX1_visits_X1_crosses : GoodIn wsX1_visits (wsV RX1 154 RX1 yX1_crosses wsX1_crosses) := goodIn_app (goodIn_of _ (by decide +kernel)) ggX1_visits_X1_crosses
theorem dX1_visits_0 : decode cX1_visits 0 = .ok (.iload_n 1, 1) := by decide +kernel
theorem dX1_visits_1 : decode cX1_visits 1 = .ok (.iload_n 2, 1) := by decide +kernel
theorem dX1_visits_2 : decode cX1_visits 2 = .ok (.if_icmp .eq 27, 3) := by decide +kernel
theorem dX1_visits_5 : decode cX1_visits 5 = .ok (.aload_n 0, 1) := by decide +kernel
theorem dX1_visits_6 : decode cX1_visits 6 = .ok (.iload_n 1, 1) := by decide +kernel
theorem dX1_visits_7 : decode cX1_visits 7 = .ok (.iload_n 1, 1) := by decide +kernel
theorem dX1_visits_8 : decode cX1_visits 8 = .ok (.iload_n 3, 1) := by decide +kernel
theorem dX1_visits_9 : decode cX1_visits 9 = .ok (.invokevirtual 154, 3) := by decide +kernel
theorem dX1_visits_12 : decode cX1_visits 12 = .ok (.ifCond .eq 17, 3) := by decide +kernel
theorem dX1_visits_15 : decode cX1_visits 15 = .ok (.aload_n 0, 1) := by decide +kernel
theorem dX1_visits_16 : decode cX1_visits 16 = .ok (.iload_n 1, 1) := by decide +kernel
theorem dX1_visits_17 : decode cX1_visits 17 = .ok (.iload_n 2, 1) := by decide +kernel
theorem dX1_visits_18 : decode cX1_visits 18 = .ok (.iload_n 3, 1) := by decide +kernel
theorem dX1_visits_19 : decode cX1_visits 19 = .ok (.invokevirtual 154, 3) := by decide +kernel
theorem dX1_visits_22 : decode cX1_visits 22 = .ok (.ifCond .eq 7, 3) := by decide +kernel
theorem dX1_visits_25 : decode cX1_visits 25 = .ok (.iconst 1, 1) := by decide +kernel
theorem dX1_visits_26 : decode cX1_visits 26 = .ok (.goto 4, 3) := by decide +kernel
theorem dX1_visits_29 : decode cX1_visits 29 = .ok (.iconst 0, 1) := by decide +kernel
theorem dX1_visits_30 : decode cX1_visits 30 = .ok (.ireturn, 1) := by decide +kernel
set_option maxRecDepth 20000 in
theorem ggX1_visitedBy_X1_visits : GoodIn wsX1_visitedBy wsX1_visits := goodIn_r _ [6, 7, 8, 9, 5, 10, 11, 12, 13, 14, 15, 16, 17, 18, 19, 20, 21, 1, 22, 23, 24, 25, 26, 27, 28, 29, 30, 31, 32, 33, 34, 35, 36, 37, 38, 39, 40, 41, 42, 43, 44, 45, 46, 47, 48, 49, 50, 51, 52, 53, 54] (by decide +kernel) (by decide +kernel)
set_option maxRecDepth 20000 in
theorem gX1_visitedBy_X1_visits : GoodIn wsX1_visitedBy (wsV RX1 157 RX1 yX1_visits wsX1_visits) := goodIn_app (goodIn_of _ (by decide +kernel)) ggX1_visitedBy_X1_visits
theorem dX1_visitedBy_0 : decode cX1_visitedBy 0 = .ok (.iconst 0, 1) := by decide +kernel
theorem dX1_visitedBy_1 : decode cX1_visitedBy 1 = .ok (.istore_n 3, 1) := by decide +kernel
theorem dX1_visitedBy_2 : decode cX1_visitedBy 2 = .ok (.iconst 0, 1) := by decide +kernel
theorem dX1_visitedBy_3 : decode cX1_visitedBy 3 = .ok (.istore 4, 2) := by decide +kernel
theorem dX1_visitedBy_5 : decode cX1_visitedBy 5 = .ok (.iload 4, 2) := by decide +kernel
theorem dX1_visitedBy_7 : decode cX1_visitedBy 7 = .ok (.aload_n 0, 1) := by decide +kernel
theorem dX1_visitedBy_8 : decode cX1_visitedBy 8 = .ok (.getfield 46, 3) := by decide +kernel
theorem dX1_visitedBy_11 : decode cX1_visitedBy 11 = .ok (.getfield 129, 3) := by decide +kernel
theorem dX1_visitedBy_14 : decode cX1_visitedBy 14 = .ok (.if_icmp .ge 27, 3) := by decide +kernel
theorem dX1_visitedBy_17 : decode cX1_visitedBy 17 = .ok (.aload_n 0, 1) := by decide +kernel
theorem dX1_visitedBy_18 : decode cX1_visitedBy 18 = .ok (.iload_n 1, 1) := by decide +kernel
theorem dX1_visitedBy_19 : decode cX1_visitedBy 19 = .ok (.iload 4, 2) := by decide +kernel
theorem dX1_visitedBy_21 : decode cX1_visitedBy 21 = .ok (.iload_n 2, 1) := by decide +kernel
theorem dX1_visitedBy_22 : decode cX1_visitedBy 22 = .ok (.invokevirtual 157, 3) := by decide +kernel
theorem dX1_visitedBy_25 : decode cX1_visitedBy 25 = .ok (.ifCond .eq 10, 3) := by decide +kernel
theorem dX1_visitedBy_28 : decode cX1_visitedBy 28 = .ok (.iload_n 3, 1) := by decide +kernel
theorem dX1_visitedBy_29 : decode cX1_visitedBy 29 = .ok (.iconst 1, 1) := by decide +kernel
theorem dX1_visitedBy_30 : decode cX1_visitedBy 30 = .ok (.iload 4, 2) := by decide +kernel
theorem dX1_visitedBy_32 : decode cX1_visitedBy 32 = .ok (.ishl, 1) := by decide +kernel
theorem dX1_visitedBy_33 : decode cX1_visitedBy 33 = .ok (.ior, 1) := by decide +kernel
theorem dX1_visitedBy_34 : decode cX1_visitedBy 34 = .ok (.istore_n 3, 1) := by decide +kernel
theorem dX1_visitedBy_35 : decode cX1_visitedBy 35 = .ok (.iinc 4 1, 3) := by decide +kernel
theorem dX1_visitedBy_38 : decode cX1_visitedBy 38 = .ok (.goto (-33), 3) := by decide +kernel
theorem dX1_visitedBy_41 : decode cX1_visitedBy 41 = .ok (.iload_n 3, 1) := by decide +kernel
theorem dX1_visitedBy_42 : decode cX1_visitedBy 42 = .ok (.ireturn, 1) := by decide +kernel
set_option maxRecDepth 20000 in
theorem ggX1_spread_X1_visitedBy : GoodIn wsX1_spread wsX1_visitedBy := goodIn_r _ [6, 1, 7, 8, 9, 5, 10, 11, 12, 13, 14, 15, 16, 17, 18, 19, 20, 21, 22, 23, 24, 25, 26, 27, 28, 29, 30, 31, 32, 33, 34, 35, 36, 37, 38, 39, 40, 41, 42, 43, 44, 45, 46, 47, 48, 49, 50, 51, 52, 53, 54, 55, 56, 57, 58] (by decide +kernel) (by decide +kernel)
set_option maxRecDepth 20000 in
theorem gX1_spread_X1_visitedBy : GoodIn wsX1_spread (wsV RX1 160 RX1 yX1_visitedBy wsX1_visitedBy) := goodIn_app (goodIn_of _ (by decide +kernel)) ggX1_spread_X1_visitedBy
theorem dX1_spread_0 : decode cX1_spread 0 = .ok (.iload_n 1, 1) := by decide +kernel
theorem dX1_spread_1 : decode cX1_spread 1 = .ok (.istore_n 3, 1) := by decide +kernel
theorem dX1_spread_2 : decode cX1_spread 2 = .ok (.iconst 0, 1) := by decide +kernel
theorem dX1_spread_3 : decode cX1_spread 3 = .ok (.istore 4, 2) := by decide +kernel
theorem dX1_spread_5 : decode cX1_spread 5 = .ok (.iload 4, 2) := by decide +kernel
theorem dX1_spread_7 : decode cX1_spread 7 = .ok (.aload_n 0, 1) := by decide +kernel
theorem dX1_spread_8 : decode cX1_spread 8 = .ok (.getfield 46, 3) := by decide +kernel
theorem dX1_spread_11 : decode cX1_spread 11 = .ok (.getfield 129, 3) := by decide +kernel
theorem dX1_spread_14 : decode cX1_spread 14 = .ok (.if_icmp .ge 28, 3) := by decide +kernel
theorem dX1_spread_17 : decode cX1_spread 17 = .ok (.iload_n 1, 1) := by decide +kernel
theorem dX1_spread_18 : decode cX1_spread 18 = .ok (.iload 4, 2) := by decide +kernel
theorem dX1_spread_20 : decode cX1_spread 20 = .ok (.ishr, 1) := by decide +kernel
theorem dX1_spread_21 : decode cX1_spread 21 = .ok (.iconst 1, 1) := by decide +kernel
theorem dX1_spread_22 : decode cX1_spread 22 = .ok (.iand, 1) := by decide +kernel
theorem dX1_spread_23 : decode cX1_spread 23 = .ok (.ifCond .eq 13, 3) := by decide +kernel
theorem dX1_spread_26 : decode cX1_spread 26 = .ok (.iload_n 3, 1) := by decide +kernel
theorem dX1_spread_27 : decode cX1_spread 27 = .ok (.aload_n 0, 1) := by decide +kernel
theorem dX1_spread_28 : decode cX1_spread 28 = .ok (.iload 4, 2) := by decide +kernel
theorem dX1_spread_30 : decode cX1_spread 30 = .ok (.iload_n 2, 1) := by decide +kernel
theorem dX1_spread_31 : decode cX1_spread 31 = .ok (.invokevirtual 160, 3) := by decide +kernel
theorem dX1_spread_34 : decode cX1_spread 34 = .ok (.ior, 1) := by decide +kernel
theorem dX1_spread_35 : decode cX1_spread 35 = .ok (.istore_n 3, 1) := by decide +kernel
theorem dX1_spread_36 : decode cX1_spread 36 = .ok (.iinc 4 1, 3) := by decide +kernel
theorem dX1_spread_39 : decode cX1_spread 39 = .ok (.goto (-34), 3) := by decide +kernel
theorem dX1_spread_42 : decode cX1_spread 42 = .ok (.iload_n 3, 1) := by decide +kernel
theorem dX1_spread_43 : decode cX1_spread 43 = .ok (.ireturn, 1) := by decide +kernel
set_option maxRecDepth 20000 in
theorem ggX1_farthest_X1_spread : GoodIn wsX1_farthest wsX1_spread := goodIn_r _ [6, 1, 7, 8, 9, 5, 10, 11, 12, 13, 14, 15, 16, 17, 18, 19, 20, 21, 22, 23, 24, 25, 26, 27, 28, 29, 30, 31, 32, 33, 34, 35, 36, 37, 38, 39, 40, 41, 42, 43, 44, 45, 46, 47, 48, 49, 50, 51, 52, 53, 54, 55, 56, 57, 58, 59, 60, 61, 62] (by decide +kernel) (by decide +kernel)
set_option maxRecDepth 20000 in
theorem gX1_farthest_X1_spread : GoodIn wsX1_farthest (wsV RX1 163 RX1 yX1_spread wsX1_spread) := goodIn_app (goodIn_of _ (by decide +kernel)) ggX1_farthest_X1_spread
theorem dX1_farthest_0 : decode cX1_farthest 0 = .ok (.iconst 1, 1) := by decide +kernel
theorem dX1_farthest_1 : decode cX1_farthest 1 = .ok (.iload_n 1, 1) := by decide +kernel
theorem dX1_farthest_2 : decode cX1_farthest 2 = .ok (.ishl, 1) := by decide +kernel
theorem dX1_farthest_3 : decode cX1_farthest 3 = .ok (.istore_n 3, 1) := by decide +kernel
theorem dX1_farthest_4 : decode cX1_farthest 4 = .ok (.iconst 0, 1) := by decide +kernel
theorem dX1_farthest_5 : decode cX1_farthest 5 = .ok (.istore 4, 2) := by decide +kernel
theorem dX1_farthest_7 : decode cX1_farthest 7 = .ok (.iconst 0, 1) := by decide +kernel
theorem dX1_farthest_8 : decode cX1_farthest 8 = .ok (.istore 5, 2) := by decide +kernel
theorem dX1_farthest_10 : decode cX1_farthest 10 = .ok (.iload 5, 2) := by decide +kernel
theorem dX1_farthest_12 : decode cX1_farthest 12 = .ok (.aload_n 0, 1) := by decide +kernel
theorem dX1_farthest_13 : decode cX1_farthest 13 = .ok (.getfield 46, 3) := by decide +kernel
theorem dX1_farthest_16 : decode cX1_farthest 16 = .ok (.getfield 129, 3) := by decide +kernel
theorem dX1_farthest_19 : decode cX1_farthest 19 = .ok (.if_icmp .ge 29, 3) := by decide +kernel
theorem dX1_farthest_22 : decode cX1_farthest 22 = .ok (.aload_n 0, 1) := by decide +kernel
theorem dX1_farthest_23 : decode cX1_farthest 23 = .ok (.iload_n 3, 1) := by decide +kernel
theorem dX1_farthest_24 : decode cX1_farthest 24 = .ok (.iload_n 2, 1) := by decide +kernel
theorem dX1_farthest_25 : decode cX1_farthest 25 = .ok (.invokevirtual 163, 3) := by decide +kernel
theorem dX1_farthest_28 : decode cX1_farthest 28 = .ok (.istore 6, 2) := by decide +kernel
theorem dX1_farthest_30 : decode cX1_farthest 30 = .ok (.iload 6, 2) := by decide +kernel
theorem dX1_farthest_32 : decode cX1_farthest 32 = .ok (.iload_n 3, 1) := by decide +kernel
theorem dX1_farthest_33 : decode cX1_farthest 33 = .ok (.if_icmp .eq 6, 3) := by decide +kernel
theorem dX1_farthest_36 : decode cX1_farthest 36 = .ok (.iinc 4 1, 3) := by decide +kernel
theorem dX1_farthest_39 : decode cX1_farthest 39 = .ok (.iload 6, 2) := by decide +kernel
theorem dX1_farthest_41 : decode cX1_farthest 41 = .ok (.istore_n 3, 1) := by decide +kernel
theorem dX1_farthest_42 : decode cX1_farthest 42 = .ok (.iinc 5 1, 3) := by decide +kernel
theorem dX1_farthest_45 : decode cX1_farthest 45 = .ok (.goto (-35), 3) := by decide +kernel
theorem dX1_farthest_48 : decode cX1_farthest 48 = .ok (.iload 4, 2) := by decide +kernel
theorem dX1_farthest_50 : decode cX1_farthest 50 = .ok (.ireturn, 1) := by decide +kernel
set_option maxRecDepth 20000 in
theorem ggX1_pairs_X1_visits : GoodIn wsX1_pairs wsX1_visits := goodIn_r _ [6, 7, 8, 9, 5, 10, 11, 12, 13, 14, 15, 16, 17, 18, 19, 20, 21, 1, 22, 23, 24, 25, 26, 27, 28, 29, 30, 31, 32, 33, 34, 35, 36, 37, 38, 39, 40, 41, 42, 43, 44, 45, 46, 47, 48, 49, 50, 51, 52, 53, 54] (by decide +kernel) (by decide +kernel)
set_option maxRecDepth 20000 in
theorem gX1_pairs_X1_visits : GoodIn wsX1_pairs (wsV RX1 157 RX1 yX1_visits wsX1_visits) := goodIn_app (goodIn_of _ (by decide +kernel)) ggX1_pairs_X1_visits
theorem dX1_pairs_0 : decode cX1_pairs 0 = .ok (.iconst 0, 1) := by decide +kernel
theorem dX1_pairs_1 : decode cX1_pairs 1 = .ok (.istore_n 2, 1) := by decide +kernel
theorem dX1_pairs_2 : decode cX1_pairs 2 = .ok (.iconst 0, 1) := by decide +kernel
theorem dX1_pairs_3 : decode cX1_pairs 3 = .ok (.istore_n 3, 1) := by decide +kernel
theorem dX1_pairs_4 : decode cX1_pairs 4 = .ok (.iload_n 3, 1) := by decide +kernel
theorem dX1_pairs_5 : decode cX1_pairs 5 = .ok (.aload_n 0, 1) := by decide +kernel
theorem dX1_pairs_6 : decode cX1_pairs 6 = .ok (.getfield 46, 3) := by decide +kernel
theorem dX1_pairs_9 : decode cX1_pairs 9 = .ok (.getfield 129, 3) := by decide +kernel
theorem dX1_pairs_12 : decode cX1_pairs 12 = .ok (.if_icmp .ge 57, 3) := by decide +kernel
theorem dX1_pairs_15 : decode cX1_pairs 15 = .ok (.iload_n 3, 1) := by decide +kernel
theorem dX1_pairs_16 : decode cX1_pairs 16 = .ok (.iconst 1, 1) := by decide +kernel
theorem dX1_pairs_17 : decode cX1_pairs 17 = .ok (.iadd, 1) := by decide +kernel
theorem dX1_pairs_18 : decode cX1_pairs 18 = .ok (.istore 4, 2) := by decide +kernel
theorem dX1_pairs_20 : decode cX1_pairs 20 = .ok (.iload 4, 2) := by decide +kernel
theorem dX1_pairs_22 : decode cX1_pairs 22 = .ok (.aload_n 0, 1) := by decide +kernel
theorem dX1_pairs_23 : decode cX1_pairs 23 = .ok (.getfield 46, 3) := by decide +kernel
theorem dX1_pairs_26 : decode cX1_pairs 26 = .ok (.getfield 129, 3) := by decide +kernel
theorem dX1_pairs_29 : decode cX1_pairs 29 = .ok (.if_icmp .ge 34, 3) := by decide +kernel
theorem dX1_pairs_32 : decode cX1_pairs 32 = .ok (.aload_n 0, 1) := by decide +kernel
theorem dX1_pairs_33 : decode cX1_pairs 33 = .ok (.iload_n 3, 1) := by decide +kernel
theorem dX1_pairs_34 : decode cX1_pairs 34 = .ok (.iload 4, 2) := by decide +kernel
theorem dX1_pairs_36 : decode cX1_pairs 36 = .ok (.iload_n 1, 1) := by decide +kernel
theorem dX1_pairs_37 : decode cX1_pairs 37 = .ok (.invokevirtual 157, 3) := by decide +kernel
theorem dX1_pairs_40 : decode cX1_pairs 40 = .ok (.ifCond .eq 17, 3) := by decide +kernel
theorem dX1_pairs_43 : decode cX1_pairs 43 = .ok (.aload_n 0, 1) := by decide +kernel
theorem dX1_pairs_44 : decode cX1_pairs 44 = .ok (.iload 4, 2) := by decide +kernel
theorem dX1_pairs_46 : decode cX1_pairs 46 = .ok (.iload_n 3, 1) := by decide +kernel
theorem dX1_pairs_47 : decode cX1_pairs 47 = .ok (.iload_n 1, 1) := by decide +kernel
theorem dX1_pairs_48 : decode cX1_pairs 48 = .ok (.invokevirtual 157, 3) := by decide +kernel
theorem dX1_pairs_51 : decode cX1_pairs 51 = .ok (.ifCond .eq 6, 3) := by decide +kernel
theorem dX1_pairs_54 : decode cX1_pairs 54 = .ok (.iinc 2 1, 3) := by decide +kernel
theorem dX1_pairs_57 : decode cX1_pairs 57 = .ok (.iinc 4 1, 3) := by decide +kernel
theorem dX1_pairs_60 : decode cX1_pairs 60 = .ok (.goto (-40), 3) := by decide +kernel
theorem dX1_pairs_63 : decode cX1_pairs 63 = .ok (.iinc 3 1, 3) := by decide +kernel
theorem dX1_pairs_66 : decode cX1_pairs 66 = .ok (.goto (-62), 3) := by decide +kernel
theorem dX1_pairs_69 : decode cX1_pairs 69 = .ok (.iload_n 2, 1) := by decide +kernel
theorem dX1_pairs_70 : decode cX1_pairs 70 = .ok (.ireturn, 1) := by decide +kernel
set_option maxRecDepth 20000 in
theorem ggX1_deepWaterFor_X6_hasYear : GoodIn wsX1_deepWaterFor wsX6_hasYear := goodIn_r _ [5, 6, 33, 34, 35, 36, 37, 38, 39, 40, 41, 42, 43, 44, 45, 46, 47, 48, 49, 50] (by decide +kernel) (by decide +kernel)
set_option maxRecDepth 20000 in
theorem gX1_deepWaterFor_X6_hasYear_n167 : GoodIn wsX1_deepWaterFor (wsX6_hasYear) := ggX1_deepWaterFor_X6_hasYear
set_option maxRecDepth 20000 in
theorem ggX1_deepWaterFor_X1_isFrost : GoodIn wsX1_deepWaterFor wsX1_isFrost := goodIn_r _ [11, 12, 21, 22, 23, 24, 25, 26, 27, 28, 29, 30, 31, 32] (by decide +kernel) (by decide +kernel)
set_option maxRecDepth 20000 in
theorem gX1_deepWaterFor_X1_isFrost : GoodIn wsX1_deepWaterFor (wsV RX1 122 RX1 yX1_isFrost wsX1_isFrost) := goodIn_app (goodIn_of _ (by decide +kernel)) ggX1_deepWaterFor_X1_isFrost
set_option maxRecDepth 20000 in
theorem ggX1_deepWaterFor_X1_swimsOver : GoodIn wsX1_deepWaterFor wsX1_swimsOver := goodIn_r _ [16, 17, 1, 18, 19, 20, 21, 22, 23, 24, 25, 26, 27, 28, 29, 30, 31, 32, 33, 34, 35, 36, 37, 38, 39, 40, 41, 42, 43, 44, 45, 46, 47, 48, 49, 50] (by decide +kernel) (by decide +kernel)
set_option maxRecDepth 20000 in
theorem gX1_deepWaterFor_X1_swimsOver : GoodIn wsX1_deepWaterFor (wsV RX1 150 RX1 yX1_swimsOver wsX1_swimsOver) := goodIn_app (goodIn_of _ (by decide +kernel)) ggX1_deepWaterFor_X1_swimsOver
theorem dX1_deepWaterFor_0 : decode cX1_deepWaterFor 0 = .ok (.aload_n 0, 1) := by decide +kernel
theorem dX1_deepWaterFor_1 : decode cX1_deepWaterFor 1 = .ok (.getfield 46, 3) := by decide +kernel
theorem dX1_deepWaterFor_4 : decode cX1_deepWaterFor 4 = .ok (.getfield 112, 3) := by decide +kernel
theorem dX1_deepWaterFor_7 : decode cX1_deepWaterFor 7 = .ok (.getfield 166, 3) := by decide +kernel
theorem dX1_deepWaterFor_10 : decode cX1_deepWaterFor 10 = .ok (.iload_n 1, 1) := by decide +kernel
theorem dX1_deepWaterFor_11 : decode cX1_deepWaterFor 11 = .ok (.iaload, 1) := by decide +kernel
theorem dX1_deepWaterFor_12 : decode cX1_deepWaterFor 12 = .ok (.istore_n 2, 1) := by decide +kernel
theorem dX1_deepWaterFor_13 : decode cX1_deepWaterFor 13 = .ok (.aload_n 0, 1) := by decide +kernel
theorem dX1_deepWaterFor_14 : decode cX1_deepWaterFor 14 = .ok (.getfield 46, 3) := by decide +kernel
theorem dX1_deepWaterFor_17 : decode cX1_deepWaterFor 17 = .ok (.iload_n 2, 1) := by decide +kernel
theorem dX1_deepWaterFor_18 : decode cX1_deepWaterFor 18 = .ok (.invokevirtual 167, 3) := by decide +kernel
theorem dX1_deepWaterFor_21 : decode cX1_deepWaterFor 21 = .ok (.ifCond .ne 5, 3) := by decide +kernel
theorem dX1_deepWaterFor_24 : decode cX1_deepWaterFor 24 = .ok (.iconst (-1), 1) := by decide +kernel
theorem dX1_deepWaterFor_25 : decode cX1_deepWaterFor 25 = .ok (.ireturn, 1) := by decide +kernel
theorem dX1_deepWaterFor_26 : decode cX1_deepWaterFor 26 = .ok (.aload_n 0, 1) := by decide +kernel
theorem dX1_deepWaterFor_27 : decode cX1_deepWaterFor 27 = .ok (.iload_n 2, 1) := by decide +kernel
theorem dX1_deepWaterFor_28 : decode cX1_deepWaterFor 28 = .ok (.invokevirtual 122, 3) := by decide +kernel
theorem dX1_deepWaterFor_31 : decode cX1_deepWaterFor 31 = .ok (.ifCond .eq 5, 3) := by decide +kernel
theorem dX1_deepWaterFor_34 : decode cX1_deepWaterFor 34 = .ok (.iconst 0, 1) := by decide +kernel
theorem dX1_deepWaterFor_35 : decode cX1_deepWaterFor 35 = .ok (.ireturn, 1) := by decide +kernel
theorem dX1_deepWaterFor_36 : decode cX1_deepWaterFor 36 = .ok (.aload_n 0, 1) := by decide +kernel
theorem dX1_deepWaterFor_37 : decode cX1_deepWaterFor 37 = .ok (.getfield 46, 3) := by decide +kernel
theorem dX1_deepWaterFor_40 : decode cX1_deepWaterFor 40 = .ok (.getfield 112, 3) := by decide +kernel
theorem dX1_deepWaterFor_43 : decode cX1_deepWaterFor 43 = .ok (.getfield 170, 3) := by decide +kernel
theorem dX1_deepWaterFor_46 : decode cX1_deepWaterFor 46 = .ok (.iload_n 1, 1) := by decide +kernel
theorem dX1_deepWaterFor_47 : decode cX1_deepWaterFor 47 = .ok (.iaload, 1) := by decide +kernel
theorem dX1_deepWaterFor_48 : decode cX1_deepWaterFor 48 = .ok (.istore_n 3, 1) := by decide +kernel
theorem dX1_deepWaterFor_49 : decode cX1_deepWaterFor 49 = .ok (.aload_n 0, 1) := by decide +kernel
theorem dX1_deepWaterFor_50 : decode cX1_deepWaterFor 50 = .ok (.getfield 46, 3) := by decide +kernel
theorem dX1_deepWaterFor_53 : decode cX1_deepWaterFor 53 = .ok (.getfield 112, 3) := by decide +kernel
theorem dX1_deepWaterFor_56 : decode cX1_deepWaterFor 56 = .ok (.getfield 173, 3) := by decide +kernel
theorem dX1_deepWaterFor_59 : decode cX1_deepWaterFor 59 = .ok (.iload_n 1, 1) := by decide +kernel
theorem dX1_deepWaterFor_60 : decode cX1_deepWaterFor 60 = .ok (.iaload, 1) := by decide +kernel
theorem dX1_deepWaterFor_61 : decode cX1_deepWaterFor 61 = .ok (.istore 4, 2) := by decide +kernel
theorem dX1_deepWaterFor_63 : decode cX1_deepWaterFor 63 = .ok (.aload_n 0, 1) := by decide +kernel
theorem dX1_deepWaterFor_64 : decode cX1_deepWaterFor 64 = .ok (.iload_n 3, 1) := by decide +kernel
theorem dX1_deepWaterFor_65 : decode cX1_deepWaterFor 65 = .ok (.iload_n 3, 1) := by decide +kernel
theorem dX1_deepWaterFor_66 : decode cX1_deepWaterFor 66 = .ok (.iload_n 2, 1) := by decide +kernel
theorem dX1_deepWaterFor_67 : decode cX1_deepWaterFor 67 = .ok (.invokevirtual 150, 3) := by decide +kernel
theorem dX1_deepWaterFor_70 : decode cX1_deepWaterFor 70 = .ok (.ifCond .eq 7, 3) := by decide +kernel
theorem dX1_deepWaterFor_73 : decode cX1_deepWaterFor 73 = .ok (.iconst 0, 1) := by decide +kernel
theorem dX1_deepWaterFor_74 : decode cX1_deepWaterFor 74 = .ok (.goto 6, 3) := by decide +kernel
theorem dX1_deepWaterFor_77 : decode cX1_deepWaterFor 77 = .ok (.iconst 1, 1) := by decide +kernel
theorem dX1_deepWaterFor_78 : decode cX1_deepWaterFor 78 = .ok (.iload_n 3, 1) := by decide +kernel
theorem dX1_deepWaterFor_79 : decode cX1_deepWaterFor 79 = .ok (.ishl, 1) := by decide +kernel
theorem dX1_deepWaterFor_80 : decode cX1_deepWaterFor 80 = .ok (.istore 5, 2) := by decide +kernel
theorem dX1_deepWaterFor_82 : decode cX1_deepWaterFor 82 = .ok (.aload_n 0, 1) := by decide +kernel
theorem dX1_deepWaterFor_83 : decode cX1_deepWaterFor 83 = .ok (.iload_n 3, 1) := by decide +kernel
theorem dX1_deepWaterFor_84 : decode cX1_deepWaterFor 84 = .ok (.iload 4, 2) := by decide +kernel
theorem dX1_deepWaterFor_86 : decode cX1_deepWaterFor 86 = .ok (.iload_n 2, 1) := by decide +kernel
theorem dX1_deepWaterFor_87 : decode cX1_deepWaterFor 87 = .ok (.invokevirtual 150, 3) := by decide +kernel
theorem dX1_deepWaterFor_90 : decode cX1_deepWaterFor 90 = .ok (.ifCond .eq 8, 3) := by decide +kernel
theorem dX1_deepWaterFor_93 : decode cX1_deepWaterFor 93 = .ok (.iload 5, 2) := by decide +kernel
theorem dX1_deepWaterFor_95 : decode cX1_deepWaterFor 95 = .ok (.goto 10, 3) := by decide +kernel
theorem dX1_deepWaterFor_98 : decode cX1_deepWaterFor 98 = .ok (.iload 5, 2) := by decide +kernel
theorem dX1_deepWaterFor_100 : decode cX1_deepWaterFor 100 = .ok (.iconst 1, 1) := by decide +kernel
theorem dX1_deepWaterFor_101 : decode cX1_deepWaterFor 101 = .ok (.iload 4, 2) := by decide +kernel
theorem dX1_deepWaterFor_103 : decode cX1_deepWaterFor 103 = .ok (.ishl, 1) := by decide +kernel
theorem dX1_deepWaterFor_104 : decode cX1_deepWaterFor 104 = .ok (.ior, 1) := by decide +kernel
theorem dX1_deepWaterFor_105 : decode cX1_deepWaterFor 105 = .ok (.ireturn, 1) := by decide +kernel
theorem dX1_isKept_0 : decode cX1_isKept 0 = .ok (.aload_n 0, 1) := by decide +kernel
theorem dX1_isKept_1 : decode cX1_isKept 1 = .ok (.getfield 43, 3) := by decide +kernel
theorem dX1_isKept_4 : decode cX1_isKept 4 = .ok (.iload_n 1, 1) := by decide +kernel
theorem dX1_isKept_5 : decode cX1_isKept 5 = .ok (.iaload, 1) := by decide +kernel
theorem dX1_isKept_6 : decode cX1_isKept 6 = .ok (.iconst (-1), 1) := by decide +kernel
theorem dX1_isKept_7 : decode cX1_isKept 7 = .ok (.if_icmp .eq 20, 3) := by decide +kernel
theorem dX1_isKept_10 : decode cX1_isKept 10 = .ok (.aload_n 0, 1) := by decide +kernel
theorem dX1_isKept_11 : decode cX1_isKept 11 = .ok (.getfield 43, 3) := by decide +kernel
theorem dX1_isKept_14 : decode cX1_isKept 14 = .ok (.iload_n 1, 1) := by decide +kernel
theorem dX1_isKept_15 : decode cX1_isKept 15 = .ok (.iaload, 1) := by decide +kernel
theorem dX1_isKept_16 : decode cX1_isKept 16 = .ok (.iload_n 2, 1) := by decide +kernel
theorem dX1_isKept_17 : decode cX1_isKept 17 = .ok (.iconst (-1), 1) := by decide +kernel
theorem dX1_isKept_18 : decode cX1_isKept 18 = .ok (.ixor, 1) := by decide +kernel
theorem dX1_isKept_19 : decode cX1_isKept 19 = .ok (.iand, 1) := by decide +kernel
theorem dX1_isKept_20 : decode cX1_isKept 20 = .ok (.ifCond .ne 7, 3) := by decide +kernel
theorem dX1_isKept_23 : decode cX1_isKept 23 = .ok (.iconst 1, 1) := by decide +kernel
theorem dX1_isKept_24 : decode cX1_isKept 24 = .ok (.goto 4, 3) := by decide +kernel
theorem dX1_isKept_27 : decode cX1_isKept 27 = .ok (.iconst 0, 1) := by decide +kernel
theorem dX1_isKept_28 : decode cX1_isKept 28 = .ok (.ireturn, 1) := by decide +kernel
set_option maxRecDepth 20000 in
theorem ggX1_keptBits_X1_isKept : GoodIn wsX1_keptBits wsX1_isKept := goodIn_r _ [6, 7, 8, 9, 10, 11, 12, 13, 14, 15, 16, 17, 18, 19] (by decide +kernel) (by decide +kernel)
set_option maxRecDepth 20000 in
theorem gX1_keptBits_X1_isKept : GoodIn wsX1_keptBits (wsV RX1 176 RX1 yX1_isKept wsX1_isKept) := goodIn_app (goodIn_of _ (by decide +kernel)) ggX1_keptBits_X1_isKept
theorem dX1_keptBits_0 : decode cX1_keptBits 0 = .ok (.iconst 0, 1) := by decide +kernel
theorem dX1_keptBits_1 : decode cX1_keptBits 1 = .ok (.istore_n 2, 1) := by decide +kernel
theorem dX1_keptBits_2 : decode cX1_keptBits 2 = .ok (.iconst 0, 1) := by decide +kernel
theorem dX1_keptBits_3 : decode cX1_keptBits 3 = .ok (.istore_n 3, 1) := by decide +kernel
theorem dX1_keptBits_4 : decode cX1_keptBits 4 = .ok (.iload_n 3, 1) := by decide +kernel
theorem dX1_keptBits_5 : decode cX1_keptBits 5 = .ok (.aload_n 0, 1) := by decide +kernel
theorem dX1_keptBits_6 : decode cX1_keptBits 6 = .ok (.getfield 46, 3) := by decide +kernel
theorem dX1_keptBits_9 : decode cX1_keptBits 9 = .ok (.getfield 112, 3) := by decide +kernel
theorem dX1_keptBits_12 : decode cX1_keptBits 12 = .ok (.getfield 116, 3) := by decide +kernel
theorem dX1_keptBits_15 : decode cX1_keptBits 15 = .ok (.if_icmp .ge 24, 3) := by decide +kernel
theorem dX1_keptBits_18 : decode cX1_keptBits 18 = .ok (.aload_n 0, 1) := by decide +kernel
theorem dX1_keptBits_19 : decode cX1_keptBits 19 = .ok (.iload_n 3, 1) := by decide +kernel
theorem dX1_keptBits_20 : decode cX1_keptBits 20 = .ok (.iload_n 1, 1) := by decide +kernel
theorem dX1_keptBits_21 : decode cX1_keptBits 21 = .ok (.invokevirtual 176, 3) := by decide +kernel
theorem dX1_keptBits_24 : decode cX1_keptBits 24 = .ok (.ifCond .eq 9, 3) := by decide +kernel
theorem dX1_keptBits_27 : decode cX1_keptBits 27 = .ok (.iload_n 2, 1) := by decide +kernel
theorem dX1_keptBits_28 : decode cX1_keptBits 28 = .ok (.iconst 1, 1) := by decide +kernel
theorem dX1_keptBits_29 : decode cX1_keptBits 29 = .ok (.iload_n 3, 1) := by decide +kernel
theorem dX1_keptBits_30 : decode cX1_keptBits 30 = .ok (.ishl, 1) := by decide +kernel
theorem dX1_keptBits_31 : decode cX1_keptBits 31 = .ok (.ior, 1) := by decide +kernel
theorem dX1_keptBits_32 : decode cX1_keptBits 32 = .ok (.istore_n 2, 1) := by decide +kernel
theorem dX1_keptBits_33 : decode cX1_keptBits 33 = .ok (.iinc 3 1, 3) := by decide +kernel
theorem dX1_keptBits_36 : decode cX1_keptBits 36 = .ok (.goto (-32), 3) := by decide +kernel
theorem dX1_keptBits_39 : decode cX1_keptBits 39 = .ok (.iload_n 2, 1) := by decide +kernel
theorem dX1_keptBits_40 : decode cX1_keptBits 40 = .ok (.ireturn, 1) := by decide +kernel
set_option maxRecDepth 20000 in
theorem ggX1_keptSum_X1_keptBits : GoodIn wsX1_keptSum wsX1_keptBits := goodIn_r _ [5, 6, 7, 8, 9, 4, 10, 11, 19, 20, 21, 22, 23, 24, 25, 26, 27, 28, 29, 30, 31, 32, 33, 34, 35, 36, 37, 38, 39, 40, 41, 42, 43, 44, 45, 46, 47, 48, 49, 50, 51, 52] (by decide +kernel) (by decide +kernel)
set_option maxRecDepth 20000 in
theorem gX1_keptSum_X1_keptBits : GoodIn wsX1_keptSum (wsV RX1 180 RX1 yX1_keptBits wsX1_keptBits) := goodIn_app (goodIn_of _ (by decide +kernel)) ggX1_keptSum_X1_keptBits
set_option maxRecDepth 20000 in
theorem ggX1_keptSum_J6_bitCount_0f7a4 : GoodIn wsX1_keptSum wsJ6_bitCount_0f7a4 := goodIn_r _ [15, 16, 17, 18] (by decide +kernel) (by decide +kernel)
set_option maxRecDepth 20000 in
theorem gX1_keptSum_J6_bitCount_0f7a4 : GoodIn wsX1_keptSum (va_wsS RX1 183 yJ6_bitCount_0f7a4 wsJ6_bitCount_0f7a4) := goodIn_app (goodIn_of _ (by decide +kernel)) ggX1_keptSum_J6_bitCount_0f7a4
theorem dX1_keptSum_0 : decode cX1_keptSum 0 = .ok (.aload_n 0, 1) := by decide +kernel
theorem dX1_keptSum_1 : decode cX1_keptSum 1 = .ok (.iload_n 1, 1) := by decide +kernel
theorem dX1_keptSum_2 : decode cX1_keptSum 2 = .ok (.invokevirtual 180, 3) := by decide +kernel
theorem dX1_keptSum_5 : decode cX1_keptSum 5 = .ok (.invokestatic 183, 3) := by decide +kernel
theorem dX1_keptSum_8 : decode cX1_keptSum 8 = .ok (.ireturn, 1) := by decide +kernel
theorem dX1_hindrance_0 : decode cX1_hindrance 0 = .ok (.aload_n 0, 1) := by decide +kernel
theorem dX1_hindrance_1 : decode cX1_hindrance 1 = .ok (.getfield 43, 3) := by decide +kernel
theorem dX1_hindrance_4 : decode cX1_hindrance 4 = .ok (.iload_n 1, 1) := by decide +kernel
theorem dX1_hindrance_5 : decode cX1_hindrance 5 = .ok (.iaload, 1) := by decide +kernel
theorem dX1_hindrance_6 : decode cX1_hindrance 6 = .ok (.iconst (-1), 1) := by decide +kernel
theorem dX1_hindrance_7 : decode cX1_hindrance 7 = .ok (.if_icmp .ne 7, 3) := by decide +kernel
theorem dX1_hindrance_10 : decode cX1_hindrance 10 = .ok (.iconst 0, 1) := by decide +kernel
theorem dX1_hindrance_11 : decode cX1_hindrance 11 = .ok (.goto 16, 3) := by decide +kernel
theorem dX1_hindrance_14 : decode cX1_hindrance 14 = .ok (.aload_n 0, 1) := by decide +kernel
theorem dX1_hindrance_15 : decode cX1_hindrance 15 = .ok (.getfield 43, 3) := by decide +kernel
theorem dX1_hindrance_18 : decode cX1_hindrance 18 = .ok (.iload_n 1, 1) := by decide +kernel
theorem dX1_hindrance_19 : decode cX1_hindrance 19 = .ok (.iaload, 1) := by decide +kernel
theorem dX1_hindrance_20 : decode cX1_hindrance 20 = .ok (.aload_n 0, 1) := by decide +kernel
theorem dX1_hindrance_21 : decode cX1_hindrance 21 = .ok (.getfield 18, 3) := by decide +kernel
theorem dX1_hindrance_24 : decode cX1_hindrance 24 = .ok (.iconst (-1), 1) := by decide +kernel
theorem dX1_hindrance_25 : decode cX1_hindrance 25 = .ok (.ixor, 1) := by decide +kernel
theorem dX1_hindrance_26 : decode cX1_hindrance 26 = .ok (.iand, 1) := by decide +kernel
theorem dX1_hindrance_27 : decode cX1_hindrance 27 = .ok (.ireturn, 1) := by decide +kernel
set_option maxRecDepth 20000 in
theorem ggX1_allHindrance_X1_hindrance : GoodIn wsX1_allHindrance wsX1_hindrance := goodIn_r _ [6, 7, 8, 9, 10, 11, 12, 13, 14, 15, 16, 17, 18, 19, 20] (by decide +kernel) (by decide +kernel)
set_option maxRecDepth 20000 in
theorem gX1_allHindrance_X1_hindrance : GoodIn wsX1_allHindrance (wsV RX1 188 RX1 yX1_hindrance wsX1_hindrance) := goodIn_app (goodIn_of _ (by decide +kernel)) ggX1_allHindrance_X1_hindrance
theorem dX1_allHindrance_0 : decode cX1_allHindrance 0 = .ok (.iconst 0, 1) := by decide +kernel
theorem dX1_allHindrance_1 : decode cX1_allHindrance 1 = .ok (.istore_n 1, 1) := by decide +kernel
theorem dX1_allHindrance_2 : decode cX1_allHindrance 2 = .ok (.iconst 0, 1) := by decide +kernel
theorem dX1_allHindrance_3 : decode cX1_allHindrance 3 = .ok (.istore_n 2, 1) := by decide +kernel
theorem dX1_allHindrance_4 : decode cX1_allHindrance 4 = .ok (.iload_n 2, 1) := by decide +kernel
theorem dX1_allHindrance_5 : decode cX1_allHindrance 5 = .ok (.aload_n 0, 1) := by decide +kernel
theorem dX1_allHindrance_6 : decode cX1_allHindrance 6 = .ok (.getfield 46, 3) := by decide +kernel
theorem dX1_allHindrance_9 : decode cX1_allHindrance 9 = .ok (.getfield 112, 3) := by decide +kernel
theorem dX1_allHindrance_12 : decode cX1_allHindrance 12 = .ok (.getfield 116, 3) := by decide +kernel
theorem dX1_allHindrance_15 : decode cX1_allHindrance 15 = .ok (.if_icmp .ge 17, 3) := by decide +kernel
theorem dX1_allHindrance_18 : decode cX1_allHindrance 18 = .ok (.iload_n 1, 1) := by decide +kernel
theorem dX1_allHindrance_19 : decode cX1_allHindrance 19 = .ok (.aload_n 0, 1) := by decide +kernel
theorem dX1_allHindrance_20 : decode cX1_allHindrance 20 = .ok (.iload_n 2, 1) := by decide +kernel
theorem dX1_allHindrance_21 : decode cX1_allHindrance 21 = .ok (.invokevirtual 188, 3) := by decide +kernel
theorem dX1_allHindrance_24 : decode cX1_allHindrance 24 = .ok (.ior, 1) := by decide +kernel
theorem dX1_allHindrance_25 : decode cX1_allHindrance 25 = .ok (.istore_n 1, 1) := by decide +kernel
theorem dX1_allHindrance_26 : decode cX1_allHindrance 26 = .ok (.iinc 2 1, 3) := by decide +kernel
theorem dX1_allHindrance_29 : decode cX1_allHindrance 29 = .ok (.goto (-25), 3) := by decide +kernel
theorem dX1_allHindrance_32 : decode cX1_allHindrance 32 = .ok (.iload_n 1, 1) := by decide +kernel
theorem dX1_allHindrance_33 : decode cX1_allHindrance 33 = .ok (.ireturn, 1) := by decide +kernel
set_option maxRecDepth 20000 in
theorem ggX1_deepestOnTheWay_X6_hasYear : GoodIn wsX1_deepestOnTheWay wsX6_hasYear := goodIn_r _ [9, 10, 38, 39, 40, 41, 42, 43, 44, 45, 46, 47, 48, 49, 50, 51, 52, 53, 54, 55] (by decide +kernel) (by decide +kernel)
set_option maxRecDepth 20000 in
theorem gX1_deepestOnTheWay_X6_hasYear_n167 : GoodIn wsX1_deepestOnTheWay (wsX6_hasYear) := ggX1_deepestOnTheWay_X6_hasYear
set_option maxRecDepth 20000 in
theorem ggX1_deepestOnTheWay_X1_isFrost : GoodIn wsX1_deepestOnTheWay wsX1_isFrost := goodIn_r _ [15, 16, 26, 27, 28, 29, 30, 31, 32, 33, 34, 35, 36, 37] (by decide +kernel) (by decide +kernel)
set_option maxRecDepth 20000 in
theorem gX1_deepestOnTheWay_X1_isFrost : GoodIn wsX1_deepestOnTheWay (wsV RX1 122 RX1 yX1_isFrost wsX1_isFrost) := goodIn_app (goodIn_of _ (by decide +kernel)) ggX1_deepestOnTheWay_X1_isFrost
set_option maxRecDepth 20000 in
theorem ggX1_deepestOnTheWay_X1_toSwim : GoodIn wsX1_deepestOnTheWay wsX1_toSwim := goodIn_r _ [20, 21, 22, 23, 24, 25, 26, 27, 28, 29, 30, 31, 32, 33, 34, 35, 36, 37] (by decide +kernel) (by decide +kernel)
set_option maxRecDepth 20000 in
theorem gX1_deepestOnTheWay_X1_toSwim : GoodIn wsX1_deepestOnTheWay (wsV RX1 191 RX1 yX1_toSwim wsX1_toSwim) := goodIn_app (goodIn_of _ (by decide +kernel)) ggX1_deepestOnTheWay_X1_toSwim
theorem dX1_deepestOnTheWay_0 : decode cX1_deepestOnTheWay 0 = .ok (.aload_n 0, 1) := by decide +kernel
theorem dX1_deepestOnTheWay_1 : decode cX1_deepestOnTheWay 1 = .ok (.getfield 46, 3) := by decide +kernel
theorem dX1_deepestOnTheWay_4 : decode cX1_deepestOnTheWay 4 = .ok (.getfield 112, 3) := by decide +kernel
theorem dX1_deepestOnTheWay_7 : decode cX1_deepestOnTheWay 7 = .ok (.getfield 166, 3) := by decide +kernel
theorem dX1_deepestOnTheWay_10 : decode cX1_deepestOnTheWay 10 = .ok (.iload_n 1, 1) := by decide +kernel
theorem dX1_deepestOnTheWay_11 : decode cX1_deepestOnTheWay 11 = .ok (.iaload, 1) := by decide +kernel
theorem dX1_deepestOnTheWay_12 : decode cX1_deepestOnTheWay 12 = .ok (.istore_n 2, 1) := by decide +kernel
theorem dX1_deepestOnTheWay_13 : decode cX1_deepestOnTheWay 13 = .ok (.aload_n 0, 1) := by decide +kernel
theorem dX1_deepestOnTheWay_14 : decode cX1_deepestOnTheWay 14 = .ok (.getfield 46, 3) := by decide +kernel
theorem dX1_deepestOnTheWay_17 : decode cX1_deepestOnTheWay 17 = .ok (.iload_n 2, 1) := by decide +kernel
theorem dX1_deepestOnTheWay_18 : decode cX1_deepestOnTheWay 18 = .ok (.invokevirtual 167, 3) := by decide +kernel
theorem dX1_deepestOnTheWay_21 : decode cX1_deepestOnTheWay 21 = .ok (.ifCond .eq 11, 3) := by decide +kernel
theorem dX1_deepestOnTheWay_24 : decode cX1_deepestOnTheWay 24 = .ok (.aload_n 0, 1) := by decide +kernel
theorem dX1_deepestOnTheWay_25 : decode cX1_deepestOnTheWay 25 = .ok (.iload_n 2, 1) := by decide +kernel
theorem dX1_deepestOnTheWay_26 : decode cX1_deepestOnTheWay 26 = .ok (.invokevirtual 122, 3) := by decide +kernel
theorem dX1_deepestOnTheWay_29 : decode cX1_deepestOnTheWay 29 = .ok (.ifCond .eq 5, 3) := by decide +kernel
theorem dX1_deepestOnTheWay_32 : decode cX1_deepestOnTheWay 32 = .ok (.iconst 0, 1) := by decide +kernel
theorem dX1_deepestOnTheWay_33 : decode cX1_deepestOnTheWay 33 = .ok (.ireturn, 1) := by decide +kernel
theorem dX1_deepestOnTheWay_34 : decode cX1_deepestOnTheWay 34 = .ok (.aload_n 0, 1) := by decide +kernel
theorem dX1_deepestOnTheWay_35 : decode cX1_deepestOnTheWay 35 = .ok (.aload_n 0, 1) := by decide +kernel
theorem dX1_deepestOnTheWay_36 : decode cX1_deepestOnTheWay 36 = .ok (.getfield 46, 3) := by decide +kernel
theorem dX1_deepestOnTheWay_39 : decode cX1_deepestOnTheWay 39 = .ok (.getfield 112, 3) := by decide +kernel
theorem dX1_deepestOnTheWay_42 : decode cX1_deepestOnTheWay 42 = .ok (.getfield 170, 3) := by decide +kernel
theorem dX1_deepestOnTheWay_45 : decode cX1_deepestOnTheWay 45 = .ok (.iload_n 1, 1) := by decide +kernel
theorem dX1_deepestOnTheWay_46 : decode cX1_deepestOnTheWay 46 = .ok (.iaload, 1) := by decide +kernel
theorem dX1_deepestOnTheWay_47 : decode cX1_deepestOnTheWay 47 = .ok (.iload_n 2, 1) := by decide +kernel
theorem dX1_deepestOnTheWay_48 : decode cX1_deepestOnTheWay 48 = .ok (.invokevirtual 191, 3) := by decide +kernel
theorem dX1_deepestOnTheWay_51 : decode cX1_deepestOnTheWay 51 = .ok (.aload_n 0, 1) := by decide +kernel
theorem dX1_deepestOnTheWay_52 : decode cX1_deepestOnTheWay 52 = .ok (.aload_n 0, 1) := by decide +kernel
theorem dX1_deepestOnTheWay_53 : decode cX1_deepestOnTheWay 53 = .ok (.getfield 46, 3) := by decide +kernel
theorem dX1_deepestOnTheWay_56 : decode cX1_deepestOnTheWay 56 = .ok (.getfield 112, 3) := by decide +kernel
theorem dX1_deepestOnTheWay_59 : decode cX1_deepestOnTheWay 59 = .ok (.getfield 173, 3) := by decide +kernel
theorem dX1_deepestOnTheWay_62 : decode cX1_deepestOnTheWay 62 = .ok (.iload_n 1, 1) := by decide +kernel
theorem dX1_deepestOnTheWay_63 : decode cX1_deepestOnTheWay 63 = .ok (.iaload, 1) := by decide +kernel
theorem dX1_deepestOnTheWay_64 : decode cX1_deepestOnTheWay 64 = .ok (.iload_n 2, 1) := by decide +kernel
theorem dX1_deepestOnTheWay_65 : decode cX1_deepestOnTheWay 65 = .ok (.invokevirtual 191, 3) := by decide +kernel
theorem dX1_deepestOnTheWay_68 : decode cX1_deepestOnTheWay 68 = .ok (.invokestatic 144, 3) := by decide +kernel
theorem dX1_deepestOnTheWay_71 : decode cX1_deepestOnTheWay 71 = .ok (.ireturn, 1) := by decide +kernel
set_option maxRecDepth 20000 in
theorem ggX1_toSwim_X9_cell : GoodIn wsX1_toSwim wsX9_cell := goodIn_r _ [5] (by decide +kernel) (by decide +kernel)
set_option maxRecDepth 20000 in
theorem gX1_toSwim_X9_cell_n132 : GoodIn wsX1_toSwim (wsX9_cell) := ggX1_toSwim_X9_cell
theorem dX1_toSwim_0 : decode cX1_toSwim 0 = .ok (.aload_n 0, 1) := by decide +kernel
theorem dX1_toSwim_1 : decode cX1_toSwim 1 = .ok (.getfield 18, 3) := by decide +kernel
theorem dX1_toSwim_4 : decode cX1_toSwim 4 = .ok (.iload_n 1, 1) := by decide +kernel
theorem dX1_toSwim_5 : decode cX1_toSwim 5 = .ok (.ishr, 1) := by decide +kernel
theorem dX1_toSwim_6 : decode cX1_toSwim 6 = .ok (.iconst 1, 1) := by decide +kernel
theorem dX1_toSwim_7 : decode cX1_toSwim 7 = .ok (.iand, 1) := by decide +kernel
theorem dX1_toSwim_8 : decode cX1_toSwim 8 = .ok (.ifCond .eq 7, 3) := by decide +kernel
theorem dX1_toSwim_11 : decode cX1_toSwim 11 = .ok (.iconst 0, 1) := by decide +kernel
theorem dX1_toSwim_12 : decode cX1_toSwim 12 = .ok (.goto 13, 3) := by decide +kernel
theorem dX1_toSwim_15 : decode cX1_toSwim 15 = .ok (.aload_n 0, 1) := by decide +kernel
theorem dX1_toSwim_16 : decode cX1_toSwim 16 = .ok (.getfield 31, 3) := by decide +kernel
theorem dX1_toSwim_19 : decode cX1_toSwim 19 = .ok (.iload_n 1, 1) := by decide +kernel
theorem dX1_toSwim_20 : decode cX1_toSwim 20 = .ok (.iload_n 2, 1) := by decide +kernel
theorem dX1_toSwim_21 : decode cX1_toSwim 21 = .ok (.invokestatic 132, 3) := by decide +kernel
theorem dX1_toSwim_24 : decode cX1_toSwim 24 = .ok (.iaload, 1) := by decide +kernel
theorem dX1_toSwim_25 : decode cX1_toSwim 25 = .ok (.ireturn, 1) := by decide +kernel
theorem dX2_init_0 : decode cX2_init 0 = .ok (.aload_n 0, 1) := by decide +kernel
theorem dX2_init_1 : decode cX2_init 1 = .ok (.invokespecial 3, 3) := by decide +kernel
theorem dX2_init_4 : decode cX2_init 4 = .ok (.aload_n 0, 1) := by decide +kernel
theorem dX2_init_5 : decode cX2_init 5 = .ok (.iconst 0, 1) := by decide +kernel
theorem dX2_init_6 : decode cX2_init 6 = .ok (.putfield 9, 3) := by decide +kernel
theorem dX2_init_9 : decode cX2_init 9 = .ok (.aload_n 0, 1) := by decide +kernel
theorem dX2_init_10 : decode cX2_init 10 = .ok (.iconst (-1), 1) := by decide +kernel
theorem dX2_init_11 : decode cX2_init 11 = .ok (.putfield 15, 3) := by decide +kernel
theorem dX2_init_14 : decode cX2_init 14 = .ok (.aload_n 0, 1) := by decide +kernel
theorem dX2_init_15 : decode cX2_init 15 = .ok (.iconst (-1), 1) := by decide +kernel
theorem dX2_init_16 : decode cX2_init 16 = .ok (.putfield 18, 3) := by decide +kernel
theorem dX2_init_19 : decode cX2_init 19 = .ok (.aload_n 0, 1) := by decide +kernel
theorem dX2_init_20 : decode cX2_init 20 = .ok (.sipush 1600, 3) := by decide +kernel
theorem dX2_init_23 : decode cX2_init 23 = .ok (.newarray .int, 2) := by decide +kernel
theorem dX2_init_25 : decode cX2_init 25 = .ok (.putfield 21, 3) := by decide +kernel
theorem dX2_init_28 : decode cX2_init 28 = .ok (.return_, 1) := by decide +kernel
set_option maxRecDepth 20000 in
theorem ggX2_clear_J7_fill_53178 : GoodIn wsX2_clear wsJ7_fill_53178 := goodIn_r _ [8] (by decide +kernel) (by decide +kernel)
set_option maxRecDepth 20000 in
theorem gX2_clear_J7_fill_53178 : GoodIn wsX2_clear (va_wsS RX2 25 yJ7_fill_53178 wsJ7_fill_53178) := goodIn_app (goodIn_of _ (by decide +kernel)) ggX2_clear_J7_fill_53178
theorem dX2_clear_0 : decode cX2_clear 0 = .ok (.aload_n 0, 1) := by decide +kernel
theorem dX2_clear_1 : decode cX2_clear 1 = .ok (.iconst 0, 1) := by decide +kernel
theorem dX2_clear_2 : decode cX2_clear 2 = .ok (.putfield 9, 3) := by decide +kernel
theorem dX2_clear_5 : decode cX2_clear 5 = .ok (.aload_n 0, 1) := by decide +kernel
theorem dX2_clear_6 : decode cX2_clear 6 = .ok (.iconst (-1), 1) := by decide +kernel
theorem dX2_clear_7 : decode cX2_clear 7 = .ok (.putfield 15, 3) := by decide +kernel
theorem dX2_clear_10 : decode cX2_clear 10 = .ok (.aload_n 0, 1) := by decide +kernel
theorem dX2_clear_11 : decode cX2_clear 11 = .ok (.iconst (-1), 1) := by decide +kernel
theorem dX2_clear_12 : decode cX2_clear 12 = .ok (.putfield 18, 3) := by decide +kernel
theorem dX2_clear_15 : decode cX2_clear 15 = .ok (.aload_n 0, 1) := by decide +kernel
theorem dX2_clear_16 : decode cX2_clear 16 = .ok (.getfield 21, 3) := by decide +kernel
theorem dX2_clear_19 : decode cX2_clear 19 = .ok (.iconst 0, 1) := by decide +kernel
theorem dX2_clear_20 : decode cX2_clear 20 = .ok (.invokestatic 25, 3) := by decide +kernel
theorem dX2_clear_23 : decode cX2_clear 23 = .ok (.return_, 1) := by decide +kernel
set_option maxRecDepth 20000 in
theorem ggX2_add_X9_cell : GoodIn wsX2_add wsX9_cell := goodIn_r _ [7] (by decide +kernel) (by decide +kernel)
set_option maxRecDepth 20000 in
theorem gX2_add_X9_cell_n45 : GoodIn wsX2_add (wsX9_cell) := ggX2_add_X9_cell
theorem dX2_add_0 : decode cX2_add 0 = .ok (.aload_n 0, 1) := by decide +kernel
theorem dX2_add_1 : decode cX2_add 1 = .ok (.getfield 9, 3) := by decide +kernel
theorem dX2_add_4 : decode cX2_add 4 = .ok (.ifCond .ne 8, 3) := by decide +kernel
theorem dX2_add_7 : decode cX2_add 7 = .ok (.aload_n 0, 1) := by decide +kernel
theorem dX2_add_8 : decode cX2_add 8 = .ok (.iload_n 1, 1) := by decide +kernel
theorem dX2_add_9 : decode cX2_add 9 = .ok (.putfield 15, 3) := by decide +kernel
theorem dX2_add_12 : decode cX2_add 12 = .ok (.aload_n 0, 1) := by decide +kernel
theorem dX2_add_13 : decode cX2_add 13 = .ok (.iload_n 1, 1) := by decide +kernel
theorem dX2_add_14 : decode cX2_add 14 = .ok (.putfield 18, 3) := by decide +kernel
theorem dX2_add_17 : decode cX2_add 17 = .ok (.aload_n 0, 1) := by decide +kernel
theorem dX2_add_18 : decode cX2_add 18 = .ok (.dup, 1) := by decide +kernel
theorem dX2_add_19 : decode cX2_add 19 = .ok (.getfield 9, 3) := by decide +kernel
theorem dX2_add_22 : decode cX2_add 22 = .ok (.iconst 1, 1) := by decide +kernel
theorem dX2_add_23 : decode cX2_add 23 = .ok (.iadd, 1) := by decide +kernel
theorem dX2_add_24 : decode cX2_add 24 = .ok (.putfield 9, 3) := by decide +kernel
theorem dX2_add_27 : decode cX2_add 27 = .ok (.iconst 0, 1) := by decide +kernel
theorem dX2_add_28 : decode cX2_add 28 = .ok (.istore 4, 2) := by decide +kernel
theorem dX2_add_30 : decode cX2_add 30 = .ok (.iload 4, 2) := by decide +kernel
theorem dX2_add_32 : decode cX2_add 32 = .ok (.aload_n 2, 1) := by decide +kernel
theorem dX2_add_33 : decode cX2_add 33 = .ok (.getfield 31, 3) := by decide +kernel
theorem dX2_add_36 : decode cX2_add 36 = .ok (.getfield 37, 3) := by decide +kernel
theorem dX2_add_39 : decode cX2_add 39 = .ok (.if_icmp .ge 51, 3) := by decide +kernel
theorem dX2_add_42 : decode cX2_add 42 = .ok (.aload_n 2, 1) := by decide +kernel
theorem dX2_add_43 : decode cX2_add 43 = .ok (.getfield 42, 3) := by decide +kernel
theorem dX2_add_46 : decode cX2_add 46 = .ok (.iload_n 3, 1) := by decide +kernel
theorem dX2_add_47 : decode cX2_add 47 = .ok (.iload 4, 2) := by decide +kernel
theorem dX2_add_49 : decode cX2_add 49 = .ok (.invokestatic 45, 3) := by decide +kernel
theorem dX2_add_52 : decode cX2_add 52 = .ok (.iaload, 1) := by decide +kernel
theorem dX2_add_53 : decode cX2_add 53 = .ok (.istore 5, 2) := by decide +kernel
theorem dX2_add_55 : decode cX2_add 55 = .ok (.iload 5, 2) := by decide +kernel
theorem dX2_add_57 : decode cX2_add 57 = .ok (.ifCond .lt 27, 3) := by decide +kernel
theorem dX2_add_60 : decode cX2_add 60 = .ok (.iload 5, 2) := by decide +kernel
theorem dX2_add_62 : decode cX2_add 62 = .ok (.bipush 99, 2) := by decide +kernel
theorem dX2_add_64 : decode cX2_add 64 = .ok (.if_icmp .gt 20, 3) := by decide +kernel
theorem dX2_add_67 : decode cX2_add 67 = .ok (.aload_n 0, 1) := by decide +kernel
theorem dX2_add_68 : decode cX2_add 68 = .ok (.getfield 21, 3) := by decide +kernel
theorem dX2_add_71 : decode cX2_add 71 = .ok (.iload 4, 2) := by decide +kernel
theorem dX2_add_73 : decode cX2_add 73 = .ok (.bipush 100, 2) := by decide +kernel
theorem dX2_add_75 : decode cX2_add 75 = .ok (.imul, 1) := by decide +kernel
theorem dX2_add_76 : decode cX2_add 76 = .ok (.iload 5, 2) := by decide +kernel
theorem dX2_add_78 : decode cX2_add 78 = .ok (.iadd, 1) := by decide +kernel
theorem dX2_add_79 : decode cX2_add 79 = .ok (.dup2, 1) := by decide +kernel
theorem dX2_add_80 : decode cX2_add 80 = .ok (.iaload, 1) := by decide +kernel
theorem dX2_add_81 : decode cX2_add 81 = .ok (.iconst 1, 1) := by decide +kernel
theorem dX2_add_82 : decode cX2_add 82 = .ok (.iadd, 1) := by decide +kernel
theorem dX2_add_83 : decode cX2_add 83 = .ok (.iastore, 1) := by decide +kernel
theorem dX2_add_84 : decode cX2_add 84 = .ok (.iinc 4 1, 3) := by decide +kernel
theorem dX2_add_87 : decode cX2_add 87 = .ok (.goto (-57), 3) := by decide +kernel
theorem dX2_add_90 : decode cX2_add 90 = .ok (.return_, 1) := by decide +kernel
theorem dX2_atWorst_0 : decode cX2_atWorst 0 = .ok (.iconst 0, 1) := by decide +kernel
theorem dX2_atWorst_1 : decode cX2_atWorst 1 = .ok (.istore_n 2, 1) := by decide +kernel
theorem dX2_atWorst_2 : decode cX2_atWorst 2 = .ok (.iconst 0, 1) := by decide +kernel
theorem dX2_atWorst_3 : decode cX2_atWorst 3 = .ok (.istore_n 3, 1) := by decide +kernel
theorem dX2_atWorst_4 : decode cX2_atWorst 4 = .ok (.iload_n 3, 1) := by decide +kernel
theorem dX2_atWorst_5 : decode cX2_atWorst 5 = .ok (.bipush 99, 2) := by decide +kernel
theorem dX2_atWorst_7 : decode cX2_atWorst 7 = .ok (.if_icmp .gt 25, 3) := by decide +kernel
theorem dX2_atWorst_10 : decode cX2_atWorst 10 = .ok (.iload_n 2, 1) := by decide +kernel
theorem dX2_atWorst_11 : decode cX2_atWorst 11 = .ok (.aload_n 0, 1) := by decide +kernel
theorem dX2_atWorst_12 : decode cX2_atWorst 12 = .ok (.getfield 21, 3) := by decide +kernel
theorem dX2_atWorst_15 : decode cX2_atWorst 15 = .ok (.iload_n 1, 1) := by decide +kernel
theorem dX2_atWorst_16 : decode cX2_atWorst 16 = .ok (.bipush 100, 2) := by decide +kernel
theorem dX2_atWorst_18 : decode cX2_atWorst 18 = .ok (.imul, 1) := by decide +kernel
theorem dX2_atWorst_19 : decode cX2_atWorst 19 = .ok (.iload_n 3, 1) := by decide +kernel
theorem dX2_atWorst_20 : decode cX2_atWorst 20 = .ok (.iadd, 1) := by decide +kernel
theorem dX2_atWorst_21 : decode cX2_atWorst 21 = .ok (.iaload, 1) := by decide +kernel
theorem dX2_atWorst_22 : decode cX2_atWorst 22 = .ok (.invokestatic 49, 3) := by decide +kernel
theorem dX2_atWorst_25 : decode cX2_atWorst 25 = .ok (.istore_n 2, 1) := by decide +kernel
theorem dX2_atWorst_26 : decode cX2_atWorst 26 = .ok (.iinc 3 1, 3) := by decide +kernel
theorem dX2_atWorst_29 : decode cX2_atWorst 29 = .ok (.goto (-25), 3) := by decide +kernel
theorem dX2_atWorst_32 : decode cX2_atWorst 32 = .ok (.iload_n 2, 1) := by decide +kernel
theorem dX2_atWorst_33 : decode cX2_atWorst 33 = .ok (.ireturn, 1) := by decide +kernel
set_option maxRecDepth 20000 in
theorem ggX2_yearToAsk_X2_atWorst : GoodIn wsX2_yearToAsk wsX2_atWorst := goodIn_r _ [6, 7, 8, 9, 10, 11, 12, 13, 14, 15] (by decide +kernel) (by decide +kernel)
set_option maxRecDepth 20000 in
theorem gX2_yearToAsk_X2_atWorst : GoodIn wsX2_yearToAsk (wsV RX2 54 RX2 yX2_atWorst wsX2_atWorst) := goodIn_app (goodIn_of _ (by decide +kernel)) ggX2_yearToAsk_X2_atWorst
theorem dX2_yearToAsk_0 : decode cX2_yearToAsk 0 = .ok (.iconst (-1), 1) := by decide +kernel
theorem dX2_yearToAsk_1 : decode cX2_yearToAsk 1 = .ok (.istore_n 2, 1) := by decide +kernel
theorem dX2_yearToAsk_2 : decode cX2_yearToAsk 2 = .ok (.aload_n 0, 1) := by decide +kernel
theorem dX2_yearToAsk_3 : decode cX2_yearToAsk 3 = .ok (.getfield 9, 3) := by decide +kernel
theorem dX2_yearToAsk_6 : decode cX2_yearToAsk 6 = .ok (.istore_n 3, 1) := by decide +kernel
theorem dX2_yearToAsk_7 : decode cX2_yearToAsk 7 = .ok (.iconst 0, 1) := by decide +kernel
theorem dX2_yearToAsk_8 : decode cX2_yearToAsk 8 = .ok (.istore 4, 2) := by decide +kernel
theorem dX2_yearToAsk_10 : decode cX2_yearToAsk 10 = .ok (.iload 4, 2) := by decide +kernel
theorem dX2_yearToAsk_12 : decode cX2_yearToAsk 12 = .ok (.iload_n 1, 1) := by decide +kernel
theorem dX2_yearToAsk_13 : decode cX2_yearToAsk 13 = .ok (.if_icmp .ge 29, 3) := by decide +kernel
theorem dX2_yearToAsk_16 : decode cX2_yearToAsk 16 = .ok (.aload_n 0, 1) := by decide +kernel
theorem dX2_yearToAsk_17 : decode cX2_yearToAsk 17 = .ok (.iload 4, 2) := by decide +kernel
theorem dX2_yearToAsk_19 : decode cX2_yearToAsk 19 = .ok (.invokevirtual 54, 3) := by decide +kernel
theorem dX2_yearToAsk_22 : decode cX2_yearToAsk 22 = .ok (.istore 5, 2) := by decide +kernel
theorem dX2_yearToAsk_24 : decode cX2_yearToAsk 24 = .ok (.iload 5, 2) := by decide +kernel
theorem dX2_yearToAsk_26 : decode cX2_yearToAsk 26 = .ok (.iload_n 3, 1) := by decide +kernel
theorem dX2_yearToAsk_27 : decode cX2_yearToAsk 27 = .ok (.if_icmp .ge 9, 3) := by decide +kernel
theorem dX2_yearToAsk_30 : decode cX2_yearToAsk 30 = .ok (.iload 5, 2) := by decide +kernel
theorem dX2_yearToAsk_32 : decode cX2_yearToAsk 32 = .ok (.istore_n 3, 1) := by decide +kernel
theorem dX2_yearToAsk_33 : decode cX2_yearToAsk 33 = .ok (.iload 4, 2) := by decide +kernel
theorem dX2_yearToAsk_35 : decode cX2_yearToAsk 35 = .ok (.istore_n 2, 1) := by decide +kernel
theorem dX2_yearToAsk_36 : decode cX2_yearToAsk 36 = .ok (.iinc 4 1, 3) := by decide +kernel
theorem dX2_yearToAsk_39 : decode cX2_yearToAsk 39 = .ok (.goto (-29), 3) := by decide +kernel
theorem dX2_yearToAsk_42 : decode cX2_yearToAsk 42 = .ok (.iload_n 2, 1) := by decide +kernel
theorem dX2_yearToAsk_43 : decode cX2_yearToAsk 43 = .ok (.ireturn, 1) := by decide +kernel
theorem dX3_init_0 : decode cX3_init 0 = .ok (.aload_n 0, 1) := by decide +kernel
theorem dX3_init_1 : decode cX3_init 1 = .ok (.invokespecial 3, 3) := by decide +kernel
theorem dX3_init_4 : decode cX3_init 4 = .ok (.aload_n 0, 1) := by decide +kernel
theorem dX3_init_5 : decode cX3_init 5 = .ok (.iconst 0, 1) := by decide +kernel
theorem dX3_init_6 : decode cX3_init 6 = .ok (.putfield 9, 3) := by decide +kernel
theorem dX3_init_9 : decode cX3_init 9 = .ok (.aload_n 0, 1) := by decide +kernel
theorem dX3_init_10 : decode cX3_init 10 = .ok (.bipush 8, 2) := by decide +kernel
theorem dX3_init_12 : decode cX3_init 12 = .ok (.newarray .int, 2) := by decide +kernel
theorem dX3_init_14 : decode cX3_init 14 = .ok (.putfield 15, 3) := by decide +kernel
theorem dX3_init_17 : decode cX3_init 17 = .ok (.aload_n 0, 1) := by decide +kernel
theorem dX3_init_18 : decode cX3_init 18 = .ok (.bipush 8, 2) := by decide +kernel
theorem dX3_init_20 : decode cX3_init 20 = .ok (.newarray .int, 2) := by decide +kernel
theorem dX3_init_22 : decode cX3_init 22 = .ok (.putfield 19, 3) := by decide +kernel
theorem dX3_init_25 : decode cX3_init 25 = .ok (.aload_n 0, 1) := by decide +kernel
theorem dX3_init_26 : decode cX3_init 26 = .ok (.bipush 8, 2) := by decide +kernel
theorem dX3_init_28 : decode cX3_init 28 = .ok (.newarray .int, 2) := by decide +kernel
theorem dX3_init_30 : decode cX3_init 30 = .ok (.putfield 22, 3) := by decide +kernel
theorem dX3_init_33 : decode cX3_init 33 = .ok (.return_, 1) := by decide +kernel
theorem dX3_has_0 : decode cX3_has 0 = .ok (.iload_n 1, 1) := by decide +kernel
theorem dX3_has_1 : decode cX3_has 1 = .ok (.ifCond .lt 15, 3) := by decide +kernel
theorem dX3_has_4 : decode cX3_has 4 = .ok (.iload_n 1, 1) := by decide +kernel
theorem dX3_has_5 : decode cX3_has 5 = .ok (.aload_n 0, 1) := by decide +kernel
theorem dX3_has_6 : decode cX3_has 6 = .ok (.getfield 9, 3) := by decide +kernel
theorem dX3_has_9 : decode cX3_has 9 = .ok (.if_icmp .ge 7, 3) := by decide +kernel
theorem dX3_has_12 : decode cX3_has 12 = .ok (.iconst 1, 1) := by decide +kernel
theorem dX3_has_13 : decode cX3_has 13 = .ok (.goto 4, 3) := by decide +kernel
theorem dX3_has_16 : decode cX3_has 16 = .ok (.iconst 0, 1) := by decide +kernel
theorem dX3_has_17 : decode cX3_has 17 = .ok (.ireturn, 1) := by decide +kernel
theorem dX3_toWhom_0 : decode cX3_toWhom 0 = .ok (.iconst 0, 1) := by decide +kernel
theorem dX3_toWhom_1 : decode cX3_toWhom 1 = .ok (.istore_n 2, 1) := by decide +kernel
theorem dX3_toWhom_2 : decode cX3_toWhom 2 = .ok (.iconst 0, 1) := by decide +kernel
theorem dX3_toWhom_3 : decode cX3_toWhom 3 = .ok (.istore_n 3, 1) := by decide +kernel
theorem dX3_toWhom_4 : decode cX3_toWhom 4 = .ok (.iload_n 3, 1) := by decide +kernel
theorem dX3_toWhom_5 : decode cX3_toWhom 5 = .ok (.aload_n 0, 1) := by decide +kernel
theorem dX3_toWhom_6 : decode cX3_toWhom 6 = .ok (.getfield 9, 3) := by decide +kernel
theorem dX3_toWhom_9 : decode cX3_toWhom 9 = .ok (.if_icmp .ge 25, 3) := by decide +kernel
theorem dX3_toWhom_12 : decode cX3_toWhom 12 = .ok (.aload_n 0, 1) := by decide +kernel
theorem dX3_toWhom_13 : decode cX3_toWhom 13 = .ok (.getfield 19, 3) := by decide +kernel
theorem dX3_toWhom_16 : decode cX3_toWhom 16 = .ok (.iload_n 3, 1) := by decide +kernel
theorem dX3_toWhom_17 : decode cX3_toWhom 17 = .ok (.iaload, 1) := by decide +kernel
theorem dX3_toWhom_18 : decode cX3_toWhom 18 = .ok (.iload_n 1, 1) := by decide +kernel
theorem dX3_toWhom_19 : decode cX3_toWhom 19 = .ok (.if_icmp .ne 9, 3) := by decide +kernel
theorem dX3_toWhom_22 : decode cX3_toWhom 22 = .ok (.iload_n 2, 1) := by decide +kernel
theorem dX3_toWhom_23 : decode cX3_toWhom 23 = .ok (.iconst 1, 1) := by decide +kernel
theorem dX3_toWhom_24 : decode cX3_toWhom 24 = .ok (.iload_n 3, 1) := by decide +kernel
theorem dX3_toWhom_25 : decode cX3_toWhom 25 = .ok (.ishl, 1) := by decide +kernel
theorem dX3_toWhom_26 : decode cX3_toWhom 26 = .ok (.ior, 1) := by decide +kernel
theorem dX3_toWhom_27 : decode cX3_toWhom 27 = .ok (.istore_n 2, 1) := by decide +kernel
theorem dX3_toWhom_28 : decode cX3_toWhom 28 = .ok (.iinc 3 1, 3) := by decide +kernel
theorem dX3_toWhom_31 : decode cX3_toWhom 31 = .ok (.goto (-27), 3) := by decide +kernel
theorem dX3_toWhom_34 : decode cX3_toWhom 34 = .ok (.iload_n 2, 1) := by decide +kernel
theorem dX3_toWhom_35 : decode cX3_toWhom 35 = .ok (.ireturn, 1) := by decide +kernel
theorem dX3_ofWhom_0 : decode cX3_ofWhom 0 = .ok (.iconst 0, 1) := by decide +kernel
theorem dX3_ofWhom_1 : decode cX3_ofWhom 1 = .ok (.istore_n 2, 1) := by decide +kernel
theorem dX3_ofWhom_2 : decode cX3_ofWhom 2 = .ok (.iconst 0, 1) := by decide +kernel
theorem dX3_ofWhom_3 : decode cX3_ofWhom 3 = .ok (.istore_n 3, 1) := by decide +kernel
theorem dX3_ofWhom_4 : decode cX3_ofWhom 4 = .ok (.iload_n 3, 1) := by decide +kernel
theorem dX3_ofWhom_5 : decode cX3_ofWhom 5 = .ok (.aload_n 0, 1) := by decide +kernel
theorem dX3_ofWhom_6 : decode cX3_ofWhom 6 = .ok (.getfield 9, 3) := by decide +kernel
theorem dX3_ofWhom_9 : decode cX3_ofWhom 9 = .ok (.if_icmp .ge 25, 3) := by decide +kernel
theorem dX3_ofWhom_12 : decode cX3_ofWhom 12 = .ok (.aload_n 0, 1) := by decide +kernel
theorem dX3_ofWhom_13 : decode cX3_ofWhom 13 = .ok (.getfield 15, 3) := by decide +kernel
theorem dX3_ofWhom_16 : decode cX3_ofWhom 16 = .ok (.iload_n 3, 1) := by decide +kernel
theorem dX3_ofWhom_17 : decode cX3_ofWhom 17 = .ok (.iaload, 1) := by decide +kernel
theorem dX3_ofWhom_18 : decode cX3_ofWhom 18 = .ok (.iload_n 1, 1) := by decide +kernel
theorem dX3_ofWhom_19 : decode cX3_ofWhom 19 = .ok (.if_icmp .ne 9, 3) := by decide +kernel
theorem dX3_ofWhom_22 : decode cX3_ofWhom 22 = .ok (.iload_n 2, 1) := by decide +kernel
theorem dX3_ofWhom_23 : decode cX3_ofWhom 23 = .ok (.iconst 1, 1) := by decide +kernel
theorem dX3_ofWhom_24 : decode cX3_ofWhom 24 = .ok (.iload_n 3, 1) := by decide +kernel
theorem dX3_ofWhom_25 : decode cX3_ofWhom 25 = .ok (.ishl, 1) := by decide +kernel
theorem dX3_ofWhom_26 : decode cX3_ofWhom 26 = .ok (.ior, 1) := by decide +kernel
theorem dX3_ofWhom_27 : decode cX3_ofWhom 27 = .ok (.istore_n 2, 1) := by decide +kernel
theorem dX3_ofWhom_28 : decode cX3_ofWhom 28 = .ok (.iinc 3 1, 3) := by decide +kernel
theorem dX3_ofWhom_31 : decode cX3_ofWhom 31 = .ok (.goto (-27), 3) := by decide +kernel
theorem dX3_ofWhom_34 : decode cX3_ofWhom 34 = .ok (.iload_n 2, 1) := by decide +kernel
theorem dX3_ofWhom_35 : decode cX3_ofWhom 35 = .ok (.ireturn, 1) := by decide +kernel
theorem dX3_copy_0 : decode cX3_copy 0 = .ok (.aload_n 0, 1) := by decide +kernel
theorem dX3_copy_1 : decode cX3_copy 1 = .ok (.aload_n 1, 1) := by decide +kernel
theorem dX3_copy_2 : decode cX3_copy 2 = .ok (.getfield 9, 3) := by decide +kernel
theorem dX3_copy_5 : decode cX3_copy 5 = .ok (.putfield 9, 3) := by decide +kernel
theorem dX3_copy_8 : decode cX3_copy 8 = .ok (.aload_n 1, 1) := by decide +kernel
theorem dX3_copy_9 : decode cX3_copy 9 = .ok (.getfield 15, 3) := by decide +kernel
theorem dX3_copy_12 : decode cX3_copy 12 = .ok (.iconst 0, 1) := by decide +kernel
theorem dX3_copy_13 : decode cX3_copy 13 = .ok (.aload_n 0, 1) := by decide +kernel
theorem dX3_copy_14 : decode cX3_copy 14 = .ok (.getfield 15, 3) := by decide +kernel
theorem dX3_copy_17 : decode cX3_copy 17 = .ok (.iconst 0, 1) := by decide +kernel
theorem dX3_copy_18 : decode cX3_copy 18 = .ok (.bipush 8, 2) := by decide +kernel
theorem dX3_copy_20 : decode cX3_copy 20 = .ok (.invokestatic 25, 3) := by decide +kernel
theorem dX3_copy_23 : decode cX3_copy 23 = .ok (.aload_n 1, 1) := by decide +kernel
theorem dX3_copy_24 : decode cX3_copy 24 = .ok (.getfield 19, 3) := by decide +kernel
theorem dX3_copy_27 : decode cX3_copy 27 = .ok (.iconst 0, 1) := by decide +kernel
theorem dX3_copy_28 : decode cX3_copy 28 = .ok (.aload_n 0, 1) := by decide +kernel
theorem dX3_copy_29 : decode cX3_copy 29 = .ok (.getfield 19, 3) := by decide +kernel
theorem dX3_copy_32 : decode cX3_copy 32 = .ok (.iconst 0, 1) := by decide +kernel
theorem dX3_copy_33 : decode cX3_copy 33 = .ok (.bipush 8, 2) := by decide +kernel
theorem dX3_copy_35 : decode cX3_copy 35 = .ok (.invokestatic 25, 3) := by decide +kernel
theorem dX3_copy_38 : decode cX3_copy 38 = .ok (.aload_n 1, 1) := by decide +kernel
theorem dX3_copy_39 : decode cX3_copy 39 = .ok (.getfield 22, 3) := by decide +kernel
theorem dX3_copy_42 : decode cX3_copy 42 = .ok (.iconst 0, 1) := by decide +kernel
theorem dX3_copy_43 : decode cX3_copy 43 = .ok (.aload_n 0, 1) := by decide +kernel
theorem dX3_copy_44 : decode cX3_copy 44 = .ok (.getfield 22, 3) := by decide +kernel
theorem dX3_copy_47 : decode cX3_copy 47 = .ok (.iconst 0, 1) := by decide +kernel
theorem dX3_copy_48 : decode cX3_copy 48 = .ok (.bipush 8, 2) := by decide +kernel
theorem dX3_copy_50 : decode cX3_copy 50 = .ok (.invokestatic 25, 3) := by decide +kernel
theorem dX3_copy_53 : decode cX3_copy 53 = .ok (.return_, 1) := by decide +kernel
theorem dX4_init_0 : decode cX4_init 0 = .ok (.aload_n 0, 1) := by decide +kernel
theorem dX4_init_1 : decode cX4_init 1 = .ok (.invokespecial 3, 3) := by decide +kernel
theorem dX4_init_4 : decode cX4_init 4 = .ok (.aload_n 0, 1) := by decide +kernel
theorem dX4_init_5 : decode cX4_init 5 = .ok (.sipush 384, 3) := by decide +kernel
theorem dX4_init_8 : decode cX4_init 8 = .ok (.newarray .int, 2) := by decide +kernel
theorem dX4_init_10 : decode cX4_init 10 = .ok (.putfield 9, 3) := by decide +kernel
theorem dX4_init_13 : decode cX4_init 13 = .ok (.aload_n 0, 1) := by decide +kernel
theorem dX4_init_14 : decode cX4_init 14 = .ok (.sipush 384, 3) := by decide +kernel
theorem dX4_init_17 : decode cX4_init 17 = .ok (.newarray .int, 2) := by decide +kernel
theorem dX4_init_19 : decode cX4_init 19 = .ok (.putfield 15, 3) := by decide +kernel
theorem dX4_init_22 : decode cX4_init 22 = .ok (.aload_n 0, 1) := by decide +kernel
theorem dX4_init_23 : decode cX4_init 23 = .ok (.iconst 0, 1) := by decide +kernel
theorem dX4_init_24 : decode cX4_init 24 = .ok (.putfield 18, 3) := by decide +kernel
theorem dX4_init_27 : decode cX4_init 27 = .ok (.return_, 1) := by decide +kernel
set_option maxRecDepth 20000 in
theorem ggX4_plan_X6_openedByActs : GoodIn wsX4_plan wsX6_openedByActs := goodIn_r _ [7, 8, 9, 10, 11, 5, 12, 13, 14, 15, 16, 17, 18, 52, 53, 54, 55, 56, 57, 58, 59, 60, 61, 62, 63, 64, 65, 66, 67, 68, 69, 70, 71, 72, 73] (by decide +kernel) (by decide +kernel)
set_option maxRecDepth 20000 in
theorem gX4_plan_X6_openedByActs_n22 : GoodIn wsX4_plan (wsX6_openedByActs) := ggX4_plan_X6_openedByActs
set_option maxRecDepth 20000 in
theorem ggX4_plan_X1_keptSum : GoodIn wsX4_plan wsX1_keptSum := goodIn_r _ [22, 23, 24, 25, 20, 26, 27, 28, 29, 30, 31, 32, 33, 34, 35, 36, 37, 38, 39, 74, 75, 76, 77, 78, 79, 80, 81, 82, 83, 84, 85, 52, 53, 54, 55, 56, 57, 58, 59, 60, 61, 62, 63, 64, 65, 66, 67, 68, 69, 86, 87, 88, 89] (by decide +kernel) (by decide +kernel)
set_option maxRecDepth 20000 in
theorem gX4_plan_X1_keptSum_n34 : GoodIn wsX4_plan (wsX1_keptSum) := ggX4_plan_X1_keptSum
set_option maxRecDepth 20000 in
theorem ggX4_plan_X4_choose : GoodIn wsX4_plan wsX4_choose := goodIn_r _ [44, 2, 3, 45, 46, 47, 43, 48, 10, 5, 11, 12, 13, 14, 15, 16, 17, 18, 52, 53, 54, 55, 56, 57, 58, 59, 60, 61, 62, 63, 64, 65, 66, 67, 68, 69, 49, 50, 51] (by decide +kernel) (by decide +kernel)
set_option maxRecDepth 20000 in
theorem gX4_plan_X4_choose : GoodIn wsX4_plan (wsV RX4 40 RX4 yX4_choose wsX4_choose) := goodIn_app (goodIn_of _ (by decide +kernel)) ggX4_plan_X4_choose
theorem dX4_plan_0 : decode cX4_plan 0 = .ok (.aload_n 0, 1) := by decide +kernel
theorem dX4_plan_1 : decode cX4_plan 1 = .ok (.aload_n 1, 1) := by decide +kernel
theorem dX4_plan_2 : decode cX4_plan 2 = .ok (.invokevirtual 22, 3) := by decide +kernel
theorem dX4_plan_5 : decode cX4_plan 5 = .ok (.putfield 18, 3) := by decide +kernel
theorem dX4_plan_8 : decode cX4_plan 8 = .ok (.iconst 1, 1) := by decide +kernel
theorem dX4_plan_9 : decode cX4_plan 9 = .ok (.aload_n 1, 1) := by decide +kernel
theorem dX4_plan_10 : decode cX4_plan 10 = .ok (.getfield 28, 3) := by decide +kernel
theorem dX4_plan_13 : decode cX4_plan 13 = .ok (.ishl, 1) := by decide +kernel
theorem dX4_plan_14 : decode cX4_plan 14 = .ok (.istore_n 3, 1) := by decide +kernel
theorem dX4_plan_15 : decode cX4_plan 15 = .ok (.iconst 0, 1) := by decide +kernel
theorem dX4_plan_16 : decode cX4_plan 16 = .ok (.istore 4, 2) := by decide +kernel
theorem dX4_plan_18 : decode cX4_plan 18 = .ok (.iload 4, 2) := by decide +kernel
theorem dX4_plan_20 : decode cX4_plan 20 = .ok (.iload_n 3, 1) := by decide +kernel
theorem dX4_plan_21 : decode cX4_plan 21 = .ok (.if_icmp .ge 46, 3) := by decide +kernel
theorem dX4_plan_24 : decode cX4_plan 24 = .ok (.aload_n 0, 1) := by decide +kernel
theorem dX4_plan_25 : decode cX4_plan 25 = .ok (.getfield 9, 3) := by decide +kernel
theorem dX4_plan_28 : decode cX4_plan 28 = .ok (.aload_n 1, 1) := by decide +kernel
theorem dX4_plan_29 : decode cX4_plan 29 = .ok (.getfield 31, 3) := by decide +kernel
theorem dX4_plan_32 : decode cX4_plan 32 = .ok (.bipush 64, 2) := by decide +kernel
theorem dX4_plan_34 : decode cX4_plan 34 = .ok (.imul, 1) := by decide +kernel
theorem dX4_plan_35 : decode cX4_plan 35 = .ok (.iload 4, 2) := by decide +kernel
theorem dX4_plan_37 : decode cX4_plan 37 = .ok (.iadd, 1) := by decide +kernel
theorem dX4_plan_38 : decode cX4_plan 38 = .ok (.aload_n 2, 1) := by decide +kernel
theorem dX4_plan_39 : decode cX4_plan 39 = .ok (.iload 4, 2) := by decide +kernel
theorem dX4_plan_41 : decode cX4_plan 41 = .ok (.invokevirtual 34, 3) := by decide +kernel
theorem dX4_plan_44 : decode cX4_plan 44 = .ok (.iastore, 1) := by decide +kernel
theorem dX4_plan_45 : decode cX4_plan 45 = .ok (.aload_n 0, 1) := by decide +kernel
theorem dX4_plan_46 : decode cX4_plan 46 = .ok (.getfield 15, 3) := by decide +kernel
theorem dX4_plan_49 : decode cX4_plan 49 = .ok (.aload_n 1, 1) := by decide +kernel
theorem dX4_plan_50 : decode cX4_plan 50 = .ok (.getfield 31, 3) := by decide +kernel
theorem dX4_plan_53 : decode cX4_plan 53 = .ok (.bipush 64, 2) := by decide +kernel
theorem dX4_plan_55 : decode cX4_plan 55 = .ok (.imul, 1) := by decide +kernel
theorem dX4_plan_56 : decode cX4_plan 56 = .ok (.iload 4, 2) := by decide +kernel
theorem dX4_plan_58 : decode cX4_plan 58 = .ok (.iadd, 1) := by decide +kernel
theorem dX4_plan_59 : decode cX4_plan 59 = .ok (.iconst 1, 1) := by decide +kernel
theorem dX4_plan_60 : decode cX4_plan 60 = .ok (.iastore, 1) := by decide +kernel
theorem dX4_plan_61 : decode cX4_plan 61 = .ok (.iinc 4 1, 3) := by decide +kernel
theorem dX4_plan_64 : decode cX4_plan 64 = .ok (.goto (-46), 3) := by decide +kernel
theorem dX4_plan_67 : decode cX4_plan 67 = .ok (.aload_n 1, 1) := by decide +kernel
theorem dX4_plan_68 : decode cX4_plan 68 = .ok (.getfield 31, 3) := by decide +kernel
theorem dX4_plan_71 : decode cX4_plan 71 = .ok (.iconst 1, 1) := by decide +kernel
theorem dX4_plan_72 : decode cX4_plan 72 = .ok (.isub, 1) := by decide +kernel
theorem dX4_plan_73 : decode cX4_plan 73 = .ok (.istore 4, 2) := by decide +kernel
theorem dX4_plan_75 : decode cX4_plan 75 = .ok (.iload 4, 2) := by decide +kernel
theorem dX4_plan_77 : decode cX4_plan 77 = .ok (.ifCond .lt 33, 3) := by decide +kernel
theorem dX4_plan_80 : decode cX4_plan 80 = .ok (.iconst 0, 1) := by decide +kernel
theorem dX4_plan_81 : decode cX4_plan 81 = .ok (.istore 5, 2) := by decide +kernel
theorem dX4_plan_83 : decode cX4_plan 83 = .ok (.iload 5, 2) := by decide +kernel
theorem dX4_plan_85 : decode cX4_plan 85 = .ok (.iload_n 3, 1) := by decide +kernel
theorem dX4_plan_86 : decode cX4_plan 86 = .ok (.if_icmp .ge 18, 3) := by decide +kernel
theorem dX4_plan_89 : decode cX4_plan 89 = .ok (.aload_n 0, 1) := by decide +kernel
theorem dX4_plan_90 : decode cX4_plan 90 = .ok (.aload_n 1, 1) := by decide +kernel
theorem dX4_plan_91 : decode cX4_plan 91 = .ok (.iload 4, 2) := by decide +kernel
theorem dX4_plan_93 : decode cX4_plan 93 = .ok (.iload 5, 2) := by decide +kernel
theorem dX4_plan_95 : decode cX4_plan 95 = .ok (.invokevirtual 40, 3) := by decide +kernel
theorem dX4_plan_98 : decode cX4_plan 98 = .ok (.iinc 5 1, 3) := by decide +kernel
theorem dX4_plan_101 : decode cX4_plan 101 = .ok (.goto (-18), 3) := by decide +kernel
theorem dX4_plan_104 : decode cX4_plan 104 = .ok (.iinc 4 (-1), 3) := by decide +kernel
theorem dX4_plan_107 : decode cX4_plan 107 = .ok (.goto (-32), 3) := by decide +kernel
theorem dX4_plan_110 : decode cX4_plan 110 = .ok (.return_, 1) := by decide +kernel
set_option maxRecDepth 20000 in
theorem ggX4_choose_X4_behind : GoodIn wsX4_choose wsX4_behind := goodIn_r _ [7, 8, 9, 10, 11, 12, 13, 14, 15, 16, 17, 18, 19, 20, 21, 22, 23, 24, 25, 26, 27, 28, 29, 30, 31, 32, 33, 34, 35] (by decide +kernel) (by decide +kernel)
set_option maxRecDepth 20000 in
theorem gX4_choose_X4_behind : GoodIn wsX4_choose (wsV RX4 44 RX4 yX4_behind wsX4_behind) := goodIn_app (goodIn_of _ (by decide +kernel)) ggX4_choose_X4_behind
theorem dX4_choose_0 : decode cX4_choose 0 = .ok (.iconst (-1), 1) := by decide +kernel
theorem dX4_choose_1 : decode cX4_choose 1 = .ok (.istore 4, 2) := by decide +kernel
theorem dX4_choose_3 : decode cX4_choose 3 = .ok (.iconst 0, 1) := by decide +kernel
theorem dX4_choose_4 : decode cX4_choose 4 = .ok (.istore 5, 2) := by decide +kernel
theorem dX4_choose_6 : decode cX4_choose 6 = .ok (.iconst (-1), 1) := by decide +kernel
theorem dX4_choose_7 : decode cX4_choose 7 = .ok (.istore 6, 2) := by decide +kernel
theorem dX4_choose_9 : decode cX4_choose 9 = .ok (.iload 6, 2) := by decide +kernel
theorem dX4_choose_11 : decode cX4_choose 11 = .ok (.aload_n 1, 1) := by decide +kernel
theorem dX4_choose_12 : decode cX4_choose 12 = .ok (.getfield 28, 3) := by decide +kernel
theorem dX4_choose_15 : decode cX4_choose 15 = .ok (.if_icmp .ge 68, 3) := by decide +kernel
theorem dX4_choose_18 : decode cX4_choose 18 = .ok (.aload_n 0, 1) := by decide +kernel
theorem dX4_choose_19 : decode cX4_choose 19 = .ok (.aload_n 1, 1) := by decide +kernel
theorem dX4_choose_20 : decode cX4_choose 20 = .ok (.iload_n 2, 1) := by decide +kernel
theorem dX4_choose_21 : decode cX4_choose 21 = .ok (.iload_n 3, 1) := by decide +kernel
theorem dX4_choose_22 : decode cX4_choose 22 = .ok (.iload 6, 2) := by decide +kernel
theorem dX4_choose_24 : decode cX4_choose 24 = .ok (.invokevirtual 44, 3) := by decide +kernel
theorem dX4_choose_27 : decode cX4_choose 27 = .ok (.istore 7, 2) := by decide +kernel
theorem dX4_choose_29 : decode cX4_choose 29 = .ok (.aload_n 0, 1) := by decide +kernel
theorem dX4_choose_30 : decode cX4_choose 30 = .ok (.getfield 9, 3) := by decide +kernel
theorem dX4_choose_33 : decode cX4_choose 33 = .ok (.iload 7, 2) := by decide +kernel
theorem dX4_choose_35 : decode cX4_choose 35 = .ok (.iaload, 1) := by decide +kernel
theorem dX4_choose_36 : decode cX4_choose 36 = .ok (.iload 4, 2) := by decide +kernel
theorem dX4_choose_38 : decode cX4_choose 38 = .ok (.if_icmp .le 15, 3) := by decide +kernel
theorem dX4_choose_41 : decode cX4_choose 41 = .ok (.aload_n 0, 1) := by decide +kernel
theorem dX4_choose_42 : decode cX4_choose 42 = .ok (.getfield 9, 3) := by decide +kernel
theorem dX4_choose_45 : decode cX4_choose 45 = .ok (.iload 7, 2) := by decide +kernel
theorem dX4_choose_47 : decode cX4_choose 47 = .ok (.iaload, 1) := by decide +kernel
theorem dX4_choose_48 : decode cX4_choose 48 = .ok (.istore 4, 2) := by decide +kernel
theorem dX4_choose_50 : decode cX4_choose 50 = .ok (.iconst 0, 1) := by decide +kernel
theorem dX4_choose_51 : decode cX4_choose 51 = .ok (.istore 5, 2) := by decide +kernel
theorem dX4_choose_53 : decode cX4_choose 53 = .ok (.aload_n 0, 1) := by decide +kernel
theorem dX4_choose_54 : decode cX4_choose 54 = .ok (.getfield 9, 3) := by decide +kernel
theorem dX4_choose_57 : decode cX4_choose 57 = .ok (.iload 7, 2) := by decide +kernel
theorem dX4_choose_59 : decode cX4_choose 59 = .ok (.iaload, 1) := by decide +kernel
theorem dX4_choose_60 : decode cX4_choose 60 = .ok (.iload 4, 2) := by decide +kernel
theorem dX4_choose_62 : decode cX4_choose 62 = .ok (.if_icmp .ne 15, 3) := by decide +kernel
theorem dX4_choose_65 : decode cX4_choose 65 = .ok (.iload 5, 2) := by decide +kernel
theorem dX4_choose_67 : decode cX4_choose 67 = .ok (.aload_n 0, 1) := by decide +kernel
theorem dX4_choose_68 : decode cX4_choose 68 = .ok (.getfield 15, 3) := by decide +kernel
theorem dX4_choose_71 : decode cX4_choose 71 = .ok (.iload 7, 2) := by decide +kernel
theorem dX4_choose_73 : decode cX4_choose 73 = .ok (.iaload, 1) := by decide +kernel
theorem dX4_choose_74 : decode cX4_choose 74 = .ok (.iadd, 1) := by decide +kernel
theorem dX4_choose_75 : decode cX4_choose 75 = .ok (.istore 5, 2) := by decide +kernel
theorem dX4_choose_77 : decode cX4_choose 77 = .ok (.iinc 6 1, 3) := by decide +kernel
theorem dX4_choose_80 : decode cX4_choose 80 = .ok (.goto (-71), 3) := by decide +kernel
theorem dX4_choose_83 : decode cX4_choose 83 = .ok (.aload_n 0, 1) := by decide +kernel
theorem dX4_choose_84 : decode cX4_choose 84 = .ok (.getfield 9, 3) := by decide +kernel
theorem dX4_choose_87 : decode cX4_choose 87 = .ok (.iload_n 2, 1) := by decide +kernel
theorem dX4_choose_88 : decode cX4_choose 88 = .ok (.bipush 64, 2) := by decide +kernel
theorem dX4_choose_90 : decode cX4_choose 90 = .ok (.imul, 1) := by decide +kernel
theorem dX4_choose_91 : decode cX4_choose 91 = .ok (.iload_n 3, 1) := by decide +kernel
theorem dX4_choose_92 : decode cX4_choose 92 = .ok (.iadd, 1) := by decide +kernel
theorem dX4_choose_93 : decode cX4_choose 93 = .ok (.iload 4, 2) := by decide +kernel
theorem dX4_choose_95 : decode cX4_choose 95 = .ok (.iastore, 1) := by decide +kernel
theorem dX4_choose_96 : decode cX4_choose 96 = .ok (.aload_n 0, 1) := by decide +kernel
theorem dX4_choose_97 : decode cX4_choose 97 = .ok (.getfield 15, 3) := by decide +kernel
theorem dX4_choose_100 : decode cX4_choose 100 = .ok (.iload_n 2, 1) := by decide +kernel
theorem dX4_choose_101 : decode cX4_choose 101 = .ok (.bipush 64, 2) := by decide +kernel
theorem dX4_choose_103 : decode cX4_choose 103 = .ok (.imul, 1) := by decide +kernel
theorem dX4_choose_104 : decode cX4_choose 104 = .ok (.iload_n 3, 1) := by decide +kernel
theorem dX4_choose_105 : decode cX4_choose 105 = .ok (.iadd, 1) := by decide +kernel
theorem dX4_choose_106 : decode cX4_choose 106 = .ok (.iload 5, 2) := by decide +kernel
theorem dX4_choose_108 : decode cX4_choose 108 = .ok (.iastore, 1) := by decide +kernel
theorem dX4_choose_109 : decode cX4_choose 109 = .ok (.return_, 1) := by decide +kernel
set_option maxRecDepth 20000 in
theorem ggX4_behind_X6_opened : GoodIn wsX4_behind wsX6_opened := goodIn_r _ [4, 5, 6, 7, 8, 2, 9, 10, 11, 12, 13, 14, 15, 16, 17, 18, 19, 20, 21, 22, 23, 24, 25, 26, 27, 28] (by decide +kernel) (by decide +kernel)
set_option maxRecDepth 20000 in
theorem gX4_behind_X6_opened_n51 : GoodIn wsX4_behind (wsX6_opened) := ggX4_behind_X6_opened
theorem dX4_behind_0 : decode cX4_behind 0 = .ok (.iload_n 2, 1) := by decide +kernel
theorem dX4_behind_1 : decode cX4_behind 1 = .ok (.iconst 1, 1) := by decide +kernel
theorem dX4_behind_2 : decode cX4_behind 2 = .ok (.iadd, 1) := by decide +kernel
theorem dX4_behind_3 : decode cX4_behind 3 = .ok (.bipush 64, 2) := by decide +kernel
theorem dX4_behind_5 : decode cX4_behind 5 = .ok (.imul, 1) := by decide +kernel
theorem dX4_behind_6 : decode cX4_behind 6 = .ok (.iload_n 3, 1) := by decide +kernel
theorem dX4_behind_7 : decode cX4_behind 7 = .ok (.aload_n 1, 1) := by decide +kernel
theorem dX4_behind_8 : decode cX4_behind 8 = .ok (.iload 4, 2) := by decide +kernel
theorem dX4_behind_10 : decode cX4_behind 10 = .ok (.aload_n 1, 1) := by decide +kernel
theorem dX4_behind_11 : decode cX4_behind 11 = .ok (.getfield 48, 3) := by decide +kernel
theorem dX4_behind_14 : decode cX4_behind 14 = .ok (.iload_n 2, 1) := by decide +kernel
theorem dX4_behind_15 : decode cX4_behind 15 = .ok (.iaload, 1) := by decide +kernel
theorem dX4_behind_16 : decode cX4_behind 16 = .ok (.invokevirtual 51, 3) := by decide +kernel
theorem dX4_behind_19 : decode cX4_behind 19 = .ok (.ior, 1) := by decide +kernel
theorem dX4_behind_20 : decode cX4_behind 20 = .ok (.iadd, 1) := by decide +kernel
theorem dX4_behind_21 : decode cX4_behind 21 = .ok (.ireturn, 1) := by decide +kernel
theorem dX4_mostKept_0 : decode cX4_mostKept 0 = .ok (.aload_n 0, 1) := by decide +kernel
theorem dX4_mostKept_1 : decode cX4_mostKept 1 = .ok (.getfield 9, 3) := by decide +kernel
theorem dX4_mostKept_4 : decode cX4_mostKept 4 = .ok (.aload_n 0, 1) := by decide +kernel
theorem dX4_mostKept_5 : decode cX4_mostKept 5 = .ok (.getfield 18, 3) := by decide +kernel
theorem dX4_mostKept_8 : decode cX4_mostKept 8 = .ok (.iaload, 1) := by decide +kernel
theorem dX4_mostKept_9 : decode cX4_mostKept 9 = .ok (.ireturn, 1) := by decide +kernel
theorem dX4_rowsOfBest_0 : decode cX4_rowsOfBest 0 = .ok (.aload_n 0, 1) := by decide +kernel
theorem dX4_rowsOfBest_1 : decode cX4_rowsOfBest 1 = .ok (.getfield 15, 3) := by decide +kernel
theorem dX4_rowsOfBest_4 : decode cX4_rowsOfBest 4 = .ok (.aload_n 0, 1) := by decide +kernel
theorem dX4_rowsOfBest_5 : decode cX4_rowsOfBest 5 = .ok (.getfield 18, 3) := by decide +kernel
theorem dX4_rowsOfBest_8 : decode cX4_rowsOfBest 8 = .ok (.iaload, 1) := by decide +kernel
theorem dX4_rowsOfBest_9 : decode cX4_rowsOfBest 9 = .ok (.ireturn, 1) := by decide +kernel
set_option maxRecDepth 20000 in
theorem ggX4_place_X4_firstOfBest : GoodIn wsX4_place wsX4_firstOfBest := goodIn_r _ [6, 7, 8, 9, 10, 5, 11, 12, 13, 14, 15, 16, 17, 18, 19, 20, 21, 25, 26, 27, 28, 29, 30, 31, 32, 33, 34, 35, 36, 37, 38, 39, 40, 41, 42, 22, 23, 24] (by decide +kernel) (by decide +kernel)
set_option maxRecDepth 20000 in
theorem gX4_place_X4_firstOfBest : GoodIn wsX4_place (wsV RX4 55 RX4 yX4_firstOfBest wsX4_firstOfBest) := goodIn_app (goodIn_of _ (by decide +kernel)) ggX4_place_X4_firstOfBest
set_option maxRecDepth 20000 in
theorem ggX4_place_X6_opened : GoodIn wsX4_place wsX6_opened := goodIn_r _ [15, 16, 17, 18, 19, 13, 20, 21, 25, 26, 27, 28, 29, 30, 31, 32, 33, 34, 35, 36, 37, 38, 39, 40, 41, 42] (by decide +kernel) (by decide +kernel)
set_option maxRecDepth 20000 in
theorem gX4_place_X6_opened_n51 : GoodIn wsX4_place (wsX6_opened) := ggX4_place_X6_opened
theorem dX4_place_0 : decode cX4_place 0 = .ok (.aload_n 0, 1) := by decide +kernel
theorem dX4_place_1 : decode cX4_place 1 = .ok (.getfield 18, 3) := by decide +kernel
theorem dX4_place_4 : decode cX4_place 4 = .ok (.istore_n 3, 1) := by decide +kernel
theorem dX4_place_5 : decode cX4_place 5 = .ok (.iconst (-1), 1) := by decide +kernel
theorem dX4_place_6 : decode cX4_place 6 = .ok (.istore 4, 2) := by decide +kernel
theorem dX4_place_8 : decode cX4_place 8 = .ok (.iconst 0, 1) := by decide +kernel
theorem dX4_place_9 : decode cX4_place 9 = .ok (.istore 5, 2) := by decide +kernel
theorem dX4_place_11 : decode cX4_place 11 = .ok (.iload 5, 2) := by decide +kernel
theorem dX4_place_13 : decode cX4_place 13 = .ok (.iload_n 2, 1) := by decide +kernel
theorem dX4_place_14 : decode cX4_place 14 = .ok (.if_icmp .gt 44, 3) := by decide +kernel
theorem dX4_place_17 : decode cX4_place 17 = .ok (.iload 5, 2) := by decide +kernel
theorem dX4_place_19 : decode cX4_place 19 = .ok (.aload_n 1, 1) := by decide +kernel
theorem dX4_place_20 : decode cX4_place 20 = .ok (.getfield 31, 3) := by decide +kernel
theorem dX4_place_23 : decode cX4_place 23 = .ok (.if_icmp .ge 35, 3) := by decide +kernel
theorem dX4_place_26 : decode cX4_place 26 = .ok (.aload_n 0, 1) := by decide +kernel
theorem dX4_place_27 : decode cX4_place 27 = .ok (.aload_n 1, 1) := by decide +kernel
theorem dX4_place_28 : decode cX4_place 28 = .ok (.iload 5, 2) := by decide +kernel
theorem dX4_place_30 : decode cX4_place 30 = .ok (.iload_n 3, 1) := by decide +kernel
theorem dX4_place_31 : decode cX4_place 31 = .ok (.invokevirtual 55, 3) := by decide +kernel
theorem dX4_place_34 : decode cX4_place 34 = .ok (.istore 4, 2) := by decide +kernel
theorem dX4_place_36 : decode cX4_place 36 = .ok (.iload_n 3, 1) := by decide +kernel
theorem dX4_place_37 : decode cX4_place 37 = .ok (.aload_n 1, 1) := by decide +kernel
theorem dX4_place_38 : decode cX4_place 38 = .ok (.iload 4, 2) := by decide +kernel
theorem dX4_place_40 : decode cX4_place 40 = .ok (.aload_n 1, 1) := by decide +kernel
theorem dX4_place_41 : decode cX4_place 41 = .ok (.getfield 48, 3) := by decide +kernel
theorem dX4_place_44 : decode cX4_place 44 = .ok (.iload 5, 2) := by decide +kernel
theorem dX4_place_46 : decode cX4_place 46 = .ok (.iaload, 1) := by decide +kernel
theorem dX4_place_47 : decode cX4_place 47 = .ok (.invokevirtual 51, 3) := by decide +kernel
theorem dX4_place_50 : decode cX4_place 50 = .ok (.ior, 1) := by decide +kernel
theorem dX4_place_51 : decode cX4_place 51 = .ok (.istore_n 3, 1) := by decide +kernel
theorem dX4_place_52 : decode cX4_place 52 = .ok (.iinc 5 1, 3) := by decide +kernel
theorem dX4_place_55 : decode cX4_place 55 = .ok (.goto (-44), 3) := by decide +kernel
theorem dX4_place_58 : decode cX4_place 58 = .ok (.iload 4, 2) := by decide +kernel
theorem dX4_place_60 : decode cX4_place 60 = .ok (.ireturn, 1) := by decide +kernel
set_option maxRecDepth 20000 in
theorem ggX4_firstOfBest_X4_behind : GoodIn wsX4_firstOfBest wsX4_behind := goodIn_r _ [6, 7, 8, 9, 10, 11, 12, 13, 14, 15, 16, 17, 18, 19, 20, 21, 22, 23, 24, 25, 26, 27, 28, 29, 30, 31, 32, 33, 34] (by decide +kernel) (by decide +kernel)
set_option maxRecDepth 20000 in
theorem gX4_firstOfBest_X4_behind : GoodIn wsX4_firstOfBest (wsV RX4 44 RX4 yX4_behind wsX4_behind) := goodIn_app (goodIn_of _ (by decide +kernel)) ggX4_firstOfBest_X4_behind
theorem dX4_firstOfBest_0 : decode cX4_firstOfBest 0 = .ok (.iconst (-1), 1) := by decide +kernel
theorem dX4_firstOfBest_1 : decode cX4_firstOfBest 1 = .ok (.istore 4, 2) := by decide +kernel
theorem dX4_firstOfBest_3 : decode cX4_firstOfBest 3 = .ok (.iload 4, 2) := by decide +kernel
theorem dX4_firstOfBest_5 : decode cX4_firstOfBest 5 = .ok (.aload_n 1, 1) := by decide +kernel
theorem dX4_firstOfBest_6 : decode cX4_firstOfBest 6 = .ok (.getfield 28, 3) := by decide +kernel
theorem dX4_firstOfBest_9 : decode cX4_firstOfBest 9 = .ok (.if_icmp .ge 40, 3) := by decide +kernel
theorem dX4_firstOfBest_12 : decode cX4_firstOfBest 12 = .ok (.aload_n 0, 1) := by decide +kernel
theorem dX4_firstOfBest_13 : decode cX4_firstOfBest 13 = .ok (.getfield 9, 3) := by decide +kernel
theorem dX4_firstOfBest_16 : decode cX4_firstOfBest 16 = .ok (.aload_n 0, 1) := by decide +kernel
theorem dX4_firstOfBest_17 : decode cX4_firstOfBest 17 = .ok (.aload_n 1, 1) := by decide +kernel
theorem dX4_firstOfBest_18 : decode cX4_firstOfBest 18 = .ok (.iload_n 2, 1) := by decide +kernel
theorem dX4_firstOfBest_19 : decode cX4_firstOfBest 19 = .ok (.iload_n 3, 1) := by decide +kernel
theorem dX4_firstOfBest_20 : decode cX4_firstOfBest 20 = .ok (.iload 4, 2) := by decide +kernel
theorem dX4_firstOfBest_22 : decode cX4_firstOfBest 22 = .ok (.invokevirtual 44, 3) := by decide +kernel
theorem dX4_firstOfBest_25 : decode cX4_firstOfBest 25 = .ok (.iaload, 1) := by decide +kernel
theorem dX4_firstOfBest_26 : decode cX4_firstOfBest 26 = .ok (.aload_n 0, 1) := by decide +kernel
theorem dX4_firstOfBest_27 : decode cX4_firstOfBest 27 = .ok (.getfield 9, 3) := by decide +kernel
theorem dX4_firstOfBest_30 : decode cX4_firstOfBest 30 = .ok (.iload_n 2, 1) := by decide +kernel
theorem dX4_firstOfBest_31 : decode cX4_firstOfBest 31 = .ok (.bipush 64, 2) := by decide +kernel
theorem dX4_firstOfBest_33 : decode cX4_firstOfBest 33 = .ok (.imul, 1) := by decide +kernel
theorem dX4_firstOfBest_34 : decode cX4_firstOfBest 34 = .ok (.iload_n 3, 1) := by decide +kernel
theorem dX4_firstOfBest_35 : decode cX4_firstOfBest 35 = .ok (.iadd, 1) := by decide +kernel
theorem dX4_firstOfBest_36 : decode cX4_firstOfBest 36 = .ok (.iaload, 1) := by decide +kernel
theorem dX4_firstOfBest_37 : decode cX4_firstOfBest 37 = .ok (.if_icmp .ne 6, 3) := by decide +kernel
theorem dX4_firstOfBest_40 : decode cX4_firstOfBest 40 = .ok (.iload 4, 2) := by decide +kernel
theorem dX4_firstOfBest_42 : decode cX4_firstOfBest 42 = .ok (.ireturn, 1) := by decide +kernel
theorem dX4_firstOfBest_43 : decode cX4_firstOfBest 43 = .ok (.iinc 4 1, 3) := by decide +kernel
theorem dX4_firstOfBest_46 : decode cX4_firstOfBest 46 = .ok (.goto (-43), 3) := by decide +kernel
theorem dX4_firstOfBest_49 : decode cX4_firstOfBest 49 = .ok (.iconst (-1), 1) := by decide +kernel
theorem dX4_firstOfBest_50 : decode cX4_firstOfBest 50 = .ok (.ireturn, 1) := by decide +kernel
theorem dX5_init_0 : decode cX5_init 0 = .ok (.aload_n 0, 1) := by decide +kernel
theorem dX5_init_1 : decode cX5_init 1 = .ok (.invokespecial 3, 3) := by decide +kernel
theorem dX5_init_4 : decode cX5_init 4 = .ok (.aload_n 0, 1) := by decide +kernel
theorem dX5_init_5 : decode cX5_init 5 = .ok (.iconst 0, 1) := by decide +kernel
theorem dX5_init_6 : decode cX5_init 6 = .ok (.putfield 9, 3) := by decide +kernel
theorem dX5_init_9 : decode cX5_init 9 = .ok (.aload_n 0, 1) := by decide +kernel
theorem dX5_init_10 : decode cX5_init 10 = .ok (.iconst (-1), 1) := by decide +kernel
theorem dX5_init_11 : decode cX5_init 11 = .ok (.putfield 15, 3) := by decide +kernel
theorem dX5_init_14 : decode cX5_init 14 = .ok (.aload_n 0, 1) := by decide +kernel
theorem dX5_init_15 : decode cX5_init 15 = .ok (.iconst 0, 1) := by decide +kernel
theorem dX5_init_16 : decode cX5_init 16 = .ok (.putfield 18, 3) := by decide +kernel
theorem dX5_init_19 : decode cX5_init 19 = .ok (.aload_n 0, 1) := by decide +kernel
theorem dX5_init_20 : decode cX5_init 20 = .ok (.iconst 0, 1) := by decide +kernel
theorem dX5_init_21 : decode cX5_init 21 = .ok (.putfield 21, 3) := by decide +kernel
theorem dX5_init_24 : decode cX5_init 24 = .ok (.aload_n 0, 1) := by decide +kernel
theorem dX5_init_25 : decode cX5_init 25 = .ok (.iconst 0, 1) := by decide +kernel
theorem dX5_init_26 : decode cX5_init 26 = .ok (.putfield 24, 3) := by decide +kernel
theorem dX5_init_29 : decode cX5_init 29 = .ok (.aload_n 0, 1) := by decide +kernel
theorem dX5_init_30 : decode cX5_init 30 = .ok (.iconst 0, 1) := by decide +kernel
theorem dX5_init_31 : decode cX5_init 31 = .ok (.putfield 27, 3) := by decide +kernel
theorem dX5_init_34 : decode cX5_init 34 = .ok (.aload_n 0, 1) := by decide +kernel
theorem dX5_init_35 : decode cX5_init 35 = .ok (.aload_n 1, 1) := by decide +kernel
theorem dX5_init_36 : decode cX5_init 36 = .ok (.putfield 30, 3) := by decide +kernel
theorem dX5_init_39 : decode cX5_init 39 = .ok (.return_, 1) := by decide +kernel
set_option maxRecDepth 20000 in
theorem ggX5_read_X6_clear : GoodIn wsX5_read wsX6_clear := goodIn_r _ [8, 9, 10, 11, 12, 13, 14, 15, 16, 17, 18, 19, 20, 21, 22, 23, 24, 153, 154, 155, 156, 157, 158, 159, 160, 161, 162, 163, 164, 165, 166, 167, 168, 169, 170, 171, 172, 173, 174, 175, 176, 177, 178] (by decide +kernel) (by decide +kernel)
set_option maxRecDepth 20000 in
theorem gX5_read_X6_clear_n34 : GoodIn wsX5_read (wsX6_clear) := ggX5_read_X6_clear
set_option maxRecDepth 20000 in
theorem ggX5_read_X5_step : GoodIn wsX5_read wsX5_step := goodIn_r _ [29, 1, 3, 30, 31, 4, 32, 33, 34, 35, 36, 37, 38, 39, 40, 41, 42, 43, 44, 28, 45, 46, 47, 48, 146, 147, 148, 149, 150, 151, 152, 179, 180] (by decide +kernel) (by decide +kernel)
set_option maxRecDepth 20000 in
theorem gX5_read_X5_step : GoodIn wsX5_read (wsV RX5 39 RX5 yX5_step wsX5_step) := goodIn_app (goodIn_of _ (by decide +kernel)) ggX5_read_X5_step
set_option maxRecDepth 20000 in
theorem ggX5_read_X5_line : GoodIn wsX5_read wsX5_line := goodIn_r _ [52, 53, 54, 55, 28, 56, 57, 58, 59, 60, 61, 62, 63, 64, 4, 3, 30, 31, 65, 66, 67, 68, 69, 70, 71, 72, 73, 74, 75, 76, 37, 38, 39, 40, 41, 42, 77, 78, 79, 80, 81, 82, 83, 84, 85, 86, 87, 88, 89, 90, 91, 92, 93, 94, 95, 96, 97, 98, 99, 100, 101, 102, 103, 104, 105, 106, 107, 108, 109, 110, 111, 112, 113, 114, 115, 116, 117, 1, 2, 25, 26, 27, 29, 32, 33, 34, 35, 36, 43, 44, 45, 46, 47, 48, 118, 119, 120, 121, 122, 123, 124, 125, 126, 127, 128, 129, 130, 131, 132, 133, 134, 135, 136, 137, 138, 139, 140, 141, 142, 143, 144, 145, 153, 154, 155, 156, 157, 158, 159, 160, 161, 162, 163, 164, 165, 166, 167, 168, 169, 170, 146, 147, 148, 149, 150, 151, 152, 179, 180, 171, 172, 173, 174] (by decide +kernel) (by decide +kernel)
set_option maxRecDepth 20000 in
theorem gX5_read_X5_line : GoodIn wsX5_read (wsV RX5 42 RX5 yX5_line wsX5_line) := goodIn_app (goodIn_of _ (by decide +kernel)) ggX5_read_X5_line
theorem dX5_read_0 : decode cX5_read 0 = .ok (.aload_n 0, 1) := by decide +kernel
theorem dX5_read_1 : decode cX5_read 1 = .ok (.iconst 0, 1) := by decide +kernel
theorem dX5_read_2 : decode cX5_read 2 = .ok (.putfield 9, 3) := by decide +kernel
theorem dX5_read_5 : decode cX5_read 5 = .ok (.aload_n 0, 1) := by decide +kernel
theorem dX5_read_6 : decode cX5_read 6 = .ok (.iconst (-1), 1) := by decide +kernel
theorem dX5_read_7 : decode cX5_read 7 = .ok (.putfield 15, 3) := by decide +kernel
theorem dX5_read_10 : decode cX5_read 10 = .ok (.aload_n 0, 1) := by decide +kernel
theorem dX5_read_11 : decode cX5_read 11 = .ok (.iconst 0, 1) := by decide +kernel
theorem dX5_read_12 : decode cX5_read 12 = .ok (.putfield 24, 3) := by decide +kernel
theorem dX5_read_15 : decode cX5_read 15 = .ok (.aload_n 1, 1) := by decide +kernel
theorem dX5_read_16 : decode cX5_read 16 = .ok (.invokevirtual 34, 3) := by decide +kernel
theorem dX5_read_19 : decode cX5_read 19 = .ok (.aload_n 0, 1) := by decide +kernel
theorem dX5_read_20 : decode cX5_read 20 = .ok (.invokevirtual 39, 3) := by decide +kernel
theorem dX5_read_23 : decode cX5_read 23 = .ok (.iconst 0, 1) := by decide +kernel
theorem dX5_read_24 : decode cX5_read 24 = .ok (.istore_n 2, 1) := by decide +kernel
theorem dX5_read_25 : decode cX5_read 25 = .ok (.iload_n 2, 1) := by decide +kernel
theorem dX5_read_26 : decode cX5_read 26 = .ok (.sipush 900, 3) := by decide +kernel
theorem dX5_read_29 : decode cX5_read 29 = .ok (.if_icmp .ge 28, 3) := by decide +kernel
theorem dX5_read_32 : decode cX5_read 32 = .ok (.aload_n 0, 1) := by decide +kernel
theorem dX5_read_33 : decode cX5_read 33 = .ok (.getfield 9, 3) := by decide +kernel
theorem dX5_read_36 : decode cX5_read 36 = .ok (.ifCond .ne 21, 3) := by decide +kernel
theorem dX5_read_39 : decode cX5_read 39 = .ok (.aload_n 0, 1) := by decide +kernel
theorem dX5_read_40 : decode cX5_read 40 = .ok (.getfield 18, 3) := by decide +kernel
theorem dX5_read_43 : decode cX5_read 43 = .ok (.ifCond .eq 14, 3) := by decide +kernel
theorem dX5_read_46 : decode cX5_read 46 = .ok (.aload_n 0, 1) := by decide +kernel
theorem dX5_read_47 : decode cX5_read 47 = .ok (.aload_n 1, 1) := by decide +kernel
theorem dX5_read_48 : decode cX5_read 48 = .ok (.invokevirtual 42, 3) := by decide +kernel
theorem dX5_read_51 : decode cX5_read 51 = .ok (.iinc 2 1, 3) := by decide +kernel
theorem dX5_read_54 : decode cX5_read 54 = .ok (.goto (-29), 3) := by decide +kernel
theorem dX5_read_57 : decode cX5_read 57 = .ok (.return_, 1) := by decide +kernel
set_option maxRecDepth 20000 in
theorem ggX5_line_X5_dukedomLine : GoodIn wsX5_line wsX5_dukedomLine := goodIn_r _ [5, 6, 7, 8, 4, 9, 10, 11, 12, 13, 14, 15, 16, 17, 18, 19, 20, 21, 22, 23, 24, 25, 26, 27, 28, 29, 30, 31, 32, 33, 34, 35, 36, 37, 38, 39, 40, 41, 42, 43, 44, 45, 46, 47, 48, 49, 50, 51, 52, 53, 54, 55, 56, 57, 58, 59, 60, 61, 62, 63, 64, 65, 66, 67, 68, 69, 70, 71, 72, 73, 74, 75, 76, 77, 78, 79, 80, 81, 82, 83, 84, 85, 86, 87, 88, 89, 90, 91, 92, 93, 94, 95, 96, 97, 122, 123, 124, 125, 126, 127, 128, 129, 130, 131, 132, 133, 134, 135, 136, 137, 138, 139, 140, 141, 142, 143, 144, 145, 146, 147, 148] (by decide +kernel) (by decide +kernel)
set_option maxRecDepth 20000 in
theorem gX5_line_X5_dukedomLine : GoodIn wsX5_line (wsV RX5 49 RX5 yX5_dukedomLine wsX5_dukedomLine) := goodIn_app (goodIn_of _ (by decide +kernel)) ggX5_line_X5_dukedomLine
set_option maxRecDepth 20000 in
theorem ggX5_line_X5_isWord : GoodIn wsX5_line wsX5_isWord := goodIn_r _ [13, 14, 15, 16, 17, 18, 19, 20, 21, 22, 23, 24, 25, 26, 27, 28, 29, 30, 31, 32, 33, 34, 35, 36, 37, 38, 39, 40, 41, 42, 43, 44, 45, 46, 47, 48, 49, 50, 51, 52, 53, 54, 55, 56, 57, 58, 59, 60, 61, 62, 63, 64, 65, 66, 67, 68, 69, 70, 71, 72, 140, 141, 142, 143, 144, 145, 146, 147, 148] (by decide +kernel) (by decide +kernel)
set_option maxRecDepth 20000 in
theorem gX5_line_X5_isWord : GoodIn wsX5_line (wsV RX5 54 RX5 yX5_isWord wsX5_isWord) := goodIn_app (goodIn_of _ (by decide +kernel)) ggX5_line_X5_isWord
set_option maxRecDepth 20000 in
theorem ggX5_line_X5_rankLine : GoodIn wsX5_line wsX5_rankLine := goodIn_r _ [101, 73, 74, 75, 4, 76, 77, 16, 78, 6, 7, 8, 9, 10, 11, 12, 13, 14, 15, 17, 18, 19, 20, 21, 22, 23, 24, 25, 26, 27, 28, 29, 30, 31, 32, 33, 34, 35, 36, 37, 38, 39, 40, 41, 42, 43, 44, 45, 46, 47, 48, 49, 50, 51, 52, 53, 54, 55, 56, 57, 58, 59, 60, 61, 62, 63, 64, 65, 66, 67, 68, 69, 70, 71, 72, 79, 80, 81, 82, 83, 84, 85, 86, 87, 88, 89, 90, 91, 92, 93, 94, 95, 96, 97, 122, 123, 124, 125, 126, 127, 128, 129, 130, 131, 132, 133, 134, 135, 136, 137, 138, 139, 140, 141, 142, 143, 144, 145, 146, 147, 148] (by decide +kernel) (by decide +kernel)
set_option maxRecDepth 20000 in
theorem gX5_line_X5_rankLine : GoodIn wsX5_line (wsV RX5 58 RX5 yX5_rankLine wsX5_rankLine) := goodIn_app (goodIn_of _ (by decide +kernel)) ggX5_line_X5_rankLine
set_option maxRecDepth 20000 in
theorem ggX5_line_X5_plankLine : GoodIn wsX5_line wsX5_plankLine := goodIn_r _ [105, 73, 74, 75, 4, 76, 77, 16, 78, 6, 7, 8, 9, 10, 11, 12, 13, 14, 15, 17, 18, 19, 20, 21, 22, 23, 24, 25, 26, 27, 28, 29, 30, 31, 32, 33, 34, 35, 36, 37, 38, 39, 40, 41, 42, 43, 44, 45, 46, 47, 48, 49, 50, 51, 52, 53, 54, 55, 56, 57, 58, 59, 60, 61, 62, 63, 64, 65, 66, 67, 68, 69, 70, 71, 72, 79, 80, 81, 82, 83, 84, 85, 86, 87, 88, 89, 90, 91, 92, 93, 94, 95, 96, 97, 122, 123, 124, 125, 126, 127, 128, 129, 130, 131, 132, 133, 134, 135, 136, 137, 138, 139, 140, 141, 142, 143, 144, 145, 146, 147, 148] (by decide +kernel) (by decide +kernel)
set_option maxRecDepth 20000 in
theorem gX5_line_X5_plankLine : GoodIn wsX5_line (wsV RX5 63 RX5 yX5_plankLine wsX5_plankLine) := goodIn_app (goodIn_of _ (by decide +kernel)) ggX5_line_X5_plankLine
set_option maxRecDepth 20000 in
theorem ggX5_line_X5_rainLine : GoodIn wsX5_line wsX5_rainLine := goodIn_r _ [109, 73, 74, 75, 4, 76, 77, 16, 78, 6, 7, 8, 9, 10, 11, 12, 13, 14, 15, 17, 18, 19, 20, 21, 22, 23, 24, 25, 26, 27, 28, 29, 30, 31, 32, 33, 34, 35, 36, 37, 38, 39, 40, 41, 42, 43, 44, 45, 46, 47, 48, 49, 50, 51, 52, 53, 54, 55, 56, 57, 58, 59, 60, 61, 62, 63, 64, 65, 66, 67, 68, 69, 70, 71, 72, 79, 80, 81, 82, 83, 84, 85, 86, 87, 88, 89, 90, 91, 92, 93, 94, 95, 96, 97, 122, 123, 124, 125, 126, 127, 128, 129, 130, 131, 132, 133, 134, 135, 136, 137, 138, 139, 140, 141, 142, 143, 144, 145, 146, 147, 148] (by decide +kernel) (by decide +kernel)
set_option maxRecDepth 20000 in
theorem gX5_line_X5_rainLine : GoodIn wsX5_line (wsV RX5 68 RX5 yX5_rainLine wsX5_rainLine) := goodIn_app (goodIn_of _ (by decide +kernel)) ggX5_line_X5_rainLine
set_option maxRecDepth 20000 in
theorem ggX5_line_X5_frostLine : GoodIn wsX5_line wsX5_frostLine := goodIn_r _ [113, 73, 74, 75, 4, 76, 77, 16, 78, 6, 7, 8, 9, 10, 11, 12, 13, 14, 15, 17, 18, 19, 20, 21, 22, 23, 24, 25, 26, 27, 28, 29, 30, 31, 32, 33, 34, 35, 36, 37, 38, 39, 40, 41, 42, 43, 44, 45, 46, 47, 48, 49, 50, 51, 52, 53, 54, 55, 56, 57, 58, 59, 60, 61, 62, 63, 64, 65, 66, 67, 68, 69, 70, 71, 72, 79, 80, 81, 82, 83, 84, 85, 86, 87, 88, 89, 90, 91, 92, 93, 94, 95, 96, 97, 122, 123, 124, 125, 126, 127, 128, 129, 130, 131, 132, 133, 134, 135, 136, 137, 138, 139, 140, 141, 142, 143, 144, 145, 146, 147, 148] (by decide +kernel) (by decide +kernel)
set_option maxRecDepth 20000 in
theorem gX5_line_X5_frostLine : GoodIn wsX5_line (wsV RX5 73 RX5 yX5_frostLine wsX5_frostLine) := goodIn_app (goodIn_of _ (by decide +kernel)) ggX5_line_X5_frostLine
set_option maxRecDepth 20000 in
theorem ggX5_line_X5_inviteLine : GoodIn wsX5_line wsX5_inviteLine := goodIn_r _ [117, 77, 14, 87, 73, 74, 75, 4, 76, 16, 78, 6, 7, 8, 9, 10, 11, 12, 13, 15, 17, 18, 19, 20, 21, 22, 23, 24, 25, 26, 27, 28, 29, 30, 31, 32, 33, 34, 35, 36, 37, 38, 39, 40, 41, 42, 43, 44, 45, 46, 47, 48, 49, 50, 51, 52, 53, 54, 55, 56, 57, 58, 59, 60, 61, 62, 63, 64, 65, 66, 67, 68, 69, 70, 71, 72, 79, 80, 81, 82, 83, 84, 85, 86, 88, 89, 90, 91, 92, 93, 94, 95, 96, 97, 149, 150, 151, 152, 122, 123, 124, 125, 126, 127, 128, 129, 130, 131, 132, 133, 134, 135, 136, 137, 138, 139, 140, 141, 142, 143, 144, 145, 146, 147, 148] (by decide +kernel) (by decide +kernel)
set_option maxRecDepth 20000 in
theorem gX5_line_X5_inviteLine : GoodIn wsX5_line (wsV RX5 82 RX5 yX5_inviteLine wsX5_inviteLine) := goodIn_app (goodIn_of _ (by decide +kernel)) ggX5_line_X5_inviteLine
set_option maxRecDepth 20000 in
theorem ggX5_line_X5_fail : GoodIn wsX5_line wsX5_fail := goodIn_r _ [76, 77, 16, 78, 140, 141, 142, 143, 144, 145, 146] (by decide +kernel) (by decide +kernel)
set_option maxRecDepth 20000 in
theorem gX5_line_X5_fail : GoodIn wsX5_line (wsV RX5 86 RX5 yX5_fail wsX5_fail) := goodIn_app (goodIn_of _ (by decide +kernel)) ggX5_line_X5_fail
set_option maxRecDepth 20000 in
theorem ggX5_line_X5_sign : GoodIn wsX5_line wsX5_sign := goodIn_r _ [121, 14, 73, 74, 75, 4, 76, 77, 16, 78, 79, 80, 81, 82, 15, 17, 83, 84, 85, 86, 87, 30, 31, 32, 33, 34, 35, 88, 89, 90, 91, 92, 93, 140, 141, 142, 143, 144, 145, 146, 147, 148] (by decide +kernel) (by decide +kernel)
set_option maxRecDepth 20000 in
theorem gX5_line_X5_sign : GoodIn wsX5_line (wsV RX5 90 RX5 yX5_sign wsX5_sign) := goodIn_app (goodIn_of _ (by decide +kernel)) ggX5_line_X5_sign
theorem dX5_line_0 : decode cX5_line 0 = .ok (.aload_n 1, 1) := by decide +kernel
theorem dX5_line_1 : decode cX5_line 1 = .ok (.getfield 46, 3) := by decide +kernel
theorem dX5_line_4 : decode cX5_line 4 = .ok (.ifCond .ne 11, 3) := by decide +kernel
theorem dX5_line_7 : decode cX5_line 7 = .ok (.aload_n 0, 1) := by decide +kernel
theorem dX5_line_8 : decode cX5_line 8 = .ok (.aload_n 1, 1) := by decide +kernel
theorem dX5_line_9 : decode cX5_line 9 = .ok (.invokevirtual 49, 3) := by decide +kernel
theorem dX5_line_12 : decode cX5_line 12 = .ok (.goto 97, 3) := by decide +kernel
theorem dX5_line_15 : decode cX5_line 15 = .ok (.aload_n 0, 1) := by decide +kernel
theorem dX5_line_16 : decode cX5_line 16 = .ok (.ldc 52, 2) := by decide +kernel
theorem dX5_line_18 : decode cX5_line 18 = .ok (.invokevirtual 54, 3) := by decide +kernel
theorem dX5_line_21 : decode cX5_line 21 = .ok (.ifCond .eq 11, 3) := by decide +kernel
theorem dX5_line_24 : decode cX5_line 24 = .ok (.aload_n 0, 1) := by decide +kernel
theorem dX5_line_25 : decode cX5_line 25 = .ok (.aload_n 1, 1) := by decide +kernel
theorem dX5_line_26 : decode cX5_line 26 = .ok (.invokevirtual 58, 3) := by decide +kernel
theorem dX5_line_29 : decode cX5_line 29 = .ok (.goto 80, 3) := by decide +kernel
theorem dX5_line_32 : decode cX5_line 32 = .ok (.aload_n 0, 1) := by decide +kernel
theorem dX5_line_33 : decode cX5_line 33 = .ok (.ldc 61, 2) := by decide +kernel
theorem dX5_line_35 : decode cX5_line 35 = .ok (.invokevirtual 54, 3) := by decide +kernel
theorem dX5_line_38 : decode cX5_line 38 = .ok (.ifCond .eq 11, 3) := by decide +kernel
theorem dX5_line_41 : decode cX5_line 41 = .ok (.aload_n 0, 1) := by decide +kernel
theorem dX5_line_42 : decode cX5_line 42 = .ok (.aload_n 1, 1) := by decide +kernel
theorem dX5_line_43 : decode cX5_line 43 = .ok (.invokevirtual 63, 3) := by decide +kernel
theorem dX5_line_46 : decode cX5_line 46 = .ok (.goto 63, 3) := by decide +kernel
theorem dX5_line_49 : decode cX5_line 49 = .ok (.aload_n 0, 1) := by decide +kernel
theorem dX5_line_50 : decode cX5_line 50 = .ok (.ldc 66, 2) := by decide +kernel
theorem dX5_line_52 : decode cX5_line 52 = .ok (.invokevirtual 54, 3) := by decide +kernel
theorem dX5_line_55 : decode cX5_line 55 = .ok (.ifCond .eq 11, 3) := by decide +kernel
theorem dX5_line_58 : decode cX5_line 58 = .ok (.aload_n 0, 1) := by decide +kernel
theorem dX5_line_59 : decode cX5_line 59 = .ok (.aload_n 1, 1) := by decide +kernel
theorem dX5_line_60 : decode cX5_line 60 = .ok (.invokevirtual 68, 3) := by decide +kernel
theorem dX5_line_63 : decode cX5_line 63 = .ok (.goto 46, 3) := by decide +kernel
theorem dX5_line_66 : decode cX5_line 66 = .ok (.aload_n 0, 1) := by decide +kernel
theorem dX5_line_67 : decode cX5_line 67 = .ok (.ldc 71, 2) := by decide +kernel
theorem dX5_line_69 : decode cX5_line 69 = .ok (.invokevirtual 54, 3) := by decide +kernel
theorem dX5_line_72 : decode cX5_line 72 = .ok (.ifCond .eq 11, 3) := by decide +kernel
theorem dX5_line_75 : decode cX5_line 75 = .ok (.aload_n 0, 1) := by decide +kernel
theorem dX5_line_76 : decode cX5_line 76 = .ok (.aload_n 1, 1) := by decide +kernel
theorem dX5_line_77 : decode cX5_line 77 = .ok (.invokevirtual 73, 3) := by decide +kernel
theorem dX5_line_80 : decode cX5_line 80 = .ok (.goto 29, 3) := by decide +kernel
theorem dX5_line_83 : decode cX5_line 83 = .ok (.aload_n 0, 1) := by decide +kernel
theorem dX5_line_84 : decode cX5_line 84 = .ok (.ldc 76, 2) := by decide +kernel
theorem dX5_line_86 : decode cX5_line 86 = .ok (.invokevirtual 54, 3) := by decide +kernel
theorem dX5_line_89 : decode cX5_line 89 = .ok (.ifCond .eq 15, 3) := by decide +kernel
theorem dX5_line_92 : decode cX5_line 92 = .ok (.aload_n 0, 1) := by decide +kernel
theorem dX5_line_93 : decode cX5_line 93 = .ok (.aload_n 1, 1) := by decide +kernel
theorem dX5_line_94 : decode cX5_line 94 = .ok (.aload_n 1, 1) := by decide +kernel
theorem dX5_line_95 : decode cX5_line 95 = .ok (.getfield 78, 3) := by decide +kernel
theorem dX5_line_98 : decode cX5_line 98 = .ok (.invokevirtual 82, 3) := by decide +kernel
theorem dX5_line_101 : decode cX5_line 101 = .ok (.goto 8, 3) := by decide +kernel
theorem dX5_line_104 : decode cX5_line 104 = .ok (.aload_n 0, 1) := by decide +kernel
theorem dX5_line_105 : decode cX5_line 105 = .ok (.iconst 1, 1) := by decide +kernel
theorem dX5_line_106 : decode cX5_line 106 = .ok (.invokevirtual 86, 3) := by decide +kernel
theorem dX5_line_109 : decode cX5_line 109 = .ok (.aload_n 0, 1) := by decide +kernel
theorem dX5_line_110 : decode cX5_line 110 = .ok (.invokevirtual 90, 3) := by decide +kernel
theorem dX5_line_113 : decode cX5_line 113 = .ok (.aload_n 1, 1) := by decide +kernel
theorem dX5_line_114 : decode cX5_line 114 = .ok (.dup, 1) := by decide +kernel
theorem dX5_line_115 : decode cX5_line 115 = .ok (.getfield 46, 3) := by decide +kernel
theorem dX5_line_118 : decode cX5_line 118 = .ok (.iconst 1, 1) := by decide +kernel
theorem dX5_line_119 : decode cX5_line 119 = .ok (.iadd, 1) := by decide +kernel
theorem dX5_line_120 : decode cX5_line 120 = .ok (.putfield 46, 3) := by decide +kernel
theorem dX5_line_123 : decode cX5_line 123 = .ok (.return_, 1) := by decide +kernel
set_option maxRecDepth 20000 in
theorem ggX5_dukedomLine_X5_word : GoodIn wsX5_dukedomLine wsX5_word := goodIn_r _ [5, 6, 7, 8, 4, 9, 10, 11, 12, 13, 14, 15, 16, 17, 18, 19, 20, 21, 22, 23, 24, 25, 26, 27, 28, 29, 30, 31, 32, 33, 34, 35, 36, 37, 38, 39, 40, 41, 42, 43, 44, 45, 46, 47, 48, 49, 50, 51, 52, 53, 54, 55, 56, 57, 58, 59, 60, 61, 62, 63, 64, 65, 66, 67, 68, 69, 70, 71, 72, 73, 74, 75, 76, 77, 78, 79, 80, 81, 82, 83, 84, 85, 86, 87, 88, 89, 112, 113, 114, 115, 116, 117, 118, 119, 120] (by decide +kernel) (by decide +kernel)
set_option maxRecDepth 20000 in
theorem gX5_dukedomLine_X5_word : GoodIn wsX5_dukedomLine (wsV RX5 95 RX5 yX5_word wsX5_word) := goodIn_app (goodIn_of _ (by decide +kernel)) ggX5_dukedomLine_X5_word
set_option maxRecDepth 20000 in
theorem ggX5_dukedomLine_X5_number : GoodIn wsX5_dukedomLine wsX5_number := goodIn_r _ [93, 83, 10, 73, 69, 70, 71, 4, 72, 12, 74, 75, 76, 77, 78, 11, 13, 79, 80, 81, 82, 26, 27, 28, 29, 30, 31, 84, 85, 86, 87, 88, 89, 112, 113, 114, 115, 116, 117, 118, 119, 120] (by decide +kernel) (by decide +kernel)
set_option maxRecDepth 20000 in
theorem gX5_dukedomLine_X5_number : GoodIn wsX5_dukedomLine (wsV RX5 101 RX5 yX5_number wsX5_number) := goodIn_app (goodIn_of _ (by decide +kernel)) ggX5_dukedomLine_X5_number
theorem dX5_dukedomLine_0 : decode cX5_dukedomLine 0 = .ok (.aload_n 0, 1) := by decide +kernel
theorem dX5_dukedomLine_1 : decode cX5_dukedomLine 1 = .ok (.ldc 93, 2) := by decide +kernel
theorem dX5_dukedomLine_3 : decode cX5_dukedomLine 3 = .ok (.invokevirtual 95, 3) := by decide +kernel
theorem dX5_dukedomLine_6 : decode cX5_dukedomLine 6 = .ok (.aload_n 0, 1) := by decide +kernel
theorem dX5_dukedomLine_7 : decode cX5_dukedomLine 7 = .ok (.ldc 99, 2) := by decide +kernel
theorem dX5_dukedomLine_9 : decode cX5_dukedomLine 9 = .ok (.invokevirtual 95, 3) := by decide +kernel
theorem dX5_dukedomLine_12 : decode cX5_dukedomLine 12 = .ok (.aload_n 1, 1) := by decide +kernel
theorem dX5_dukedomLine_13 : decode cX5_dukedomLine 13 = .ok (.aload_n 0, 1) := by decide +kernel
theorem dX5_dukedomLine_14 : decode cX5_dukedomLine 14 = .ok (.iconst 1, 1) := by decide +kernel
theorem dX5_dukedomLine_15 : decode cX5_dukedomLine 15 = .ok (.bipush 16, 2) := by decide +kernel
theorem dX5_dukedomLine_17 : decode cX5_dukedomLine 17 = .ok (.invokevirtual 101, 3) := by decide +kernel
theorem dX5_dukedomLine_20 : decode cX5_dukedomLine 20 = .ok (.putfield 105, 3) := by decide +kernel
theorem dX5_dukedomLine_23 : decode cX5_dukedomLine 23 = .ok (.aload_n 0, 1) := by decide +kernel
theorem dX5_dukedomLine_24 : decode cX5_dukedomLine 24 = .ok (.ldc 107, 2) := by decide +kernel
theorem dX5_dukedomLine_26 : decode cX5_dukedomLine 26 = .ok (.invokevirtual 95, 3) := by decide +kernel
theorem dX5_dukedomLine_29 : decode cX5_dukedomLine 29 = .ok (.aload_n 1, 1) := by decide +kernel
theorem dX5_dukedomLine_30 : decode cX5_dukedomLine 30 = .ok (.aload_n 0, 1) := by decide +kernel
theorem dX5_dukedomLine_31 : decode cX5_dukedomLine 31 = .ok (.iconst 0, 1) := by decide +kernel
theorem dX5_dukedomLine_32 : decode cX5_dukedomLine 32 = .ok (.iconst 3, 1) := by decide +kernel
theorem dX5_dukedomLine_33 : decode cX5_dukedomLine 33 = .ok (.invokevirtual 101, 3) := by decide +kernel
theorem dX5_dukedomLine_36 : decode cX5_dukedomLine 36 = .ok (.putfield 109, 3) := by decide +kernel
theorem dX5_dukedomLine_39 : decode cX5_dukedomLine 39 = .ok (.aload_n 0, 1) := by decide +kernel
theorem dX5_dukedomLine_40 : decode cX5_dukedomLine 40 = .ok (.ldc 111, 2) := by decide +kernel
theorem dX5_dukedomLine_42 : decode cX5_dukedomLine 42 = .ok (.invokevirtual 95, 3) := by decide +kernel
theorem dX5_dukedomLine_45 : decode cX5_dukedomLine 45 = .ok (.aload_n 1, 1) := by decide +kernel
theorem dX5_dukedomLine_46 : decode cX5_dukedomLine 46 = .ok (.aload_n 0, 1) := by decide +kernel
theorem dX5_dukedomLine_47 : decode cX5_dukedomLine 47 = .ok (.iconst 0, 1) := by decide +kernel
theorem dX5_dukedomLine_48 : decode cX5_dukedomLine 48 = .ok (.bipush 10, 2) := by decide +kernel
theorem dX5_dukedomLine_50 : decode cX5_dukedomLine 50 = .ok (.invokevirtual 101, 3) := by decide +kernel
theorem dX5_dukedomLine_53 : decode cX5_dukedomLine 53 = .ok (.putfield 113, 3) := by decide +kernel
theorem dX5_dukedomLine_56 : decode cX5_dukedomLine 56 = .ok (.return_, 1) := by decide +kernel
set_option maxRecDepth 20000 in
theorem ggX5_rankLine_X5_fail : GoodIn wsX5_rankLine wsX5_fail := goodIn_r _ [5, 6, 7, 8, 112, 113, 114, 115, 116, 117, 118] (by decide +kernel) (by decide +kernel)
set_option maxRecDepth 20000 in
theorem gX5_rankLine_X5_fail : GoodIn wsX5_rankLine (wsV RX5 86 RX5 yX5_fail wsX5_fail) := goodIn_app (goodIn_of _ (by decide +kernel)) ggX5_rankLine_X5_fail
set_option maxRecDepth 20000 in
theorem ggX5_rankLine_X5_word : GoodIn wsX5_rankLine wsX5_word := goodIn_r _ [12, 13, 14, 15, 4, 16, 17, 18, 7, 19, 20, 21, 22, 23, 24, 25, 26, 27, 28, 29, 30, 31, 32, 33, 34, 35, 36, 37, 38, 39, 40, 41, 42, 43, 44, 45, 46, 47, 48, 49, 50, 51, 52, 53, 54, 55, 56, 57, 58, 59, 60, 61, 62, 63, 64, 65, 66, 67, 68, 69, 70, 71, 72, 73, 74, 1, 2, 3, 5, 6, 8, 75, 76, 77, 78, 79, 80, 81, 82, 83, 84, 85, 86, 87, 88, 89, 112, 113, 114, 115, 116, 117, 118, 119, 120] (by decide +kernel) (by decide +kernel)
set_option maxRecDepth 20000 in
theorem gX5_rankLine_X5_word : GoodIn wsX5_rankLine (wsV RX5 95 RX5 yX5_word wsX5_word) := goodIn_app (goodIn_of _ (by decide +kernel)) ggX5_rankLine_X5_word
set_option maxRecDepth 20000 in
theorem ggX5_rankLine_X5_number : GoodIn wsX5_rankLine wsX5_number := goodIn_r _ [93, 83, 17, 6, 1, 2, 3, 4, 5, 7, 8, 75, 76, 77, 78, 18, 19, 79, 80, 81, 82, 32, 33, 34, 35, 36, 37, 84, 85, 86, 87, 88, 89, 112, 113, 114, 115, 116, 117, 118, 119, 120] (by decide +kernel) (by decide +kernel)
set_option maxRecDepth 20000 in
theorem gX5_rankLine_X5_number : GoodIn wsX5_rankLine (wsV RX5 101 RX5 yX5_number wsX5_number) := goodIn_app (goodIn_of _ (by decide +kernel)) ggX5_rankLine_X5_number
theorem dX5_rankLine_0 : decode cX5_rankLine 0 = .ok (.aload_n 1, 1) := by decide +kernel
theorem dX5_rankLine_1 : decode cX5_rankLine 1 = .ok (.getfield 115, 3) := by decide +kernel
theorem dX5_rankLine_4 : decode cX5_rankLine 4 = .ok (.bipush 6, 2) := by decide +kernel
theorem dX5_rankLine_6 : decode cX5_rankLine 6 = .ok (.if_icmp .lt 9, 3) := by decide +kernel
theorem dX5_rankLine_9 : decode cX5_rankLine 9 = .ok (.aload_n 0, 1) := by decide +kernel
theorem dX5_rankLine_10 : decode cX5_rankLine 10 = .ok (.iconst 3, 1) := by decide +kernel
theorem dX5_rankLine_11 : decode cX5_rankLine 11 = .ok (.invokevirtual 86, 3) := by decide +kernel
theorem dX5_rankLine_14 : decode cX5_rankLine 14 = .ok (.return_, 1) := by decide +kernel
theorem dX5_rankLine_15 : decode cX5_rankLine 15 = .ok (.aload_n 0, 1) := by decide +kernel
theorem dX5_rankLine_16 : decode cX5_rankLine 16 = .ok (.ldc 52, 2) := by decide +kernel
theorem dX5_rankLine_18 : decode cX5_rankLine 18 = .ok (.invokevirtual 95, 3) := by decide +kernel
theorem dX5_rankLine_21 : decode cX5_rankLine 21 = .ok (.aload_n 0, 1) := by decide +kernel
theorem dX5_rankLine_22 : decode cX5_rankLine 22 = .ok (.ldc 118, 2) := by decide +kernel
theorem dX5_rankLine_24 : decode cX5_rankLine 24 = .ok (.invokevirtual 95, 3) := by decide +kernel
theorem dX5_rankLine_27 : decode cX5_rankLine 27 = .ok (.aload_n 1, 1) := by decide +kernel
theorem dX5_rankLine_28 : decode cX5_rankLine 28 = .ok (.getfield 120, 3) := by decide +kernel
theorem dX5_rankLine_31 : decode cX5_rankLine 31 = .ok (.aload_n 1, 1) := by decide +kernel
theorem dX5_rankLine_32 : decode cX5_rankLine 32 = .ok (.getfield 115, 3) := by decide +kernel
theorem dX5_rankLine_35 : decode cX5_rankLine 35 = .ok (.aload_n 0, 1) := by decide +kernel
theorem dX5_rankLine_36 : decode cX5_rankLine 36 = .ok (.iconst 1, 1) := by decide +kernel
theorem dX5_rankLine_37 : decode cX5_rankLine 37 = .ok (.bipush 9, 2) := by decide +kernel
theorem dX5_rankLine_39 : decode cX5_rankLine 39 = .ok (.invokevirtual 101, 3) := by decide +kernel
theorem dX5_rankLine_42 : decode cX5_rankLine 42 = .ok (.iastore, 1) := by decide +kernel
theorem dX5_rankLine_43 : decode cX5_rankLine 43 = .ok (.aload_n 0, 1) := by decide +kernel
theorem dX5_rankLine_44 : decode cX5_rankLine 44 = .ok (.ldc 123, 2) := by decide +kernel
theorem dX5_rankLine_46 : decode cX5_rankLine 46 = .ok (.invokevirtual 95, 3) := by decide +kernel
theorem dX5_rankLine_49 : decode cX5_rankLine 49 = .ok (.aload_n 1, 1) := by decide +kernel
theorem dX5_rankLine_50 : decode cX5_rankLine 50 = .ok (.getfield 125, 3) := by decide +kernel
theorem dX5_rankLine_53 : decode cX5_rankLine 53 = .ok (.aload_n 1, 1) := by decide +kernel
theorem dX5_rankLine_54 : decode cX5_rankLine 54 = .ok (.getfield 115, 3) := by decide +kernel
theorem dX5_rankLine_57 : decode cX5_rankLine 57 = .ok (.aload_n 0, 1) := by decide +kernel
theorem dX5_rankLine_58 : decode cX5_rankLine 58 = .ok (.iconst 0, 1) := by decide +kernel
theorem dX5_rankLine_59 : decode cX5_rankLine 59 = .ok (.bipush 99, 2) := by decide +kernel
theorem dX5_rankLine_61 : decode cX5_rankLine 61 = .ok (.invokevirtual 101, 3) := by decide +kernel
theorem dX5_rankLine_64 : decode cX5_rankLine 64 = .ok (.iastore, 1) := by decide +kernel
theorem dX5_rankLine_65 : decode cX5_rankLine 65 = .ok (.aload_n 0, 1) := by decide +kernel
theorem dX5_rankLine_66 : decode cX5_rankLine 66 = .ok (.ldc 128, 2) := by decide +kernel
theorem dX5_rankLine_68 : decode cX5_rankLine 68 = .ok (.invokevirtual 95, 3) := by decide +kernel
theorem dX5_rankLine_71 : decode cX5_rankLine 71 = .ok (.aload_n 1, 1) := by decide +kernel
theorem dX5_rankLine_72 : decode cX5_rankLine 72 = .ok (.getfield 130, 3) := by decide +kernel
theorem dX5_rankLine_75 : decode cX5_rankLine 75 = .ok (.aload_n 1, 1) := by decide +kernel
theorem dX5_rankLine_76 : decode cX5_rankLine 76 = .ok (.getfield 115, 3) := by decide +kernel
theorem dX5_rankLine_79 : decode cX5_rankLine 79 = .ok (.aload_n 0, 1) := by decide +kernel
theorem dX5_rankLine_80 : decode cX5_rankLine 80 = .ok (.iconst 0, 1) := by decide +kernel
theorem dX5_rankLine_81 : decode cX5_rankLine 81 = .ok (.bipush 20, 2) := by decide +kernel
theorem dX5_rankLine_83 : decode cX5_rankLine 83 = .ok (.invokevirtual 101, 3) := by decide +kernel
theorem dX5_rankLine_86 : decode cX5_rankLine 86 = .ok (.iastore, 1) := by decide +kernel
theorem dX5_rankLine_87 : decode cX5_rankLine 87 = .ok (.aload_n 0, 1) := by decide +kernel
theorem dX5_rankLine_88 : decode cX5_rankLine 88 = .ok (.ldc 132, 2) := by decide +kernel
theorem dX5_rankLine_90 : decode cX5_rankLine 90 = .ok (.invokevirtual 95, 3) := by decide +kernel
theorem dX5_rankLine_93 : decode cX5_rankLine 93 = .ok (.aload_n 1, 1) := by decide +kernel
theorem dX5_rankLine_94 : decode cX5_rankLine 94 = .ok (.getfield 134, 3) := by decide +kernel
theorem dX5_rankLine_97 : decode cX5_rankLine 97 = .ok (.aload_n 1, 1) := by decide +kernel
theorem dX5_rankLine_98 : decode cX5_rankLine 98 = .ok (.getfield 115, 3) := by decide +kernel
theorem dX5_rankLine_101 : decode cX5_rankLine 101 = .ok (.aload_n 0, 1) := by decide +kernel
theorem dX5_rankLine_102 : decode cX5_rankLine 102 = .ok (.iconst 0, 1) := by decide +kernel
theorem dX5_rankLine_103 : decode cX5_rankLine 103 = .ok (.bipush 30, 2) := by decide +kernel
theorem dX5_rankLine_105 : decode cX5_rankLine 105 = .ok (.invokevirtual 101, 3) := by decide +kernel
theorem dX5_rankLine_108 : decode cX5_rankLine 108 = .ok (.iastore, 1) := by decide +kernel
theorem dX5_rankLine_109 : decode cX5_rankLine 109 = .ok (.aload_n 1, 1) := by decide +kernel
theorem dX5_rankLine_110 : decode cX5_rankLine 110 = .ok (.dup, 1) := by decide +kernel
theorem dX5_rankLine_111 : decode cX5_rankLine 111 = .ok (.getfield 115, 3) := by decide +kernel
theorem dX5_rankLine_114 : decode cX5_rankLine 114 = .ok (.iconst 1, 1) := by decide +kernel
theorem dX5_rankLine_115 : decode cX5_rankLine 115 = .ok (.iadd, 1) := by decide +kernel
theorem dX5_rankLine_116 : decode cX5_rankLine 116 = .ok (.putfield 115, 3) := by decide +kernel
theorem dX5_rankLine_119 : decode cX5_rankLine 119 = .ok (.return_, 1) := by decide +kernel
set_option maxRecDepth 20000 in
theorem ggX5_plankLine_X5_fail : GoodIn wsX5_plankLine wsX5_fail := goodIn_r _ [5, 6, 7, 8, 112, 113, 114, 115, 116, 117, 118] (by decide +kernel) (by decide +kernel)
set_option maxRecDepth 20000 in
theorem gX5_plankLine_X5_fail : GoodIn wsX5_plankLine (wsV RX5 86 RX5 yX5_fail wsX5_fail) := goodIn_app (goodIn_of _ (by decide +kernel)) ggX5_plankLine_X5_fail
set_option maxRecDepth 20000 in
theorem ggX5_plankLine_X5_word : GoodIn wsX5_plankLine wsX5_word := goodIn_r _ [12, 13, 14, 15, 4, 16, 17, 18, 7, 19, 20, 21, 22, 23, 24, 25, 26, 27, 28, 29, 30, 31, 32, 33, 34, 35, 36, 37, 38, 39, 40, 41, 42, 43, 44, 45, 46, 47, 48, 49, 50, 51, 52, 53, 54, 55, 56, 57, 58, 59, 60, 61, 62, 63, 64, 65, 66, 67, 68, 69, 70, 71, 72, 73, 74, 1, 2, 3, 5, 6, 8, 75, 76, 77, 78, 79, 80, 81, 82, 83, 84, 85, 86, 87, 88, 89, 112, 113, 114, 115, 116, 117, 118, 119, 120] (by decide +kernel) (by decide +kernel)
set_option maxRecDepth 20000 in
theorem gX5_plankLine_X5_word : GoodIn wsX5_plankLine (wsV RX5 95 RX5 yX5_word wsX5_word) := goodIn_app (goodIn_of _ (by decide +kernel)) ggX5_plankLine_X5_word
set_option maxRecDepth 20000 in
theorem ggX5_plankLine_X5_number : GoodIn wsX5_plankLine wsX5_number := goodIn_r _ [93, 83, 17, 6, 1, 2, 3, 4, 5, 7, 8, 75, 76, 77, 78, 18, 19, 79, 80, 81, 82, 32, 33, 34, 35, 36, 37, 84, 85, 86, 87, 88, 89, 112, 113, 114, 115, 116, 117, 118, 119, 120] (by decide +kernel) (by decide +kernel)
set_option maxRecDepth 20000 in
theorem gX5_plankLine_X5_number : GoodIn wsX5_plankLine (wsV RX5 101 RX5 yX5_number wsX5_number) := goodIn_app (goodIn_of _ (by decide +kernel)) ggX5_plankLine_X5_number
theorem dX5_plankLine_0 : decode cX5_plankLine 0 = .ok (.aload_n 1, 1) := by decide +kernel
theorem dX5_plankLine_1 : decode cX5_plankLine 1 = .ok (.getfield 136, 3) := by decide +kernel
theorem dX5_plankLine_4 : decode cX5_plankLine 4 = .ok (.iconst 5, 1) := by decide +kernel
theorem dX5_plankLine_5 : decode cX5_plankLine 5 = .ok (.if_icmp .lt 9, 3) := by decide +kernel
theorem dX5_plankLine_8 : decode cX5_plankLine 8 = .ok (.aload_n 0, 1) := by decide +kernel
theorem dX5_plankLine_9 : decode cX5_plankLine 9 = .ok (.iconst 3, 1) := by decide +kernel
theorem dX5_plankLine_10 : decode cX5_plankLine 10 = .ok (.invokevirtual 86, 3) := by decide +kernel
theorem dX5_plankLine_13 : decode cX5_plankLine 13 = .ok (.return_, 1) := by decide +kernel
theorem dX5_plankLine_14 : decode cX5_plankLine 14 = .ok (.aload_n 0, 1) := by decide +kernel
theorem dX5_plankLine_15 : decode cX5_plankLine 15 = .ok (.ldc 61, 2) := by decide +kernel
theorem dX5_plankLine_17 : decode cX5_plankLine 17 = .ok (.invokevirtual 95, 3) := by decide +kernel
theorem dX5_plankLine_20 : decode cX5_plankLine 20 = .ok (.aload_n 1, 1) := by decide +kernel
theorem dX5_plankLine_21 : decode cX5_plankLine 21 = .ok (.getfield 139, 3) := by decide +kernel
theorem dX5_plankLine_24 : decode cX5_plankLine 24 = .ok (.aload_n 1, 1) := by decide +kernel
theorem dX5_plankLine_25 : decode cX5_plankLine 25 = .ok (.getfield 136, 3) := by decide +kernel
theorem dX5_plankLine_28 : decode cX5_plankLine 28 = .ok (.aload_n 0, 1) := by decide +kernel
theorem dX5_plankLine_29 : decode cX5_plankLine 29 = .ok (.iconst 1, 1) := by decide +kernel
theorem dX5_plankLine_30 : decode cX5_plankLine 30 = .ok (.bipush 9, 2) := by decide +kernel
theorem dX5_plankLine_32 : decode cX5_plankLine 32 = .ok (.invokevirtual 101, 3) := by decide +kernel
theorem dX5_plankLine_35 : decode cX5_plankLine 35 = .ok (.iastore, 1) := by decide +kernel
theorem dX5_plankLine_36 : decode cX5_plankLine 36 = .ok (.aload_n 0, 1) := by decide +kernel
theorem dX5_plankLine_37 : decode cX5_plankLine 37 = .ok (.ldc 142, 2) := by decide +kernel
theorem dX5_plankLine_39 : decode cX5_plankLine 39 = .ok (.invokevirtual 95, 3) := by decide +kernel
theorem dX5_plankLine_42 : decode cX5_plankLine 42 = .ok (.aload_n 1, 1) := by decide +kernel
theorem dX5_plankLine_43 : decode cX5_plankLine 43 = .ok (.getfield 144, 3) := by decide +kernel
theorem dX5_plankLine_46 : decode cX5_plankLine 46 = .ok (.aload_n 1, 1) := by decide +kernel
theorem dX5_plankLine_47 : decode cX5_plankLine 47 = .ok (.getfield 136, 3) := by decide +kernel
theorem dX5_plankLine_50 : decode cX5_plankLine 50 = .ok (.aload_n 0, 1) := by decide +kernel
theorem dX5_plankLine_51 : decode cX5_plankLine 51 = .ok (.iconst 0, 1) := by decide +kernel
theorem dX5_plankLine_52 : decode cX5_plankLine 52 = .ok (.aload_n 1, 1) := by decide +kernel
