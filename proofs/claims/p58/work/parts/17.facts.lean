/-! ===== the methods: code, locals, answer, room ===== -/
def mX0_init : MI := (yX0_init, cX0_init, 1, 0, { frames := 1, cells := 15, slots := 76, locals := 26 })
def mX0_clear : MI := (yX0_clear, cX0_clear, 2, 0, { frames := 1, cells := 0, slots := 0, locals := 26 })
def mX0_wanted : MI := (yX0_wanted, cX0_wanted, 3, 1, { frames := 3, cells := 0, slots := 0, locals := 68 })
def mX0_walk : MI := (yX0_walk, cX0_walk, 5, 1, { frames := 3, cells := 0, slots := 0, locals := 68 })
def mX0_mostMeals : MI := (yX0_mostMeals, cX0_mostMeals, 3, 1, { frames := 1, cells := 0, slots := 0, locals := 26 })
def mX0_mealNamed : MI := (yX0_mealNamed, cX0_mealNamed, 4, 1, { frames := 1, cells := 0, slots := 0, locals := 26 })
def mX1_init : MI := (yX1_init, cX1_init, 2, 0, { frames := 2, cells := 71, slots := 1020, locals := 46 })
def mX1_push : MI := (yX1_push, cX1_push, 2, 0, { frames := 2, cells := 0, slots := 0, locals := 48 })
def mX1_popInto : MI := (yX1_popInto, cX1_popInto, 2, 0, { frames := 2, cells := 0, slots := 0, locals := 47 })
def mX1_dropFirst : MI := (yX1_dropFirst, cX1_dropFirst, 3, 0, { frames := 1, cells := 0, slots := 0, locals := 26 })
def mX2_init : MI := (yX2_init, cX2_init, 1, 0, { frames := 2, cells := 25, slots := 1107, locals := 46 })
def mX2_putFour : MI := (yX2_putFour, cX2_putFour, 3, 0, { frames := 1, cells := 0, slots := 0, locals := 26 })
def mX2_parse : MI := (yX2_parse, cX2_parse, 3, 0, { frames := 6, cells := 0, slots := 0, locals := 133 })
def mX2_refuse : MI := (yX2_refuse, cX2_refuse, 2, 0, { frames := 1, cells := 0, slots := 0, locals := 26 })
def mX2_isComplete : MI := (yX2_isComplete, cX2_isComplete, 2, 3, { frames := 1, cells := 0, slots := 0, locals := 26 })
def mX2_readLine : MI := (yX2_readLine, cX2_readLine, 1, 0, { frames := 5, cells := 0, slots := 0, locals := 113 })
def mX2_readTrain : MI := (yX2_readTrain, cX2_readTrain, 4, 0, { frames := 4, cells := 0, slots := 0, locals := 88 })
def mX2_readCar : MI := (yX2_readCar, cX2_readCar, 6, 0, { frames := 4, cells := 0, slots := 0, locals := 88 })
def mX2_readMeal : MI := (yX2_readMeal, cX2_readMeal, 5, 0, { frames := 4, cells := 0, slots := 0, locals := 88 })
def mX2_readKitchen : MI := (yX2_readKitchen, cX2_readKitchen, 2, 0, { frames := 4, cells := 0, slots := 0, locals := 88 })
def mX2_readStock : MI := (yX2_readStock, cX2_readStock, 5, 0, { frames := 4, cells := 0, slots := 0, locals := 88 })
def mX2_readTrolley : MI := (yX2_readTrolley, cX2_readTrolley, 6, 0, { frames := 4, cells := 0, slots := 0, locals := 88 })
def mX2_readJob : MI := (yX2_readJob, cX2_readJob, 6, 0, { frames := 4, cells := 0, slots := 0, locals := 88 })
def mX2_takeNumber : MI := (yX2_takeNumber, cX2_takeNumber, 3, 1, { frames := 3, cells := 0, slots := 0, locals := 66 })
def mX2_refuseUnknownTrain : MI := (yX2_refuseUnknownTrain, cX2_refuseUnknownTrain, 2, 0, { frames := 2, cells := 0, slots := 0, locals := 47 })
def mX2_takeKeyword : MI := (yX2_takeKeyword, cX2_takeKeyword, 3, 0, { frames := 3, cells := 0, slots := 0, locals := 66 })
def mX2_takeName : MI := (yX2_takeName, cX2_takeName, 1, 0, { frames := 3, cells := 0, slots := 0, locals := 66 })
def mX2_namedMeal : MI := (yX2_namedMeal, cX2_namedMeal, 2, 1, { frames := 2, cells := 0, slots := 0, locals := 49 })
def mX2_isKeyword : MI := (yX2_isKeyword, cX2_isKeyword, 1, 3, { frames := 1, cells := 0, slots := 0, locals := 26 })
def mX2_advance : MI := (yX2_advance, cX2_advance, 1, 0, { frames := 2, cells := 0, slots := 0, locals := 46 })
def mX2_scanLetters : MI := (yX2_scanLetters, cX2_scanLetters, 1, 0, { frames := 1, cells := 0, slots := 0, locals := 26 })
def mX2_scanDigits : MI := (yX2_scanDigits, cX2_scanDigits, 1, 0, { frames := 1, cells := 0, slots := 0, locals := 26 })
def mX3_init : MI := (yX3_init, cX3_init, 1, 0, { frames := 1, cells := 13, slots := 197, locals := 26 })
def mX3_play : MI := (yX3_play, cX3_play, 5, 0, { frames := 5, cells := 0, slots := 0, locals := 118 })
def mX3_awaitStart : MI := (yX3_awaitStart, cX3_awaitStart, 5, 0, { frames := 2, cells := 0, slots := 0, locals := 49 })
def mX3_nextTrolley : MI := (yX3_nextTrolley, cX3_nextTrolley, 6, 1, { frames := 1, cells := 0, slots := 0, locals := 26 })
def mX3_startJob : MI := (yX3_startJob, cX3_startJob, 7, 0, { frames := 4, cells := 0, slots := 0, locals := 92 })
def mX3_setNoUnloading : MI := (yX3_setNoUnloading, cX3_setNoUnloading, 3, 0, { frames := 1, cells := 0, slots := 0, locals := 26 })
def mX3_reachDoor : MI := (yX3_reachDoor, cX3_reachDoor, 5, 0, { frames := 4, cells := 0, slots := 0, locals := 92 })
def mX3_unload : MI := (yX3_unload, cX3_unload, 11, 0, { frames := 2, cells := 0, slots := 0, locals := 47 })
def mX3_bringBack : MI := (yX3_bringBack, cX3_bringBack, 5, 0, { frames := 3, cells := 0, slots := 0, locals := 73 })
def mX3_leavesBehind : MI := (yX3_leavesBehind, cX3_leavesBehind, 5, 3, { frames := 1, cells := 0, slots := 0, locals := 26 })
def mX4_init : MI := (yX4_init, cX4_init, 1, 0, { frames := 1, cells := 3, slots := 30, locals := 26 })
def mX4_clear : MI := (yX4_clear, cX4_clear, 1, 0, { frames := 1, cells := 0, slots := 0, locals := 26 })
def mX4_addClaim : MI := (yX4_addClaim, cX4_addClaim, 2, 0, { frames := 1, cells := 0, slots := 0, locals := 26 })
def mX4_shareOut : MI := (yX4_shareOut, cX4_shareOut, 5, 0, { frames := 2, cells := 0, slots := 0, locals := 48 })
def mX4_largestRest : MI := (yX4_largestRest, cX4_largestRest, 3, 1, { frames := 1, cells := 0, slots := 0, locals := 26 })
def mX5_init : MI := (yX5_init, cX5_init, 1, 0, { frames := 1, cells := 9, slots := 320, locals := 26 })
def mX5_study : MI := (yX5_study, cX5_study, 6, 0, { frames := 5, cells := 0, slots := 0, locals := 119 })
def mX5_studyJob : MI := (yX5_studyJob, cX5_studyJob, 8, 0, { frames := 4, cells := 0, slots := 0, locals := 92 })
def mX5_wholeSet : MI := (yX5_wholeSet, cX5_wholeSet, 1, 1, { frames := 1, cells := 0, slots := 0, locals := 26 })
def mX5_canDo : MI := (yX5_canDo, cX5_canDo, 2, 3, { frames := 1, cells := 0, slots := 0, locals := 26 })
def mX5_mealsOf : MI := (yX5_mealsOf, cX5_mealsOf, 4, 1, { frames := 1, cells := 0, slots := 0, locals := 26 })
def mX5_latestBegin : MI := (yX5_latestBegin, cX5_latestBegin, 4, 1, { frames := 2, cells := 0, slots := 0, locals := 50 })
def mX5_latestBeginWith : MI := (yX5_latestBeginWith, cX5_latestBeginWith, 5, 1, { frames := 1, cells := 0, slots := 0, locals := 26 })
def mX5_chooseBest : MI := (yX5_chooseBest, cX5_chooseBest, 6, 0, { frames := 6, cells := 0, slots := 0, locals := 144 })
def mX5_layOrder : MI := (yX5_layOrder, cX5_layOrder, 5, 0, { frames := 3, cells := 0, slots := 0, locals := 73 })
def mX5_firstThatFits : MI := (yX5_firstThatFits, cX5_firstThatFits, 4, 1, { frames := 2, cells := 0, slots := 0, locals := 50 })
def mX6_init : MI := (yX6_init, cX6_init, 1, 0, { frames := 1, cells := 6, slots := 94, locals := 26 })
def mX6_clear : MI := (yX6_clear, cX6_clear, 1, 0, { frames := 2, cells := 0, slots := 0, locals := 49 })
def mX6_copyFrom : MI := (yX6_copyFrom, cX6_copyFrom, 2, 0, { frames := 1, cells := 0, slots := 0, locals := 26 })
def mX6_addLast : MI := (yX6_addLast, cX6_addLast, 5, 0, { frames := 1, cells := 0, slots := 0, locals := 26 })
def mX6_takeJob : MI := (yX6_takeJob, cX6_takeJob, 4, 0, { frames := 1, cells := 0, slots := 0, locals := 26 })
def mX6_removeAt : MI := (yX6_removeAt, cX6_removeAt, 3, 0, { frames := 2, cells := 0, slots := 0, locals := 49 })
def mX6_exchange : MI := (yX6_exchange, cX6_exchange, 3, 0, { frames := 2, cells := 0, slots := 0, locals := 49 })
def mX6_exchangeIn : MI := (yX6_exchangeIn, cX6_exchangeIn, 4, 0, { frames := 1, cells := 0, slots := 0, locals := 26 })
def mX6_jobsOf : MI := (yX6_jobsOf, cX6_jobsOf, 4, 1, { frames := 1, cells := 0, slots := 0, locals := 26 })
def mX6_jobFrom : MI := (yX6_jobFrom, cX6_jobFrom, 4, 1, { frames := 1, cells := 0, slots := 0, locals := 26 })
def mX7_init : MI := (yX7_init, cX7_init, 1, 0, { frames := 3, cells := 177, slots := 3328, locals := 67 })
def mX7_append : MI := (yX7_append, cX7_append, 6, 1, { frames := 2, cells := 0, slots := 0, locals := 48 })
def mX7_load : MI := (yX7_load, cX7_load, 2, 1, { frames := 7, cells := 0, slots := 0, locals := 164 })
def mX7_jobCount : MI := (yX7_jobCount, cX7_jobCount, 1, 1, { frames := 2, cells := 0, slots := 0, locals := 47 })
def mX7_departure : MI := (yX7_departure, cX7_departure, 2, 1, { frames := 2, cells := 0, slots := 0, locals := 47 })
def mX7_stock : MI := (yX7_stock, cX7_stock, 3, 1, { frames := 3, cells := 0, slots := 0, locals := 69 })
def mX7_demand : MI := (yX7_demand, cX7_demand, 4, 1, { frames := 4, cells := 0, slots := 0, locals := 92 })
def mX7_jobTrolley : MI := (yX7_jobTrolley, cX7_jobTrolley, 2, 1, { frames := 2, cells := 0, slots := 0, locals := 47 })
def mX7_jobQuantity : MI := (yX7_jobQuantity, cX7_jobQuantity, 2, 1, { frames := 2, cells := 0, slots := 0, locals := 47 })
def mX7_startTime : MI := (yX7_startTime, cX7_startTime, 2, 1, { frames := 2, cells := 0, slots := 0, locals := 47 })
def mX7_loaded : MI := (yX7_loaded, cX7_loaded, 2, 1, { frames := 2, cells := 0, slots := 0, locals := 47 })
def mX7_unloaded : MI := (yX7_unloaded, cX7_unloaded, 2, 1, { frames := 2, cells := 0, slots := 0, locals := 47 })
def mX7_unloadTime : MI := (yX7_unloadTime, cX7_unloadTime, 2, 1, { frames := 2, cells := 0, slots := 0, locals := 47 })
def mX7_finishTime : MI := (yX7_finishTime, cX7_finishTime, 2, 1, { frames := 2, cells := 0, slots := 0, locals := 47 })
def mX7_delivered : MI := (yX7_delivered, cX7_delivered, 4, 1, { frames := 4, cells := 0, slots := 0, locals := 92 })
def mX7_deliveredTotal : MI := (yX7_deliveredTotal, cX7_deliveredTotal, 1, 1, { frames := 2, cells := 0, slots := 0, locals := 47 })
def mX7_leftBehind : MI := (yX7_leftBehind, cX7_leftBehind, 4, 1, { frames := 2, cells := 0, slots := 0, locals := 47 })
def mX7_finalStock : MI := (yX7_finalStock, cX7_finalStock, 3, 1, { frames := 3, cells := 0, slots := 0, locals := 69 })
def mX7_shortage : MI := (yX7_shortage, cX7_shortage, 5, 1, { frames := 4, cells := 0, slots := 0, locals := 92 })
def mX7_share : MI := (yX7_share, cX7_share, 4, 1, { frames := 6, cells := 0, slots := 0, locals := 135 })
def mX7_coverage : MI := (yX7_coverage, cX7_coverage, 4, 2, { frames := 7, cells := 0, slots := 0, locals := 162 })
def mX7_leastCoverage : MI := (yX7_leastCoverage, cX7_leastCoverage, 5, 2, { frames := 7, cells := 0, slots := 0, locals := 163 })
def mX7_bestSet : MI := (yX7_bestSet, cX7_bestSet, 2, 1, { frames := 7, cells := 0, slots := 0, locals := 169 })
def mX7_bestMeals : MI := (yX7_bestMeals, cX7_bestMeals, 2, 1, { frames := 7, cells := 0, slots := 0, locals := 169 })
def mX7_bestOrder : MI := (yX7_bestOrder, cX7_bestOrder, 3, 1, { frames := 7, cells := 0, slots := 0, locals := 169 })
def mX7_neededDelay : MI := (yX7_neededDelay, cX7_neededDelay, 3, 1, { frames := 6, cells := 0, slots := 0, locals := 142 })
def mX7_deliveredWithout : MI := (yX7_deliveredWithout, cX7_deliveredWithout, 3, 1, { frames := 7, cells := 0, slots := 0, locals := 162 })
def mX7_worstJob : MI := (yX7_worstJob, cX7_worstJob, 5, 1, { frames := 7, cells := 0, slots := 0, locals := 162 })
def mX7_addJob : MI := (yX7_addJob, cX7_addJob, 6, 1, { frames := 7, cells := 0, slots := 0, locals := 163 })
def mX7_removeJob : MI := (yX7_removeJob, cX7_removeJob, 2, 1, { frames := 7, cells := 0, slots := 0, locals := 163 })
def mX7_moveJob : MI := (yX7_moveJob, cX7_moveJob, 4, 1, { frames := 7, cells := 0, slots := 0, locals := 163 })
def mX7_setDeparture : MI := (yX7_setDeparture, cX7_setDeparture, 4, 1, { frames := 7, cells := 0, slots := 0, locals := 163 })
def mX7_setStock : MI := (yX7_setStock, cX7_setStock, 6, 1, { frames := 7, cells := 0, slots := 0, locals := 163 })
def mX7_applyBest : MI := (yX7_applyBest, cX7_applyBest, 3, 1, { frames := 7, cells := 0, slots := 0, locals := 169 })
def mX7_undo : MI := (yX7_undo, cX7_undo, 1, 1, { frames := 7, cells := 0, slots := 0, locals := 163 })
def mX7_save : MI := (yX7_save, cX7_save, 1, 1, { frames := 2, cells := 0, slots := 0, locals := 47 })
def mX7_restore : MI := (yX7_restore, cX7_restore, 1, 1, { frames := 7, cells := 0, slots := 0, locals := 163 })
def mX7_error : MI := (yX7_error, cX7_error, 1, 1, { frames := 1, cells := 0, slots := 0, locals := 26 })
def mX7_answer : MI := (yX7_answer, cX7_answer, 2, 1, { frames := 1, cells := 0, slots := 0, locals := 26 })
def mX7_answerLong : MI := (yX7_answerLong, cX7_answerLong, 3, 2, { frames := 1, cells := 0, slots := 0, locals := 26 })
def mX7_fail : MI := (yX7_fail, cX7_fail, 2, 1, { frames := 1, cells := 0, slots := 0, locals := 26 })
def mX7_failLong : MI := (yX7_failLong, cX7_failLong, 2, 2, { frames := 1, cells := 0, slots := 0, locals := 26 })
def mX7_changed : MI := (yX7_changed, cX7_changed, 2, 1, { frames := 6, cells := 0, slots := 0, locals := 142 })
def mX7_rehearse : MI := (yX7_rehearse, cX7_rehearse, 1, 1, { frames := 6, cells := 0, slots := 0, locals := 142 })
def mX7_takeParsedPlan : MI := (yX7_takeParsedPlan, cX7_takeParsedPlan, 3, 0, { frames := 6, cells := 0, slots := 0, locals := 142 })
def mX7_isTrain : MI := (yX7_isTrain, cX7_isTrain, 2, 3, { frames := 1, cells := 0, slots := 0, locals := 26 })
def mX7_isCar : MI := (yX7_isCar, cX7_isCar, 3, 3, { frames := 2, cells := 0, slots := 0, locals := 47 })
def mX7_isMeal : MI := (yX7_isMeal, cX7_isMeal, 2, 3, { frames := 1, cells := 0, slots := 0, locals := 26 })
def mX7_isCarMeal : MI := (yX7_isCarMeal, cX7_isCarMeal, 4, 3, { frames := 3, cells := 0, slots := 0, locals := 69 })
def mX7_isStock : MI := (yX7_isStock, cX7_isStock, 3, 3, { frames := 2, cells := 0, slots := 0, locals := 47 })
def mX7_isTrolley : MI := (yX7_isTrolley, cX7_isTrolley, 2, 3, { frames := 1, cells := 0, slots := 0, locals := 26 })
def mX7_isJob : MI := (yX7_isJob, cX7_isJob, 2, 3, { frames := 1, cells := 0, slots := 0, locals := 26 })
def mX7_isJobQuantity : MI := (yX7_isJobQuantity, cX7_isJobQuantity, 1, 3, { frames := 1, cells := 0, slots := 0, locals := 26 })
def mX7_doorIndex : MI := (yX7_doorIndex, cX7_doorIndex, 2, 1, { frames := 1, cells := 0, slots := 0, locals := 26 })
def mX7_stockIndex : MI := (yX7_stockIndex, cX7_stockIndex, 2, 1, { frames := 1, cells := 0, slots := 0, locals := 26 })
def mX7_handedAt : MI := (yX7_handedAt, cX7_handedAt, 5, 1, { frames := 1, cells := 0, slots := 0, locals := 26 })
def mX7_handedToTrain : MI := (yX7_handedToTrain, cX7_handedToTrain, 5, 1, { frames := 2, cells := 0, slots := 0, locals := 50 })
def mX7_wantedByTrain : MI := (yX7_wantedByTrain, cX7_wantedByTrain, 5, 1, { frames := 4, cells := 0, slots := 0, locals := 90 })
def mX7_addClaims : MI := (yX7_addClaims, cX7_addClaims, 4, 0, { frames := 4, cells := 0, slots := 0, locals := 90 })
def mX7_shareInTrain : MI := (yX7_shareInTrain, cX7_shareInTrain, 3, 0, { frames := 5, cells := 0, slots := 0, locals := 113 })
def mX7_coverageAbove : MI := (yX7_coverageAbove, cX7_coverageAbove, 4, 1, { frames := 5, cells := 0, slots := 0, locals := 114 })
def mX7_coverageBelow : MI := (yX7_coverageBelow, cX7_coverageBelow, 3, 1, { frames := 5, cells := 0, slots := 0, locals := 114 })
def mX7_lowestTerm : MI := (yX7_lowestTerm, cX7_lowestTerm, 6, 1, { frames := 6, cells := 0, slots := 0, locals := 137 })
def mX7_compareCoverage : MI := (yX7_compareCoverage, cX7_compareCoverage, 7, 1, { frames := 6, cells := 0, slots := 0, locals := 137 })
def mX7_commonDivisor : MI := (yX7_commonDivisor, cX7_commonDivisor, 6, 1, { frames := 1, cells := 0, slots := 0, locals := 26 })
def mX7_wholeParts : MI := (yX7_wholeParts, cX7_wholeParts, 2, 1, { frames := 1, cells := 0, slots := 0, locals := 26 })
def mX7_partsRoundedUp : MI := (yX7_partsRoundedUp, cX7_partsRoundedUp, 2, 1, { frames := 2, cells := 0, slots := 0, locals := 47 })
def mJ7_fill_53178 : MI := (yJ7_fill_53178, cJ7_fill_53178, 4, 0, { frames := 1, cells := 0, slots := 0, locals := 26 })
def mJ6_compare_7cf53 : MI := (yJ6_compare_7cf53, cJ6_compare_7cf53, 2, 1, { frames := 1, cells := 0, slots := 0, locals := 26 })
def mJ6_bitCount_0f7a4 : MI := (yJ6_bitCount_0f7a4, cJ6_bitCount_0f7a4, 1, 1, { frames := 1, cells := 0, slots := 0, locals := 26 })
def mJx9a822_getLongUnaligned_f02c6 : MI := (yJx9a822_getLongUnaligned_f02c6, cJx9a822_getLongUnaligned_f02c6, 4, 2, { frames := 2, cells := 0, slots := 0, locals := 32 })
def mJ8_vectorizedMismatch_456ae : MI := (yJ8_vectorizedMismatch_456ae, cJ8_vectorizedMismatch_456ae, 19, 1, { frames := 3, cells := 0, slots := 0, locals := 55 })
def mJ8_mismatch_05dfe : MI := (yJ8_mismatch_05dfe, cJ8_mismatch_05dfe, 4, 1, { frames := 4, cells := 0, slots := 0, locals := 93 })
def mJ7_equals_bbcde : MI := (yJ7_equals_bbcde, cJ7_equals_bbcde, 3, 3, { frames := 5, cells := 0, slots := 0, locals := 116 })
def mL_put : MI := (yL_put, cL_put, 4, 0, { frames := 4, cells := 0, slots := 0, locals := 95 })
def mL_flush : MI := (yL_flush, cL_flush, 3, 0, { frames := 3, cells := 0, slots := 0, locals := 73 })
def mL_say : MI := (yL_say, cL_say, 5, 0, { frames := 5, cells := 0, slots := 0, locals := 118 })
def mL_said : MI := (yL_said, cL_said, 3, 1, { frames := 5, cells := 0, slots := 0, locals := 118 })
def mL_number : MI := (yL_number, cL_number, 4, 0, { frames := 5, cells := 0, slots := 0, locals := 118 })
def mL_cell : MI := (yL_cell, cL_cell, 2, 1, { frames := 1, cells := 0, slots := 0, locals := 26 })
def mL_drawn : MI := (yL_drawn, cL_drawn, 5, 4, { frames := 2, cells := 1, slots := 200, locals := 47 })
def mL_part : MI := (yL_part, cL_part, 3, 0, { frames := 6, cells := 0, slots := 0, locals := 141 })
def mL_mealName : MI := (yL_mealName, cL_mealName, 3, 0, { frames := 6, cells := 0, slots := 0, locals := 142 })
def mL_says : MI := (yL_says, cL_says, 5, 1, { frames := 8, cells := 0, slots := 0, locals := 185 })
def mL_law : MI := (yL_law, cL_law, 11, 3, { frames := 11, cells := 600000, slots := 7302250, locals := 426 })
def mL_jobsOf : MI := (yL_jobsOf, cL_jobsOf, 4, 1, { frames := 3, cells := 0, slots := 0, locals := 68 })
def mL_holds : MI := (yL_holds, cL_holds, 2, 3, { frames := 9, cells := 1, slots := 3, locals := 218 })
def mL_mealsHold : MI := (yL_mealsHold, cL_mealsHold, 8, 3, { frames := 5, cells := 0, slots := 0, locals := 116 })
def mL_jobsHold : MI := (yL_jobsHold, cL_jobsHold, 6, 3, { frames := 3, cells := 1, slots := 3, locals := 70 })
def mL_sharesHold : MI := (yL_sharesHold, cL_sharesHold, 10, 3, { frames := 8, cells := 0, slots := 0, locals := 187 })
def mL_bestsHold : MI := (yL_bestsHold, cL_bestsHold, 8, 3, { frames := 8, cells := 0, slots := 0, locals := 191 })
def mL_seen : MI := (yL_seen, cL_seen, 4, 4, { frames := 8, cells := 1, slots := 120, locals := 190 })
theorem pl_X0_init : plainName mX0_init.1.cls = true := by decide +kernel
theorem pl_X0_clear : plainName mX0_clear.1.cls = true := by decide +kernel
theorem pl_X0_wanted : plainName mX0_wanted.1.cls = true := by decide +kernel
theorem pl_X0_walk : plainName mX0_walk.1.cls = true := by decide +kernel
theorem pl_X0_mostMeals : plainName mX0_mostMeals.1.cls = true := by decide +kernel
theorem pl_X0_mealNamed : plainName mX0_mealNamed.1.cls = true := by decide +kernel
theorem pl_X1_init : plainName mX1_init.1.cls = true := by decide +kernel
theorem pl_X1_push : plainName mX1_push.1.cls = true := by decide +kernel
theorem pl_X1_popInto : plainName mX1_popInto.1.cls = true := by decide +kernel
theorem pl_X1_dropFirst : plainName mX1_dropFirst.1.cls = true := by decide +kernel
theorem pl_X2_init : plainName mX2_init.1.cls = true := by decide +kernel
theorem pl_X2_putFour : plainName mX2_putFour.1.cls = true := by decide +kernel
theorem pl_X2_parse : plainName mX2_parse.1.cls = true := by decide +kernel
theorem pl_X2_refuse : plainName mX2_refuse.1.cls = true := by decide +kernel
theorem pl_X2_isComplete : plainName mX2_isComplete.1.cls = true := by decide +kernel
theorem pl_X2_readLine : plainName mX2_readLine.1.cls = true := by decide +kernel
theorem pl_X2_readTrain : plainName mX2_readTrain.1.cls = true := by decide +kernel
theorem pl_X2_readCar : plainName mX2_readCar.1.cls = true := by decide +kernel
theorem pl_X2_readMeal : plainName mX2_readMeal.1.cls = true := by decide +kernel
theorem pl_X2_readKitchen : plainName mX2_readKitchen.1.cls = true := by decide +kernel
theorem pl_X2_readStock : plainName mX2_readStock.1.cls = true := by decide +kernel
theorem pl_X2_readTrolley : plainName mX2_readTrolley.1.cls = true := by decide +kernel
theorem pl_X2_readJob : plainName mX2_readJob.1.cls = true := by decide +kernel
theorem pl_X2_takeNumber : plainName mX2_takeNumber.1.cls = true := by decide +kernel
theorem pl_X2_refuseUnknownTrain : plainName mX2_refuseUnknownTrain.1.cls = true := by decide +kernel
theorem pl_X2_takeKeyword : plainName mX2_takeKeyword.1.cls = true := by decide +kernel
theorem pl_X2_takeName : plainName mX2_takeName.1.cls = true := by decide +kernel
theorem pl_X2_namedMeal : plainName mX2_namedMeal.1.cls = true := by decide +kernel
theorem pl_X2_isKeyword : plainName mX2_isKeyword.1.cls = true := by decide +kernel
theorem pl_X2_advance : plainName mX2_advance.1.cls = true := by decide +kernel
theorem pl_X2_scanLetters : plainName mX2_scanLetters.1.cls = true := by decide +kernel
theorem pl_X2_scanDigits : plainName mX2_scanDigits.1.cls = true := by decide +kernel
theorem pl_X3_init : plainName mX3_init.1.cls = true := by decide +kernel
theorem pl_X3_play : plainName mX3_play.1.cls = true := by decide +kernel
theorem pl_X3_awaitStart : plainName mX3_awaitStart.1.cls = true := by decide +kernel
theorem pl_X3_nextTrolley : plainName mX3_nextTrolley.1.cls = true := by decide +kernel
theorem pl_X3_startJob : plainName mX3_startJob.1.cls = true := by decide +kernel
theorem pl_X3_setNoUnloading : plainName mX3_setNoUnloading.1.cls = true := by decide +kernel
theorem pl_X3_reachDoor : plainName mX3_reachDoor.1.cls = true := by decide +kernel
theorem pl_X3_unload : plainName mX3_unload.1.cls = true := by decide +kernel
theorem pl_X3_bringBack : plainName mX3_bringBack.1.cls = true := by decide +kernel
theorem pl_X3_leavesBehind : plainName mX3_leavesBehind.1.cls = true := by decide +kernel
theorem pl_X4_init : plainName mX4_init.1.cls = true := by decide +kernel
theorem pl_X4_clear : plainName mX4_clear.1.cls = true := by decide +kernel
theorem pl_X4_addClaim : plainName mX4_addClaim.1.cls = true := by decide +kernel
theorem pl_X4_shareOut : plainName mX4_shareOut.1.cls = true := by decide +kernel
theorem pl_X4_largestRest : plainName mX4_largestRest.1.cls = true := by decide +kernel
theorem pl_X5_init : plainName mX5_init.1.cls = true := by decide +kernel
theorem pl_X5_study : plainName mX5_study.1.cls = true := by decide +kernel
theorem pl_X5_studyJob : plainName mX5_studyJob.1.cls = true := by decide +kernel
theorem pl_X5_wholeSet : plainName mX5_wholeSet.1.cls = true := by decide +kernel
theorem pl_X5_canDo : plainName mX5_canDo.1.cls = true := by decide +kernel
theorem pl_X5_mealsOf : plainName mX5_mealsOf.1.cls = true := by decide +kernel
theorem pl_X5_latestBegin : plainName mX5_latestBegin.1.cls = true := by decide +kernel
theorem pl_X5_latestBeginWith : plainName mX5_latestBeginWith.1.cls = true := by decide +kernel
theorem pl_X5_chooseBest : plainName mX5_chooseBest.1.cls = true := by decide +kernel
theorem pl_X5_layOrder : plainName mX5_layOrder.1.cls = true := by decide +kernel
theorem pl_X5_firstThatFits : plainName mX5_firstThatFits.1.cls = true := by decide +kernel
theorem pl_X6_init : plainName mX6_init.1.cls = true := by decide +kernel
theorem pl_X6_clear : plainName mX6_clear.1.cls = true := by decide +kernel
theorem pl_X6_copyFrom : plainName mX6_copyFrom.1.cls = true := by decide +kernel
theorem pl_X6_addLast : plainName mX6_addLast.1.cls = true := by decide +kernel
theorem pl_X6_takeJob : plainName mX6_takeJob.1.cls = true := by decide +kernel
theorem pl_X6_removeAt : plainName mX6_removeAt.1.cls = true := by decide +kernel
theorem pl_X6_exchange : plainName mX6_exchange.1.cls = true := by decide +kernel
theorem pl_X6_exchangeIn : plainName mX6_exchangeIn.1.cls = true := by decide +kernel
theorem pl_X6_jobsOf : plainName mX6_jobsOf.1.cls = true := by decide +kernel
theorem pl_X6_jobFrom : plainName mX6_jobFrom.1.cls = true := by decide +kernel
theorem pl_X7_init : plainName mX7_init.1.cls = true := by decide +kernel
theorem pl_X7_append : plainName mX7_append.1.cls = true := by decide +kernel
theorem pl_X7_load : plainName mX7_load.1.cls = true := by decide +kernel
theorem pl_X7_jobCount : plainName mX7_jobCount.1.cls = true := by decide +kernel
theorem pl_X7_departure : plainName mX7_departure.1.cls = true := by decide +kernel
theorem pl_X7_stock : plainName mX7_stock.1.cls = true := by decide +kernel
theorem pl_X7_demand : plainName mX7_demand.1.cls = true := by decide +kernel
theorem pl_X7_jobTrolley : plainName mX7_jobTrolley.1.cls = true := by decide +kernel
theorem pl_X7_jobQuantity : plainName mX7_jobQuantity.1.cls = true := by decide +kernel
theorem pl_X7_startTime : plainName mX7_startTime.1.cls = true := by decide +kernel
theorem pl_X7_loaded : plainName mX7_loaded.1.cls = true := by decide +kernel
theorem pl_X7_unloaded : plainName mX7_unloaded.1.cls = true := by decide +kernel
theorem pl_X7_unloadTime : plainName mX7_unloadTime.1.cls = true := by decide +kernel
theorem pl_X7_finishTime : plainName mX7_finishTime.1.cls = true := by decide +kernel
theorem pl_X7_delivered : plainName mX7_delivered.1.cls = true := by decide +kernel
theorem pl_X7_deliveredTotal : plainName mX7_deliveredTotal.1.cls = true := by decide +kernel
theorem pl_X7_leftBehind : plainName mX7_leftBehind.1.cls = true := by decide +kernel
theorem pl_X7_finalStock : plainName mX7_finalStock.1.cls = true := by decide +kernel
theorem pl_X7_shortage : plainName mX7_shortage.1.cls = true := by decide +kernel
theorem pl_X7_share : plainName mX7_share.1.cls = true := by decide +kernel
theorem pl_X7_coverage : plainName mX7_coverage.1.cls = true := by decide +kernel
theorem pl_X7_leastCoverage : plainName mX7_leastCoverage.1.cls = true := by decide +kernel
theorem pl_X7_bestSet : plainName mX7_bestSet.1.cls = true := by decide +kernel
theorem pl_X7_bestMeals : plainName mX7_bestMeals.1.cls = true := by decide +kernel
theorem pl_X7_bestOrder : plainName mX7_bestOrder.1.cls = true := by decide +kernel
theorem pl_X7_neededDelay : plainName mX7_neededDelay.1.cls = true := by decide +kernel
theorem pl_X7_deliveredWithout : plainName mX7_deliveredWithout.1.cls = true := by decide +kernel
theorem pl_X7_worstJob : plainName mX7_worstJob.1.cls = true := by decide +kernel
theorem pl_X7_addJob : plainName mX7_addJob.1.cls = true := by decide +kernel
theorem pl_X7_removeJob : plainName mX7_removeJob.1.cls = true := by decide +kernel
theorem pl_X7_moveJob : plainName mX7_moveJob.1.cls = true := by decide +kernel
theorem pl_X7_setDeparture : plainName mX7_setDeparture.1.cls = true := by decide +kernel
theorem pl_X7_setStock : plainName mX7_setStock.1.cls = true := by decide +kernel
theorem pl_X7_applyBest : plainName mX7_applyBest.1.cls = true := by decide +kernel
theorem pl_X7_undo : plainName mX7_undo.1.cls = true := by decide +kernel
theorem pl_X7_save : plainName mX7_save.1.cls = true := by decide +kernel
theorem pl_X7_restore : plainName mX7_restore.1.cls = true := by decide +kernel
theorem pl_X7_error : plainName mX7_error.1.cls = true := by decide +kernel
theorem pl_X7_answer : plainName mX7_answer.1.cls = true := by decide +kernel
theorem pl_X7_answerLong : plainName mX7_answerLong.1.cls = true := by decide +kernel
theorem pl_X7_fail : plainName mX7_fail.1.cls = true := by decide +kernel
theorem pl_X7_failLong : plainName mX7_failLong.1.cls = true := by decide +kernel
theorem pl_X7_changed : plainName mX7_changed.1.cls = true := by decide +kernel
theorem pl_X7_rehearse : plainName mX7_rehearse.1.cls = true := by decide +kernel
theorem pl_X7_takeParsedPlan : plainName mX7_takeParsedPlan.1.cls = true := by decide +kernel
theorem pl_X7_isTrain : plainName mX7_isTrain.1.cls = true := by decide +kernel
theorem pl_X7_isCar : plainName mX7_isCar.1.cls = true := by decide +kernel
theorem pl_X7_isMeal : plainName mX7_isMeal.1.cls = true := by decide +kernel
theorem pl_X7_isCarMeal : plainName mX7_isCarMeal.1.cls = true := by decide +kernel
theorem pl_X7_isStock : plainName mX7_isStock.1.cls = true := by decide +kernel
theorem pl_X7_isTrolley : plainName mX7_isTrolley.1.cls = true := by decide +kernel
theorem pl_X7_isJob : plainName mX7_isJob.1.cls = true := by decide +kernel
theorem pl_X7_isJobQuantity : plainName mX7_isJobQuantity.1.cls = true := by decide +kernel
theorem pl_X7_doorIndex : plainName mX7_doorIndex.1.cls = true := by decide +kernel
theorem pl_X7_stockIndex : plainName mX7_stockIndex.1.cls = true := by decide +kernel
theorem pl_X7_handedAt : plainName mX7_handedAt.1.cls = true := by decide +kernel
theorem pl_X7_handedToTrain : plainName mX7_handedToTrain.1.cls = true := by decide +kernel
theorem pl_X7_wantedByTrain : plainName mX7_wantedByTrain.1.cls = true := by decide +kernel
theorem pl_X7_addClaims : plainName mX7_addClaims.1.cls = true := by decide +kernel
theorem pl_X7_shareInTrain : plainName mX7_shareInTrain.1.cls = true := by decide +kernel
theorem pl_X7_coverageAbove : plainName mX7_coverageAbove.1.cls = true := by decide +kernel
theorem pl_X7_coverageBelow : plainName mX7_coverageBelow.1.cls = true := by decide +kernel
theorem pl_X7_lowestTerm : plainName mX7_lowestTerm.1.cls = true := by decide +kernel
theorem pl_X7_compareCoverage : plainName mX7_compareCoverage.1.cls = true := by decide +kernel
theorem pl_X7_commonDivisor : plainName mX7_commonDivisor.1.cls = true := by decide +kernel
theorem pl_X7_wholeParts : plainName mX7_wholeParts.1.cls = true := by decide +kernel
theorem pl_X7_partsRoundedUp : plainName mX7_partsRoundedUp.1.cls = true := by decide +kernel
theorem pl_J7_fill_53178 : plainName mJ7_fill_53178.1.cls = true := by decide +kernel
theorem pl_J6_compare_7cf53 : plainName mJ6_compare_7cf53.1.cls = true := by decide +kernel
theorem pl_J6_bitCount_0f7a4 : plainName mJ6_bitCount_0f7a4.1.cls = true := by decide +kernel
theorem pl_J8_vectorizedMismatch_456ae : plainName mJ8_vectorizedMismatch_456ae.1.cls = true := by decide +kernel
theorem pl_J8_mismatch_05dfe : plainName mJ8_mismatch_05dfe.1.cls = true := by decide +kernel
theorem pl_J7_equals_bbcde : plainName mJ7_equals_bbcde.1.cls = true := by decide +kernel
theorem pl_L_put : plainName mL_put.1.cls = true := by decide +kernel
theorem pl_L_flush : plainName mL_flush.1.cls = true := by decide +kernel
theorem pl_L_say : plainName mL_say.1.cls = true := by decide +kernel
theorem pl_L_said : plainName mL_said.1.cls = true := by decide +kernel
theorem pl_L_number : plainName mL_number.1.cls = true := by decide +kernel
theorem pl_L_cell : plainName mL_cell.1.cls = true := by decide +kernel
theorem pl_L_drawn : plainName mL_drawn.1.cls = true := by decide +kernel
theorem pl_L_part : plainName mL_part.1.cls = true := by decide +kernel
theorem pl_L_mealName : plainName mL_mealName.1.cls = true := by decide +kernel
theorem pl_L_says : plainName mL_says.1.cls = true := by decide +kernel
theorem pl_L_law : plainName mL_law.1.cls = true := by decide +kernel
theorem pl_L_jobsOf : plainName mL_jobsOf.1.cls = true := by decide +kernel
theorem pl_L_holds : plainName mL_holds.1.cls = true := by decide +kernel
theorem pl_L_mealsHold : plainName mL_mealsHold.1.cls = true := by decide +kernel
theorem pl_L_jobsHold : plainName mL_jobsHold.1.cls = true := by decide +kernel
theorem pl_L_sharesHold : plainName mL_sharesHold.1.cls = true := by decide +kernel
theorem pl_L_bestsHold : plainName mL_bestsHold.1.cls = true := by decide +kernel
theorem pl_L_seen : plainName mL_seen.1.cls = true := by decide +kernel
def SH : List Sh := [(7, 0), (2, 0), (12, 900), (13, 12), (0, 0), (13, 2), (10, 2), (10, 2), (10, 10), (10, 10), (10, 10), (11, 4), (10, 4), (10, 4), (10, 3), (10, 5), (10, 5), (10, 5), (10, 5), (10, 5), (6, 0), (10, 20), (10, 20), (10, 20), (10, 20), (10, 2), (10, 12), (3, 0), (10, 20), (10, 20), (10, 20), (10, 20), (10, 20), (10, 20), (10, 20), (10, 20), (10, 12), (10, 5), (10, 5), (10, 5), (10, 10), (3, 0), (10, 20), (10, 20), (10, 20), (10, 20), (10, 20), (10, 20), (10, 20), (10, 20), (10, 12), (10, 5), (10, 5), (10, 5), (10, 10), (6, 0), (10, 20), (10, 20), (10, 20), (10, 20), (10, 2), (10, 12), (6, 0), (10, 20), (10, 20), (10, 20), (10, 20), (10, 2), (10, 12), (1, 0), (14, 10), (6, 0), (10, 20), (10, 20), (10, 20), (10, 20), (10, 2), (10, 12), (6, 0), (10, 20), (10, 20), (10, 20), (10, 20), (10, 2), (10, 12), (6, 0), (10, 20), (10, 20), (10, 20), (10, 20), (10, 2), (10, 12), (6, 0), (10, 20), (10, 20), (10, 20), (10, 20), (10, 2), (10, 12), (6, 0), (10, 20), (10, 20), (10, 20), (10, 20), (10, 2), (10, 12), (6, 0), (10, 20), (10, 20), (10, 20), (10, 20), (10, 2), (10, 12), (6, 0), (10, 20), (10, 20), (10, 20), (10, 20), (10, 2), (10, 12), (6, 0), (10, 20), (10, 20), (10, 20), (10, 20), (10, 2), (10, 12), (6, 0), (10, 20), (10, 20), (10, 20), (10, 20), (10, 2), (10, 12), (6, 0), (10, 20), (10, 20), (10, 20), (10, 20), (10, 2), (10, 12), (5, 0), (10, 8), (10, 8), (10, 8), (10, 8), (10, 8), (10, 8), (10, 8), (10, 8), (10, 256), (4, 0), (10, 10), (10, 10), (10, 10), (0, 0), (13, 2), (10, 2), (10, 2), (10, 10), (10, 10), (10, 10), (11, 4), (10, 4), (10, 4), (10, 3), (10, 5), (10, 5), (10, 5), (10, 5), (10, 5), (6, 0), (10, 20), (10, 20), (10, 20), (10, 20), (10, 2), (10, 12)]
def GG : Gx := (true, SH)
theorem sh0 : GG.2[0]? = some (7, 0) := rfl
theorem sh1 : GG.2[1]? = some (2, 0) := rfl
theorem sh2 : GG.2[2]? = some (12, 900) := rfl
theorem sh3 : GG.2[3]? = some (13, 12) := rfl
theorem sh4 : GG.2[4]? = some (0, 0) := rfl
theorem sh5 : GG.2[5]? = some (13, 2) := rfl
theorem sh6 : GG.2[6]? = some (10, 2) := rfl
theorem sh7 : GG.2[7]? = some (10, 2) := rfl
theorem sh8 : GG.2[8]? = some (10, 10) := rfl
theorem sh9 : GG.2[9]? = some (10, 10) := rfl
theorem sh10 : GG.2[10]? = some (10, 10) := rfl
theorem sh11 : GG.2[11]? = some (11, 4) := rfl
theorem sh12 : GG.2[12]? = some (10, 4) := rfl
theorem sh13 : GG.2[13]? = some (10, 4) := rfl
theorem sh14 : GG.2[14]? = some (10, 3) := rfl
theorem sh15 : GG.2[15]? = some (10, 5) := rfl
theorem sh16 : GG.2[16]? = some (10, 5) := rfl
theorem sh17 : GG.2[17]? = some (10, 5) := rfl
theorem sh18 : GG.2[18]? = some (10, 5) := rfl
theorem sh19 : GG.2[19]? = some (10, 5) := rfl
theorem sh20 : GG.2[20]? = some (6, 0) := rfl
theorem sh21 : GG.2[21]? = some (10, 20) := rfl
theorem sh22 : GG.2[22]? = some (10, 20) := rfl
theorem sh23 : GG.2[23]? = some (10, 20) := rfl
theorem sh24 : GG.2[24]? = some (10, 20) := rfl
theorem sh25 : GG.2[25]? = some (10, 2) := rfl
theorem sh26 : GG.2[26]? = some (10, 12) := rfl
theorem sh27 : GG.2[27]? = some (3, 0) := rfl
theorem sh28 : GG.2[28]? = some (10, 20) := rfl
theorem sh29 : GG.2[29]? = some (10, 20) := rfl
theorem sh30 : GG.2[30]? = some (10, 20) := rfl
theorem sh31 : GG.2[31]? = some (10, 20) := rfl
theorem sh32 : GG.2[32]? = some (10, 20) := rfl
theorem sh33 : GG.2[33]? = some (10, 20) := rfl
theorem sh34 : GG.2[34]? = some (10, 20) := rfl
theorem sh35 : GG.2[35]? = some (10, 20) := rfl
theorem sh36 : GG.2[36]? = some (10, 12) := rfl
theorem sh37 : GG.2[37]? = some (10, 5) := rfl
theorem sh38 : GG.2[38]? = some (10, 5) := rfl
theorem sh39 : GG.2[39]? = some (10, 5) := rfl
theorem sh40 : GG.2[40]? = some (10, 10) := rfl
theorem sh41 : GG.2[41]? = some (3, 0) := rfl
theorem sh42 : GG.2[42]? = some (10, 20) := rfl
theorem sh43 : GG.2[43]? = some (10, 20) := rfl
theorem sh44 : GG.2[44]? = some (10, 20) := rfl
theorem sh45 : GG.2[45]? = some (10, 20) := rfl
theorem sh46 : GG.2[46]? = some (10, 20) := rfl
theorem sh47 : GG.2[47]? = some (10, 20) := rfl
theorem sh48 : GG.2[48]? = some (10, 20) := rfl
theorem sh49 : GG.2[49]? = some (10, 20) := rfl
theorem sh50 : GG.2[50]? = some (10, 12) := rfl
theorem sh51 : GG.2[51]? = some (10, 5) := rfl
theorem sh52 : GG.2[52]? = some (10, 5) := rfl
theorem sh53 : GG.2[53]? = some (10, 5) := rfl
theorem sh54 : GG.2[54]? = some (10, 10) := rfl
theorem sh55 : GG.2[55]? = some (6, 0) := rfl
theorem sh56 : GG.2[56]? = some (10, 20) := rfl
theorem sh57 : GG.2[57]? = some (10, 20) := rfl
theorem sh58 : GG.2[58]? = some (10, 20) := rfl
theorem sh59 : GG.2[59]? = some (10, 20) := rfl
theorem sh60 : GG.2[60]? = some (10, 2) := rfl
theorem sh61 : GG.2[61]? = some (10, 12) := rfl
theorem sh62 : GG.2[62]? = some (6, 0) := rfl
theorem sh63 : GG.2[63]? = some (10, 20) := rfl
theorem sh64 : GG.2[64]? = some (10, 20) := rfl
theorem sh65 : GG.2[65]? = some (10, 20) := rfl
theorem sh66 : GG.2[66]? = some (10, 20) := rfl
theorem sh67 : GG.2[67]? = some (10, 2) := rfl
theorem sh68 : GG.2[68]? = some (10, 12) := rfl
theorem sh69 : GG.2[69]? = some (1, 0) := rfl
theorem sh70 : GG.2[70]? = some (14, 10) := rfl
theorem sh71 : GG.2[71]? = some (6, 0) := rfl
theorem sh72 : GG.2[72]? = some (10, 20) := rfl
theorem sh73 : GG.2[73]? = some (10, 20) := rfl
theorem sh74 : GG.2[74]? = some (10, 20) := rfl
theorem sh75 : GG.2[75]? = some (10, 20) := rfl
theorem sh76 : GG.2[76]? = some (10, 2) := rfl
theorem sh77 : GG.2[77]? = some (10, 12) := rfl
theorem sh78 : GG.2[78]? = some (6, 0) := rfl
theorem sh79 : GG.2[79]? = some (10, 20) := rfl
theorem sh80 : GG.2[80]? = some (10, 20) := rfl
theorem sh81 : GG.2[81]? = some (10, 20) := rfl
theorem sh82 : GG.2[82]? = some (10, 20) := rfl
theorem sh83 : GG.2[83]? = some (10, 2) := rfl
theorem sh84 : GG.2[84]? = some (10, 12) := rfl
theorem sh85 : GG.2[85]? = some (6, 0) := rfl
theorem sh86 : GG.2[86]? = some (10, 20) := rfl
theorem sh87 : GG.2[87]? = some (10, 20) := rfl
theorem sh88 : GG.2[88]? = some (10, 20) := rfl
theorem sh89 : GG.2[89]? = some (10, 20) := rfl
theorem sh90 : GG.2[90]? = some (10, 2) := rfl
theorem sh91 : GG.2[91]? = some (10, 12) := rfl
theorem sh92 : GG.2[92]? = some (6, 0) := rfl
theorem sh93 : GG.2[93]? = some (10, 20) := rfl
theorem sh94 : GG.2[94]? = some (10, 20) := rfl
theorem sh95 : GG.2[95]? = some (10, 20) := rfl
theorem sh96 : GG.2[96]? = some (10, 20) := rfl
theorem sh97 : GG.2[97]? = some (10, 2) := rfl
theorem sh98 : GG.2[98]? = some (10, 12) := rfl
theorem sh99 : GG.2[99]? = some (6, 0) := rfl
theorem sh100 : GG.2[100]? = some (10, 20) := rfl
theorem sh101 : GG.2[101]? = some (10, 20) := rfl
theorem sh102 : GG.2[102]? = some (10, 20) := rfl
theorem sh103 : GG.2[103]? = some (10, 20) := rfl
theorem sh104 : GG.2[104]? = some (10, 2) := rfl
theorem sh105 : GG.2[105]? = some (10, 12) := rfl
theorem sh106 : GG.2[106]? = some (6, 0) := rfl
theorem sh107 : GG.2[107]? = some (10, 20) := rfl
theorem sh108 : GG.2[108]? = some (10, 20) := rfl
theorem sh109 : GG.2[109]? = some (10, 20) := rfl
theorem sh110 : GG.2[110]? = some (10, 20) := rfl
theorem sh111 : GG.2[111]? = some (10, 2) := rfl
theorem sh112 : GG.2[112]? = some (10, 12) := rfl
theorem sh113 : GG.2[113]? = some (6, 0) := rfl
theorem sh114 : GG.2[114]? = some (10, 20) := rfl
theorem sh115 : GG.2[115]? = some (10, 20) := rfl
theorem sh116 : GG.2[116]? = some (10, 20) := rfl
theorem sh117 : GG.2[117]? = some (10, 20) := rfl
theorem sh118 : GG.2[118]? = some (10, 2) := rfl
theorem sh119 : GG.2[119]? = some (10, 12) := rfl
theorem sh120 : GG.2[120]? = some (6, 0) := rfl
theorem sh121 : GG.2[121]? = some (10, 20) := rfl
theorem sh122 : GG.2[122]? = some (10, 20) := rfl
theorem sh123 : GG.2[123]? = some (10, 20) := rfl
theorem sh124 : GG.2[124]? = some (10, 20) := rfl
theorem sh125 : GG.2[125]? = some (10, 2) := rfl
theorem sh126 : GG.2[126]? = some (10, 12) := rfl
theorem sh127 : GG.2[127]? = some (6, 0) := rfl
theorem sh128 : GG.2[128]? = some (10, 20) := rfl
theorem sh129 : GG.2[129]? = some (10, 20) := rfl
theorem sh130 : GG.2[130]? = some (10, 20) := rfl
theorem sh131 : GG.2[131]? = some (10, 20) := rfl
theorem sh132 : GG.2[132]? = some (10, 2) := rfl
theorem sh133 : GG.2[133]? = some (10, 12) := rfl
theorem sh134 : GG.2[134]? = some (6, 0) := rfl
theorem sh135 : GG.2[135]? = some (10, 20) := rfl
theorem sh136 : GG.2[136]? = some (10, 20) := rfl
theorem sh137 : GG.2[137]? = some (10, 20) := rfl
theorem sh138 : GG.2[138]? = some (10, 20) := rfl
theorem sh139 : GG.2[139]? = some (10, 2) := rfl
theorem sh140 : GG.2[140]? = some (10, 12) := rfl
theorem sh141 : GG.2[141]? = some (5, 0) := rfl
theorem sh142 : GG.2[142]? = some (10, 8) := rfl
theorem sh143 : GG.2[143]? = some (10, 8) := rfl
theorem sh144 : GG.2[144]? = some (10, 8) := rfl
theorem sh145 : GG.2[145]? = some (10, 8) := rfl
theorem sh146 : GG.2[146]? = some (10, 8) := rfl
theorem sh147 : GG.2[147]? = some (10, 8) := rfl
theorem sh148 : GG.2[148]? = some (10, 8) := rfl
theorem sh149 : GG.2[149]? = some (10, 8) := rfl
theorem sh150 : GG.2[150]? = some (10, 256) := rfl
theorem sh151 : GG.2[151]? = some (4, 0) := rfl
theorem sh152 : GG.2[152]? = some (10, 10) := rfl
theorem sh153 : GG.2[153]? = some (10, 10) := rfl
theorem sh154 : GG.2[154]? = some (10, 10) := rfl
theorem sh155 : GG.2[155]? = some (0, 0) := rfl
theorem sh156 : GG.2[156]? = some (13, 2) := rfl
theorem sh157 : GG.2[157]? = some (10, 2) := rfl
theorem sh158 : GG.2[158]? = some (10, 2) := rfl
theorem sh159 : GG.2[159]? = some (10, 10) := rfl
theorem sh160 : GG.2[160]? = some (10, 10) := rfl
theorem sh161 : GG.2[161]? = some (10, 10) := rfl
theorem sh162 : GG.2[162]? = some (11, 4) := rfl
theorem sh163 : GG.2[163]? = some (10, 4) := rfl
theorem sh164 : GG.2[164]? = some (10, 4) := rfl
theorem sh165 : GG.2[165]? = some (10, 3) := rfl
theorem sh166 : GG.2[166]? = some (10, 5) := rfl
theorem sh167 : GG.2[167]? = some (10, 5) := rfl
theorem sh168 : GG.2[168]? = some (10, 5) := rfl
theorem sh169 : GG.2[169]? = some (10, 5) := rfl
theorem sh170 : GG.2[170]? = some (10, 5) := rfl
theorem sh171 : GG.2[171]? = some (6, 0) := rfl
theorem sh172 : GG.2[172]? = some (10, 20) := rfl
theorem sh173 : GG.2[173]? = some (10, 20) := rfl
theorem sh174 : GG.2[174]? = some (10, 20) := rfl
theorem sh175 : GG.2[175]? = some (10, 20) := rfl
theorem sh176 : GG.2[176]? = some (10, 2) := rfl
theorem sh177 : GG.2[177]? = some (10, 12) := rfl
def isO (ci o : Nat) : Prop := GG.2[o]? = some (ci, 0)
theorem shN {o : Nat} {sh : Sh} (h : GG.2[o]? = some sh) : o ≠ nid := by
  have h1 : o < SH.length := (List.getElem?_eq_some_iff.mp h).1
  have h2 : SH.length = 178 := rfl
  unfold nid
  omega
theorem isO_0 {o : Nat} (h : isO 0 o) : o = 4 ∨ o = 155 := by
  have h1 : ∀ o, o < SH.length → SH[o]? = some (0, 0) → o ∈ [4, 155] := by decide +kernel
  have h2 := h1 o (List.getElem?_eq_some_iff.mp h).1 h
  simpa using h2
theorem ar0_0 {o : Nat} (h : isO 0 o) : GG.2[o + 1]? = some (13, 2) := by
  rcases isO_0 h with rfl | rfl <;> rfl
theorem ar0_1 {o : Nat} (h : isO 0 o) : GG.2[o + 2]? = some (10, 2) := by
  rcases isO_0 h with rfl | rfl <;> rfl
theorem ar0_2 {o : Nat} (h : isO 0 o) : GG.2[o + 3]? = some (10, 2) := by
  rcases isO_0 h with rfl | rfl <;> rfl
theorem ar0_3 {o : Nat} (h : isO 0 o) : GG.2[o + 4]? = some (10, 10) := by
  rcases isO_0 h with rfl | rfl <;> rfl
theorem ar0_4 {o : Nat} (h : isO 0 o) : GG.2[o + 5]? = some (10, 10) := by
  rcases isO_0 h with rfl | rfl <;> rfl
theorem ar0_5 {o : Nat} (h : isO 0 o) : GG.2[o + 6]? = some (10, 10) := by
  rcases isO_0 h with rfl | rfl <;> rfl
theorem ar0_6 {o : Nat} (h : isO 0 o) : GG.2[o + 7]? = some (11, 4) := by
  rcases isO_0 h with rfl | rfl <;> rfl
theorem ar0_7 {o : Nat} (h : isO 0 o) : GG.2[o + 8]? = some (10, 4) := by
  rcases isO_0 h with rfl | rfl <;> rfl
theorem ar0_8 {o : Nat} (h : isO 0 o) : GG.2[o + 9]? = some (10, 4) := by
  rcases isO_0 h with rfl | rfl <;> rfl
theorem ar0_9 {o : Nat} (h : isO 0 o) : GG.2[o + 10]? = some (10, 3) := by
  rcases isO_0 h with rfl | rfl <;> rfl
theorem ar0_10 {o : Nat} (h : isO 0 o) : GG.2[o + 11]? = some (10, 5) := by
  rcases isO_0 h with rfl | rfl <;> rfl
theorem ar0_11 {o : Nat} (h : isO 0 o) : GG.2[o + 12]? = some (10, 5) := by
  rcases isO_0 h with rfl | rfl <;> rfl
theorem ar0_12 {o : Nat} (h : isO 0 o) : GG.2[o + 13]? = some (10, 5) := by
  rcases isO_0 h with rfl | rfl <;> rfl
theorem ar0_13 {o : Nat} (h : isO 0 o) : GG.2[o + 14]? = some (10, 5) := by
  rcases isO_0 h with rfl | rfl <;> rfl
theorem ar0_14 {o : Nat} (h : isO 0 o) : GG.2[o + 15]? = some (10, 5) := by
  rcases isO_0 h with rfl | rfl <;> rfl
theorem isO_3 {o : Nat} (h : isO 3 o) : o = 27 ∨ o = 41 := by
  have h1 : ∀ o, o < SH.length → SH[o]? = some (3, 0) → o ∈ [27, 41] := by decide +kernel
  have h2 := h1 o (List.getElem?_eq_some_iff.mp h).1 h
  simpa using h2
theorem ar3_0 {o : Nat} (h : isO 3 o) : GG.2[o + 1]? = some (10, 20) := by
  rcases isO_3 h with rfl | rfl <;> rfl
theorem ar3_1 {o : Nat} (h : isO 3 o) : GG.2[o + 2]? = some (10, 20) := by
  rcases isO_3 h with rfl | rfl <;> rfl
theorem ar3_2 {o : Nat} (h : isO 3 o) : GG.2[o + 3]? = some (10, 20) := by
  rcases isO_3 h with rfl | rfl <;> rfl
theorem ar3_3 {o : Nat} (h : isO 3 o) : GG.2[o + 4]? = some (10, 20) := by
  rcases isO_3 h with rfl | rfl <;> rfl
theorem ar3_4 {o : Nat} (h : isO 3 o) : GG.2[o + 5]? = some (10, 20) := by
  rcases isO_3 h with rfl | rfl <;> rfl
theorem ar3_5 {o : Nat} (h : isO 3 o) : GG.2[o + 6]? = some (10, 20) := by
  rcases isO_3 h with rfl | rfl <;> rfl
theorem ar3_6 {o : Nat} (h : isO 3 o) : GG.2[o + 7]? = some (10, 20) := by
  rcases isO_3 h with rfl | rfl <;> rfl
theorem ar3_7 {o : Nat} (h : isO 3 o) : GG.2[o + 8]? = some (10, 20) := by
  rcases isO_3 h with rfl | rfl <;> rfl
theorem ar3_8 {o : Nat} (h : isO 3 o) : GG.2[o + 9]? = some (10, 12) := by
  rcases isO_3 h with rfl | rfl <;> rfl
theorem ar3_10 {o : Nat} (h : isO 3 o) : GG.2[o + 10]? = some (10, 5) := by
  rcases isO_3 h with rfl | rfl <;> rfl
theorem ar3_11 {o : Nat} (h : isO 3 o) : GG.2[o + 11]? = some (10, 5) := by
  rcases isO_3 h with rfl | rfl <;> rfl
theorem ar3_12 {o : Nat} (h : isO 3 o) : GG.2[o + 12]? = some (10, 5) := by
  rcases isO_3 h with rfl | rfl <;> rfl
theorem ar3_13 {o : Nat} (h : isO 3 o) : GG.2[o + 13]? = some (10, 10) := by
  rcases isO_3 h with rfl | rfl <;> rfl
theorem isO_6 {o : Nat} (h : isO 6 o) : o = 20 ∨ o = 55 ∨ o = 62 ∨ o = 71 ∨ o = 78 ∨ o = 85 ∨ o = 92 ∨ o = 99 ∨ o = 106 ∨ o = 113 ∨ o = 120 ∨ o = 127 ∨ o = 134 ∨ o = 171 := by
  have h1 : ∀ o, o < SH.length → SH[o]? = some (6, 0) → o ∈ [20, 55, 62, 71, 78, 85, 92, 99, 106, 113, 120, 127, 134, 171] := by decide +kernel
  have h2 := h1 o (List.getElem?_eq_some_iff.mp h).1 h
  simpa using h2
theorem ar6_0 {o : Nat} (h : isO 6 o) : GG.2[o + 1]? = some (10, 20) := by
  rcases isO_6 h with rfl | rfl | rfl | rfl | rfl | rfl | rfl | rfl | rfl | rfl | rfl | rfl | rfl | rfl <;> rfl
theorem ar6_1 {o : Nat} (h : isO 6 o) : GG.2[o + 2]? = some (10, 20) := by
  rcases isO_6 h with rfl | rfl | rfl | rfl | rfl | rfl | rfl | rfl | rfl | rfl | rfl | rfl | rfl | rfl <;> rfl
theorem ar6_2 {o : Nat} (h : isO 6 o) : GG.2[o + 3]? = some (10, 20) := by
  rcases isO_6 h with rfl | rfl | rfl | rfl | rfl | rfl | rfl | rfl | rfl | rfl | rfl | rfl | rfl | rfl <;> rfl
theorem ar6_3 {o : Nat} (h : isO 6 o) : GG.2[o + 4]? = some (10, 20) := by
  rcases isO_6 h with rfl | rfl | rfl | rfl | rfl | rfl | rfl | rfl | rfl | rfl | rfl | rfl | rfl | rfl <;> rfl
theorem ar6_4 {o : Nat} (h : isO 6 o) : GG.2[o + 5]? = some (10, 2) := by
  rcases isO_6 h with rfl | rfl | rfl | rfl | rfl | rfl | rfl | rfl | rfl | rfl | rfl | rfl | rfl | rfl <;> rfl
theorem ar6_5 {o : Nat} (h : isO 6 o) : GG.2[o + 6]? = some (10, 12) := by
  rcases isO_6 h with rfl | rfl | rfl | rfl | rfl | rfl | rfl | rfl | rfl | rfl | rfl | rfl | rfl | rfl <;> rfl
theorem fs_X0_15 : FS RX0 15 0 1 2 true (.array .int) := ⟨(RX0, TX0, 18), rfl, by decide, rfl, kF_X0_15, rfl, by decide +kernel, rfl⟩
theorem fs_X0_19 : FS RX0 19 0 2 2 true (.array .int) := ⟨(RX0, TX0, 18), rfl, by decide, rfl, kF_X0_19, rfl, by decide +kernel, rfl⟩
theorem fs_X0_22 : FS RX0 22 0 3 2 true (.array .int) := ⟨(RX0, TX0, 18), rfl, by decide, rfl, kF_X0_22, rfl, by decide +kernel, rfl⟩
theorem fs_X0_25 : FS RX0 25 0 4 2 true (.array .int) := ⟨(RX0, TX0, 18), rfl, by decide, rfl, kF_X0_25, rfl, by decide +kernel, rfl⟩
theorem fs_X0_28 : FS RX0 28 0 5 2 true (.array .int) := ⟨(RX0, TX0, 18), rfl, by decide, rfl, kF_X0_28, rfl, by decide +kernel, rfl⟩
theorem fs_X0_31 : FS RX0 31 0 6 2 true (.array .long) := ⟨(RX0, TX0, 18), rfl, by decide, rfl, kF_X0_31, rfl, by decide +kernel, rfl⟩
theorem fs_X0_35 : FS RX0 35 0 7 2 true (.array .int) := ⟨(RX0, TX0, 18), rfl, by decide, rfl, kF_X0_35, rfl, by decide +kernel, rfl⟩
theorem fs_X0_38 : FS RX0 38 0 8 2 true (.array .int) := ⟨(RX0, TX0, 18), rfl, by decide, rfl, kF_X0_38, rfl, by decide +kernel, rfl⟩
theorem fs_X0_41 : FS RX0 41 0 9 2 true (.array .int) := ⟨(RX0, TX0, 18), rfl, by decide, rfl, kF_X0_41, rfl, by decide +kernel, rfl⟩
theorem fs_X0_44 : FS RX0 44 0 10 2 true (.array .int) := ⟨(RX0, TX0, 18), rfl, by decide, rfl, kF_X0_44, rfl, by decide +kernel, rfl⟩
theorem fs_X0_47 : FS RX0 47 0 11 2 true (.array .int) := ⟨(RX0, TX0, 18), rfl, by decide, rfl, kF_X0_47, rfl, by decide +kernel, rfl⟩
theorem fs_X0_50 : FS RX0 50 0 12 2 true (.array .int) := ⟨(RX0, TX0, 18), rfl, by decide, rfl, kF_X0_50, rfl, by decide +kernel, rfl⟩
theorem fs_X0_53 : FS RX0 53 0 13 2 true (.array .int) := ⟨(RX0, TX0, 18), rfl, by decide, rfl, kF_X0_53, rfl, by decide +kernel, rfl⟩
theorem fs_X0_56 : FS RX0 56 0 14 2 true (.array .int) := ⟨(RX0, TX0, 18), rfl, by decide, rfl, kF_X0_56, rfl, by decide +kernel, rfl⟩
theorem fs_X0_59 : FS RX0 59 0 15 0 false .int := ⟨(RX0, TX0, 18), rfl, by decide, rfl, kF_X0_59, rfl, by decide +kernel, rfl⟩
theorem fs_X0_63 : FS RX0 63 0 16 0 false .int := ⟨(RX0, TX0, 18), rfl, by decide, rfl, kF_X0_63, rfl, by decide +kernel, rfl⟩
theorem fs_X0_66 : FS RX0 66 0 17 0 false .int := ⟨(RX0, TX0, 18), rfl, by decide, rfl, kF_X0_66, rfl, by decide +kernel, rfl⟩
theorem fs_X0_9 : FS RX0 9 0 0 2 true (.array .boolean) := ⟨(RX0, TX0, 18), rfl, by decide, rfl, kF_X0_9, rfl, by decide +kernel, rfl⟩
theorem fs_X1_11 : FS RX1 11 1 0 2 true (.array (.object "TrolleyPlanner$State")) := ⟨(RX1, TX1, 2), rfl, by decide, rfl, kF_X1_11, rfl, by decide +kernel, rfl⟩
theorem fs_X1_18 : FS RX1 18 1 1 0 false .int := ⟨(RX1, TX1, 2), rfl, by decide, rfl, kF_X1_18, rfl, by decide +kernel, rfl⟩
theorem fs_X2_137 : FS RX2 137 0 1 2 true (.array .int) := ⟨(RX0, TX0, 18), rfl, by decide, rfl, kF_X2_137, rfl, by decide +kernel, rfl⟩
theorem fs_X2_140 : FS RX2 140 6 4 2 true (.array .int) := ⟨(RX6, TX6, 7), rfl, by decide, rfl, kF_X2_140, rfl, by decide +kernel, rfl⟩
theorem fs_X2_149 : FS RX2 149 0 3 2 true (.array .int) := ⟨(RX0, TX0, 18), rfl, by decide, rfl, kF_X2_149, rfl, by decide +kernel, rfl⟩
theorem fs_X2_15 : FS RX2 15 2 1 2 true (.array .boolean) := ⟨(RX2, TX2, 13), rfl, by decide, rfl, kF_X2_15, rfl, by decide +kernel, rfl⟩
theorem fs_X2_152 : FS RX2 152 0 4 2 true (.array .int) := ⟨(RX0, TX0, 18), rfl, by decide, rfl, kF_X2_152, rfl, by decide +kernel, rfl⟩
theorem fs_X2_155 : FS RX2 155 0 5 2 true (.array .int) := ⟨(RX0, TX0, 18), rfl, by decide, rfl, kF_X2_155, rfl, by decide +kernel, rfl⟩
theorem fs_X2_165 : FS RX2 165 0 6 2 true (.array .long) := ⟨(RX0, TX0, 18), rfl, by decide, rfl, kF_X2_165, rfl, by decide +kernel, rfl⟩
theorem fs_X2_169 : FS RX2 169 0 7 2 true (.array .int) := ⟨(RX0, TX0, 18), rfl, by decide, rfl, kF_X2_169, rfl, by decide +kernel, rfl⟩
theorem fs_X2_172 : FS RX2 172 0 8 2 true (.array .int) := ⟨(RX0, TX0, 18), rfl, by decide, rfl, kF_X2_172, rfl, by decide +kernel, rfl⟩
theorem fs_X2_175 : FS RX2 175 0 16 0 false .int := ⟨(RX0, TX0, 18), rfl, by decide, rfl, kF_X2_175, rfl, by decide +kernel, rfl⟩
theorem fs_X2_178 : FS RX2 178 0 9 2 true (.array .int) := ⟨(RX0, TX0, 18), rfl, by decide, rfl, kF_X2_178, rfl, by decide +kernel, rfl⟩
theorem fs_X2_188 : FS RX2 188 6 5 2 true (.array .int) := ⟨(RX6, TX6, 7), rfl, by decide, rfl, kF_X2_188, rfl, by decide +kernel, rfl⟩
theorem fs_X2_19 : FS RX2 19 2 4 0 false .int := ⟨(RX2, TX2, 13), rfl, by decide, rfl, kF_X2_19, rfl, by decide +kernel, rfl⟩
theorem fs_X2_191 : FS RX2 191 0 10 2 true (.array .int) := ⟨(RX0, TX0, 18), rfl, by decide, rfl, kF_X2_191, rfl, by decide +kernel, rfl⟩
theorem fs_X2_194 : FS RX2 194 0 11 2 true (.array .int) := ⟨(RX0, TX0, 18), rfl, by decide, rfl, kF_X2_194, rfl, by decide +kernel, rfl⟩
theorem fs_X2_197 : FS RX2 197 0 12 2 true (.array .int) := ⟨(RX0, TX0, 18), rfl, by decide, rfl, kF_X2_197, rfl, by decide +kernel, rfl⟩
theorem fs_X2_200 : FS RX2 200 0 13 2 true (.array .int) := ⟨(RX0, TX0, 18), rfl, by decide, rfl, kF_X2_200, rfl, by decide +kernel, rfl⟩
theorem fs_X2_203 : FS RX2 203 0 14 2 true (.array .int) := ⟨(RX0, TX0, 18), rfl, by decide, rfl, kF_X2_203, rfl, by decide +kernel, rfl⟩
theorem fs_X2_206 : FS RX2 206 6 6 0 false .int := ⟨(RX6, TX6, 7), rfl, by decide, rfl, kF_X2_206, rfl, by decide +kernel, rfl⟩
theorem fs_X2_217 : FS RX2 217 2 11 0 false .int := ⟨(RX2, TX2, 13), rfl, by decide, rfl, kF_X2_217, rfl, by decide +kernel, rfl⟩
theorem fs_X2_26 : FS RX2 26 2 5 2 false (.object "TrolleyPlanner$Facts") := ⟨(RX2, TX2, 13), rfl, by decide, rfl, kF_X2_26, rfl, by decide +kernel, rfl⟩
theorem fs_X2_33 : FS RX2 33 2 6 2 false (.object "TrolleyPlanner$State") := ⟨(RX2, TX2, 13), rfl, by decide, rfl, kF_X2_33, rfl, by decide +kernel, rfl⟩
theorem fs_X2_37 : FS RX2 37 2 2 0 false .int := ⟨(RX2, TX2, 13), rfl, by decide, rfl, kF_X2_37, rfl, by decide +kernel, rfl⟩
theorem fs_X2_44 : FS RX2 44 2 3 0 false .int := ⟨(RX2, TX2, 13), rfl, by decide, rfl, kF_X2_44, rfl, by decide +kernel, rfl⟩
theorem fs_X2_47 : FS RX2 47 2 7 0 false .int := ⟨(RX2, TX2, 13), rfl, by decide, rfl, kF_X2_47, rfl, by decide +kernel, rfl⟩
theorem fs_X2_50 : FS RX2 50 2 8 0 false .int := ⟨(RX2, TX2, 13), rfl, by decide, rfl, kF_X2_50, rfl, by decide +kernel, rfl⟩
theorem fs_X2_59 : FS RX2 59 2 10 0 false .int := ⟨(RX2, TX2, 13), rfl, by decide, rfl, kF_X2_59, rfl, by decide +kernel, rfl⟩
theorem fs_X2_70 : FS RX2 70 2 9 0 false .int := ⟨(RX2, TX2, 13), rfl, by decide, rfl, kF_X2_70, rfl, by decide +kernel, rfl⟩
theorem fs_X2_73 : FS RX2 73 0 0 2 true (.array .boolean) := ⟨(RX0, TX0, 18), rfl, by decide, rfl, kF_X2_73, rfl, by decide +kernel, rfl⟩
theorem fs_X2_76 : FS RX2 76 0 2 2 true (.array .int) := ⟨(RX0, TX0, 18), rfl, by decide, rfl, kF_X2_76, rfl, by decide +kernel, rfl⟩
theorem fs_X2_80 : FS RX2 80 0 15 0 false .int := ⟨(RX0, TX0, 18), rfl, by decide, rfl, kF_X2_80, rfl, by decide +kernel, rfl⟩
theorem fs_X2_83 : FS RX2 83 0 17 0 false .int := ⟨(RX0, TX0, 18), rfl, by decide, rfl, kF_X2_83, rfl, by decide +kernel, rfl⟩
theorem fs_X2_86 : FS RX2 86 2 12 1 false .long := ⟨(RX2, TX2, 13), rfl, by decide, rfl, kF_X2_86, rfl, by decide +kernel, rfl⟩
theorem fs_X2_9 : FS RX2 9 2 0 2 true (.array .byte) := ⟨(RX2, TX2, 13), rfl, by decide, rfl, kF_X2_9, rfl, by decide +kernel, rfl⟩
theorem fs_X3_100 : FS RX3 100 6 2 2 true (.array .int) := ⟨(RX6, TX6, 7), rfl, by decide, rfl, kF_X3_100, rfl, by decide +kernel, rfl⟩
theorem fs_X3_106 : FS RX3 106 6 3 2 true (.array .int) := ⟨(RX6, TX6, 7), rfl, by decide, rfl, kF_X3_106, rfl, by decide +kernel, rfl⟩
theorem fs_X3_117 : FS RX3 117 0 13 2 true (.array .int) := ⟨(RX0, TX0, 18), rfl, by decide, rfl, kF_X3_117, rfl, by decide +kernel, rfl⟩
theorem fs_X3_124 : FS RX3 124 6 1 2 true (.array .int) := ⟨(RX6, TX6, 7), rfl, by decide, rfl, kF_X3_124, rfl, by decide +kernel, rfl⟩
theorem fs_X3_127 : FS RX3 127 0 12 2 true (.array .int) := ⟨(RX0, TX0, 18), rfl, by decide, rfl, kF_X3_127, rfl, by decide +kernel, rfl⟩
theorem fs_X3_137 : FS RX3 137 0 14 2 true (.array .int) := ⟨(RX0, TX0, 18), rfl, by decide, rfl, kF_X3_137, rfl, by decide +kernel, rfl⟩
theorem fs_X3_140 : FS RX3 140 0 1 2 true (.array .int) := ⟨(RX0, TX0, 18), rfl, by decide, rfl, kF_X3_140, rfl, by decide +kernel, rfl⟩
theorem fs_X3_146 : FS RX3 146 6 4 2 true (.array .int) := ⟨(RX6, TX6, 7), rfl, by decide, rfl, kF_X3_146, rfl, by decide +kernel, rfl⟩
theorem fs_X3_15 : FS RX3 15 3 1 2 true (.array .int) := ⟨(RX3, TX3, 14), rfl, by decide, rfl, kF_X3_15, rfl, by decide +kernel, rfl⟩
theorem fs_X3_152 : FS RX3 152 6 6 0 false .int := ⟨(RX6, TX6, 7), rfl, by decide, rfl, kF_X3_152, rfl, by decide +kernel, rfl⟩
theorem fs_X3_18 : FS RX3 18 3 2 2 true (.array .int) := ⟨(RX3, TX3, 14), rfl, by decide, rfl, kF_X3_18, rfl, by decide +kernel, rfl⟩
theorem fs_X3_21 : FS RX3 21 3 3 2 true (.array .int) := ⟨(RX3, TX3, 14), rfl, by decide, rfl, kF_X3_21, rfl, by decide +kernel, rfl⟩
theorem fs_X3_24 : FS RX3 24 3 4 2 true (.array .int) := ⟨(RX3, TX3, 14), rfl, by decide, rfl, kF_X3_24, rfl, by decide +kernel, rfl⟩
theorem fs_X3_27 : FS RX3 27 3 5 2 true (.array .int) := ⟨(RX3, TX3, 14), rfl, by decide, rfl, kF_X3_27, rfl, by decide +kernel, rfl⟩
theorem fs_X3_30 : FS RX3 30 3 6 2 true (.array .int) := ⟨(RX3, TX3, 14), rfl, by decide, rfl, kF_X3_30, rfl, by decide +kernel, rfl⟩
theorem fs_X3_33 : FS RX3 33 3 7 2 true (.array .int) := ⟨(RX3, TX3, 14), rfl, by decide, rfl, kF_X3_33, rfl, by decide +kernel, rfl⟩
theorem fs_X3_36 : FS RX3 36 3 8 2 true (.array .int) := ⟨(RX3, TX3, 14), rfl, by decide, rfl, kF_X3_36, rfl, by decide +kernel, rfl⟩
theorem fs_X3_39 : FS RX3 39 3 10 2 true (.array .int) := ⟨(RX3, TX3, 14), rfl, by decide, rfl, kF_X3_39, rfl, by decide +kernel, rfl⟩
theorem fs_X3_42 : FS RX3 42 3 11 2 true (.array .int) := ⟨(RX3, TX3, 14), rfl, by decide, rfl, kF_X3_42, rfl, by decide +kernel, rfl⟩
theorem fs_X3_45 : FS RX3 45 3 12 2 true (.array .int) := ⟨(RX3, TX3, 14), rfl, by decide, rfl, kF_X3_45, rfl, by decide +kernel, rfl⟩
theorem fs_X3_48 : FS RX3 48 3 13 2 true (.array .int) := ⟨(RX3, TX3, 14), rfl, by decide, rfl, kF_X3_48, rfl, by decide +kernel, rfl⟩
theorem fs_X3_51 : FS RX3 51 6 5 2 true (.array .int) := ⟨(RX6, TX6, 7), rfl, by decide, rfl, kF_X3_51, rfl, by decide +kernel, rfl⟩
theorem fs_X3_66 : FS RX3 66 3 9 0 false .int := ⟨(RX3, TX3, 14), rfl, by decide, rfl, kF_X3_66, rfl, by decide +kernel, rfl⟩
theorem fs_X3_70 : FS RX3 70 0 17 0 false .int := ⟨(RX0, TX0, 18), rfl, by decide, rfl, kF_X3_70, rfl, by decide +kernel, rfl⟩
theorem fs_X3_9 : FS RX3 9 3 0 2 true (.array .int) := ⟨(RX3, TX3, 14), rfl, by decide, rfl, kF_X3_9, rfl, by decide +kernel, rfl⟩
theorem fs_X3_97 : FS RX3 97 0 10 2 true (.array .int) := ⟨(RX0, TX0, 18), rfl, by decide, rfl, kF_X3_97, rfl, by decide +kernel, rfl⟩
theorem fs_X4_15 : FS RX4 15 4 1 2 true (.array .int) := ⟨(RX4, TX4, 5), rfl, by decide, rfl, kF_X4_15, rfl, by decide +kernel, rfl⟩
theorem fs_X4_18 : FS RX4 18 4 2 2 true (.array .int) := ⟨(RX4, TX4, 5), rfl, by decide, rfl, kF_X4_18, rfl, by decide +kernel, rfl⟩
theorem fs_X4_21 : FS RX4 21 4 3 0 false .int := ⟨(RX4, TX4, 5), rfl, by decide, rfl, kF_X4_21, rfl, by decide +kernel, rfl⟩
theorem fs_X4_25 : FS RX4 25 4 4 0 false .int := ⟨(RX4, TX4, 5), rfl, by decide, rfl, kF_X4_25, rfl, by decide +kernel, rfl⟩
theorem fs_X4_9 : FS RX4 9 4 0 2 true (.array .int) := ⟨(RX4, TX4, 5), rfl, by decide, rfl, kF_X4_9, rfl, by decide +kernel, rfl⟩
theorem fs_X5_105 : FS RX5 105 5 3 0 false .int := ⟨(RX5, TX5, 12), rfl, by decide, rfl, kF_X5_105, rfl, by decide +kernel, rfl⟩
theorem fs_X5_118 : FS RX5 118 5 4 0 false .int := ⟨(RX5, TX5, 12), rfl, by decide, rfl, kF_X5_118, rfl, by decide +kernel, rfl⟩
theorem fs_X5_15 : FS RX5 15 5 1 2 true (.array .int) := ⟨(RX5, TX5, 12), rfl, by decide, rfl, kF_X5_15, rfl, by decide +kernel, rfl⟩
theorem fs_X5_18 : FS RX5 18 5 5 2 true (.array .int) := ⟨(RX5, TX5, 12), rfl, by decide, rfl, kF_X5_18, rfl, by decide +kernel, rfl⟩
theorem fs_X5_21 : FS RX5 21 5 6 2 true (.array .int) := ⟨(RX5, TX5, 12), rfl, by decide, rfl, kF_X5_21, rfl, by decide +kernel, rfl⟩
theorem fs_X5_24 : FS RX5 24 5 7 2 true (.array .int) := ⟨(RX5, TX5, 12), rfl, by decide, rfl, kF_X5_24, rfl, by decide +kernel, rfl⟩
theorem fs_X5_27 : FS RX5 27 5 8 2 true (.array .int) := ⟨(RX5, TX5, 12), rfl, by decide, rfl, kF_X5_27, rfl, by decide +kernel, rfl⟩
theorem fs_X5_30 : FS RX5 30 5 9 2 true (.array .int) := ⟨(RX5, TX5, 12), rfl, by decide, rfl, kF_X5_30, rfl, by decide +kernel, rfl⟩
theorem fs_X5_33 : FS RX5 33 5 10 2 true (.array .int) := ⟨(RX5, TX5, 12), rfl, by decide, rfl, kF_X5_33, rfl, by decide +kernel, rfl⟩
theorem fs_X5_36 : FS RX5 36 5 11 2 true (.array .int) := ⟨(RX5, TX5, 12), rfl, by decide, rfl, kF_X5_36, rfl, by decide +kernel, rfl⟩
theorem fs_X5_39 : FS RX5 39 5 2 0 false .int := ⟨(RX5, TX5, 12), rfl, by decide, rfl, kF_X5_39, rfl, by decide +kernel, rfl⟩
theorem fs_X5_43 : FS RX5 43 6 6 0 false .int := ⟨(RX6, TX6, 7), rfl, by decide, rfl, kF_X5_43, rfl, by decide +kernel, rfl⟩
theorem fs_X5_48 : FS RX5 48 6 0 2 true (.array .int) := ⟨(RX6, TX6, 7), rfl, by decide, rfl, kF_X5_48, rfl, by decide +kernel, rfl⟩
theorem fs_X5_64 : FS RX5 64 6 1 2 true (.array .int) := ⟨(RX6, TX6, 7), rfl, by decide, rfl, kF_X5_64, rfl, by decide +kernel, rfl⟩
theorem fs_X5_67 : FS RX5 67 6 3 2 true (.array .int) := ⟨(RX6, TX6, 7), rfl, by decide, rfl, kF_X5_67, rfl, by decide +kernel, rfl⟩
theorem fs_X5_80 : FS RX5 80 0 13 2 true (.array .int) := ⟨(RX0, TX0, 18), rfl, by decide, rfl, kF_X5_80, rfl, by decide +kernel, rfl⟩
theorem fs_X5_83 : FS RX5 83 0 14 2 true (.array .int) := ⟨(RX0, TX0, 18), rfl, by decide, rfl, kF_X5_83, rfl, by decide +kernel, rfl⟩
theorem fs_X5_86 : FS RX5 86 0 1 2 true (.array .int) := ⟨(RX0, TX0, 18), rfl, by decide, rfl, kF_X5_86, rfl, by decide +kernel, rfl⟩
theorem fs_X5_87 : FS RX5 87 6 4 2 true (.array .int) := ⟨(RX6, TX6, 7), rfl, by decide, rfl, kF_X5_87, rfl, by decide +kernel, rfl⟩
theorem fs_X5_9 : FS RX5 9 5 0 2 true (.array .int) := ⟨(RX5, TX5, 12), rfl, by decide, rfl, kF_X5_9, rfl, by decide +kernel, rfl⟩
theorem fs_X5_99 : FS RX5 99 0 12 2 true (.array .int) := ⟨(RX0, TX0, 18), rfl, by decide, rfl, kF_X5_99, rfl, by decide +kernel, rfl⟩
theorem fs_X6_15 : FS RX6 15 6 1 2 true (.array .int) := ⟨(RX6, TX6, 7), rfl, by decide, rfl, kF_X6_15, rfl, by decide +kernel, rfl⟩
theorem fs_X6_18 : FS RX6 18 6 2 2 true (.array .int) := ⟨(RX6, TX6, 7), rfl, by decide, rfl, kF_X6_18, rfl, by decide +kernel, rfl⟩
theorem fs_X6_21 : FS RX6 21 6 3 2 true (.array .int) := ⟨(RX6, TX6, 7), rfl, by decide, rfl, kF_X6_21, rfl, by decide +kernel, rfl⟩
theorem fs_X6_24 : FS RX6 24 6 4 2 true (.array .int) := ⟨(RX6, TX6, 7), rfl, by decide, rfl, kF_X6_24, rfl, by decide +kernel, rfl⟩
theorem fs_X6_27 : FS RX6 27 6 5 2 true (.array .int) := ⟨(RX6, TX6, 7), rfl, by decide, rfl, kF_X6_27, rfl, by decide +kernel, rfl⟩
theorem fs_X6_30 : FS RX6 30 6 6 0 false .int := ⟨(RX6, TX6, 7), rfl, by decide, rfl, kF_X6_30, rfl, by decide +kernel, rfl⟩
theorem fs_X6_9 : FS RX6 9 6 0 2 true (.array .int) := ⟨(RX6, TX6, 7), rfl, by decide, rfl, kF_X6_9, rfl, by decide +kernel, rfl⟩
theorem fs_X7_102 : FS RX7 102 0 2 2 true (.array .int) := ⟨(RX0, TX0, 18), rfl, by decide, rfl, kF_X7_102, rfl, by decide +kernel, rfl⟩
theorem fs_X7_106 : FS RX7 106 7 10 0 false .boolean := ⟨(RX7, TX7, 13), rfl, by decide, rfl, kF_X7_106, rfl, by decide +kernel, rfl⟩
theorem fs_X7_110 : FS RX7 110 0 15 0 false .int := ⟨(RX0, TX0, 18), rfl, by decide, rfl, kF_X7_110, rfl, by decide +kernel, rfl⟩
theorem fs_X7_113 : FS RX7 113 0 17 0 false .int := ⟨(RX0, TX0, 18), rfl, by decide, rfl, kF_X7_113, rfl, by decide +kernel, rfl⟩
theorem fs_X7_116 : FS RX7 116 6 4 2 true (.array .int) := ⟨(RX6, TX6, 7), rfl, by decide, rfl, kF_X7_116, rfl, by decide +kernel, rfl⟩
theorem fs_X7_12 : FS RX7 12 7 0 2 true (.object "TrolleyPlanner$Parser") := ⟨(RX7, TX7, 13), rfl, by decide, rfl, kF_X7_12, rfl, by decide +kernel, rfl⟩
theorem fs_X7_123 : FS RX7 123 6 5 2 true (.array .int) := ⟨(RX6, TX6, 7), rfl, by decide, rfl, kF_X7_123, rfl, by decide +kernel, rfl⟩
theorem fs_X7_143 : FS RX7 143 6 0 2 true (.array .int) := ⟨(RX6, TX6, 7), rfl, by decide, rfl, kF_X7_143, rfl, by decide +kernel, rfl⟩
theorem fs_X7_146 : FS RX7 146 6 3 2 true (.array .int) := ⟨(RX6, TX6, 7), rfl, by decide, rfl, kF_X7_146, rfl, by decide +kernel, rfl⟩
theorem fs_X7_149 : FS RX7 149 3 0 2 true (.array .int) := ⟨(RX3, TX3, 14), rfl, by decide, rfl, kF_X7_149, rfl, by decide +kernel, rfl⟩
theorem fs_X7_152 : FS RX7 152 3 1 2 true (.array .int) := ⟨(RX3, TX3, 14), rfl, by decide, rfl, kF_X7_152, rfl, by decide +kernel, rfl⟩
theorem fs_X7_155 : FS RX7 155 3 6 2 true (.array .int) := ⟨(RX3, TX3, 14), rfl, by decide, rfl, kF_X7_155, rfl, by decide +kernel, rfl⟩
theorem fs_X7_158 : FS RX7 158 3 4 2 true (.array .int) := ⟨(RX3, TX3, 14), rfl, by decide, rfl, kF_X7_158, rfl, by decide +kernel, rfl⟩
theorem fs_X7_161 : FS RX7 161 3 7 2 true (.array .int) := ⟨(RX3, TX3, 14), rfl, by decide, rfl, kF_X7_161, rfl, by decide +kernel, rfl⟩
theorem fs_X7_167 : FS RX7 167 3 9 0 false .int := ⟨(RX3, TX3, 14), rfl, by decide, rfl, kF_X7_167, rfl, by decide +kernel, rfl⟩
theorem fs_X7_173 : FS RX7 173 3 8 2 true (.array .int) := ⟨(RX3, TX3, 14), rfl, by decide, rfl, kF_X7_173, rfl, by decide +kernel, rfl⟩
theorem fs_X7_185 : FS RX7 185 6 1 2 true (.array .int) := ⟨(RX6, TX6, 7), rfl, by decide, rfl, kF_X7_185, rfl, by decide +kernel, rfl⟩
theorem fs_X7_19 : FS RX7 19 7 1 2 true (.object "TrolleyPlanner$Run") := ⟨(RX7, TX7, 13), rfl, by decide, rfl, kF_X7_19, rfl, by decide +kernel, rfl⟩
theorem fs_X7_206 : FS RX7 206 4 2 2 true (.array .int) := ⟨(RX4, TX4, 5), rfl, by decide, rfl, kF_X7_206, rfl, by decide +kernel, rfl⟩
theorem fs_X7_23 : FS RX7 23 7 2 2 true (.object "TrolleyPlanner$Run") := ⟨(RX7, TX7, 13), rfl, by decide, rfl, kF_X7_23, rfl, by decide +kernel, rfl⟩
theorem fs_X7_244 : FS RX7 244 5 3 0 false .int := ⟨(RX5, TX5, 12), rfl, by decide, rfl, kF_X7_244, rfl, by decide +kernel, rfl⟩
theorem fs_X7_250 : FS RX7 250 5 4 0 false .int := ⟨(RX5, TX5, 12), rfl, by decide, rfl, kF_X7_250, rfl, by decide +kernel, rfl⟩
theorem fs_X7_253 : FS RX7 253 5 1 2 true (.array .int) := ⟨(RX5, TX5, 12), rfl, by decide, rfl, kF_X7_253, rfl, by decide +kernel, rfl⟩
theorem fs_X7_29 : FS RX7 29 7 3 2 true (.object "TrolleyPlanner$State") := ⟨(RX7, TX7, 13), rfl, by decide, rfl, kF_X7_29, rfl, by decide +kernel, rfl⟩
theorem fs_X7_304 : FS RX7 304 0 1 2 true (.array .int) := ⟨(RX0, TX0, 18), rfl, by decide, rfl, kF_X7_304, rfl, by decide +kernel, rfl⟩
theorem fs_X7_307 : FS RX7 307 5 0 2 true (.array .int) := ⟨(RX5, TX5, 12), rfl, by decide, rfl, kF_X7_307, rfl, by decide +kernel, rfl⟩
theorem fs_X7_314 : FS RX7 314 5 2 0 false .int := ⟨(RX5, TX5, 12), rfl, by decide, rfl, kF_X7_314, rfl, by decide +kernel, rfl⟩
theorem fs_X7_317 : FS RX7 317 1 1 0 false .int := ⟨(RX1, TX1, 2), rfl, by decide, rfl, kF_X7_317, rfl, by decide +kernel, rfl⟩
theorem fs_X7_321 : FS RX7 321 7 11 0 false .boolean := ⟨(RX7, TX7, 13), rfl, by decide, rfl, kF_X7_321, rfl, by decide +kernel, rfl⟩
theorem fs_X7_33 : FS RX7 33 7 4 2 true (.object "TrolleyPlanner$State") := ⟨(RX7, TX7, 13), rfl, by decide, rfl, kF_X7_33, rfl, by decide +kernel, rfl⟩
theorem fs_X7_331 : FS RX7 331 7 12 0 false .int := ⟨(RX7, TX7, 13), rfl, by decide, rfl, kF_X7_331, rfl, by decide +kernel, rfl⟩
theorem fs_X7_336 : FS RX7 336 2 5 2 false (.object "TrolleyPlanner$Facts") := ⟨(RX2, TX2, 13), rfl, by decide, rfl, kF_X7_336, rfl, by decide +kernel, rfl⟩
theorem fs_X7_337 : FS RX7 337 2 6 2 false (.object "TrolleyPlanner$State") := ⟨(RX2, TX2, 13), rfl, by decide, rfl, kF_X7_337, rfl, by decide +kernel, rfl⟩
theorem fs_X7_338 : FS RX7 338 0 16 0 false .int := ⟨(RX0, TX0, 18), rfl, by decide, rfl, kF_X7_338, rfl, by decide +kernel, rfl⟩
theorem fs_X7_341 : FS RX7 341 6 2 2 true (.array .int) := ⟨(RX6, TX6, 7), rfl, by decide, rfl, kF_X7_341, rfl, by decide +kernel, rfl⟩
theorem fs_X7_39 : FS RX7 39 7 5 2 true (.object "TrolleyPlanner$History") := ⟨(RX7, TX7, 13), rfl, by decide, rfl, kF_X7_39, rfl, by decide +kernel, rfl⟩
theorem fs_X7_46 : FS RX7 46 7 6 2 true (.object "TrolleyPlanner$Solo") := ⟨(RX7, TX7, 13), rfl, by decide, rfl, kF_X7_46, rfl, by decide +kernel, rfl⟩
theorem fs_X7_53 : FS RX7 53 7 7 2 true (.object "TrolleyPlanner$Sharing") := ⟨(RX7, TX7, 13), rfl, by decide, rfl, kF_X7_53, rfl, by decide +kernel, rfl⟩
theorem fs_X7_60 : FS RX7 60 7 8 2 false (.object "TrolleyPlanner$Facts") := ⟨(RX7, TX7, 13), rfl, by decide, rfl, kF_X7_60, rfl, by decide +kernel, rfl⟩
theorem fs_X7_64 : FS RX7 64 7 9 2 false (.object "TrolleyPlanner$State") := ⟨(RX7, TX7, 13), rfl, by decide, rfl, kF_X7_64, rfl, by decide +kernel, rfl⟩
theorem fs_X7_67 : FS RX7 67 2 2 0 false .int := ⟨(RX2, TX2, 13), rfl, by decide, rfl, kF_X7_67, rfl, by decide +kernel, rfl⟩
theorem fs_X7_83 : FS RX7 83 2 3 0 false .int := ⟨(RX2, TX2, 13), rfl, by decide, rfl, kF_X7_83, rfl, by decide +kernel, rfl⟩
theorem fs_X7_89 : FS RX7 89 6 6 0 false .int := ⟨(RX6, TX6, 7), rfl, by decide, rfl, kF_X7_89, rfl, by decide +kernel, rfl⟩
theorem cm_X0_69 : CSN RX0 69 2 mX7_partsRoundedUp := ⟨⟨"TrolleyPlanner", by decide +kernel⟩, kT_X7_partsRoundedUp, kZ_X7, kC_X7_partsRoundedUp, ⟨by decide +kernel, by decide +kernel⟩, by decide +kernel⟩
theorem cm_X1_17 : CNN RX1 17 mX6_init := ⟨⟨"TrolleyPlanner", by decide +kernel⟩, rfl, kI_X6_init, kZ_X6, kC_X6_init, ⟨by decide +kernel, by decide +kernel⟩, by decide +kernel, rfl⟩
theorem cm_X1_22 : CM RX1 22 1 0 mX1_dropFirst := ⟨(RX1, TX1, 2), rfl, kM_X1_22, kI_X1_dropFirst, kS_X1_dropFirst, kZ_X1, kC_X1_dropFirst, ⟨by decide +kernel, by decide +kernel⟩, by decide +kernel⟩
theorem cm_X1_25 : CM RX1 25 6 1 mX6_copyFrom := ⟨(RX6, TX6, 7), rfl, kM_X1_25, kI_X6_copyFrom, kS_X6_copyFrom, kZ_X6, kC_X6_copyFrom, ⟨by decide +kernel, by decide +kernel⟩, by decide +kernel⟩
theorem cm_X2_25 : CNN RX2 25 mX0_init := ⟨⟨"TrolleyPlanner", by decide +kernel⟩, rfl, kI_X0_init, kZ_X0, kC_X0_init, ⟨by decide +kernel, by decide +kernel⟩, by decide +kernel, rfl⟩
theorem cm_X2_32 : CNN RX2 32 mX6_init := ⟨⟨"TrolleyPlanner", by decide +kernel⟩, rfl, kI_X6_init, kZ_X6, kC_X6_init, ⟨by decide +kernel, by decide +kernel⟩, by decide +kernel, rfl⟩
theorem cm_X2_40 : CM RX2 40 0 0 mX0_clear := ⟨(RX0, TX0, 18), rfl, kM_X2_40, kI_X0_clear, kS_X0_clear, kZ_X0, kC_X0_clear, ⟨by decide +kernel, by decide +kernel⟩, by decide +kernel⟩
theorem cm_X2_43 : CM RX2 43 6 0 mX6_clear := ⟨(RX6, TX6, 7), rfl, kM_X2_43, kI_X6_clear, kS_X6_clear, kZ_X6, kC_X6_clear, ⟨by decide +kernel, by decide +kernel⟩, by decide +kernel⟩
theorem cm_X2_53 : CM RX2 53 2 0 mX2_readLine := ⟨(RX2, TX2, 13), rfl, kM_X2_53, kI_X2_readLine, kS_X2_readLine, kZ_X2, kC_X2_readLine, ⟨by decide +kernel, by decide +kernel⟩, by decide +kernel⟩
theorem cm_X2_56 : CM RX2 56 2 0 mX2_advance := ⟨(RX2, TX2, 13), rfl, kM_X2_56, kI_X2_advance, kS_X2_advance, kZ_X2, kC_X2_advance, ⟨by decide +kernel, by decide +kernel⟩, by decide +kernel⟩
theorem cm_X2_62 : CM RX2 62 2 1 mX2_refuse := ⟨(RX2, TX2, 13), rfl, kM_X2_62, kI_X2_refuse, kS_X2_refuse, kZ_X2, kC_X2_refuse, ⟨by decide +kernel, by decide +kernel⟩, by decide +kernel⟩
theorem cm_X2_66 : CM RX2 66 2 0 mX2_isComplete := ⟨(RX2, TX2, 13), rfl, kM_X2_66, kI_X2_isComplete, kS_X2_isComplete, kZ_X2, kC_X2_isComplete, ⟨by decide +kernel, by decide +kernel⟩, by decide +kernel⟩
theorem cm_X2_92 : CM RX2 92 2 0 mX2_readTrain := ⟨(RX2, TX2, 13), rfl, kM_X2_92, kI_X2_readTrain, kS_X2_readTrain, kZ_X2, kC_X2_readTrain, ⟨by decide +kernel, by decide +kernel⟩, by decide +kernel⟩
theorem cm_X2_97 : CM RX2 97 2 0 mX2_readCar := ⟨(RX2, TX2, 13), rfl, kM_X2_97, kI_X2_readCar, kS_X2_readCar, kZ_X2, kC_X2_readCar, ⟨by decide +kernel, by decide +kernel⟩, by decide +kernel⟩
theorem cm_X2_102 : CM RX2 102 2 0 mX2_readMeal := ⟨(RX2, TX2, 13), rfl, kM_X2_102, kI_X2_readMeal, kS_X2_readMeal, kZ_X2, kC_X2_readMeal, ⟨by decide +kernel, by decide +kernel⟩, by decide +kernel⟩
theorem cm_X2_107 : CM RX2 107 2 0 mX2_readKitchen := ⟨(RX2, TX2, 13), rfl, kM_X2_107, kI_X2_readKitchen, kS_X2_readKitchen, kZ_X2, kC_X2_readKitchen, ⟨by decide +kernel, by decide +kernel⟩, by decide +kernel⟩
theorem cm_X2_112 : CM RX2 112 2 0 mX2_readStock := ⟨(RX2, TX2, 13), rfl, kM_X2_112, kI_X2_readStock, kS_X2_readStock, kZ_X2, kC_X2_readStock, ⟨by decide +kernel, by decide +kernel⟩, by decide +kernel⟩
theorem cm_X2_117 : CM RX2 117 2 0 mX2_readTrolley := ⟨(RX2, TX2, 13), rfl, kM_X2_117, kI_X2_readTrolley, kS_X2_readTrolley, kZ_X2, kC_X2_readTrolley, ⟨by decide +kernel, by decide +kernel⟩, by decide +kernel⟩
theorem cm_X2_122 : CM RX2 122 2 0 mX2_readJob := ⟨(RX2, TX2, 13), rfl, kM_X2_122, kI_X2_readJob, kS_X2_readJob, kZ_X2, kC_X2_readJob, ⟨by decide +kernel, by decide +kernel⟩, by decide +kernel⟩
theorem cm_X2_125 : CM RX2 125 2 2 mX2_takeNumber := ⟨(RX2, TX2, 13), rfl, kM_X2_125, kI_X2_takeNumber, kS_X2_takeNumber, kZ_X2, kC_X2_takeNumber, ⟨by decide +kernel, by decide +kernel⟩, by decide +kernel⟩
theorem cm_X2_131 : CM RX2 131 2 1 mX2_takeKeyword := ⟨(RX2, TX2, 13), rfl, kM_X2_131, kI_X2_takeKeyword, kS_X2_takeKeyword, kZ_X2, kC_X2_takeKeyword, ⟨by decide +kernel, by decide +kernel⟩, by decide +kernel⟩
theorem cm_X2_143 : CM RX2 143 2 1 mX2_refuseUnknownTrain := ⟨(RX2, TX2, 13), rfl, kM_X2_143, kI_X2_refuseUnknownTrain, kS_X2_refuseUnknownTrain, kZ_X2, kC_X2_refuseUnknownTrain, ⟨by decide +kernel, by decide +kernel⟩, by decide +kernel⟩
theorem cm_X2_146 : CSN RX2 146 2 mX7_doorIndex := ⟨⟨"TrolleyPlanner", by decide +kernel⟩, kT_X7_doorIndex, kZ_X7, kC_X7_doorIndex, ⟨by decide +kernel, by decide +kernel⟩, by decide +kernel⟩
theorem cm_X2_158 : CM RX2 158 2 0 mX2_takeName := ⟨(RX2, TX2, 13), rfl, kM_X2_158, kI_X2_takeName, kS_X2_takeName, kZ_X2, kC_X2_takeName, ⟨by decide +kernel, by decide +kernel⟩, by decide +kernel⟩
theorem cm_X2_161 : CM RX2 161 0 1 mX0_mealNamed := ⟨(RX0, TX0, 18), rfl, kM_X2_161, kI_X0_mealNamed, kS_X0_mealNamed, kZ_X0, kC_X0_mealNamed, ⟨by decide +kernel, by decide +kernel⟩, by decide +kernel⟩
theorem cm_X2_181 : CM RX2 181 2 0 mX2_namedMeal := ⟨(RX2, TX2, 13), rfl, kM_X2_181, kI_X2_namedMeal, kS_X2_namedMeal, kZ_X2, kC_X2_namedMeal, ⟨by decide +kernel, by decide +kernel⟩, by decide +kernel⟩
theorem cm_X2_185 : CSN RX2 185 2 mX7_stockIndex := ⟨⟨"TrolleyPlanner", by decide +kernel⟩, kT_X7_stockIndex, kZ_X7, kC_X7_stockIndex, ⟨by decide +kernel, by decide +kernel⟩, by decide +kernel⟩
theorem cm_X2_209 : CM RX2 209 6 1 mX6_jobsOf := ⟨(RX6, TX6, 7), rfl, kM_X2_209, kI_X6_jobsOf, kS_X6_jobsOf, kZ_X6, kC_X6_jobsOf, ⟨by decide +kernel, by decide +kernel⟩, by decide +kernel⟩
theorem cm_X2_213 : CM RX2 213 6 4 mX6_addLast := ⟨(RX6, TX6, 7), rfl, kM_X2_213, kI_X6_addLast, kS_X6_addLast, kZ_X6, kC_X6_addLast, ⟨by decide +kernel, by decide +kernel⟩, by decide +kernel⟩
theorem cm_X2_220 : CM RX2 220 2 0 mX2_isKeyword := ⟨(RX2, TX2, 13), rfl, kM_X2_220, kI_X2_isKeyword, kS_X2_isKeyword, kZ_X2, kC_X2_isKeyword, ⟨by decide +kernel, by decide +kernel⟩, by decide +kernel⟩
theorem cm_X2_228 : CM RX2 228 2 0 mX2_scanLetters := ⟨(RX2, TX2, 13), rfl, kM_X2_228, kI_X2_scanLetters, kS_X2_scanLetters, kZ_X2, kC_X2_scanLetters, ⟨by decide +kernel, by decide +kernel⟩, by decide +kernel⟩
theorem cm_X2_231 : CM RX2 231 2 0 mX2_scanDigits := ⟨(RX2, TX2, 13), rfl, kM_X2_231, kI_X2_scanDigits, kS_X2_scanDigits, kZ_X2, kC_X2_scanDigits, ⟨by decide +kernel, by decide +kernel⟩, by decide +kernel⟩
theorem cm_X3_60 : CSt RX3 60 2 mJ7_fill_53178 := ⟨kM_X3_60, kT_J7_fill_53178, kZ_J7, kC_J7_fill_53178, ⟨by decide +kernel, by decide +kernel⟩, by decide +kernel⟩
theorem cm_X3_75 : CM RX3 75 3 4 mX3_awaitStart := ⟨(RX3, TX3, 14), rfl, kM_X3_75, kI_X3_awaitStart, kS_X3_awaitStart, kZ_X3, kC_X3_awaitStart, ⟨by decide +kernel, by decide +kernel⟩, by decide +kernel⟩
theorem cm_X3_79 : CM RX3 79 3 1 mX3_nextTrolley := ⟨(RX3, TX3, 14), rfl, kM_X3_79, kI_X3_nextTrolley, kS_X3_nextTrolley, kZ_X3, kC_X3_nextTrolley, ⟨by decide +kernel, by decide +kernel⟩, by decide +kernel⟩
theorem cm_X3_83 : CM RX3 83 3 3 mX3_startJob := ⟨(RX3, TX3, 14), rfl, kM_X3_83, kI_X3_startJob, kS_X3_startJob, kZ_X3, kC_X3_startJob, ⟨by decide +kernel, by decide +kernel⟩, by decide +kernel⟩
theorem cm_X3_87 : CM RX3 87 3 3 mX3_reachDoor := ⟨(RX3, TX3, 14), rfl, kM_X3_87, kI_X3_reachDoor, kS_X3_reachDoor, kZ_X3, kC_X3_reachDoor, ⟨by decide +kernel, by decide +kernel⟩, by decide +kernel⟩
theorem cm_X3_90 : CM RX3 90 3 3 mX3_bringBack := ⟨(RX3, TX3, 14), rfl, kM_X3_90, kI_X3_bringBack, kS_X3_bringBack, kZ_X3, kC_X3_bringBack, ⟨by decide +kernel, by decide +kernel⟩, by decide +kernel⟩
theorem cm_X3_93 : CM RX3 93 6 2 mX6_jobFrom := ⟨(RX6, TX6, 7), rfl, kM_X3_93, kI_X6_jobFrom, kS_X6_jobFrom, kZ_X6, kC_X6_jobFrom, ⟨by decide +kernel, by decide +kernel⟩, by decide +kernel⟩
theorem cm_X3_103 : CSN RX3 103 2 mX7_stockIndex := ⟨⟨"TrolleyPlanner", by decide +kernel⟩, kT_X7_stockIndex, kZ_X7, kC_X7_stockIndex, ⟨by decide +kernel, by decide +kernel⟩, by decide +kernel⟩
theorem cm_X3_109 : CM RX3 109 0 2 mX0_mostMeals := ⟨(RX0, TX0, 18), rfl, kM_X3_109, kI_X0_mostMeals, kS_X0_mostMeals, kZ_X0, kC_X0_mostMeals, ⟨by decide +kernel, by decide +kernel⟩, by decide +kernel⟩
theorem cm_X3_120 : CM RX3 120 3 2 mX3_setNoUnloading := ⟨(RX3, TX3, 14), rfl, kM_X3_120, kI_X3_setNoUnloading, kS_X3_setNoUnloading, kZ_X3, kC_X3_setNoUnloading, ⟨by decide +kernel, by decide +kernel⟩, by decide +kernel⟩
theorem cm_X3_130 : CM RX3 130 0 3 mX0_walk := ⟨(RX0, TX0, 18), rfl, kM_X3_130, kI_X0_walk, kS_X0_walk, kZ_X0, kC_X0_walk, ⟨by decide +kernel, by decide +kernel⟩, by decide +kernel⟩
theorem cm_X3_134 : CM RX3 134 3 3 mX3_unload := ⟨(RX3, TX3, 14), rfl, kM_X3_134, kI_X3_unload, kS_X3_unload, kZ_X3, kC_X3_unload, ⟨by decide +kernel, by decide +kernel⟩, by decide +kernel⟩
theorem cm_X3_149 : CSN RX3 149 2 mX7_wholeParts := ⟨⟨"TrolleyPlanner", by decide +kernel⟩, kT_X7_wholeParts, kZ_X7, kC_X7_wholeParts, ⟨by decide +kernel, by decide +kernel⟩, by decide +kernel⟩
theorem cm_X4_34 : CSN RX4 34 2 mX7_wholeParts := ⟨⟨"TrolleyPlanner", by decide +kernel⟩, kT_X7_wholeParts, kZ_X7, kC_X7_wholeParts, ⟨by decide +kernel, by decide +kernel⟩, by decide +kernel⟩
theorem cm_X4_38 : CM RX4 38 4 0 mX4_largestRest := ⟨(RX4, TX4, 5), rfl, kM_X4_38, kI_X4_largestRest, kS_X4_largestRest, kZ_X4, kC_X4_largestRest, ⟨by decide +kernel, by decide +kernel⟩, by decide +kernel⟩
theorem cm_X5_51 : CM RX5 51 5 4 mX5_studyJob := ⟨(RX5, TX5, 12), rfl, kM_X5_51, kI_X5_studyJob, kS_X5_studyJob, kZ_X5, kC_X5_studyJob, ⟨by decide +kernel, by decide +kernel⟩, by decide +kernel⟩
theorem cm_X5_56 : CM RX5 56 5 0 mX5_wholeSet := ⟨(RX5, TX5, 12), rfl, kM_X5_56, kI_X5_wholeSet, kS_X5_wholeSet, kZ_X5, kC_X5_wholeSet, ⟨by decide +kernel, by decide +kernel⟩, by decide +kernel⟩
theorem cm_X5_60 : CM RX5 60 5 1 mX5_latestBegin := ⟨(RX5, TX5, 12), rfl, kM_X5_60, kI_X5_latestBegin, kS_X5_latestBegin, kZ_X5, kC_X5_latestBegin, ⟨by decide +kernel, by decide +kernel⟩, by decide +kernel⟩
theorem cm_X5_70 : CM RX5 70 0 2 mX0_mostMeals := ⟨(RX0, TX0, 18), rfl, kM_X5_70, kI_X0_mostMeals, kS_X0_mostMeals, kZ_X0, kC_X0_mostMeals, ⟨by decide +kernel, by decide +kernel⟩, by decide +kernel⟩
theorem cm_X5_76 : CM RX5 76 0 3 mX0_walk := ⟨(RX0, TX0, 18), rfl, kM_X5_76, kI_X0_walk, kS_X0_walk, kZ_X0, kC_X0_walk, ⟨by decide +kernel, by decide +kernel⟩, by decide +kernel⟩
theorem cm_X5_88 : CM RX5 88 5 2 mX5_latestBeginWith := ⟨(RX5, TX5, 12), rfl, kM_X5_88, kI_X5_latestBeginWith, kS_X5_latestBeginWith, kZ_X5, kC_X5_latestBeginWith, ⟨by decide +kernel, by decide +kernel⟩, by decide +kernel⟩
theorem cm_X5_102 : CM RX5 102 5 4 mX5_study := ⟨(RX5, TX5, 12), rfl, kM_X5_102, kI_X5_study, kS_X5_study, kZ_X5, kC_X5_study, ⟨by decide +kernel, by decide +kernel⟩, by decide +kernel⟩
theorem cm_X5_108 : CM RX5 108 5 1 mX5_canDo := ⟨(RX5, TX5, 12), rfl, kM_X5_108, kI_X5_canDo, kS_X5_canDo, kZ_X5, kC_X5_canDo, ⟨by decide +kernel, by decide +kernel⟩, by decide +kernel⟩
theorem cm_X5_112 : CM RX5 112 5 1 mX5_mealsOf := ⟨(RX5, TX5, 12), rfl, kM_X5_112, kI_X5_mealsOf, kS_X5_mealsOf, kZ_X5, kC_X5_mealsOf, ⟨by decide +kernel, by decide +kernel⟩, by decide +kernel⟩
theorem cm_X5_115 : CM RX5 115 5 0 mX5_layOrder := ⟨(RX5, TX5, 12), rfl, kM_X5_115, kI_X5_layOrder, kS_X5_layOrder, kZ_X5, kC_X5_layOrder, ⟨by decide +kernel, by decide +kernel⟩, by decide +kernel⟩
theorem cm_X5_121 : CM RX5 121 5 2 mX5_firstThatFits := ⟨(RX5, TX5, 12), rfl, kM_X5_121, kI_X5_firstThatFits, kS_X5_firstThatFits, kZ_X5, kC_X5_firstThatFits, ⟨by decide +kernel, by decide +kernel⟩, by decide +kernel⟩
theorem cm_X6_34 : CSt RX6 34 2 mJ7_fill_53178 := ⟨kM_X6_34, kT_J7_fill_53178, kZ_J7, kC_J7_fill_53178, ⟨by decide +kernel, by decide +kernel⟩, by decide +kernel⟩
theorem cm_X6_46 : CM RX6 46 6 3 mX6_takeJob := ⟨(RX6, TX6, 7), rfl, kM_X6_46, kI_X6_takeJob, kS_X6_takeJob, kZ_X6, kC_X6_takeJob, ⟨by decide +kernel, by decide +kernel⟩, by decide +kernel⟩
theorem cm_X6_50 : CSt RX6 50 3 mX6_exchangeIn := ⟨kM_X6_50, kT_X6_exchangeIn, kZ_X6, kC_X6_exchangeIn, ⟨by decide +kernel, by decide +kernel⟩, by decide +kernel⟩
theorem cm_X7_11 : CNN RX7 11 mX2_init := ⟨⟨"TrolleyPlanner", by decide +kernel⟩, rfl, kI_X2_init, kZ_X2, kC_X2_init, ⟨by decide +kernel, by decide +kernel⟩, by decide +kernel, rfl⟩
theorem cm_X7_18 : CNN RX7 18 mX3_init := ⟨⟨"TrolleyPlanner", by decide +kernel⟩, rfl, kI_X3_init, kZ_X3, kC_X3_init, ⟨by decide +kernel, by decide +kernel⟩, by decide +kernel, rfl⟩
theorem cm_X7_28 : CNN RX7 28 mX6_init := ⟨⟨"TrolleyPlanner", by decide +kernel⟩, rfl, kI_X6_init, kZ_X6, kC_X6_init, ⟨by decide +kernel, by decide +kernel⟩, by decide +kernel, rfl⟩
theorem cm_X7_38 : CIn RX7 38 mX1_init := ⟨kM_X7_38, rfl, kI_X1_init, kZ_X1, kC_X1_init, ⟨by decide +kernel, by decide +kernel⟩, by decide +kernel, rfl⟩
theorem cm_X7_45 : CNN RX7 45 mX5_init := ⟨⟨"TrolleyPlanner", by decide +kernel⟩, rfl, kI_X5_init, kZ_X5, kC_X5_init, ⟨by decide +kernel, by decide +kernel⟩, by decide +kernel, rfl⟩
theorem cm_X7_52 : CNN RX7 52 mX4_init := ⟨⟨"TrolleyPlanner", by decide +kernel⟩, rfl, kI_X4_init, kZ_X4, kC_X4_init, ⟨by decide +kernel, by decide +kernel⟩, by decide +kernel, rfl⟩
theorem cm_X7_59 : CNN RX7 59 mX0_init := ⟨⟨"TrolleyPlanner", by decide +kernel⟩, rfl, kI_X0_init, kZ_X0, kC_X0_init, ⟨by decide +kernel, by decide +kernel⟩, by decide +kernel, rfl⟩
theorem cm_X7_72 : CM RX7 72 2 1 mX2_putFour := ⟨(RX2, TX2, 13), rfl, kM_X7_72, kI_X2_putFour, kS_X2_putFour, kZ_X2, kC_X2_putFour, ⟨by decide +kernel, by decide +kernel⟩, by decide +kernel⟩
theorem cm_X7_76 : CM RX7 76 7 1 mX7_fail := ⟨(RX7, TX7, 13), rfl, kM_X7_76, kI_X7_fail, kS_X7_fail, kZ_X7, kC_X7_fail, ⟨by decide +kernel, by decide +kernel⟩, by decide +kernel⟩
theorem cm_X7_80 : CM RX7 80 2 1 mX2_parse := ⟨(RX2, TX2, 13), rfl, kM_X7_80, kI_X2_parse, kS_X2_parse, kZ_X2, kC_X2_parse, ⟨by decide +kernel, by decide +kernel⟩, by decide +kernel⟩
theorem cm_X7_86 : CM RX7 86 7 0 mX7_takeParsedPlan := ⟨(RX7, TX7, 13), rfl, kM_X7_86, kI_X7_takeParsedPlan, kS_X7_takeParsedPlan, kZ_X7, kC_X7_takeParsedPlan, ⟨by decide +kernel, by decide +kernel⟩, by decide +kernel⟩
theorem cm_X7_92 : CM RX7 92 7 1 mX7_answer := ⟨(RX7, TX7, 13), rfl, kM_X7_92, kI_X7_answer, kS_X7_answer, kZ_X7, kC_X7_answer, ⟨by decide +kernel, by decide +kernel⟩, by decide +kernel⟩
theorem cm_X7_98 : CM RX7 98 7 1 mX7_isTrain := ⟨(RX7, TX7, 13), rfl, kM_X7_98, kI_X7_isTrain, kS_X7_isTrain, kZ_X7, kC_X7_isTrain, ⟨by decide +kernel, by decide +kernel⟩, by decide +kernel⟩
theorem cm_X7_119 : CM RX7 119 7 2 mX7_isStock := ⟨(RX7, TX7, 13), rfl, kM_X7_119, kI_X7_isStock, kS_X7_isStock, kZ_X7, kC_X7_isStock, ⟨by decide +kernel, by decide +kernel⟩, by decide +kernel⟩
theorem cm_X7_126 : CSt RX7 126 2 mX7_stockIndex := ⟨kM_X7_126, kT_X7_stockIndex, kZ_X7, kC_X7_stockIndex, ⟨by decide +kernel, by decide +kernel⟩, by decide +kernel⟩
theorem cm_X7_130 : CM RX7 130 7 3 mX7_isCarMeal := ⟨(RX7, TX7, 13), rfl, kM_X7_130, kI_X7_isCarMeal, kS_X7_isCarMeal, kZ_X7, kC_X7_isCarMeal, ⟨by decide +kernel, by decide +kernel⟩, by decide +kernel⟩
theorem cm_X7_134 : CSt RX7 134 2 mX7_doorIndex := ⟨kM_X7_134, kT_X7_doorIndex, kZ_X7, kC_X7_doorIndex, ⟨by decide +kernel, by decide +kernel⟩, by decide +kernel⟩
theorem cm_X7_137 : CM RX7 137 0 2 mX0_wanted := ⟨(RX0, TX0, 18), rfl, kM_X7_137, kI_X0_wanted, kS_X0_wanted, kZ_X0, kC_X0_wanted, ⟨by decide +kernel, by decide +kernel⟩, by decide +kernel⟩
theorem cm_X7_140 : CM RX7 140 7 1 mX7_isJob := ⟨(RX7, TX7, 13), rfl, kM_X7_140, kI_X7_isJob, kS_X7_isJob, kZ_X7, kC_X7_isJob, ⟨by decide +kernel, by decide +kernel⟩, by decide +kernel⟩
theorem cm_X7_164 : CM RX7 164 7 2 mX7_handedAt := ⟨(RX7, TX7, 13), rfl, kM_X7_164, kI_X7_handedAt, kS_X7_handedAt, kZ_X7, kC_X7_handedAt, ⟨by decide +kernel, by decide +kernel⟩, by decide +kernel⟩
theorem cm_X7_170 : CM RX7 170 7 1 mX7_isTrolley := ⟨(RX7, TX7, 13), rfl, kM_X7_170, kI_X7_isTrolley, kS_X7_isTrolley, kZ_X7, kC_X7_isTrolley, ⟨by decide +kernel, by decide +kernel⟩, by decide +kernel⟩
theorem cm_X7_202 : CM RX7 202 7 2 mX7_shareInTrain := ⟨(RX7, TX7, 13), rfl, kM_X7_202, kI_X7_shareInTrain, kS_X7_shareInTrain, kZ_X7, kC_X7_shareInTrain, ⟨by decide +kernel, by decide +kernel⟩, by decide +kernel⟩
theorem cm_X7_209 : CM RX7 209 7 1 mX7_isMeal := ⟨(RX7, TX7, 13), rfl, kM_X7_209, kI_X7_isMeal, kS_X7_isMeal, kZ_X7, kC_X7_isMeal, ⟨by decide +kernel, by decide +kernel⟩, by decide +kernel⟩
theorem cm_X7_224 : CM RX7 224 7 1 mX7_failLong := ⟨(RX7, TX7, 13), rfl, kM_X7_224, kI_X7_failLong, kS_X7_failLong, kZ_X7, kC_X7_failLong, ⟨by decide +kernel, by decide +kernel⟩, by decide +kernel⟩
theorem cm_X7_228 : CM RX7 228 7 3 mX7_lowestTerm := ⟨(RX7, TX7, 13), rfl, kM_X7_228, kI_X7_lowestTerm, kS_X7_lowestTerm, kZ_X7, kC_X7_lowestTerm, ⟨by decide +kernel, by decide +kernel⟩, by decide +kernel⟩
theorem cm_X7_232 : CM RX7 232 7 1 mX7_answerLong := ⟨(RX7, TX7, 13), rfl, kM_X7_232, kI_X7_answerLong, kS_X7_answerLong, kZ_X7, kC_X7_answerLong, ⟨by decide +kernel, by decide +kernel⟩, by decide +kernel⟩
theorem cm_X7_236 : CM RX7 236 7 4 mX7_compareCoverage := ⟨(RX7, TX7, 13), rfl, kM_X7_236, kI_X7_compareCoverage, kS_X7_compareCoverage, kZ_X7, kC_X7_compareCoverage, ⟨by decide +kernel, by decide +kernel⟩, by decide +kernel⟩
theorem cm_X7_240 : CM RX7 240 5 3 mX5_chooseBest := ⟨(RX5, TX5, 12), rfl, kM_X7_240, kI_X5_chooseBest, kS_X5_chooseBest, kZ_X5, kC_X5_chooseBest, ⟨by decide +kernel, by decide +kernel⟩, by decide +kernel⟩
theorem cm_X7_247 : CM RX7 247 5 1 mX5_mealsOf := ⟨(RX5, TX5, 12), rfl, kM_X7_247, kI_X5_mealsOf, kS_X5_mealsOf, kZ_X5, kC_X5_mealsOf, ⟨by decide +kernel, by decide +kernel⟩, by decide +kernel⟩
theorem cm_X7_267 : CM RX7 267 6 1 mX6_copyFrom := ⟨(RX6, TX6, 7), rfl, kM_X7_267, kI_X6_copyFrom, kS_X6_copyFrom, kZ_X6, kC_X6_copyFrom, ⟨by decide +kernel, by decide +kernel⟩, by decide +kernel⟩
theorem cm_X7_271 : CM RX7 271 3 2 mX3_play := ⟨(RX3, TX3, 14), rfl, kM_X7_271, kI_X3_play, kS_X3_play, kZ_X3, kC_X3_play, ⟨by decide +kernel, by decide +kernel⟩, by decide +kernel⟩
theorem cm_X7_275 : CM RX7 275 3 2 mX3_leavesBehind := ⟨(RX3, TX3, 14), rfl, kM_X7_275, kI_X3_leavesBehind, kS_X3_leavesBehind, kZ_X3, kC_X3_leavesBehind, ⟨by decide +kernel, by decide +kernel⟩, by decide +kernel⟩
theorem cm_X7_279 : CM RX7 279 6 1 mX6_removeAt := ⟨(RX6, TX6, 7), rfl, kM_X7_279, kI_X6_removeAt, kS_X6_removeAt, kZ_X6, kC_X6_removeAt, ⟨by decide +kernel, by decide +kernel⟩, by decide +kernel⟩
theorem cm_X7_282 : CM RX7 282 7 0 mX7_rehearse := ⟨(RX7, TX7, 13), rfl, kM_X7_282, kI_X7_rehearse, kS_X7_rehearse, kZ_X7, kC_X7_rehearse, ⟨by decide +kernel, by decide +kernel⟩, by decide +kernel⟩
theorem cm_X7_291 : CSt RX7 291 1 mX7_isJobQuantity := ⟨kM_X7_291, kT_X7_isJobQuantity, kZ_X7, kC_X7_isJobQuantity, ⟨by decide +kernel, by decide +kernel⟩, by decide +kernel⟩
theorem cm_X7_285 : CM RX7 285 6 1 mX6_jobsOf := ⟨(RX6, TX6, 7), rfl, kM_X7_285, kI_X6_jobsOf, kS_X6_jobsOf, kZ_X6, kC_X6_jobsOf, ⟨by decide +kernel, by decide +kernel⟩, by decide +kernel⟩
theorem cm_X7_294 : CM RX7 294 1 1 mX1_push := ⟨(RX1, TX1, 2), rfl, kM_X7_294, kI_X1_push, kS_X1_push, kZ_X1, kC_X1_push, ⟨by decide +kernel, by decide +kernel⟩, by decide +kernel⟩
theorem cm_X7_297 : CM RX7 297 6 4 mX6_addLast := ⟨(RX6, TX6, 7), rfl, kM_X7_297, kI_X6_addLast, kS_X6_addLast, kZ_X6, kC_X6_addLast, ⟨by decide +kernel, by decide +kernel⟩, by decide +kernel⟩
theorem cm_X7_301 : CM RX7 301 7 1 mX7_changed := ⟨(RX7, TX7, 13), rfl, kM_X7_301, kI_X7_changed, kS_X7_changed, kZ_X7, kC_X7_changed, ⟨by decide +kernel, by decide +kernel⟩, by decide +kernel⟩
theorem cm_X7_288 : CM RX7 288 6 2 mX6_exchange := ⟨(RX6, TX6, 7), rfl, kM_X7_288, kI_X6_exchange, kS_X6_exchange, kZ_X6, kC_X6_exchange, ⟨by decide +kernel, by decide +kernel⟩, by decide +kernel⟩
theorem cm_X7_310 : CM RX7 310 6 3 mX6_takeJob := ⟨(RX6, TX6, 7), rfl, kM_X7_310, kI_X6_takeJob, kS_X6_takeJob, kZ_X6, kC_X6_takeJob, ⟨by decide +kernel, by decide +kernel⟩, by decide +kernel⟩
theorem cm_X7_318 : CM RX7 318 1 1 mX1_popInto := ⟨(RX1, TX1, 2), rfl, kM_X7_318, kI_X1_popInto, kS_X1_popInto, kZ_X1, kC_X1_popInto, ⟨by decide +kernel, by decide +kernel⟩, by decide +kernel⟩
theorem cm_X7_182 : CM RX7 182 7 2 mX7_isCar := ⟨(RX7, TX7, 13), rfl, kM_X7_182, kI_X7_isCar, kS_X7_isCar, kZ_X7, kC_X7_isCar, ⟨by decide +kernel, by decide +kernel⟩, by decide +kernel⟩
theorem cm_X7_344 : CM RX7 344 4 1 mX4_addClaim := ⟨(RX4, TX4, 5), rfl, kM_X7_344, kI_X4_addClaim, kS_X4_addClaim, kZ_X4, kC_X4_addClaim, ⟨by decide +kernel, by decide +kernel⟩, by decide +kernel⟩
theorem cm_X7_212 : CM RX7 212 4 0 mX4_clear := ⟨(RX4, TX4, 5), rfl, kM_X7_212, kI_X4_clear, kS_X4_clear, kZ_X4, kC_X4_clear, ⟨by decide +kernel, by decide +kernel⟩, by decide +kernel⟩
theorem cm_X7_215 : CM RX7 215 7 2 mX7_addClaims := ⟨(RX7, TX7, 13), rfl, kM_X7_215, kI_X7_addClaims, kS_X7_addClaims, kZ_X7, kC_X7_addClaims, ⟨by decide +kernel, by decide +kernel⟩, by decide +kernel⟩
theorem cm_X7_218 : CM RX7 218 7 2 mX7_handedToTrain := ⟨(RX7, TX7, 13), rfl, kM_X7_218, kI_X7_handedToTrain, kS_X7_handedToTrain, kZ_X7, kC_X7_handedToTrain, ⟨by decide +kernel, by decide +kernel⟩, by decide +kernel⟩
theorem cm_X7_221 : CM RX7 221 4 1 mX4_shareOut := ⟨(RX4, TX4, 5), rfl, kM_X7_221, kI_X4_shareOut, kS_X4_shareOut, kZ_X4, kC_X4_shareOut, ⟨by decide +kernel, by decide +kernel⟩, by decide +kernel⟩
theorem cm_X7_347 : CM RX7 347 7 2 mX7_wantedByTrain := ⟨(RX7, TX7, 13), rfl, kM_X7_347, kI_X7_wantedByTrain, kS_X7_wantedByTrain, kZ_X7, kC_X7_wantedByTrain, ⟨by decide +kernel, by decide +kernel⟩, by decide +kernel⟩
theorem cm_X7_353 : CM RX7 353 7 2 mX7_coverageAbove := ⟨(RX7, TX7, 13), rfl, kM_X7_353, kI_X7_coverageAbove, kS_X7_coverageAbove, kZ_X7, kC_X7_coverageAbove, ⟨by decide +kernel, by decide +kernel⟩, by decide +kernel⟩
theorem cm_X7_356 : CM RX7 356 7 2 mX7_coverageBelow := ⟨(RX7, TX7, 13), rfl, kM_X7_356, kI_X7_coverageBelow, kS_X7_coverageBelow, kZ_X7, kC_X7_coverageBelow, ⟨by decide +kernel, by decide +kernel⟩, by decide +kernel⟩
theorem cm_X7_359 : CSt RX7 359 2 mX7_commonDivisor := ⟨kM_X7_359, kT_X7_commonDivisor, kZ_X7, kC_X7_commonDivisor, ⟨by decide +kernel, by decide +kernel⟩, by decide +kernel⟩
theorem cm_X7_362 : CSt RX7 362 2 mX7_wholeParts := ⟨kM_X7_362, kT_X7_wholeParts, kZ_X7, kC_X7_wholeParts, ⟨by decide +kernel, by decide +kernel⟩, by decide +kernel⟩
theorem cm_X7_365 : CSt RX7 365 2 mJ6_compare_7cf53 := ⟨kM_X7_365, kT_J6_compare_7cf53, kZ_J6, kC_J6_compare_7cf53, ⟨by decide +kernel, by decide +kernel⟩, by decide +kernel⟩
theorem cm_L_7 : CSt RL 7 2 mL_flush := ⟨kM_L_7, kT_L_flush, kZ_L, kC_L_flush, ⟨by decide +kernel, by decide +kernel⟩, by decide +kernel⟩
theorem cm_L_13 : CM RL 13 7 5 mX7_append := ⟨(RX7, TX7, 13), rfl, kM_L_13, kI_X7_append, kS_X7_append, kZ_X7, kC_X7_append, ⟨by decide +kernel, by decide +kernel⟩, by decide +kernel⟩
theorem cm_L_21 : CSt RL 21 3 mL_put := ⟨kM_L_21, kT_L_put, kZ_L, kC_L_put, ⟨by decide +kernel, by decide +kernel⟩, by decide +kernel⟩
theorem cm_L_25 : CSt RL 25 2 mL_cell := ⟨kM_L_25, kT_L_cell, kZ_L, kC_L_cell, ⟨by decide +kernel, by decide +kernel⟩, by decide +kernel⟩
theorem cm_L_29 : CSt RL 29 3 mL_number := ⟨kM_L_29, kT_L_number, kZ_L, kC_L_number, ⟨by decide +kernel, by decide +kernel⟩, by decide +kernel⟩
theorem cm_L_34 : CSt RL 34 3 mL_say := ⟨kM_L_34, kT_L_say, kZ_L, kC_L_say, ⟨by decide +kernel, by decide +kernel⟩, by decide +kernel⟩
theorem cm_L_42 : CSt RL 42 3 mL_part := ⟨kM_L_42, kT_L_part, kZ_L, kC_L_part, ⟨by decide +kernel, by decide +kernel⟩, by decide +kernel⟩
theorem cm_L_53 : CSt RL 53 3 mL_mealName := ⟨kM_L_53, kT_L_mealName, kZ_L, kC_L_mealName, ⟨by decide +kernel, by decide +kernel⟩, by decide +kernel⟩
theorem cm_L_64 : CSt RL 64 2 mL_said := ⟨kM_L_64, kT_L_said, kZ_L, kC_L_said, ⟨by decide +kernel, by decide +kernel⟩, by decide +kernel⟩
theorem cm_L_68 : CM RL 68 7 1 mX7_load := ⟨(RX7, TX7, 13), rfl, kM_L_68, kI_X7_load, kS_X7_load, kZ_X7, kC_X7_load, ⟨by decide +kernel, by decide +kernel⟩, by decide +kernel⟩
theorem cm_L_208 : CIn RL 208 mX7_init := ⟨kM_L_208, rfl, kI_X7_init, kZ_X7, kC_X7_init, ⟨by decide +kernel, by decide +kernel⟩, by decide +kernel, rfl⟩
theorem cm_L_209 : CSt RL 209 1 mL_drawn := ⟨kM_L_209, kT_L_drawn, kZ_L, kC_L_drawn, ⟨by decide +kernel, by decide +kernel⟩, by decide +kernel⟩
theorem cm_L_212 : CSt RL 212 3 mL_says := ⟨kM_L_212, kT_L_says, kZ_L, kC_L_says, ⟨by decide +kernel, by decide +kernel⟩, by decide +kernel⟩
theorem cm_L_216 : CSt RL 216 2 mL_holds := ⟨kM_L_216, kT_L_holds, kZ_L, kC_L_holds, ⟨by decide +kernel, by decide +kernel⟩, by decide +kernel⟩
theorem cm_L_220 : CSt RL 220 1 mL_seen := ⟨kM_L_220, kT_L_seen, kZ_L, kC_L_seen, ⟨by decide +kernel, by decide +kernel⟩, by decide +kernel⟩
theorem cm_L_224 : CM RL 224 7 5 mX7_addJob := ⟨(RX7, TX7, 13), rfl, kM_L_224, kI_X7_addJob, kS_X7_addJob, kZ_X7, kC_X7_addJob, ⟨by decide +kernel, by decide +kernel⟩, by decide +kernel⟩
theorem cm_L_227 : CM RL 227 7 1 mX7_removeJob := ⟨(RX7, TX7, 13), rfl, kM_L_227, kI_X7_removeJob, kS_X7_removeJob, kZ_X7, kC_X7_removeJob, ⟨by decide +kernel, by decide +kernel⟩, by decide +kernel⟩
theorem cm_L_230 : CM RL 230 7 2 mX7_moveJob := ⟨(RX7, TX7, 13), rfl, kM_L_230, kI_X7_moveJob, kS_X7_moveJob, kZ_X7, kC_X7_moveJob, ⟨by decide +kernel, by decide +kernel⟩, by decide +kernel⟩
theorem cm_L_233 : CM RL 233 7 2 mX7_setDeparture := ⟨(RX7, TX7, 13), rfl, kM_L_233, kI_X7_setDeparture, kS_X7_setDeparture, kZ_X7, kC_X7_setDeparture, ⟨by decide +kernel, by decide +kernel⟩, by decide +kernel⟩
theorem cm_L_236 : CM RL 236 7 3 mX7_setStock := ⟨(RX7, TX7, 13), rfl, kM_L_236, kI_X7_setStock, kS_X7_setStock, kZ_X7, kC_X7_setStock, ⟨by decide +kernel, by decide +kernel⟩, by decide +kernel⟩
theorem cm_L_239 : CM RL 239 7 1 mX7_bestMeals := ⟨(RX7, TX7, 13), rfl, kM_L_239, kI_X7_bestMeals, kS_X7_bestMeals, kZ_X7, kC_X7_bestMeals, ⟨by decide +kernel, by decide +kernel⟩, by decide +kernel⟩
theorem cm_L_242 : CM RL 242 7 1 mX7_applyBest := ⟨(RX7, TX7, 13), rfl, kM_L_242, kI_X7_applyBest, kS_X7_applyBest, kZ_X7, kC_X7_applyBest, ⟨by decide +kernel, by decide +kernel⟩, by decide +kernel⟩
theorem cm_L_245 : CM RL 245 7 1 mX7_bestSet := ⟨(RX7, TX7, 13), rfl, kM_L_245, kI_X7_bestSet, kS_X7_bestSet, kZ_X7, kC_X7_bestSet, ⟨by decide +kernel, by decide +kernel⟩, by decide +kernel⟩
theorem cm_L_126 : CSt RL 126 1 mJ6_bitCount_0f7a4 := ⟨kM_L_126, kT_J6_bitCount_0f7a4, kZ_J6, kC_J6_bitCount_0f7a4, ⟨by decide +kernel, by decide +kernel⟩, by decide +kernel⟩
theorem cm_L_248 : CSt RL 248 2 mL_jobsOf := ⟨kM_L_248, kT_L_jobsOf, kZ_L, kC_L_jobsOf, ⟨by decide +kernel, by decide +kernel⟩, by decide +kernel⟩
theorem cm_L_252 : CSt RL 252 2 mJ7_equals_bbcde := ⟨kM_L_252, kT_J7_equals_bbcde, kZ_J7, kC_J7_equals_bbcde, ⟨by decide +kernel, by decide +kernel⟩, by decide +kernel⟩
theorem cm_L_256 : CM RL 256 7 0 mX7_save := ⟨(RX7, TX7, 13), rfl, kM_L_256, kI_X7_save, kS_X7_save, kZ_X7, kC_X7_save, ⟨by decide +kernel, by decide +kernel⟩, by decide +kernel⟩
theorem cm_L_259 : CM RL 259 7 0 mX7_undo := ⟨(RX7, TX7, 13), rfl, kM_L_259, kI_X7_undo, kS_X7_undo, kZ_X7, kC_X7_undo, ⟨by decide +kernel, by decide +kernel⟩, by decide +kernel⟩
theorem cm_L_262 : CM RL 262 7 0 mX7_restore := ⟨(RX7, TX7, 13), rfl, kM_L_262, kI_X7_restore, kS_X7_restore, kZ_X7, kC_X7_restore, ⟨by decide +kernel, by decide +kernel⟩, by decide +kernel⟩
theorem cm_L_169 : CM RL 169 7 0 mX7_error := ⟨(RX7, TX7, 13), rfl, kM_L_169, kI_X7_error, kS_X7_error, kZ_X7, kC_X7_error, ⟨by decide +kernel, by decide +kernel⟩, by decide +kernel⟩
theorem cm_L_136 : CM RL 136 7 0 mX7_jobCount := ⟨(RX7, TX7, 13), rfl, kM_L_136, kI_X7_jobCount, kS_X7_jobCount, kZ_X7, kC_X7_jobCount, ⟨by decide +kernel, by decide +kernel⟩, by decide +kernel⟩
theorem cm_L_147 : CM RL 147 7 1 mX7_jobTrolley := ⟨(RX7, TX7, 13), rfl, kM_L_147, kI_X7_jobTrolley, kS_X7_jobTrolley, kZ_X7, kC_X7_jobTrolley, ⟨by decide +kernel, by decide +kernel⟩, by decide +kernel⟩
theorem cm_L_265 : CSt RL 265 1 mL_mealsHold := ⟨kM_L_265, kT_L_mealsHold, kZ_L, kC_L_mealsHold, ⟨by decide +kernel, by decide +kernel⟩, by decide +kernel⟩
theorem cm_L_269 : CSt RL 269 1 mL_jobsHold := ⟨kM_L_269, kT_L_jobsHold, kZ_L, kC_L_jobsHold, ⟨by decide +kernel, by decide +kernel⟩, by decide +kernel⟩
theorem cm_L_272 : CSt RL 272 1 mL_sharesHold := ⟨kM_L_272, kT_L_sharesHold, kZ_L, kC_L_sharesHold, ⟨by decide +kernel, by decide +kernel⟩, by decide +kernel⟩
theorem cm_L_275 : CSt RL 275 2 mL_bestsHold := ⟨kM_L_275, kT_L_bestsHold, kZ_L, kC_L_bestsHold, ⟨by decide +kernel, by decide +kernel⟩, by decide +kernel⟩
theorem cm_L_181 : CM RL 181 7 2 mX7_stock := ⟨(RX7, TX7, 13), rfl, kM_L_181, kI_X7_stock, kS_X7_stock, kZ_X7, kC_X7_stock, ⟨by decide +kernel, by decide +kernel⟩, by decide +kernel⟩
theorem cm_L_184 : CM RL 184 7 2 mX7_finalStock := ⟨(RX7, TX7, 13), rfl, kM_L_184, kI_X7_finalStock, kS_X7_finalStock, kZ_X7, kC_X7_finalStock, ⟨by decide +kernel, by decide +kernel⟩, by decide +kernel⟩
theorem cm_L_197 : CM RL 197 7 3 mX7_delivered := ⟨(RX7, TX7, 13), rfl, kM_L_197, kI_X7_delivered, kS_X7_delivered, kZ_X7, kC_X7_delivered, ⟨by decide +kernel, by decide +kernel⟩, by decide +kernel⟩
theorem cm_L_199 : CM RL 199 7 3 mX7_shortage := ⟨(RX7, TX7, 13), rfl, kM_L_199, kI_X7_shortage, kS_X7_shortage, kZ_X7, kC_X7_shortage, ⟨by decide +kernel, by decide +kernel⟩, by decide +kernel⟩
theorem cm_L_194 : CM RL 194 7 3 mX7_demand := ⟨(RX7, TX7, 13), rfl, kM_L_194, kI_X7_demand, kS_X7_demand, kZ_X7, kC_X7_demand, ⟨by decide +kernel, by decide +kernel⟩, by decide +kernel⟩
theorem cm_L_140 : CM RL 140 7 0 mX7_deliveredTotal := ⟨(RX7, TX7, 13), rfl, kM_L_140, kI_X7_deliveredTotal, kS_X7_deliveredTotal, kZ_X7, kC_X7_deliveredTotal, ⟨by decide +kernel, by decide +kernel⟩, by decide +kernel⟩
theorem cm_L_153 : CM RL 153 7 1 mX7_startTime := ⟨(RX7, TX7, 13), rfl, kM_L_153, kI_X7_startTime, kS_X7_startTime, kZ_X7, kC_X7_startTime, ⟨by decide +kernel, by decide +kernel⟩, by decide +kernel⟩
theorem cm_L_162 : CM RL 162 7 1 mX7_finishTime := ⟨(RX7, TX7, 13), rfl, kM_L_162, kI_X7_finishTime, kS_X7_finishTime, kZ_X7, kC_X7_finishTime, ⟨by decide +kernel, by decide +kernel⟩, by decide +kernel⟩
theorem cm_L_156 : CM RL 156 7 1 mX7_loaded := ⟨(RX7, TX7, 13), rfl, kM_L_156, kI_X7_loaded, kS_X7_loaded, kZ_X7, kC_X7_loaded, ⟨by decide +kernel, by decide +kernel⟩, by decide +kernel⟩
theorem cm_L_150 : CM RL 150 7 1 mX7_jobQuantity := ⟨(RX7, TX7, 13), rfl, kM_L_150, kI_X7_jobQuantity, kS_X7_jobQuantity, kZ_X7, kC_X7_jobQuantity, ⟨by decide +kernel, by decide +kernel⟩, by decide +kernel⟩
theorem cm_L_159 : CM RL 159 7 1 mX7_unloaded := ⟨(RX7, TX7, 13), rfl, kM_L_159, kI_X7_unloaded, kS_X7_unloaded, kZ_X7, kC_X7_unloaded, ⟨by decide +kernel, by decide +kernel⟩, by decide +kernel⟩
theorem cm_L_165 : CM RL 165 7 1 mX7_unloadTime := ⟨(RX7, TX7, 13), rfl, kM_L_165, kI_X7_unloadTime, kS_X7_unloadTime, kZ_X7, kC_X7_unloadTime, ⟨by decide +kernel, by decide +kernel⟩, by decide +kernel⟩
theorem cm_L_175 : CM RL 175 7 1 mX7_leftBehind := ⟨(RX7, TX7, 13), rfl, kM_L_175, kI_X7_leftBehind, kS_X7_leftBehind, kZ_X7, kC_X7_leftBehind, ⟨by decide +kernel, by decide +kernel⟩, by decide +kernel⟩
theorem cm_L_202 : CM RL 202 7 3 mX7_share := ⟨(RX7, TX7, 13), rfl, kM_L_202, kI_X7_share, kS_X7_share, kZ_X7, kC_X7_share, ⟨by decide +kernel, by decide +kernel⟩, by decide +kernel⟩
theorem cm_L_278 : CM RL 278 7 3 mX7_coverage := ⟨(RX7, TX7, 13), rfl, kM_L_278, kI_X7_coverage, kS_X7_coverage, kZ_X7, kC_X7_coverage, ⟨by decide +kernel, by decide +kernel⟩, by decide +kernel⟩
theorem cm_L_282 : CM RL 282 7 2 mX7_leastCoverage := ⟨(RX7, TX7, 13), rfl, kM_L_282, kI_X7_leastCoverage, kS_X7_leastCoverage, kZ_X7, kC_X7_leastCoverage, ⟨by decide +kernel, by decide +kernel⟩, by decide +kernel⟩
theorem cm_L_286 : CM RL 286 7 2 mX7_bestOrder := ⟨(RX7, TX7, 13), rfl, kM_L_286, kI_X7_bestOrder, kS_X7_bestOrder, kZ_X7, kC_X7_bestOrder, ⟨by decide +kernel, by decide +kernel⟩, by decide +kernel⟩
theorem cm_L_289 : CM RL 289 7 1 mX7_deliveredWithout := ⟨(RX7, TX7, 13), rfl, kM_L_289, kI_X7_deliveredWithout, kS_X7_deliveredWithout, kZ_X7, kC_X7_deliveredWithout, ⟨by decide +kernel, by decide +kernel⟩, by decide +kernel⟩
theorem cm_L_292 : CM RL 292 7 1 mX7_neededDelay := ⟨(RX7, TX7, 13), rfl, kM_L_292, kI_X7_neededDelay, kS_X7_neededDelay, kZ_X7, kC_X7_neededDelay, ⟨by decide +kernel, by decide +kernel⟩, by decide +kernel⟩
theorem cm_L_187 : CM RL 187 7 1 mX7_departure := ⟨(RX7, TX7, 13), rfl, kM_L_187, kI_X7_departure, kS_X7_departure, kZ_X7, kC_X7_departure, ⟨by decide +kernel, by decide +kernel⟩, by decide +kernel⟩
theorem cm_L_295 : CM RL 295 7 0 mX7_worstJob := ⟨(RX7, TX7, 13), rfl, kM_L_295, kI_X7_worstJob, kS_X7_worstJob, kZ_X7, kC_X7_worstJob, ⟨by decide +kernel, by decide +kernel⟩, by decide +kernel⟩
