/-! ===== the methods: code, locals, answer, room ===== -/
def mX0_init : MI := (yX0_init, cX0_init, 1, 0, { frames := 1, cells := 15, slots := 76, locals := 26 })
def mX0_clear : MI := (yX0_clear, cX0_clear, 2, 0, { frames := 1, cells := 0, slots := 0, locals := 26 })
def mX0_wanted : MI := (yX0_wanted, cX0_wanted, 3, 1, { frames := 3, cells := 0, slots := 0, locals := 68 })
def mX0_walk : MI := (yX0_walk, cX0_walk, 5, 1, { frames := 3, cells := 0, slots := 0, locals := 68 })
def mX0_mostMeals : MI := (yX0_mostMeals, cX0_mostMeals, 3, 1, { frames := 1, cells := 0, slots := 0, locals := 26 })
def mX0_mealNamed : MI := (yX0_mealNamed, cX0_mealNamed, 4, 1, { frames := 1, cells := 0, slots := 0, locals := 26 })
def mX1_init : MI := (yX1_init, cX1_init, 2, 0, { frames := 2, cells := 71, slots := 1020, locals := 46 })
def mX1_push : MI := (yX1_push, cX1_push, 2, 0, { frames := 2, cells := 0, slots := 0, locals := 48 })
def mX1_popInto : MI := (yX1_popInto, cX1_popInto, 2, 0, { frames := 2, cells := 0, slots := 0, locals := 47 })
def mX1_dropFirst : MI := (yX1_dropFirst, cX1_dropFirst, 3, 0, { frames := 1, cells := 0, slots := 0, locals := 26 })
def mX2_init : MI := (yX2_init, cX2_init, 1, 0, { frames := 2, cells := 25, slots := 1107, locals := 46 })
def mX2_putFour : MI := (yX2_putFour, cX2_putFour, 3, 0, { frames := 1, cells := 0, slots := 0, locals := 26 })
def mX2_parse : MI := (yX2_parse, cX2_parse, 3, 0, { frames := 6, cells := 0, slots := 0, locals := 133 })
def mX2_refuse : MI := (yX2_refuse, cX2_refuse, 2, 0, { frames := 1, cells := 0, slots := 0, locals := 26 })
def mX2_isComplete : MI := (yX2_isComplete, cX2_isComplete, 2, 3, { frames := 1, cells := 0, slots := 0, locals := 26 })
def mX2_readLine : MI := (yX2_readLine, cX2_readLine, 1, 0, { frames := 5, cells := 0, slots := 0, locals := 113 })
def mX2_readTrain : MI := (yX2_readTrain, cX2_readTrain, 4, 0, { frames := 4, cells := 0, slots := 0, locals := 88 })
def mX2_readCar : MI := (yX2_readCar, cX2_readCar, 6, 0, { frames := 4, cells := 0, slots := 0, locals := 88 })
def mX2_readMeal : MI := (yX2_readMeal, cX2_readMeal, 5, 0, { frames := 4, cells := 0, slots := 0, locals := 88 })
def mX2_readKitchen : MI := (yX2_readKitchen, cX2_readKitchen, 2, 0, { frames := 4, cells := 0, slots := 0, locals := 88 })
def mX2_readStock : MI := (yX2_readStock, cX2_readStock, 5, 0, { frames := 4, cells := 0, slots := 0, locals := 88 })
def mX2_readTrolley : MI := (yX2_readTrolley, cX2_readTrolley, 6, 0, { frames := 4, cells := 0, slots := 0, locals := 88 })
def mX2_readJob : MI := (yX2_readJob, cX2_readJob, 6, 0, { frames := 4, cells := 0, slots := 0, locals := 88 })
def mX2_takeNumber : MI := (yX2_takeNumber, cX2_takeNumber, 3, 1, { frames := 3, cells := 0, slots := 0, locals := 66 })
def mX2_refuseUnknownTrain : MI := (yX2_refuseUnknownTrain, cX2_refuseUnknownTrain, 2, 0, { frames := 2, cells := 0, slots := 0, locals := 47 })
def mX2_takeKeyword : MI := (yX2_takeKeyword, cX2_takeKeyword, 3, 0, { frames := 3, cells := 0, slots := 0, locals := 66 })
def mX2_takeName : MI := (yX2_takeName, cX2_takeName, 1, 0, { frames := 3, cells := 0, slots := 0, locals := 66 })
def mX2_namedMeal : MI := (yX2_namedMeal, cX2_namedMeal, 2, 1, { frames := 2, cells := 0, slots := 0, locals := 49 })
def mX2_isKeyword : MI := (yX2_isKeyword, cX2_isKeyword, 1, 3, { frames := 1, cells := 0, slots := 0, locals := 26 })
def mX2_advance : MI := (yX2_advance, cX2_advance, 1, 0, { frames := 2, cells := 0, slots := 0, locals := 46 })
def mX2_scanLetters : MI := (yX2_scanLetters, cX2_scanLetters, 1, 0, { frames := 1, cells := 0, slots := 0, locals := 26 })
def mX2_scanDigits : MI := (yX2_scanDigits, cX2_scanDigits, 1, 0, { frames := 1, cells := 0, slots := 0, locals := 26 })
def mX3_init : MI := (yX3_init, cX3_init, 1, 0, { frames := 1, cells := 13, slots := 197, locals := 26 })
def mX3_play : MI := (yX3_play, cX3_play, 5, 0, { frames := 5, cells := 0, slots := 0, locals := 118 })
def mX3_awaitStart : MI := (yX3_awaitStart, cX3_awaitStart, 5, 0, { frames := 2, cells := 0, slots := 0, locals := 49 })
def mX3_nextTrolley : MI := (yX3_nextTrolley, cX3_nextTrolley, 6, 1, { frames := 1, cells := 0, slots := 0, locals := 26 })
def mX3_startJob : MI := (yX3_startJob, cX3_startJob, 7, 0, { frames := 4, cells := 0, slots := 0, locals := 92 })
def mX3_setNoUnloading : MI := (yX3_setNoUnloading, cX3_setNoUnloading, 3, 0, { frames := 1, cells := 0, slots := 0, locals := 26 })
def mX3_reachDoor : MI := (yX3_reachDoor, cX3_reachDoor, 5, 0, { frames := 4, cells := 0, slots := 0, locals := 92 })
def mX3_unload : MI := (yX3_unload, cX3_unload, 11, 0, { frames := 2, cells := 0, slots := 0, locals := 47 })
def mX3_bringBack : MI := (yX3_bringBack, cX3_bringBack, 5, 0, { frames := 3, cells := 0, slots := 0, locals := 73 })
def mX3_leavesBehind : MI := (yX3_leavesBehind, cX3_leavesBehind, 5, 3, { frames := 1, cells := 0, slots := 0, locals := 26 })
def mX3_jobAt : MI := (yX3_jobAt, cX3_jobAt, 5, 1, { frames := 1, cells := 0, slots := 0, locals := 26 })
def mX3_activity : MI := (yX3_activity, cX3_activity, 3, 1, { frames := 1, cells := 0, slots := 0, locals := 26 })
def mX3_mealsAboard : MI := (yX3_mealsAboard, cX3_mealsAboard, 5, 1, { frames := 2, cells := 0, slots := 0, locals := 48 })
def mX3_jobThatUnloads : MI := (yX3_jobThatUnloads, cX3_jobThatUnloads, 5, 1, { frames := 1, cells := 0, slots := 0, locals := 26 })
def mX4_init : MI := (yX4_init, cX4_init, 1, 0, { frames := 1, cells := 3, slots := 30, locals := 26 })
def mX4_clear : MI := (yX4_clear, cX4_clear, 1, 0, { frames := 1, cells := 0, slots := 0, locals := 26 })
def mX4_addClaim : MI := (yX4_addClaim, cX4_addClaim, 2, 0, { frames := 1, cells := 0, slots := 0, locals := 26 })
def mX4_shareOut : MI := (yX4_shareOut, cX4_shareOut, 5, 0, { frames := 2, cells := 0, slots := 0, locals := 48 })
def mX4_largestRest : MI := (yX4_largestRest, cX4_largestRest, 3, 1, { frames := 1, cells := 0, slots := 0, locals := 26 })
def mX5_init : MI := (yX5_init, cX5_init, 1, 0, { frames := 1, cells := 9, slots := 320, locals := 26 })
def mX5_study : MI := (yX5_study, cX5_study, 6, 0, { frames := 5, cells := 0, slots := 0, locals := 119 })
def mX5_studyJob : MI := (yX5_studyJob, cX5_studyJob, 8, 0, { frames := 4, cells := 0, slots := 0, locals := 92 })
def mX5_wholeSet : MI := (yX5_wholeSet, cX5_wholeSet, 1, 1, { frames := 1, cells := 0, slots := 0, locals := 26 })
def mX5_canDo : MI := (yX5_canDo, cX5_canDo, 2, 3, { frames := 1, cells := 0, slots := 0, locals := 26 })
def mX5_mealsOf : MI := (yX5_mealsOf, cX5_mealsOf, 4, 1, { frames := 1, cells := 0, slots := 0, locals := 26 })
def mX5_latestBegin : MI := (yX5_latestBegin, cX5_latestBegin, 4, 1, { frames := 2, cells := 0, slots := 0, locals := 50 })
def mX5_latestBeginWith : MI := (yX5_latestBeginWith, cX5_latestBeginWith, 5, 1, { frames := 1, cells := 0, slots := 0, locals := 26 })
def mX5_chooseBest : MI := (yX5_chooseBest, cX5_chooseBest, 6, 0, { frames := 6, cells := 0, slots := 0, locals := 144 })
def mX5_layOrder : MI := (yX5_layOrder, cX5_layOrder, 5, 0, { frames := 3, cells := 0, slots := 0, locals := 73 })
def mX5_firstThatFits : MI := (yX5_firstThatFits, cX5_firstThatFits, 4, 1, { frames := 2, cells := 0, slots := 0, locals := 50 })
def mX6_init : MI := (yX6_init, cX6_init, 1, 0, { frames := 1, cells := 6, slots := 94, locals := 26 })
def mX6_clear : MI := (yX6_clear, cX6_clear, 1, 0, { frames := 2, cells := 0, slots := 0, locals := 49 })
def mX6_copyFrom : MI := (yX6_copyFrom, cX6_copyFrom, 2, 0, { frames := 1, cells := 0, slots := 0, locals := 26 })
def mX6_addLast : MI := (yX6_addLast, cX6_addLast, 5, 0, { frames := 1, cells := 0, slots := 0, locals := 26 })
def mX6_takeJob : MI := (yX6_takeJob, cX6_takeJob, 4, 0, { frames := 1, cells := 0, slots := 0, locals := 26 })
def mX6_removeAt : MI := (yX6_removeAt, cX6_removeAt, 3, 0, { frames := 2, cells := 0, slots := 0, locals := 49 })
def mX6_exchange : MI := (yX6_exchange, cX6_exchange, 3, 0, { frames := 2, cells := 0, slots := 0, locals := 49 })
def mX6_exchangeIn : MI := (yX6_exchangeIn, cX6_exchangeIn, 4, 0, { frames := 1, cells := 0, slots := 0, locals := 26 })
def mX6_jobsOf : MI := (yX6_jobsOf, cX6_jobsOf, 4, 1, { frames := 1, cells := 0, slots := 0, locals := 26 })
def mX6_jobFrom : MI := (yX6_jobFrom, cX6_jobFrom, 4, 1, { frames := 1, cells := 0, slots := 0, locals := 26 })
def mX7_init : MI := (yX7_init, cX7_init, 1, 0, { frames := 3, cells := 177, slots := 3328, locals := 67 })
def mX7_append : MI := (yX7_append, cX7_append, 6, 1, { frames := 2, cells := 0, slots := 0, locals := 48 })
def mX7_load : MI := (yX7_load, cX7_load, 2, 1, { frames := 7, cells := 0, slots := 0, locals := 164 })
def mX7_parseError : MI := (yX7_parseError, cX7_parseError, 1, 1, { frames := 1, cells := 0, slots := 0, locals := 26 })
def mX7_errorPosition : MI := (yX7_errorPosition, cX7_errorPosition, 1, 1, { frames := 1, cells := 0, slots := 0, locals := 26 })
def mX7_buffered : MI := (yX7_buffered, cX7_buffered, 1, 1, { frames := 1, cells := 0, slots := 0, locals := 26 })
def mX7_carCount : MI := (yX7_carCount, cX7_carCount, 2, 1, { frames := 2, cells := 0, slots := 0, locals := 47 })
def mX7_mealCount : MI := (yX7_mealCount, cX7_mealCount, 1, 1, { frames := 2, cells := 0, slots := 0, locals := 47 })
def mX7_trolleyCount : MI := (yX7_trolleyCount, cX7_trolleyCount, 1, 1, { frames := 2, cells := 0, slots := 0, locals := 47 })
def mX7_jobCount : MI := (yX7_jobCount, cX7_jobCount, 1, 1, { frames := 2, cells := 0, slots := 0, locals := 47 })
def mX7_departure : MI := (yX7_departure, cX7_departure, 2, 1, { frames := 2, cells := 0, slots := 0, locals := 47 })
def mX7_stock : MI := (yX7_stock, cX7_stock, 3, 1, { frames := 3, cells := 0, slots := 0, locals := 69 })
def mX7_demand : MI := (yX7_demand, cX7_demand, 4, 1, { frames := 4, cells := 0, slots := 0, locals := 92 })
def mX7_jobTrolley : MI := (yX7_jobTrolley, cX7_jobTrolley, 2, 1, { frames := 2, cells := 0, slots := 0, locals := 47 })
def mX7_jobQuantity : MI := (yX7_jobQuantity, cX7_jobQuantity, 2, 1, { frames := 2, cells := 0, slots := 0, locals := 47 })
def mX7_startTime : MI := (yX7_startTime, cX7_startTime, 2, 1, { frames := 2, cells := 0, slots := 0, locals := 47 })
def mX7_loaded : MI := (yX7_loaded, cX7_loaded, 2, 1, { frames := 2, cells := 0, slots := 0, locals := 47 })
def mX7_unloaded : MI := (yX7_unloaded, cX7_unloaded, 2, 1, { frames := 2, cells := 0, slots := 0, locals := 47 })
def mX7_unloadTime : MI := (yX7_unloadTime, cX7_unloadTime, 2, 1, { frames := 2, cells := 0, slots := 0, locals := 47 })
def mX7_finishTime : MI := (yX7_finishTime, cX7_finishTime, 2, 1, { frames := 2, cells := 0, slots := 0, locals := 47 })
def mX7_delivered : MI := (yX7_delivered, cX7_delivered, 4, 1, { frames := 4, cells := 0, slots := 0, locals := 92 })
def mX7_deliveredTotal : MI := (yX7_deliveredTotal, cX7_deliveredTotal, 1, 1, { frames := 2, cells := 0, slots := 0, locals := 47 })
def mX7_leftBehind : MI := (yX7_leftBehind, cX7_leftBehind, 4, 1, { frames := 2, cells := 0, slots := 0, locals := 47 })
def mX7_finalStock : MI := (yX7_finalStock, cX7_finalStock, 3, 1, { frames := 3, cells := 0, slots := 0, locals := 69 })
def mX7_shortage : MI := (yX7_shortage, cX7_shortage, 5, 1, { frames := 4, cells := 0, slots := 0, locals := 92 })
def mX7_longestWait : MI := (yX7_longestWait, cX7_longestWait, 4, 1, { frames := 2, cells := 0, slots := 0, locals := 47 })
def mX7_doorBusy : MI := (yX7_doorBusy, cX7_doorBusy, 5, 1, { frames := 3, cells := 0, slots := 0, locals := 69 })
def mX7_stateAt : MI := (yX7_stateAt, cX7_stateAt, 3, 1, { frames := 2, cells := 0, slots := 0, locals := 50 })
def mX7_mealsOn : MI := (yX7_mealsOn, cX7_mealsOn, 4, 1, { frames := 3, cells := 0, slots := 0, locals := 72 })
def mX7_share : MI := (yX7_share, cX7_share, 4, 1, { frames := 6, cells := 0, slots := 0, locals := 135 })
def mX7_carried : MI := (yX7_carried, cX7_carried, 5, 1, { frames := 6, cells := 0, slots := 0, locals := 135 })
def mX7_jointShare : MI := (yX7_jointShare, cX7_jointShare, 5, 1, { frames := 5, cells := 0, slots := 0, locals := 113 })
def mX7_coverage : MI := (yX7_coverage, cX7_coverage, 4, 2, { frames := 7, cells := 0, slots := 0, locals := 162 })
def mX7_leastCoverage : MI := (yX7_leastCoverage, cX7_leastCoverage, 5, 2, { frames := 7, cells := 0, slots := 0, locals := 163 })
def mX7_betterServed : MI := (yX7_betterServed, cX7_betterServed, 3, 1, { frames := 7, cells := 0, slots := 0, locals := 163 })
def mX7_bestSet : MI := (yX7_bestSet, cX7_bestSet, 2, 1, { frames := 7, cells := 0, slots := 0, locals := 169 })
def mX7_bestMeals : MI := (yX7_bestMeals, cX7_bestMeals, 2, 1, { frames := 7, cells := 0, slots := 0, locals := 169 })
def mX7_bestOrder : MI := (yX7_bestOrder, cX7_bestOrder, 3, 1, { frames := 7, cells := 0, slots := 0, locals := 169 })
def mX7_leastSpeed : MI := (yX7_leastSpeed, cX7_leastSpeed, 3, 1, { frames := 6, cells := 0, slots := 0, locals := 144 })
def mX7_neededDelay : MI := (yX7_neededDelay, cX7_neededDelay, 3, 1, { frames := 6, cells := 0, slots := 0, locals := 142 })
def mX7_deliveredWithout : MI := (yX7_deliveredWithout, cX7_deliveredWithout, 3, 1, { frames := 7, cells := 0, slots := 0, locals := 162 })
def mX7_worstJob : MI := (yX7_worstJob, cX7_worstJob, 5, 1, { frames := 7, cells := 0, slots := 0, locals := 162 })
def mX7_bestTrolley : MI := (yX7_bestTrolley, cX7_bestTrolley, 6, 1, { frames := 7, cells := 0, slots := 0, locals := 162 })
def mX7_bestSwap : MI := (yX7_bestSwap, cX7_bestSwap, 6, 1, { frames := 7, cells := 0, slots := 0, locals := 162 })
def mX7_addJob : MI := (yX7_addJob, cX7_addJob, 6, 1, { frames := 7, cells := 0, slots := 0, locals := 163 })
def mX7_removeJob : MI := (yX7_removeJob, cX7_removeJob, 2, 1, { frames := 7, cells := 0, slots := 0, locals := 163 })
def mX7_moveJob : MI := (yX7_moveJob, cX7_moveJob, 4, 1, { frames := 7, cells := 0, slots := 0, locals := 163 })
def mX7_setDeparture : MI := (yX7_setDeparture, cX7_setDeparture, 4, 1, { frames := 7, cells := 0, slots := 0, locals := 163 })
def mX7_setStock : MI := (yX7_setStock, cX7_setStock, 6, 1, { frames := 7, cells := 0, slots := 0, locals := 163 })
def mX7_setQuantity : MI := (yX7_setQuantity, cX7_setQuantity, 4, 1, { frames := 7, cells := 0, slots := 0, locals := 163 })
def mX7_applyBest : MI := (yX7_applyBest, cX7_applyBest, 3, 1, { frames := 7, cells := 0, slots := 0, locals := 169 })
def mX7_undo : MI := (yX7_undo, cX7_undo, 1, 1, { frames := 7, cells := 0, slots := 0, locals := 163 })
def mX7_save : MI := (yX7_save, cX7_save, 1, 1, { frames := 2, cells := 0, slots := 0, locals := 47 })
def mX7_restore : MI := (yX7_restore, cX7_restore, 1, 1, { frames := 7, cells := 0, slots := 0, locals := 163 })
def mX7_error : MI := (yX7_error, cX7_error, 1, 1, { frames := 1, cells := 0, slots := 0, locals := 26 })
def mX7_answer : MI := (yX7_answer, cX7_answer, 2, 1, { frames := 1, cells := 0, slots := 0, locals := 26 })
def mX7_answerLong : MI := (yX7_answerLong, cX7_answerLong, 3, 2, { frames := 1, cells := 0, slots := 0, locals := 26 })
def mX7_fail : MI := (yX7_fail, cX7_fail, 2, 1, { frames := 1, cells := 0, slots := 0, locals := 26 })
def mX7_failLong : MI := (yX7_failLong, cX7_failLong, 2, 2, { frames := 1, cells := 0, slots := 0, locals := 26 })
def mX7_changed : MI := (yX7_changed, cX7_changed, 2, 1, { frames := 6, cells := 0, slots := 0, locals := 142 })
def mX7_rehearse : MI := (yX7_rehearse, cX7_rehearse, 1, 1, { frames := 6, cells := 0, slots := 0, locals := 142 })
def mX7_takeParsedPlan : MI := (yX7_takeParsedPlan, cX7_takeParsedPlan, 3, 0, { frames := 6, cells := 0, slots := 0, locals := 142 })
def mX7_isTrain : MI := (yX7_isTrain, cX7_isTrain, 2, 3, { frames := 1, cells := 0, slots := 0, locals := 26 })
def mX7_isCar : MI := (yX7_isCar, cX7_isCar, 3, 3, { frames := 2, cells := 0, slots := 0, locals := 47 })
def mX7_isMeal : MI := (yX7_isMeal, cX7_isMeal, 2, 3, { frames := 1, cells := 0, slots := 0, locals := 26 })
def mX7_isCarMeal : MI := (yX7_isCarMeal, cX7_isCarMeal, 4, 3, { frames := 3, cells := 0, slots := 0, locals := 69 })
def mX7_isStock : MI := (yX7_isStock, cX7_isStock, 3, 3, { frames := 2, cells := 0, slots := 0, locals := 47 })
def mX7_isTrolley : MI := (yX7_isTrolley, cX7_isTrolley, 2, 3, { frames := 1, cells := 0, slots := 0, locals := 26 })
def mX7_isJob : MI := (yX7_isJob, cX7_isJob, 2, 3, { frames := 1, cells := 0, slots := 0, locals := 26 })
def mX7_isJobQuantity : MI := (yX7_isJobQuantity, cX7_isJobQuantity, 1, 3, { frames := 1, cells := 0, slots := 0, locals := 26 })
def mX7_doorIndex : MI := (yX7_doorIndex, cX7_doorIndex, 2, 1, { frames := 1, cells := 0, slots := 0, locals := 26 })
def mX7_stockIndex : MI := (yX7_stockIndex, cX7_stockIndex, 2, 1, { frames := 1, cells := 0, slots := 0, locals := 26 })
def mX7_handedAt : MI := (yX7_handedAt, cX7_handedAt, 5, 1, { frames := 1, cells := 0, slots := 0, locals := 26 })
def mX7_handedToTrain : MI := (yX7_handedToTrain, cX7_handedToTrain, 5, 1, { frames := 2, cells := 0, slots := 0, locals := 50 })
def mX7_wantedByTrain : MI := (yX7_wantedByTrain, cX7_wantedByTrain, 5, 1, { frames := 4, cells := 0, slots := 0, locals := 90 })
def mX7_addClaims : MI := (yX7_addClaims, cX7_addClaims, 4, 0, { frames := 4, cells := 0, slots := 0, locals := 90 })
def mX7_shareInTrain : MI := (yX7_shareInTrain, cX7_shareInTrain, 3, 0, { frames := 5, cells := 0, slots := 0, locals := 113 })
def mX7_coverageAbove : MI := (yX7_coverageAbove, cX7_coverageAbove, 4, 1, { frames := 5, cells := 0, slots := 0, locals := 114 })
def mX7_coverageBelow : MI := (yX7_coverageBelow, cX7_coverageBelow, 3, 1, { frames := 5, cells := 0, slots := 0, locals := 114 })
def mX7_lowestTerm : MI := (yX7_lowestTerm, cX7_lowestTerm, 6, 1, { frames := 6, cells := 0, slots := 0, locals := 137 })
def mX7_compareCoverage : MI := (yX7_compareCoverage, cX7_compareCoverage, 7, 1, { frames := 6, cells := 0, slots := 0, locals := 137 })
def mX7_commonDivisor : MI := (yX7_commonDivisor, cX7_commonDivisor, 6, 1, { frames := 1, cells := 0, slots := 0, locals := 26 })
def mX7_wholeParts : MI := (yX7_wholeParts, cX7_wholeParts, 2, 1, { frames := 1, cells := 0, slots := 0, locals := 26 })
def mX7_partsRoundedUp : MI := (yX7_partsRoundedUp, cX7_partsRoundedUp, 2, 1, { frames := 2, cells := 0, slots := 0, locals := 47 })
def mX8_init : MI := (yX8_init, cX8_init, 1, 0, { frames := 1, cells := 29, slots := 3836, locals := 26 })
def mX8_thrown : MI := (yX8_thrown, cX8_thrown, 1, 1, { frames := 1, cells := 0, slots := 0, locals := 26 })
def mX8_in : MI := (yX8_in, cX8_in, 3, 3, { frames := 1, cells := 0, slots := 0, locals := 26 })
def mX8_failed : MI := (yX8_failed, cX8_failed, 2, 1, { frames := 1, cells := 0, slots := 0, locals := 26 })
def mX8_failedLong : MI := (yX8_failedLong, cX8_failedLong, 2, 2, { frames := 1, cells := 0, slots := 0, locals := 26 })
def mX8_done : MI := (yX8_done, cX8_done, 2, 1, { frames := 1, cells := 0, slots := 0, locals := 26 })
def mX8_error : MI := (yX8_error, cX8_error, 1, 1, { frames := 1, cells := 0, slots := 0, locals := 26 })
def mX8_four : MI := (yX8_four, cX8_four, 3, 0, { frames := 1, cells := 0, slots := 0, locals := 26 })
def mX8_append : MI := (yX8_append, cX8_append, 6, 1, { frames := 2, cells := 0, slots := 0, locals := 48 })
def mX8_buffered : MI := (yX8_buffered, cX8_buffered, 1, 1, { frames := 1, cells := 0, slots := 0, locals := 26 })
def mX8_parseError : MI := (yX8_parseError, cX8_parseError, 1, 1, { frames := 1, cells := 0, slots := 0, locals := 26 })
def mX8_errorPosition : MI := (yX8_errorPosition, cX8_errorPosition, 1, 1, { frames := 1, cells := 0, slots := 0, locals := 26 })
def mX8_byteAt : MI := (yX8_byteAt, cX8_byteAt, 2, 1, { frames := 1, cells := 0, slots := 0, locals := 26 })
def mX8_report : MI := (yX8_report, cX8_report, 2, 0, { frames := 1, cells := 0, slots := 0, locals := 26 })
def mX8_advance : MI := (yX8_advance, cX8_advance, 1, 0, { frames := 2, cells := 0, slots := 0, locals := 48 })
def mX8_reserved : MI := (yX8_reserved, cX8_reserved, 4, 1, { frames := 6, cells := 0, slots := 0, locals := 140 })
def mX8_keyword : MI := (yX8_keyword, cX8_keyword, 2, 0, { frames := 7, cells := 0, slots := 0, locals := 163 })
def mX8_peek : MI := (yX8_peek, cX8_peek, 3, 1, { frames := 2, cells := 0, slots := 0, locals := 48 })
def mX8_number : MI := (yX8_number, cX8_number, 4, 1, { frames := 3, cells := 0, slots := 0, locals := 70 })
def mX8_peekTrain : MI := (yX8_peekTrain, cX8_peekTrain, 2, 1, { frames := 3, cells := 0, slots := 0, locals := 70 })
def mX8_mealBy : MI := (yX8_mealBy, cX8_mealBy, 4, 1, { frames := 1, cells := 0, slots := 0, locals := 26 })
def mX8_peekMeal : MI := (yX8_peekMeal, cX8_peekMeal, 2, 1, { frames := 7, cells := 0, slots := 0, locals := 163 })
def mX8_readTrain : MI := (yX8_readTrain, cX8_readTrain, 4, 0, { frames := 8, cells := 0, slots := 0, locals := 184 })
def mX8_readCar : MI := (yX8_readCar, cX8_readCar, 6, 0, { frames := 4, cells := 0, slots := 0, locals := 93 })
def mX8_readMeal : MI := (yX8_readMeal, cX8_readMeal, 2, 0, { frames := 7, cells := 0, slots := 0, locals := 163 })
def mX8_readKitchen : MI := (yX8_readKitchen, cX8_readKitchen, 3, 0, { frames := 4, cells := 0, slots := 0, locals := 93 })
def mX8_readStock : MI := (yX8_readStock, cX8_readStock, 4, 0, { frames := 8, cells := 0, slots := 0, locals := 184 })
def mX8_readTrolley : MI := (yX8_readTrolley, cX8_readTrolley, 8, 0, { frames := 4, cells := 0, slots := 0, locals := 93 })
def mX8_jobsOf : MI := (yX8_jobsOf, cX8_jobsOf, 4, 1, { frames := 1, cells := 0, slots := 0, locals := 26 })
def mX8_layJob : MI := (yX8_layJob, cX8_layJob, 8, 0, { frames := 1, cells := 0, slots := 0, locals := 26 })
def mX8_readJob : MI := (yX8_readJob, cX8_readJob, 6, 0, { frames := 8, cells := 0, slots := 0, locals := 184 })
def mX8_readLine : MI := (yX8_readLine, cX8_readLine, 1, 0, { frames := 9, cells := 0, slots := 0, locals := 209 })
def mX8_readText : MI := (yX8_readText, cX8_readText, 2, 0, { frames := 10, cells := 0, slots := 0, locals := 229 })
def mX8_load : MI := (yX8_load, cX8_load, 2, 1, { frames := 11, cells := 0, slots := 0, locals := 250 })
def mX8_copy : MI := (yX8_copy, cX8_copy, 5, 0, { frames := 1, cells := 0, slots := 0, locals := 26 })
def mX8_remember : MI := (yX8_remember, cX8_remember, 2, 0, { frames := 2, cells := 0, slots := 0, locals := 50 })
def mX8_isTrainNow : MI := (yX8_isTrainNow, cX8_isTrainNow, 2, 3, { frames := 2, cells := 0, slots := 0, locals := 48 })
def mX8_isCar : MI := (yX8_isCar, cX8_isCar, 3, 3, { frames := 3, cells := 0, slots := 0, locals := 69 })
def mX8_isMeal : MI := (yX8_isMeal, cX8_isMeal, 2, 3, { frames := 2, cells := 0, slots := 0, locals := 48 })
def mX8_isKitchen : MI := (yX8_isKitchen, cX8_isKitchen, 2, 3, { frames := 2, cells := 0, slots := 0, locals := 48 })
def mX8_isTrolley : MI := (yX8_isTrolley, cX8_isTrolley, 2, 3, { frames := 2, cells := 0, slots := 0, locals := 48 })
def mX8_isJob : MI := (yX8_isJob, cX8_isJob, 2, 3, { frames := 2, cells := 0, slots := 0, locals := 48 })
def mX8_tell : MI := (yX8_tell, cX8_tell, 3, 1, { frames := 2, cells := 0, slots := 0, locals := 47 })
def mX8_carCount : MI := (yX8_carCount, cX8_carCount, 2, 1, { frames := 3, cells := 0, slots := 0, locals := 69 })
def mX8_mealCount : MI := (yX8_mealCount, cX8_mealCount, 1, 1, { frames := 3, cells := 0, slots := 0, locals := 69 })
def mX8_trolleyCount : MI := (yX8_trolleyCount, cX8_trolleyCount, 1, 1, { frames := 3, cells := 0, slots := 0, locals := 69 })
def mX8_jobCount : MI := (yX8_jobCount, cX8_jobCount, 1, 1, { frames := 3, cells := 0, slots := 0, locals := 69 })
def mX8_departure : MI := (yX8_departure, cX8_departure, 2, 1, { frames := 3, cells := 0, slots := 0, locals := 69 })
def mX8_stock : MI := (yX8_stock, cX8_stock, 4, 1, { frames := 3, cells := 0, slots := 0, locals := 69 })
def mX8_demandOf : MI := (yX8_demandOf, cX8_demandOf, 6, 1, { frames := 1, cells := 0, slots := 0, locals := 26 })
def mX8_demandOfTrain : MI := (yX8_demandOfTrain, cX8_demandOfTrain, 5, 1, { frames := 2, cells := 0, slots := 0, locals := 51 })
def mX8_demand : MI := (yX8_demand, cX8_demand, 4, 1, { frames := 4, cells := 0, slots := 0, locals := 91 })
def mX8_jobTrolley : MI := (yX8_jobTrolley, cX8_jobTrolley, 2, 1, { frames := 3, cells := 0, slots := 0, locals := 69 })
def mX8_jobQuantity : MI := (yX8_jobQuantity, cX8_jobQuantity, 2, 1, { frames := 3, cells := 0, slots := 0, locals := 69 })
def mX8_job : MI := (yX8_job, cX8_job, 3, 1, { frames := 1, cells := 0, slots := 0, locals := 26 })
def mX8_trolley : MI := (yX8_trolley, cX8_trolley, 3, 1, { frames := 1, cells := 0, slots := 0, locals := 26 })
def mX8_ceil : MI := (yX8_ceil, cX8_ceil, 2, 1, { frames := 1, cells := 0, slots := 0, locals := 26 })
def mX8_walkOf : MI := (yX8_walkOf, cX8_walkOf, 3, 1, { frames := 2, cells := 0, slots := 0, locals := 48 })
def mX8_nextJob : MI := (yX8_nextJob, cX8_nextJob, 5, 1, { frames := 2, cells := 0, slots := 0, locals := 48 })
def mX8_bringsBack : MI := (yX8_bringsBack, cX8_bringsBack, 3, 0, { frames := 1, cells := 0, slots := 0, locals := 26 })
def mX8_starts : MI := (yX8_starts, cX8_starts, 6, 0, { frames := 3, cells := 0, slots := 0, locals := 72 })
def mX8_reaches : MI := (yX8_reaches, cX8_reaches, 11, 0, { frames := 3, cells := 0, slots := 0, locals := 72 })
def mX8_go : MI := (yX8_go, cX8_go, 4, 0, { frames := 4, cells := 0, slots := 0, locals := 102 })
def mX8_first : MI := (yX8_first, cX8_first, 3, 1, { frames := 1, cells := 0, slots := 0, locals := 26 })
def mX8_goAll : MI := (yX8_goAll, cX8_goAll, 1, 0, { frames := 5, cells := 0, slots := 0, locals := 125 })
def mX8_total : MI := (yX8_total, cX8_total, 3, 1, { frames := 1, cells := 0, slots := 0, locals := 26 })
def mX8_goesFor : MI := (yX8_goesFor, cX8_goesFor, 2, 3, { frames := 6, cells := 0, slots := 0, locals := 145 })
def mX8_startTime : MI := (yX8_startTime, cX8_startTime, 2, 1, { frames := 7, cells := 0, slots := 0, locals := 166 })
def mX8_loaded : MI := (yX8_loaded, cX8_loaded, 2, 1, { frames := 7, cells := 0, slots := 0, locals := 166 })
def mX8_unloaded : MI := (yX8_unloaded, cX8_unloaded, 2, 1, { frames := 7, cells := 0, slots := 0, locals := 166 })
def mX8_unloadTime : MI := (yX8_unloadTime, cX8_unloadTime, 2, 1, { frames := 7, cells := 0, slots := 0, locals := 166 })
def mX8_finishTime : MI := (yX8_finishTime, cX8_finishTime, 2, 1, { frames := 7, cells := 0, slots := 0, locals := 166 })
def mX8_deliveredTo : MI := (yX8_deliveredTo, cX8_deliveredTo, 6, 1, { frames := 2, cells := 0, slots := 0, locals := 48 })
def mX8_deliveredToTrain : MI := (yX8_deliveredToTrain, cX8_deliveredToTrain, 5, 1, { frames := 3, cells := 0, slots := 0, locals := 73 })
def mX8_delivered : MI := (yX8_delivered, cX8_delivered, 4, 1, { frames := 7, cells := 0, slots := 0, locals := 166 })
def mX8_deliveredTotal : MI := (yX8_deliveredTotal, cX8_deliveredTotal, 1, 1, { frames := 7, cells := 0, slots := 0, locals := 166 })
def mX8_leftBehind : MI := (yX8_leftBehind, cX8_leftBehind, 4, 1, { frames := 7, cells := 0, slots := 0, locals := 166 })
def mX8_finalStock : MI := (yX8_finalStock, cX8_finalStock, 3, 1, { frames := 7, cells := 0, slots := 0, locals := 166 })
def mX8_shortage : MI := (yX8_shortage, cX8_shortage, 4, 1, { frames := 7, cells := 0, slots := 0, locals := 166 })
def mX8_longestWait : MI := (yX8_longestWait, cX8_longestWait, 4, 1, { frames := 7, cells := 0, slots := 0, locals := 166 })
def mX8_doorBusy : MI := (yX8_doorBusy, cX8_doorBusy, 5, 1, { frames := 7, cells := 0, slots := 0, locals := 166 })
def mX8_isDoing : MI := (yX8_isDoing, cX8_isDoing, 5, 3, { frames := 1, cells := 0, slots := 0, locals := 26 })
def mX8_findDoing : MI := (yX8_findDoing, cX8_findDoing, 4, 0, { frames := 2, cells := 0, slots := 0, locals := 50 })
def mX8_stateAt : MI := (yX8_stateAt, cX8_stateAt, 3, 1, { frames := 6, cells := 0, slots := 0, locals := 145 })
def mX8_mealsOn : MI := (yX8_mealsOn, cX8_mealsOn, 4, 1, { frames := 6, cells := 0, slots := 0, locals := 145 })
def mX8_layBoth : MI := (yX8_layBoth, cX8_layBoth, 8, 0, { frames := 4, cells := 0, slots := 0, locals := 97 })
def mX8_jointShare : MI := (yX8_jointShare, cX8_jointShare, 4, 1, { frames := 7, cells := 0, slots := 0, locals := 166 })
def mX8_layShares : MI := (yX8_layShares, cX8_layShares, 8, 0, { frames := 4, cells := 0, slots := 0, locals := 97 })
def mX8_share : MI := (yX8_share, cX8_share, 4, 1, { frames := 7, cells := 0, slots := 0, locals := 166 })
def mX8_carried : MI := (yX8_carried, cX8_carried, 5, 1, { frames := 7, cells := 0, slots := 0, locals := 166 })
def mX8_layCoverage : MI := (yX8_layCoverage, cX8_layCoverage, 7, 0, { frames := 4, cells := 0, slots := 0, locals := 97 })
def mX8_coverage : MI := (yX8_coverage, cX8_coverage, 4, 2, { frames := 7, cells := 0, slots := 0, locals := 166 })
def mX8_leastCoverage : MI := (yX8_leastCoverage, cX8_leastCoverage, 6, 2, { frames := 7, cells := 0, slots := 0, locals := 166 })
def mX8_betterServed : MI := (yX8_betterServed, cX8_betterServed, 4, 1, { frames := 7, cells := 0, slots := 0, locals := 166 })
def mX8_carriedBy : MI := (yX8_carriedBy, cX8_carriedBy, 2, 1, { frames := 2, cells := 0, slots := 0, locals := 48 })
def mX8_endOf : MI := (yX8_endOf, cX8_endOf, 7, 1, { frames := 3, cells := 0, slots := 0, locals := 70 })
def mX8_layOwn : MI := (yX8_layOwn, cX8_layOwn, 3, 0, { frames := 2, cells := 0, slots := 0, locals := 48 })
def mX8_layEnds : MI := (yX8_layEnds, cX8_layEnds, 4, 0, { frames := 4, cells := 0, slots := 0, locals := 96 })
def mX8_bestOf : MI := (yX8_bestOf, cX8_bestOf, 6, 1, { frames := 5, cells := 0, slots := 0, locals := 119 })
def mX8_layOrder : MI := (yX8_layOrder, cX8_layOrder, 7, 0, { frames := 6, cells := 0, slots := 0, locals := 144 })
def mX8_bestSet : MI := (yX8_bestSet, cX8_bestSet, 2, 1, { frames := 6, cells := 0, slots := 0, locals := 144 })
def mX8_bestMeals : MI := (yX8_bestMeals, cX8_bestMeals, 3, 1, { frames := 6, cells := 0, slots := 0, locals := 144 })
def mX8_bestOrder : MI := (yX8_bestOrder, cX8_bestOrder, 3, 1, { frames := 7, cells := 0, slots := 0, locals := 170 })
def mX8_leastSpeed : MI := (yX8_leastSpeed, cX8_leastSpeed, 6, 1, { frames := 5, cells := 0, slots := 0, locals := 119 })
def mX8_leavesNone : MI := (yX8_leavesNone, cX8_leavesNone, 3, 3, { frames := 2, cells := 0, slots := 0, locals := 48 })
def mX8_neededDelay : MI := (yX8_neededDelay, cX8_neededDelay, 5, 1, { frames := 6, cells := 0, slots := 0, locals := 145 })
def mX8_deliveredWithout : MI := (yX8_deliveredWithout, cX8_deliveredWithout, 2, 1, { frames := 5, cells := 0, slots := 0, locals := 125 })
def mX8_worstJob : MI := (yX8_worstJob, cX8_worstJob, 4, 1, { frames := 7, cells := 0, slots := 0, locals := 166 })
def mX8_bestTrolley : MI := (yX8_bestTrolley, cX8_bestTrolley, 7, 1, { frames := 6, cells := 0, slots := 0, locals := 145 })
def mX8_bestSwap : MI := (yX8_bestSwap, cX8_bestSwap, 5, 1, { frames := 7, cells := 0, slots := 0, locals := 166 })
def mX8_addJob : MI := (yX8_addJob, cX8_addJob, 6, 1, { frames := 4, cells := 0, slots := 0, locals := 91 })
def mX8_dropJob : MI := (yX8_dropJob, cX8_dropJob, 3, 0, { frames := 1, cells := 0, slots := 0, locals := 26 })
def mX8_removeJob : MI := (yX8_removeJob, cX8_removeJob, 2, 1, { frames := 3, cells := 0, slots := 0, locals := 71 })
def mX8_swap : MI := (yX8_swap, cX8_swap, 5, 0, { frames := 1, cells := 0, slots := 0, locals := 26 })
def mX8_moveJob : MI := (yX8_moveJob, cX8_moveJob, 4, 1, { frames := 3, cells := 0, slots := 0, locals := 71 })
def mX8_set : MI := (yX8_set, cX8_set, 4, 1, { frames := 3, cells := 0, slots := 0, locals := 71 })
def mX8_setDeparture : MI := (yX8_setDeparture, cX8_setDeparture, 3, 1, { frames := 4, cells := 0, slots := 0, locals := 94 })
def mX8_setStock : MI := (yX8_setStock, cX8_setStock, 4, 1, { frames := 4, cells := 0, slots := 0, locals := 94 })
def mX8_setQuantity : MI := (yX8_setQuantity, cX8_setQuantity, 3, 1, { frames := 4, cells := 0, slots := 0, locals := 94 })
def mX8_applyBest : MI := (yX8_applyBest, cX8_applyBest, 5, 1, { frames := 7, cells := 0, slots := 0, locals := 170 })
def mX8_undo : MI := (yX8_undo, cX8_undo, 1, 1, { frames := 2, cells := 0, slots := 0, locals := 50 })
def mX8_save : MI := (yX8_save, cX8_save, 1, 1, { frames := 2, cells := 0, slots := 0, locals := 50 })
def mX8_restore : MI := (yX8_restore, cX8_restore, 1, 1, { frames := 2, cells := 0, slots := 0, locals := 50 })
def mX8_served : MI := (yX8_served, cX8_served, 4, 1, { frames := 6, cells := 0, slots := 0, locals := 145 })
def mJ7_fill_53178 : MI := (yJ7_fill_53178, cJ7_fill_53178, 4, 0, { frames := 1, cells := 0, slots := 0, locals := 26 })
def mJ6_compare_7cf53 : MI := (yJ6_compare_7cf53, cJ6_compare_7cf53, 2, 1, { frames := 1, cells := 0, slots := 0, locals := 26 })
theorem pl_X0_init : plainName mX0_init.1.cls = true := by decide +kernel
theorem pl_X0_clear : plainName mX0_clear.1.cls = true := by decide +kernel
theorem pl_X0_wanted : plainName mX0_wanted.1.cls = true := by decide +kernel
theorem pl_X0_walk : plainName mX0_walk.1.cls = true := by decide +kernel
theorem pl_X0_mostMeals : plainName mX0_mostMeals.1.cls = true := by decide +kernel
theorem pl_X0_mealNamed : plainName mX0_mealNamed.1.cls = true := by decide +kernel
theorem pl_X1_init : plainName mX1_init.1.cls = true := by decide +kernel
theorem pl_X1_push : plainName mX1_push.1.cls = true := by decide +kernel
theorem pl_X1_popInto : plainName mX1_popInto.1.cls = true := by decide +kernel
theorem pl_X1_dropFirst : plainName mX1_dropFirst.1.cls = true := by decide +kernel
theorem pl_X2_init : plainName mX2_init.1.cls = true := by decide +kernel
theorem pl_X2_putFour : plainName mX2_putFour.1.cls = true := by decide +kernel
theorem pl_X2_parse : plainName mX2_parse.1.cls = true := by decide +kernel
theorem pl_X2_refuse : plainName mX2_refuse.1.cls = true := by decide +kernel
theorem pl_X2_isComplete : plainName mX2_isComplete.1.cls = true := by decide +kernel
theorem pl_X2_readLine : plainName mX2_readLine.1.cls = true := by decide +kernel
theorem pl_X2_readTrain : plainName mX2_readTrain.1.cls = true := by decide +kernel
theorem pl_X2_readCar : plainName mX2_readCar.1.cls = true := by decide +kernel
theorem pl_X2_readMeal : plainName mX2_readMeal.1.cls = true := by decide +kernel
theorem pl_X2_readKitchen : plainName mX2_readKitchen.1.cls = true := by decide +kernel
theorem pl_X2_readStock : plainName mX2_readStock.1.cls = true := by decide +kernel
theorem pl_X2_readTrolley : plainName mX2_readTrolley.1.cls = true := by decide +kernel
theorem pl_X2_readJob : plainName mX2_readJob.1.cls = true := by decide +kernel
theorem pl_X2_takeNumber : plainName mX2_takeNumber.1.cls = true := by decide +kernel
theorem pl_X2_refuseUnknownTrain : plainName mX2_refuseUnknownTrain.1.cls = true := by decide +kernel
theorem pl_X2_takeKeyword : plainName mX2_takeKeyword.1.cls = true := by decide +kernel
theorem pl_X2_takeName : plainName mX2_takeName.1.cls = true := by decide +kernel
theorem pl_X2_namedMeal : plainName mX2_namedMeal.1.cls = true := by decide +kernel
theorem pl_X2_isKeyword : plainName mX2_isKeyword.1.cls = true := by decide +kernel
theorem pl_X2_advance : plainName mX2_advance.1.cls = true := by decide +kernel
theorem pl_X2_scanLetters : plainName mX2_scanLetters.1.cls = true := by decide +kernel
theorem pl_X2_scanDigits : plainName mX2_scanDigits.1.cls = true := by decide +kernel
theorem pl_X3_init : plainName mX3_init.1.cls = true := by decide +kernel
theorem pl_X3_play : plainName mX3_play.1.cls = true := by decide +kernel
theorem pl_X3_awaitStart : plainName mX3_awaitStart.1.cls = true := by decide +kernel
theorem pl_X3_nextTrolley : plainName mX3_nextTrolley.1.cls = true := by decide +kernel
theorem pl_X3_startJob : plainName mX3_startJob.1.cls = true := by decide +kernel
theorem pl_X3_setNoUnloading : plainName mX3_setNoUnloading.1.cls = true := by decide +kernel
theorem pl_X3_reachDoor : plainName mX3_reachDoor.1.cls = true := by decide +kernel
theorem pl_X3_unload : plainName mX3_unload.1.cls = true := by decide +kernel
theorem pl_X3_bringBack : plainName mX3_bringBack.1.cls = true := by decide +kernel
theorem pl_X3_leavesBehind : plainName mX3_leavesBehind.1.cls = true := by decide +kernel
theorem pl_X3_jobAt : plainName mX3_jobAt.1.cls = true := by decide +kernel
theorem pl_X3_activity : plainName mX3_activity.1.cls = true := by decide +kernel
theorem pl_X3_mealsAboard : plainName mX3_mealsAboard.1.cls = true := by decide +kernel
theorem pl_X3_jobThatUnloads : plainName mX3_jobThatUnloads.1.cls = true := by decide +kernel
theorem pl_X4_init : plainName mX4_init.1.cls = true := by decide +kernel
theorem pl_X4_clear : plainName mX4_clear.1.cls = true := by decide +kernel
theorem pl_X4_addClaim : plainName mX4_addClaim.1.cls = true := by decide +kernel
theorem pl_X4_shareOut : plainName mX4_shareOut.1.cls = true := by decide +kernel
theorem pl_X4_largestRest : plainName mX4_largestRest.1.cls = true := by decide +kernel
theorem pl_X5_init : plainName mX5_init.1.cls = true := by decide +kernel
theorem pl_X5_study : plainName mX5_study.1.cls = true := by decide +kernel
theorem pl_X5_studyJob : plainName mX5_studyJob.1.cls = true := by decide +kernel
theorem pl_X5_wholeSet : plainName mX5_wholeSet.1.cls = true := by decide +kernel
theorem pl_X5_canDo : plainName mX5_canDo.1.cls = true := by decide +kernel
theorem pl_X5_mealsOf : plainName mX5_mealsOf.1.cls = true := by decide +kernel
theorem pl_X5_latestBegin : plainName mX5_latestBegin.1.cls = true := by decide +kernel
theorem pl_X5_latestBeginWith : plainName mX5_latestBeginWith.1.cls = true := by decide +kernel
theorem pl_X5_chooseBest : plainName mX5_chooseBest.1.cls = true := by decide +kernel
theorem pl_X5_layOrder : plainName mX5_layOrder.1.cls = true := by decide +kernel
theorem pl_X5_firstThatFits : plainName mX5_firstThatFits.1.cls = true := by decide +kernel
theorem pl_X6_init : plainName mX6_init.1.cls = true := by decide +kernel
theorem pl_X6_clear : plainName mX6_clear.1.cls = true := by decide +kernel
theorem pl_X6_copyFrom : plainName mX6_copyFrom.1.cls = true := by decide +kernel
theorem pl_X6_addLast : plainName mX6_addLast.1.cls = true := by decide +kernel
theorem pl_X6_takeJob : plainName mX6_takeJob.1.cls = true := by decide +kernel
theorem pl_X6_removeAt : plainName mX6_removeAt.1.cls = true := by decide +kernel
theorem pl_X6_exchange : plainName mX6_exchange.1.cls = true := by decide +kernel
theorem pl_X6_exchangeIn : plainName mX6_exchangeIn.1.cls = true := by decide +kernel
theorem pl_X6_jobsOf : plainName mX6_jobsOf.1.cls = true := by decide +kernel
theorem pl_X6_jobFrom : plainName mX6_jobFrom.1.cls = true := by decide +kernel
theorem pl_X7_init : plainName mX7_init.1.cls = true := by decide +kernel
theorem pl_X7_append : plainName mX7_append.1.cls = true := by decide +kernel
theorem pl_X7_load : plainName mX7_load.1.cls = true := by decide +kernel
theorem pl_X7_parseError : plainName mX7_parseError.1.cls = true := by decide +kernel
theorem pl_X7_errorPosition : plainName mX7_errorPosition.1.cls = true := by decide +kernel
theorem pl_X7_buffered : plainName mX7_buffered.1.cls = true := by decide +kernel
theorem pl_X7_carCount : plainName mX7_carCount.1.cls = true := by decide +kernel
theorem pl_X7_mealCount : plainName mX7_mealCount.1.cls = true := by decide +kernel
theorem pl_X7_trolleyCount : plainName mX7_trolleyCount.1.cls = true := by decide +kernel
theorem pl_X7_jobCount : plainName mX7_jobCount.1.cls = true := by decide +kernel
theorem pl_X7_departure : plainName mX7_departure.1.cls = true := by decide +kernel
theorem pl_X7_stock : plainName mX7_stock.1.cls = true := by decide +kernel
theorem pl_X7_demand : plainName mX7_demand.1.cls = true := by decide +kernel
theorem pl_X7_jobTrolley : plainName mX7_jobTrolley.1.cls = true := by decide +kernel
theorem pl_X7_jobQuantity : plainName mX7_jobQuantity.1.cls = true := by decide +kernel
theorem pl_X7_startTime : plainName mX7_startTime.1.cls = true := by decide +kernel
theorem pl_X7_loaded : plainName mX7_loaded.1.cls = true := by decide +kernel
theorem pl_X7_unloaded : plainName mX7_unloaded.1.cls = true := by decide +kernel
theorem pl_X7_unloadTime : plainName mX7_unloadTime.1.cls = true := by decide +kernel
theorem pl_X7_finishTime : plainName mX7_finishTime.1.cls = true := by decide +kernel
theorem pl_X7_delivered : plainName mX7_delivered.1.cls = true := by decide +kernel
theorem pl_X7_deliveredTotal : plainName mX7_deliveredTotal.1.cls = true := by decide +kernel
theorem pl_X7_leftBehind : plainName mX7_leftBehind.1.cls = true := by decide +kernel
theorem pl_X7_finalStock : plainName mX7_finalStock.1.cls = true := by decide +kernel
theorem pl_X7_shortage : plainName mX7_shortage.1.cls = true := by decide +kernel
theorem pl_X7_longestWait : plainName mX7_longestWait.1.cls = true := by decide +kernel
theorem pl_X7_doorBusy : plainName mX7_doorBusy.1.cls = true := by decide +kernel
theorem pl_X7_stateAt : plainName mX7_stateAt.1.cls = true := by decide +kernel
theorem pl_X7_mealsOn : plainName mX7_mealsOn.1.cls = true := by decide +kernel
theorem pl_X7_share : plainName mX7_share.1.cls = true := by decide +kernel
theorem pl_X7_carried : plainName mX7_carried.1.cls = true := by decide +kernel
theorem pl_X7_jointShare : plainName mX7_jointShare.1.cls = true := by decide +kernel
theorem pl_X7_coverage : plainName mX7_coverage.1.cls = true := by decide +kernel
theorem pl_X7_leastCoverage : plainName mX7_leastCoverage.1.cls = true := by decide +kernel
theorem pl_X7_betterServed : plainName mX7_betterServed.1.cls = true := by decide +kernel
theorem pl_X7_bestSet : plainName mX7_bestSet.1.cls = true := by decide +kernel
theorem pl_X7_bestMeals : plainName mX7_bestMeals.1.cls = true := by decide +kernel
theorem pl_X7_bestOrder : plainName mX7_bestOrder.1.cls = true := by decide +kernel
theorem pl_X7_leastSpeed : plainName mX7_leastSpeed.1.cls = true := by decide +kernel
theorem pl_X7_neededDelay : plainName mX7_neededDelay.1.cls = true := by decide +kernel
theorem pl_X7_deliveredWithout : plainName mX7_deliveredWithout.1.cls = true := by decide +kernel
theorem pl_X7_worstJob : plainName mX7_worstJob.1.cls = true := by decide +kernel
theorem pl_X7_bestTrolley : plainName mX7_bestTrolley.1.cls = true := by decide +kernel
theorem pl_X7_bestSwap : plainName mX7_bestSwap.1.cls = true := by decide +kernel
theorem pl_X7_addJob : plainName mX7_addJob.1.cls = true := by decide +kernel
theorem pl_X7_removeJob : plainName mX7_removeJob.1.cls = true := by decide +kernel
theorem pl_X7_moveJob : plainName mX7_moveJob.1.cls = true := by decide +kernel
theorem pl_X7_setDeparture : plainName mX7_setDeparture.1.cls = true := by decide +kernel
theorem pl_X7_setStock : plainName mX7_setStock.1.cls = true := by decide +kernel
theorem pl_X7_setQuantity : plainName mX7_setQuantity.1.cls = true := by decide +kernel
theorem pl_X7_applyBest : plainName mX7_applyBest.1.cls = true := by decide +kernel
theorem pl_X7_undo : plainName mX7_undo.1.cls = true := by decide +kernel
theorem pl_X7_save : plainName mX7_save.1.cls = true := by decide +kernel
theorem pl_X7_restore : plainName mX7_restore.1.cls = true := by decide +kernel
theorem pl_X7_error : plainName mX7_error.1.cls = true := by decide +kernel
theorem pl_X7_answer : plainName mX7_answer.1.cls = true := by decide +kernel
theorem pl_X7_answerLong : plainName mX7_answerLong.1.cls = true := by decide +kernel
theorem pl_X7_fail : plainName mX7_fail.1.cls = true := by decide +kernel
theorem pl_X7_failLong : plainName mX7_failLong.1.cls = true := by decide +kernel
theorem pl_X7_changed : plainName mX7_changed.1.cls = true := by decide +kernel
theorem pl_X7_rehearse : plainName mX7_rehearse.1.cls = true := by decide +kernel
theorem pl_X7_takeParsedPlan : plainName mX7_takeParsedPlan.1.cls = true := by decide +kernel
theorem pl_X7_isTrain : plainName mX7_isTrain.1.cls = true := by decide +kernel
theorem pl_X7_isCar : plainName mX7_isCar.1.cls = true := by decide +kernel
theorem pl_X7_isMeal : plainName mX7_isMeal.1.cls = true := by decide +kernel
theorem pl_X7_isCarMeal : plainName mX7_isCarMeal.1.cls = true := by decide +kernel
theorem pl_X7_isStock : plainName mX7_isStock.1.cls = true := by decide +kernel
theorem pl_X7_isTrolley : plainName mX7_isTrolley.1.cls = true := by decide +kernel
theorem pl_X7_isJob : plainName mX7_isJob.1.cls = true := by decide +kernel
theorem pl_X7_isJobQuantity : plainName mX7_isJobQuantity.1.cls = true := by decide +kernel
theorem pl_X7_doorIndex : plainName mX7_doorIndex.1.cls = true := by decide +kernel
theorem pl_X7_stockIndex : plainName mX7_stockIndex.1.cls = true := by decide +kernel
theorem pl_X7_handedAt : plainName mX7_handedAt.1.cls = true := by decide +kernel
theorem pl_X7_handedToTrain : plainName mX7_handedToTrain.1.cls = true := by decide +kernel
theorem pl_X7_wantedByTrain : plainName mX7_wantedByTrain.1.cls = true := by decide +kernel
theorem pl_X7_addClaims : plainName mX7_addClaims.1.cls = true := by decide +kernel
theorem pl_X7_shareInTrain : plainName mX7_shareInTrain.1.cls = true := by decide +kernel
theorem pl_X7_coverageAbove : plainName mX7_coverageAbove.1.cls = true := by decide +kernel
theorem pl_X7_coverageBelow : plainName mX7_coverageBelow.1.cls = true := by decide +kernel
theorem pl_X7_lowestTerm : plainName mX7_lowestTerm.1.cls = true := by decide +kernel
theorem pl_X7_compareCoverage : plainName mX7_compareCoverage.1.cls = true := by decide +kernel
theorem pl_X7_commonDivisor : plainName mX7_commonDivisor.1.cls = true := by decide +kernel
theorem pl_X7_wholeParts : plainName mX7_wholeParts.1.cls = true := by decide +kernel
theorem pl_X7_partsRoundedUp : plainName mX7_partsRoundedUp.1.cls = true := by decide +kernel
theorem pl_X8_init : plainName mX8_init.1.cls = true := by decide +kernel
theorem pl_X8_thrown : plainName mX8_thrown.1.cls = true := by decide +kernel
theorem pl_X8_in : plainName mX8_in.1.cls = true := by decide +kernel
theorem pl_X8_failed : plainName mX8_failed.1.cls = true := by decide +kernel
theorem pl_X8_failedLong : plainName mX8_failedLong.1.cls = true := by decide +kernel
theorem pl_X8_done : plainName mX8_done.1.cls = true := by decide +kernel
theorem pl_X8_error : plainName mX8_error.1.cls = true := by decide +kernel
theorem pl_X8_four : plainName mX8_four.1.cls = true := by decide +kernel
theorem pl_X8_append : plainName mX8_append.1.cls = true := by decide +kernel
theorem pl_X8_buffered : plainName mX8_buffered.1.cls = true := by decide +kernel
theorem pl_X8_parseError : plainName mX8_parseError.1.cls = true := by decide +kernel
theorem pl_X8_errorPosition : plainName mX8_errorPosition.1.cls = true := by decide +kernel
theorem pl_X8_byteAt : plainName mX8_byteAt.1.cls = true := by decide +kernel
theorem pl_X8_report : plainName mX8_report.1.cls = true := by decide +kernel
theorem pl_X8_advance : plainName mX8_advance.1.cls = true := by decide +kernel
theorem pl_X8_reserved : plainName mX8_reserved.1.cls = true := by decide +kernel
theorem pl_X8_keyword : plainName mX8_keyword.1.cls = true := by decide +kernel
theorem pl_X8_peek : plainName mX8_peek.1.cls = true := by decide +kernel
theorem pl_X8_number : plainName mX8_number.1.cls = true := by decide +kernel
theorem pl_X8_peekTrain : plainName mX8_peekTrain.1.cls = true := by decide +kernel
theorem pl_X8_mealBy : plainName mX8_mealBy.1.cls = true := by decide +kernel
theorem pl_X8_peekMeal : plainName mX8_peekMeal.1.cls = true := by decide +kernel
theorem pl_X8_readTrain : plainName mX8_readTrain.1.cls = true := by decide +kernel
theorem pl_X8_readCar : plainName mX8_readCar.1.cls = true := by decide +kernel
theorem pl_X8_readMeal : plainName mX8_readMeal.1.cls = true := by decide +kernel
theorem pl_X8_readKitchen : plainName mX8_readKitchen.1.cls = true := by decide +kernel
theorem pl_X8_readStock : plainName mX8_readStock.1.cls = true := by decide +kernel
theorem pl_X8_readTrolley : plainName mX8_readTrolley.1.cls = true := by decide +kernel
theorem pl_X8_jobsOf : plainName mX8_jobsOf.1.cls = true := by decide +kernel
theorem pl_X8_layJob : plainName mX8_layJob.1.cls = true := by decide +kernel
theorem pl_X8_readJob : plainName mX8_readJob.1.cls = true := by decide +kernel
theorem pl_X8_readLine : plainName mX8_readLine.1.cls = true := by decide +kernel
theorem pl_X8_readText : plainName mX8_readText.1.cls = true := by decide +kernel
theorem pl_X8_load : plainName mX8_load.1.cls = true := by decide +kernel
theorem pl_X8_copy : plainName mX8_copy.1.cls = true := by decide +kernel
theorem pl_X8_remember : plainName mX8_remember.1.cls = true := by decide +kernel
theorem pl_X8_isTrainNow : plainName mX8_isTrainNow.1.cls = true := by decide +kernel
theorem pl_X8_isCar : plainName mX8_isCar.1.cls = true := by decide +kernel
theorem pl_X8_isMeal : plainName mX8_isMeal.1.cls = true := by decide +kernel
theorem pl_X8_isKitchen : plainName mX8_isKitchen.1.cls = true := by decide +kernel
theorem pl_X8_isTrolley : plainName mX8_isTrolley.1.cls = true := by decide +kernel
theorem pl_X8_isJob : plainName mX8_isJob.1.cls = true := by decide +kernel
theorem pl_X8_tell : plainName mX8_tell.1.cls = true := by decide +kernel
theorem pl_X8_carCount : plainName mX8_carCount.1.cls = true := by decide +kernel
theorem pl_X8_mealCount : plainName mX8_mealCount.1.cls = true := by decide +kernel
theorem pl_X8_trolleyCount : plainName mX8_trolleyCount.1.cls = true := by decide +kernel
theorem pl_X8_jobCount : plainName mX8_jobCount.1.cls = true := by decide +kernel
theorem pl_X8_departure : plainName mX8_departure.1.cls = true := by decide +kernel
theorem pl_X8_stock : plainName mX8_stock.1.cls = true := by decide +kernel
theorem pl_X8_demandOf : plainName mX8_demandOf.1.cls = true := by decide +kernel
theorem pl_X8_demandOfTrain : plainName mX8_demandOfTrain.1.cls = true := by decide +kernel
theorem pl_X8_demand : plainName mX8_demand.1.cls = true := by decide +kernel
theorem pl_X8_jobTrolley : plainName mX8_jobTrolley.1.cls = true := by decide +kernel
theorem pl_X8_jobQuantity : plainName mX8_jobQuantity.1.cls = true := by decide +kernel
theorem pl_X8_job : plainName mX8_job.1.cls = true := by decide +kernel
theorem pl_X8_trolley : plainName mX8_trolley.1.cls = true := by decide +kernel
theorem pl_X8_ceil : plainName mX8_ceil.1.cls = true := by decide +kernel
theorem pl_X8_walkOf : plainName mX8_walkOf.1.cls = true := by decide +kernel
theorem pl_X8_nextJob : plainName mX8_nextJob.1.cls = true := by decide +kernel
theorem pl_X8_bringsBack : plainName mX8_bringsBack.1.cls = true := by decide +kernel
theorem pl_X8_starts : plainName mX8_starts.1.cls = true := by decide +kernel
theorem pl_X8_reaches : plainName mX8_reaches.1.cls = true := by decide +kernel
theorem pl_X8_go : plainName mX8_go.1.cls = true := by decide +kernel
theorem pl_X8_first : plainName mX8_first.1.cls = true := by decide +kernel
theorem pl_X8_goAll : plainName mX8_goAll.1.cls = true := by decide +kernel
theorem pl_X8_total : plainName mX8_total.1.cls = true := by decide +kernel
theorem pl_X8_goesFor : plainName mX8_goesFor.1.cls = true := by decide +kernel
theorem pl_X8_startTime : plainName mX8_startTime.1.cls = true := by decide +kernel
theorem pl_X8_loaded : plainName mX8_loaded.1.cls = true := by decide +kernel
theorem pl_X8_unloaded : plainName mX8_unloaded.1.cls = true := by decide +kernel
theorem pl_X8_unloadTime : plainName mX8_unloadTime.1.cls = true := by decide +kernel
theorem pl_X8_finishTime : plainName mX8_finishTime.1.cls = true := by decide +kernel
theorem pl_X8_deliveredTo : plainName mX8_deliveredTo.1.cls = true := by decide +kernel
theorem pl_X8_deliveredToTrain : plainName mX8_deliveredToTrain.1.cls = true := by decide +kernel
theorem pl_X8_delivered : plainName mX8_delivered.1.cls = true := by decide +kernel
theorem pl_X8_deliveredTotal : plainName mX8_deliveredTotal.1.cls = true := by decide +kernel
theorem pl_X8_leftBehind : plainName mX8_leftBehind.1.cls = true := by decide +kernel
theorem pl_X8_finalStock : plainName mX8_finalStock.1.cls = true := by decide +kernel
theorem pl_X8_shortage : plainName mX8_shortage.1.cls = true := by decide +kernel
theorem pl_X8_longestWait : plainName mX8_longestWait.1.cls = true := by decide +kernel
theorem pl_X8_doorBusy : plainName mX8_doorBusy.1.cls = true := by decide +kernel
theorem pl_X8_isDoing : plainName mX8_isDoing.1.cls = true := by decide +kernel
theorem pl_X8_findDoing : plainName mX8_findDoing.1.cls = true := by decide +kernel
theorem pl_X8_stateAt : plainName mX8_stateAt.1.cls = true := by decide +kernel
theorem pl_X8_mealsOn : plainName mX8_mealsOn.1.cls = true := by decide +kernel
theorem pl_X8_layBoth : plainName mX8_layBoth.1.cls = true := by decide +kernel
theorem pl_X8_jointShare : plainName mX8_jointShare.1.cls = true := by decide +kernel
theorem pl_X8_layShares : plainName mX8_layShares.1.cls = true := by decide +kernel
theorem pl_X8_share : plainName mX8_share.1.cls = true := by decide +kernel
theorem pl_X8_carried : plainName mX8_carried.1.cls = true := by decide +kernel
theorem pl_X8_layCoverage : plainName mX8_layCoverage.1.cls = true := by decide +kernel
theorem pl_X8_coverage : plainName mX8_coverage.1.cls = true := by decide +kernel
theorem pl_X8_leastCoverage : plainName mX8_leastCoverage.1.cls = true := by decide +kernel
theorem pl_X8_betterServed : plainName mX8_betterServed.1.cls = true := by decide +kernel
theorem pl_X8_carriedBy : plainName mX8_carriedBy.1.cls = true := by decide +kernel
theorem pl_X8_endOf : plainName mX8_endOf.1.cls = true := by decide +kernel
theorem pl_X8_layOwn : plainName mX8_layOwn.1.cls = true := by decide +kernel
theorem pl_X8_layEnds : plainName mX8_layEnds.1.cls = true := by decide +kernel
theorem pl_X8_bestOf : plainName mX8_bestOf.1.cls = true := by decide +kernel
theorem pl_X8_layOrder : plainName mX8_layOrder.1.cls = true := by decide +kernel
theorem pl_X8_bestSet : plainName mX8_bestSet.1.cls = true := by decide +kernel
theorem pl_X8_bestMeals : plainName mX8_bestMeals.1.cls = true := by decide +kernel
theorem pl_X8_bestOrder : plainName mX8_bestOrder.1.cls = true := by decide +kernel
theorem pl_X8_leastSpeed : plainName mX8_leastSpeed.1.cls = true := by decide +kernel
theorem pl_X8_leavesNone : plainName mX8_leavesNone.1.cls = true := by decide +kernel
theorem pl_X8_neededDelay : plainName mX8_neededDelay.1.cls = true := by decide +kernel
theorem pl_X8_deliveredWithout : plainName mX8_deliveredWithout.1.cls = true := by decide +kernel
theorem pl_X8_worstJob : plainName mX8_worstJob.1.cls = true := by decide +kernel
theorem pl_X8_bestTrolley : plainName mX8_bestTrolley.1.cls = true := by decide +kernel
theorem pl_X8_bestSwap : plainName mX8_bestSwap.1.cls = true := by decide +kernel
theorem pl_X8_addJob : plainName mX8_addJob.1.cls = true := by decide +kernel
theorem pl_X8_dropJob : plainName mX8_dropJob.1.cls = true := by decide +kernel
theorem pl_X8_removeJob : plainName mX8_removeJob.1.cls = true := by decide +kernel
theorem pl_X8_swap : plainName mX8_swap.1.cls = true := by decide +kernel
theorem pl_X8_moveJob : plainName mX8_moveJob.1.cls = true := by decide +kernel
theorem pl_X8_set : plainName mX8_set.1.cls = true := by decide +kernel
theorem pl_X8_setDeparture : plainName mX8_setDeparture.1.cls = true := by decide +kernel
theorem pl_X8_setStock : plainName mX8_setStock.1.cls = true := by decide +kernel
theorem pl_X8_setQuantity : plainName mX8_setQuantity.1.cls = true := by decide +kernel
theorem pl_X8_applyBest : plainName mX8_applyBest.1.cls = true := by decide +kernel
theorem pl_X8_undo : plainName mX8_undo.1.cls = true := by decide +kernel
theorem pl_X8_save : plainName mX8_save.1.cls = true := by decide +kernel
theorem pl_X8_restore : plainName mX8_restore.1.cls = true := by decide +kernel
theorem pl_X8_served : plainName mX8_served.1.cls = true := by decide +kernel
theorem pl_J7_fill_53178 : plainName mJ7_fill_53178.1.cls = true := by decide +kernel
theorem pl_J6_compare_7cf53 : plainName mJ6_compare_7cf53.1.cls = true := by decide +kernel
def SH : List Sh := [(7, 0), (2, 0), (12, 900), (13, 12), (0, 0), (13, 2), (10, 2), (10, 2), (10, 10), (10, 10), (10, 10), (11, 4), (10, 4), (10, 4), (10, 3), (10, 5), (10, 5), (10, 5), (10, 5), (10, 5), (6, 0), (10, 20), (10, 20), (10, 20), (10, 20), (10, 2), (10, 12), (3, 0), (10, 20), (10, 20), (10, 20), (10, 20), (10, 20), (10, 20), (10, 20), (10, 20), (10, 12), (10, 5), (10, 5), (10, 5), (10, 10), (3, 0), (10, 20), (10, 20), (10, 20), (10, 20), (10, 20), (10, 20), (10, 20), (10, 20), (10, 12), (10, 5), (10, 5), (10, 5), (10, 10), (6, 0), (10, 20), (10, 20), (10, 20), (10, 20), (10, 2), (10, 12), (6, 0), (10, 20), (10, 20), (10, 20), (10, 20), (10, 2), (10, 12), (1, 0), (14, 10), (6, 0), (10, 20), (10, 20), (10, 20), (10, 20), (10, 2), (10, 12), (6, 0), (10, 20), (10, 20), (10, 20), (10, 20), (10, 2), (10, 12), (6, 0), (10, 20), (10, 20), (10, 20), (10, 20), (10, 2), (10, 12), (6, 0), (10, 20), (10, 20), (10, 20), (10, 20), (10, 2), (10, 12), (6, 0), (10, 20), (10, 20), (10, 20), (10, 20), (10, 2), (10, 12), (6, 0), (10, 20), (10, 20), (10, 20), (10, 20), (10, 2), (10, 12), (6, 0), (10, 20), (10, 20), (10, 20), (10, 20), (10, 2), (10, 12), (6, 0), (10, 20), (10, 20), (10, 20), (10, 20), (10, 2), (10, 12), (6, 0), (10, 20), (10, 20), (10, 20), (10, 20), (10, 2), (10, 12), (6, 0), (10, 20), (10, 20), (10, 20), (10, 20), (10, 2), (10, 12), (5, 0), (10, 8), (10, 8), (10, 8), (10, 8), (10, 8), (10, 8), (10, 8), (10, 8), (10, 256), (4, 0), (10, 10), (10, 10), (10, 10), (0, 0), (13, 2), (10, 2), (10, 2), (10, 10), (10, 10), (10, 10), (11, 4), (10, 4), (10, 4), (10, 3), (10, 5), (10, 5), (10, 5), (10, 5), (10, 5), (6, 0), (10, 20), (10, 20), (10, 20), (10, 20), (10, 2), (10, 12), (8, 0), (10, 900), (10, 188), (10, 188), (10, 188), (10, 1880), (11, 4), (13, 2), (13, 12), (10, 5), (10, 5), (10, 5), (10, 5), (10, 5), (13, 5), (10, 12), (10, 10), (10, 20), (10, 20), (10, 20), (10, 20), (10, 20), (10, 20), (10, 10), (10, 10), (10, 5), (10, 5), (10, 8), (10, 256), (10, 8), (11, 1)]
def GG : Gx := (true, SH)
theorem sh0 : GG.2[0]? = some (7, 0) := rfl
theorem sh1 : GG.2[1]? = some (2, 0) := rfl
theorem sh2 : GG.2[2]? = some (12, 900) := rfl
theorem sh3 : GG.2[3]? = some (13, 12) := rfl
theorem sh4 : GG.2[4]? = some (0, 0) := rfl
theorem sh5 : GG.2[5]? = some (13, 2) := rfl
theorem sh6 : GG.2[6]? = some (10, 2) := rfl
theorem sh7 : GG.2[7]? = some (10, 2) := rfl
theorem sh8 : GG.2[8]? = some (10, 10) := rfl
theorem sh9 : GG.2[9]? = some (10, 10) := rfl
theorem sh10 : GG.2[10]? = some (10, 10) := rfl
theorem sh11 : GG.2[11]? = some (11, 4) := rfl
theorem sh12 : GG.2[12]? = some (10, 4) := rfl
theorem sh13 : GG.2[13]? = some (10, 4) := rfl
theorem sh14 : GG.2[14]? = some (10, 3) := rfl
theorem sh15 : GG.2[15]? = some (10, 5) := rfl
theorem sh16 : GG.2[16]? = some (10, 5) := rfl
theorem sh17 : GG.2[17]? = some (10, 5) := rfl
theorem sh18 : GG.2[18]? = some (10, 5) := rfl
theorem sh19 : GG.2[19]? = some (10, 5) := rfl
theorem sh20 : GG.2[20]? = some (6, 0) := rfl
theorem sh21 : GG.2[21]? = some (10, 20) := rfl
theorem sh22 : GG.2[22]? = some (10, 20) := rfl
theorem sh23 : GG.2[23]? = some (10, 20) := rfl
theorem sh24 : GG.2[24]? = some (10, 20) := rfl
theorem sh25 : GG.2[25]? = some (10, 2) := rfl
theorem sh26 : GG.2[26]? = some (10, 12) := rfl
theorem sh27 : GG.2[27]? = some (3, 0) := rfl
theorem sh28 : GG.2[28]? = some (10, 20) := rfl
theorem sh29 : GG.2[29]? = some (10, 20) := rfl
theorem sh30 : GG.2[30]? = some (10, 20) := rfl
theorem sh31 : GG.2[31]? = some (10, 20) := rfl
theorem sh32 : GG.2[32]? = some (10, 20) := rfl
theorem sh33 : GG.2[33]? = some (10, 20) := rfl
theorem sh34 : GG.2[34]? = some (10, 20) := rfl
theorem sh35 : GG.2[35]? = some (10, 20) := rfl
theorem sh36 : GG.2[36]? = some (10, 12) := rfl
theorem sh37 : GG.2[37]? = some (10, 5) := rfl
theorem sh38 : GG.2[38]? = some (10, 5) := rfl
theorem sh39 : GG.2[39]? = some (10, 5) := rfl
theorem sh40 : GG.2[40]? = some (10, 10) := rfl
theorem sh41 : GG.2[41]? = some (3, 0) := rfl
theorem sh42 : GG.2[42]? = some (10, 20) := rfl
theorem sh43 : GG.2[43]? = some (10, 20) := rfl
theorem sh44 : GG.2[44]? = some (10, 20) := rfl
theorem sh45 : GG.2[45]? = some (10, 20) := rfl
theorem sh46 : GG.2[46]? = some (10, 20) := rfl
theorem sh47 : GG.2[47]? = some (10, 20) := rfl
theorem sh48 : GG.2[48]? = some (10, 20) := rfl
theorem sh49 : GG.2[49]? = some (10, 20) := rfl
theorem sh50 : GG.2[50]? = some (10, 12) := rfl
theorem sh51 : GG.2[51]? = some (10, 5) := rfl
theorem sh52 : GG.2[52]? = some (10, 5) := rfl
theorem sh53 : GG.2[53]? = some (10, 5) := rfl
theorem sh54 : GG.2[54]? = some (10, 10) := rfl
theorem sh55 : GG.2[55]? = some (6, 0) := rfl
theorem sh56 : GG.2[56]? = some (10, 20) := rfl
theorem sh57 : GG.2[57]? = some (10, 20) := rfl
theorem sh58 : GG.2[58]? = some (10, 20) := rfl
theorem sh59 : GG.2[59]? = some (10, 20) := rfl
theorem sh60 : GG.2[60]? = some (10, 2) := rfl
theorem sh61 : GG.2[61]? = some (10, 12) := rfl
theorem sh62 : GG.2[62]? = some (6, 0) := rfl
theorem sh63 : GG.2[63]? = some (10, 20) := rfl
theorem sh64 : GG.2[64]? = some (10, 20) := rfl
theorem sh65 : GG.2[65]? = some (10, 20) := rfl
theorem sh66 : GG.2[66]? = some (10, 20) := rfl
theorem sh67 : GG.2[67]? = some (10, 2) := rfl
theorem sh68 : GG.2[68]? = some (10, 12) := rfl
theorem sh69 : GG.2[69]? = some (1, 0) := rfl
theorem sh70 : GG.2[70]? = some (14, 10) := rfl
theorem sh71 : GG.2[71]? = some (6, 0) := rfl
theorem sh72 : GG.2[72]? = some (10, 20) := rfl
theorem sh73 : GG.2[73]? = some (10, 20) := rfl
theorem sh74 : GG.2[74]? = some (10, 20) := rfl
theorem sh75 : GG.2[75]? = some (10, 20) := rfl
theorem sh76 : GG.2[76]? = some (10, 2) := rfl
theorem sh77 : GG.2[77]? = some (10, 12) := rfl
theorem sh78 : GG.2[78]? = some (6, 0) := rfl
theorem sh79 : GG.2[79]? = some (10, 20) := rfl
theorem sh80 : GG.2[80]? = some (10, 20) := rfl
theorem sh81 : GG.2[81]? = some (10, 20) := rfl
theorem sh82 : GG.2[82]? = some (10, 20) := rfl
theorem sh83 : GG.2[83]? = some (10, 2) := rfl
theorem sh84 : GG.2[84]? = some (10, 12) := rfl
theorem sh85 : GG.2[85]? = some (6, 0) := rfl
theorem sh86 : GG.2[86]? = some (10, 20) := rfl
theorem sh87 : GG.2[87]? = some (10, 20) := rfl
theorem sh88 : GG.2[88]? = some (10, 20) := rfl
theorem sh89 : GG.2[89]? = some (10, 20) := rfl
theorem sh90 : GG.2[90]? = some (10, 2) := rfl
theorem sh91 : GG.2[91]? = some (10, 12) := rfl
theorem sh92 : GG.2[92]? = some (6, 0) := rfl
theorem sh93 : GG.2[93]? = some (10, 20) := rfl
theorem sh94 : GG.2[94]? = some (10, 20) := rfl
theorem sh95 : GG.2[95]? = some (10, 20) := rfl
theorem sh96 : GG.2[96]? = some (10, 20) := rfl
theorem sh97 : GG.2[97]? = some (10, 2) := rfl
theorem sh98 : GG.2[98]? = some (10, 12) := rfl
theorem sh99 : GG.2[99]? = some (6, 0) := rfl
theorem sh100 : GG.2[100]? = some (10, 20) := rfl
theorem sh101 : GG.2[101]? = some (10, 20) := rfl
theorem sh102 : GG.2[102]? = some (10, 20) := rfl
theorem sh103 : GG.2[103]? = some (10, 20) := rfl
theorem sh104 : GG.2[104]? = some (10, 2) := rfl
theorem sh105 : GG.2[105]? = some (10, 12) := rfl
theorem sh106 : GG.2[106]? = some (6, 0) := rfl
theorem sh107 : GG.2[107]? = some (10, 20) := rfl
theorem sh108 : GG.2[108]? = some (10, 20) := rfl
theorem sh109 : GG.2[109]? = some (10, 20) := rfl
theorem sh110 : GG.2[110]? = some (10, 20) := rfl
theorem sh111 : GG.2[111]? = some (10, 2) := rfl
theorem sh112 : GG.2[112]? = some (10, 12) := rfl
theorem sh113 : GG.2[113]? = some (6, 0) := rfl
theorem sh114 : GG.2[114]? = some (10, 20) := rfl
theorem sh115 : GG.2[115]? = some (10, 20) := rfl
theorem sh116 : GG.2[116]? = some (10, 20) := rfl
theorem sh117 : GG.2[117]? = some (10, 20) := rfl
theorem sh118 : GG.2[118]? = some (10, 2) := rfl
theorem sh119 : GG.2[119]? = some (10, 12) := rfl
theorem sh120 : GG.2[120]? = some (6, 0) := rfl
theorem sh121 : GG.2[121]? = some (10, 20) := rfl
theorem sh122 : GG.2[122]? = some (10, 20) := rfl
theorem sh123 : GG.2[123]? = some (10, 20) := rfl
theorem sh124 : GG.2[124]? = some (10, 20) := rfl
theorem sh125 : GG.2[125]? = some (10, 2) := rfl
theorem sh126 : GG.2[126]? = some (10, 12) := rfl
theorem sh127 : GG.2[127]? = some (6, 0) := rfl
theorem sh128 : GG.2[128]? = some (10, 20) := rfl
theorem sh129 : GG.2[129]? = some (10, 20) := rfl
theorem sh130 : GG.2[130]? = some (10, 20) := rfl
theorem sh131 : GG.2[131]? = some (10, 20) := rfl
theorem sh132 : GG.2[132]? = some (10, 2) := rfl
theorem sh133 : GG.2[133]? = some (10, 12) := rfl
theorem sh134 : GG.2[134]? = some (6, 0) := rfl
theorem sh135 : GG.2[135]? = some (10, 20) := rfl
theorem sh136 : GG.2[136]? = some (10, 20) := rfl
theorem sh137 : GG.2[137]? = some (10, 20) := rfl
theorem sh138 : GG.2[138]? = some (10, 20) := rfl
theorem sh139 : GG.2[139]? = some (10, 2) := rfl
theorem sh140 : GG.2[140]? = some (10, 12) := rfl
theorem sh141 : GG.2[141]? = some (5, 0) := rfl
theorem sh142 : GG.2[142]? = some (10, 8) := rfl
theorem sh143 : GG.2[143]? = some (10, 8) := rfl
theorem sh144 : GG.2[144]? = some (10, 8) := rfl
theorem sh145 : GG.2[145]? = some (10, 8) := rfl
theorem sh146 : GG.2[146]? = some (10, 8) := rfl
theorem sh147 : GG.2[147]? = some (10, 8) := rfl
theorem sh148 : GG.2[148]? = some (10, 8) := rfl
theorem sh149 : GG.2[149]? = some (10, 8) := rfl
theorem sh150 : GG.2[150]? = some (10, 256) := rfl
theorem sh151 : GG.2[151]? = some (4, 0) := rfl
theorem sh152 : GG.2[152]? = some (10, 10) := rfl
theorem sh153 : GG.2[153]? = some (10, 10) := rfl
theorem sh154 : GG.2[154]? = some (10, 10) := rfl
theorem sh155 : GG.2[155]? = some (0, 0) := rfl
theorem sh156 : GG.2[156]? = some (13, 2) := rfl
theorem sh157 : GG.2[157]? = some (10, 2) := rfl
theorem sh158 : GG.2[158]? = some (10, 2) := rfl
theorem sh159 : GG.2[159]? = some (10, 10) := rfl
theorem sh160 : GG.2[160]? = some (10, 10) := rfl
theorem sh161 : GG.2[161]? = some (10, 10) := rfl
theorem sh162 : GG.2[162]? = some (11, 4) := rfl
theorem sh163 : GG.2[163]? = some (10, 4) := rfl
theorem sh164 : GG.2[164]? = some (10, 4) := rfl
theorem sh165 : GG.2[165]? = some (10, 3) := rfl
theorem sh166 : GG.2[166]? = some (10, 5) := rfl
theorem sh167 : GG.2[167]? = some (10, 5) := rfl
theorem sh168 : GG.2[168]? = some (10, 5) := rfl
theorem sh169 : GG.2[169]? = some (10, 5) := rfl
theorem sh170 : GG.2[170]? = some (10, 5) := rfl
theorem sh171 : GG.2[171]? = some (6, 0) := rfl
theorem sh172 : GG.2[172]? = some (10, 20) := rfl
theorem sh173 : GG.2[173]? = some (10, 20) := rfl
theorem sh174 : GG.2[174]? = some (10, 20) := rfl
theorem sh175 : GG.2[175]? = some (10, 20) := rfl
theorem sh176 : GG.2[176]? = some (10, 2) := rfl
theorem sh177 : GG.2[177]? = some (10, 12) := rfl
theorem sh178 : GG.2[178]? = some (8, 0) := rfl
theorem sh179 : GG.2[179]? = some (10, 900) := rfl
theorem sh180 : GG.2[180]? = some (10, 188) := rfl
theorem sh181 : GG.2[181]? = some (10, 188) := rfl
theorem sh182 : GG.2[182]? = some (10, 188) := rfl
theorem sh183 : GG.2[183]? = some (10, 1880) := rfl
theorem sh184 : GG.2[184]? = some (11, 4) := rfl
theorem sh185 : GG.2[185]? = some (13, 2) := rfl
theorem sh186 : GG.2[186]? = some (13, 12) := rfl
theorem sh187 : GG.2[187]? = some (10, 5) := rfl
theorem sh188 : GG.2[188]? = some (10, 5) := rfl
theorem sh189 : GG.2[189]? = some (10, 5) := rfl
theorem sh190 : GG.2[190]? = some (10, 5) := rfl
theorem sh191 : GG.2[191]? = some (10, 5) := rfl
theorem sh192 : GG.2[192]? = some (13, 5) := rfl
theorem sh193 : GG.2[193]? = some (10, 12) := rfl
theorem sh194 : GG.2[194]? = some (10, 10) := rfl
theorem sh195 : GG.2[195]? = some (10, 20) := rfl
theorem sh196 : GG.2[196]? = some (10, 20) := rfl
theorem sh197 : GG.2[197]? = some (10, 20) := rfl
theorem sh198 : GG.2[198]? = some (10, 20) := rfl
theorem sh199 : GG.2[199]? = some (10, 20) := rfl
theorem sh200 : GG.2[200]? = some (10, 20) := rfl
theorem sh201 : GG.2[201]? = some (10, 10) := rfl
theorem sh202 : GG.2[202]? = some (10, 10) := rfl
theorem sh203 : GG.2[203]? = some (10, 5) := rfl
theorem sh204 : GG.2[204]? = some (10, 5) := rfl
theorem sh205 : GG.2[205]? = some (10, 8) := rfl
theorem sh206 : GG.2[206]? = some (10, 256) := rfl
theorem sh207 : GG.2[207]? = some (10, 8) := rfl
theorem sh208 : GG.2[208]? = some (11, 1) := rfl
def isO (ci o : Nat) : Prop := GG.2[o]? = some (ci, 0)
theorem shN {o : Nat} {sh : Sh} (h : GG.2[o]? = some sh) : o ≠ nid := by
  have h1 : o < SH.length := (List.getElem?_eq_some_iff.mp h).1
  have h2 : SH.length = 209 := rfl
  unfold nid
  omega
theorem isO_0 {o : Nat} (h : isO 0 o) : o = 4 ∨ o = 155 := by
  have h1 : ∀ o, o < SH.length → SH[o]? = some (0, 0) → o ∈ [4, 155] := by decide +kernel
  have h2 := h1 o (List.getElem?_eq_some_iff.mp h).1 h
  simpa using h2
theorem ar0_0 {o : Nat} (h : isO 0 o) : GG.2[o + 1]? = some (13, 2) := by
  rcases isO_0 h with rfl | rfl <;> rfl
theorem ar0_1 {o : Nat} (h : isO 0 o) : GG.2[o + 2]? = some (10, 2) := by
  rcases isO_0 h with rfl | rfl <;> rfl
theorem ar0_2 {o : Nat} (h : isO 0 o) : GG.2[o + 3]? = some (10, 2) := by
  rcases isO_0 h with rfl | rfl <;> rfl
theorem ar0_3 {o : Nat} (h : isO 0 o) : GG.2[o + 4]? = some (10, 10) := by
  rcases isO_0 h with rfl | rfl <;> rfl
theorem ar0_4 {o : Nat} (h : isO 0 o) : GG.2[o + 5]? = some (10, 10) := by
  rcases isO_0 h with rfl | rfl <;> rfl
theorem ar0_5 {o : Nat} (h : isO 0 o) : GG.2[o + 6]? = some (10, 10) := by
  rcases isO_0 h with rfl | rfl <;> rfl
theorem ar0_6 {o : Nat} (h : isO 0 o) : GG.2[o + 7]? = some (11, 4) := by
  rcases isO_0 h with rfl | rfl <;> rfl
theorem ar0_7 {o : Nat} (h : isO 0 o) : GG.2[o + 8]? = some (10, 4) := by
  rcases isO_0 h with rfl | rfl <;> rfl
theorem ar0_8 {o : Nat} (h : isO 0 o) : GG.2[o + 9]? = some (10, 4) := by
  rcases isO_0 h with rfl | rfl <;> rfl
theorem ar0_9 {o : Nat} (h : isO 0 o) : GG.2[o + 10]? = some (10, 3) := by
  rcases isO_0 h with rfl | rfl <;> rfl
theorem ar0_10 {o : Nat} (h : isO 0 o) : GG.2[o + 11]? = some (10, 5) := by
  rcases isO_0 h with rfl | rfl <;> rfl
theorem ar0_11 {o : Nat} (h : isO 0 o) : GG.2[o + 12]? = some (10, 5) := by
  rcases isO_0 h with rfl | rfl <;> rfl
theorem ar0_12 {o : Nat} (h : isO 0 o) : GG.2[o + 13]? = some (10, 5) := by
  rcases isO_0 h with rfl | rfl <;> rfl
theorem ar0_13 {o : Nat} (h : isO 0 o) : GG.2[o + 14]? = some (10, 5) := by
  rcases isO_0 h with rfl | rfl <;> rfl
theorem ar0_14 {o : Nat} (h : isO 0 o) : GG.2[o + 15]? = some (10, 5) := by
  rcases isO_0 h with rfl | rfl <;> rfl
theorem isO_3 {o : Nat} (h : isO 3 o) : o = 27 ∨ o = 41 := by
  have h1 : ∀ o, o < SH.length → SH[o]? = some (3, 0) → o ∈ [27, 41] := by decide +kernel
  have h2 := h1 o (List.getElem?_eq_some_iff.mp h).1 h
  simpa using h2
theorem ar3_0 {o : Nat} (h : isO 3 o) : GG.2[o + 1]? = some (10, 20) := by
  rcases isO_3 h with rfl | rfl <;> rfl
theorem ar3_1 {o : Nat} (h : isO 3 o) : GG.2[o + 2]? = some (10, 20) := by
  rcases isO_3 h with rfl | rfl <;> rfl
theorem ar3_2 {o : Nat} (h : isO 3 o) : GG.2[o + 3]? = some (10, 20) := by
  rcases isO_3 h with rfl | rfl <;> rfl
theorem ar3_3 {o : Nat} (h : isO 3 o) : GG.2[o + 4]? = some (10, 20) := by
  rcases isO_3 h with rfl | rfl <;> rfl
theorem ar3_4 {o : Nat} (h : isO 3 o) : GG.2[o + 5]? = some (10, 20) := by
  rcases isO_3 h with rfl | rfl <;> rfl
theorem ar3_5 {o : Nat} (h : isO 3 o) : GG.2[o + 6]? = some (10, 20) := by
  rcases isO_3 h with rfl | rfl <;> rfl
theorem ar3_6 {o : Nat} (h : isO 3 o) : GG.2[o + 7]? = some (10, 20) := by
  rcases isO_3 h with rfl | rfl <;> rfl
theorem ar3_7 {o : Nat} (h : isO 3 o) : GG.2[o + 8]? = some (10, 20) := by
  rcases isO_3 h with rfl | rfl <;> rfl
theorem ar3_8 {o : Nat} (h : isO 3 o) : GG.2[o + 9]? = some (10, 12) := by
  rcases isO_3 h with rfl | rfl <;> rfl
theorem ar3_10 {o : Nat} (h : isO 3 o) : GG.2[o + 10]? = some (10, 5) := by
  rcases isO_3 h with rfl | rfl <;> rfl
theorem ar3_11 {o : Nat} (h : isO 3 o) : GG.2[o + 11]? = some (10, 5) := by
  rcases isO_3 h with rfl | rfl <;> rfl
theorem ar3_12 {o : Nat} (h : isO 3 o) : GG.2[o + 12]? = some (10, 5) := by
  rcases isO_3 h with rfl | rfl <;> rfl
theorem ar3_13 {o : Nat} (h : isO 3 o) : GG.2[o + 13]? = some (10, 10) := by
  rcases isO_3 h with rfl | rfl <;> rfl
theorem isO_6 {o : Nat} (h : isO 6 o) : o = 20 ∨ o = 55 ∨ o = 62 ∨ o = 71 ∨ o = 78 ∨ o = 85 ∨ o = 92 ∨ o = 99 ∨ o = 106 ∨ o = 113 ∨ o = 120 ∨ o = 127 ∨ o = 134 ∨ o = 171 := by
  have h1 : ∀ o, o < SH.length → SH[o]? = some (6, 0) → o ∈ [20, 55, 62, 71, 78, 85, 92, 99, 106, 113, 120, 127, 134, 171] := by decide +kernel
  have h2 := h1 o (List.getElem?_eq_some_iff.mp h).1 h
  simpa using h2
theorem ar6_0 {o : Nat} (h : isO 6 o) : GG.2[o + 1]? = some (10, 20) := by
  rcases isO_6 h with rfl | rfl | rfl | rfl | rfl | rfl | rfl | rfl | rfl | rfl | rfl | rfl | rfl | rfl <;> rfl
theorem ar6_1 {o : Nat} (h : isO 6 o) : GG.2[o + 2]? = some (10, 20) := by
  rcases isO_6 h with rfl | rfl | rfl | rfl | rfl | rfl | rfl | rfl | rfl | rfl | rfl | rfl | rfl | rfl <;> rfl
theorem ar6_2 {o : Nat} (h : isO 6 o) : GG.2[o + 3]? = some (10, 20) := by
  rcases isO_6 h with rfl | rfl | rfl | rfl | rfl | rfl | rfl | rfl | rfl | rfl | rfl | rfl | rfl | rfl <;> rfl
theorem ar6_3 {o : Nat} (h : isO 6 o) : GG.2[o + 4]? = some (10, 20) := by
  rcases isO_6 h with rfl | rfl | rfl | rfl | rfl | rfl | rfl | rfl | rfl | rfl | rfl | rfl | rfl | rfl <;> rfl
theorem ar6_4 {o : Nat} (h : isO 6 o) : GG.2[o + 5]? = some (10, 2) := by
  rcases isO_6 h with rfl | rfl | rfl | rfl | rfl | rfl | rfl | rfl | rfl | rfl | rfl | rfl | rfl | rfl <;> rfl
theorem ar6_5 {o : Nat} (h : isO 6 o) : GG.2[o + 6]? = some (10, 12) := by
  rcases isO_6 h with rfl | rfl | rfl | rfl | rfl | rfl | rfl | rfl | rfl | rfl | rfl | rfl | rfl | rfl <;> rfl
theorem fs_X0_15 : FS RX0 15 0 1 2 true (.array .int) := ⟨(RX0, TX0, 18), rfl, by decide, rfl, kF_X0_15, rfl, by decide +kernel, rfl⟩
theorem fs_X0_19 : FS RX0 19 0 2 2 true (.array .int) := ⟨(RX0, TX0, 18), rfl, by decide, rfl, kF_X0_19, rfl, by decide +kernel, rfl⟩
theorem fs_X0_22 : FS RX0 22 0 3 2 true (.array .int) := ⟨(RX0, TX0, 18), rfl, by decide, rfl, kF_X0_22, rfl, by decide +kernel, rfl⟩
theorem fs_X0_25 : FS RX0 25 0 4 2 true (.array .int) := ⟨(RX0, TX0, 18), rfl, by decide, rfl, kF_X0_25, rfl, by decide +kernel, rfl⟩
theorem fs_X0_28 : FS RX0 28 0 5 2 true (.array .int) := ⟨(RX0, TX0, 18), rfl, by decide, rfl, kF_X0_28, rfl, by decide +kernel, rfl⟩
theorem fs_X0_31 : FS RX0 31 0 6 2 true (.array .long) := ⟨(RX0, TX0, 18), rfl, by decide, rfl, kF_X0_31, rfl, by decide +kernel, rfl⟩
theorem fs_X0_35 : FS RX0 35 0 7 2 true (.array .int) := ⟨(RX0, TX0, 18), rfl, by decide, rfl, kF_X0_35, rfl, by decide +kernel, rfl⟩
theorem fs_X0_38 : FS RX0 38 0 8 2 true (.array .int) := ⟨(RX0, TX0, 18), rfl, by decide, rfl, kF_X0_38, rfl, by decide +kernel, rfl⟩
theorem fs_X0_41 : FS RX0 41 0 9 2 true (.array .int) := ⟨(RX0, TX0, 18), rfl, by decide, rfl, kF_X0_41, rfl, by decide +kernel, rfl⟩
theorem fs_X0_44 : FS RX0 44 0 10 2 true (.array .int) := ⟨(RX0, TX0, 18), rfl, by decide, rfl, kF_X0_44, rfl, by decide +kernel, rfl⟩
theorem fs_X0_47 : FS RX0 47 0 11 2 true (.array .int) := ⟨(RX0, TX0, 18), rfl, by decide, rfl, kF_X0_47, rfl, by decide +kernel, rfl⟩
theorem fs_X0_50 : FS RX0 50 0 12 2 true (.array .int) := ⟨(RX0, TX0, 18), rfl, by decide, rfl, kF_X0_50, rfl, by decide +kernel, rfl⟩
theorem fs_X0_53 : FS RX0 53 0 13 2 true (.array .int) := ⟨(RX0, TX0, 18), rfl, by decide, rfl, kF_X0_53, rfl, by decide +kernel, rfl⟩
theorem fs_X0_56 : FS RX0 56 0 14 2 true (.array .int) := ⟨(RX0, TX0, 18), rfl, by decide, rfl, kF_X0_56, rfl, by decide +kernel, rfl⟩
theorem fs_X0_59 : FS RX0 59 0 15 0 false .int := ⟨(RX0, TX0, 18), rfl, by decide, rfl, kF_X0_59, rfl, by decide +kernel, rfl⟩
theorem fs_X0_63 : FS RX0 63 0 16 0 false .int := ⟨(RX0, TX0, 18), rfl, by decide, rfl, kF_X0_63, rfl, by decide +kernel, rfl⟩
theorem fs_X0_66 : FS RX0 66 0 17 0 false .int := ⟨(RX0, TX0, 18), rfl, by decide, rfl, kF_X0_66, rfl, by decide +kernel, rfl⟩
theorem fs_X0_9 : FS RX0 9 0 0 2 true (.array .boolean) := ⟨(RX0, TX0, 18), rfl, by decide, rfl, kF_X0_9, rfl, by decide +kernel, rfl⟩
theorem fs_X1_11 : FS RX1 11 1 0 2 true (.array (.object "TrolleyPlanner$State")) := ⟨(RX1, TX1, 2), rfl, by decide, rfl, kF_X1_11, rfl, by decide +kernel, rfl⟩
theorem fs_X1_18 : FS RX1 18 1 1 0 false .int := ⟨(RX1, TX1, 2), rfl, by decide, rfl, kF_X1_18, rfl, by decide +kernel, rfl⟩
theorem fs_X2_137 : FS RX2 137 0 1 2 true (.array .int) := ⟨(RX0, TX0, 18), rfl, by decide, rfl, kF_X2_137, rfl, by decide +kernel, rfl⟩
theorem fs_X2_140 : FS RX2 140 6 4 2 true (.array .int) := ⟨(RX6, TX6, 7), rfl, by decide, rfl, kF_X2_140, rfl, by decide +kernel, rfl⟩
theorem fs_X2_149 : FS RX2 149 0 3 2 true (.array .int) := ⟨(RX0, TX0, 18), rfl, by decide, rfl, kF_X2_149, rfl, by decide +kernel, rfl⟩
theorem fs_X2_15 : FS RX2 15 2 1 2 true (.array .boolean) := ⟨(RX2, TX2, 13), rfl, by decide, rfl, kF_X2_15, rfl, by decide +kernel, rfl⟩
theorem fs_X2_152 : FS RX2 152 0 4 2 true (.array .int) := ⟨(RX0, TX0, 18), rfl, by decide, rfl, kF_X2_152, rfl, by decide +kernel, rfl⟩
theorem fs_X2_155 : FS RX2 155 0 5 2 true (.array .int) := ⟨(RX0, TX0, 18), rfl, by decide, rfl, kF_X2_155, rfl, by decide +kernel, rfl⟩
theorem fs_X2_165 : FS RX2 165 0 6 2 true (.array .long) := ⟨(RX0, TX0, 18), rfl, by decide, rfl, kF_X2_165, rfl, by decide +kernel, rfl⟩
theorem fs_X2_169 : FS RX2 169 0 7 2 true (.array .int) := ⟨(RX0, TX0, 18), rfl, by decide, rfl, kF_X2_169, rfl, by decide +kernel, rfl⟩
theorem fs_X2_172 : FS RX2 172 0 8 2 true (.array .int) := ⟨(RX0, TX0, 18), rfl, by decide, rfl, kF_X2_172, rfl, by decide +kernel, rfl⟩
theorem fs_X2_175 : FS RX2 175 0 16 0 false .int := ⟨(RX0, TX0, 18), rfl, by decide, rfl, kF_X2_175, rfl, by decide +kernel, rfl⟩
theorem fs_X2_178 : FS RX2 178 0 9 2 true (.array .int) := ⟨(RX0, TX0, 18), rfl, by decide, rfl, kF_X2_178, rfl, by decide +kernel, rfl⟩
theorem fs_X2_188 : FS RX2 188 6 5 2 true (.array .int) := ⟨(RX6, TX6, 7), rfl, by decide, rfl, kF_X2_188, rfl, by decide +kernel, rfl⟩
theorem fs_X2_19 : FS RX2 19 2 4 0 false .int := ⟨(RX2, TX2, 13), rfl, by decide, rfl, kF_X2_19, rfl, by decide +kernel, rfl⟩
theorem fs_X2_191 : FS RX2 191 0 10 2 true (.array .int) := ⟨(RX0, TX0, 18), rfl, by decide, rfl, kF_X2_191, rfl, by decide +kernel, rfl⟩
theorem fs_X2_194 : FS RX2 194 0 11 2 true (.array .int) := ⟨(RX0, TX0, 18), rfl, by decide, rfl, kF_X2_194, rfl, by decide +kernel, rfl⟩
theorem fs_X2_197 : FS RX2 197 0 12 2 true (.array .int) := ⟨(RX0, TX0, 18), rfl, by decide, rfl, kF_X2_197, rfl, by decide +kernel, rfl⟩
theorem fs_X2_200 : FS RX2 200 0 13 2 true (.array .int) := ⟨(RX0, TX0, 18), rfl, by decide, rfl, kF_X2_200, rfl, by decide +kernel, rfl⟩
theorem fs_X2_203 : FS RX2 203 0 14 2 true (.array .int) := ⟨(RX0, TX0, 18), rfl, by decide, rfl, kF_X2_203, rfl, by decide +kernel, rfl⟩
theorem fs_X2_206 : FS RX2 206 6 6 0 false .int := ⟨(RX6, TX6, 7), rfl, by decide, rfl, kF_X2_206, rfl, by decide +kernel, rfl⟩
theorem fs_X2_217 : FS RX2 217 2 11 0 false .int := ⟨(RX2, TX2, 13), rfl, by decide, rfl, kF_X2_217, rfl, by decide +kernel, rfl⟩
theorem fs_X2_26 : FS RX2 26 2 5 2 false (.object "TrolleyPlanner$Facts") := ⟨(RX2, TX2, 13), rfl, by decide, rfl, kF_X2_26, rfl, by decide +kernel, rfl⟩
theorem fs_X2_33 : FS RX2 33 2 6 2 false (.object "TrolleyPlanner$State") := ⟨(RX2, TX2, 13), rfl, by decide, rfl, kF_X2_33, rfl, by decide +kernel, rfl⟩
theorem fs_X2_37 : FS RX2 37 2 2 0 false .int := ⟨(RX2, TX2, 13), rfl, by decide, rfl, kF_X2_37, rfl, by decide +kernel, rfl⟩
theorem fs_X2_44 : FS RX2 44 2 3 0 false .int := ⟨(RX2, TX2, 13), rfl, by decide, rfl, kF_X2_44, rfl, by decide +kernel, rfl⟩
theorem fs_X2_47 : FS RX2 47 2 7 0 false .int := ⟨(RX2, TX2, 13), rfl, by decide, rfl, kF_X2_47, rfl, by decide +kernel, rfl⟩
theorem fs_X2_50 : FS RX2 50 2 8 0 false .int := ⟨(RX2, TX2, 13), rfl, by decide, rfl, kF_X2_50, rfl, by decide +kernel, rfl⟩
theorem fs_X2_59 : FS RX2 59 2 10 0 false .int := ⟨(RX2, TX2, 13), rfl, by decide, rfl, kF_X2_59, rfl, by decide +kernel, rfl⟩
theorem fs_X2_70 : FS RX2 70 2 9 0 false .int := ⟨(RX2, TX2, 13), rfl, by decide, rfl, kF_X2_70, rfl, by decide +kernel, rfl⟩
theorem fs_X2_73 : FS RX2 73 0 0 2 true (.array .boolean) := ⟨(RX0, TX0, 18), rfl, by decide, rfl, kF_X2_73, rfl, by decide +kernel, rfl⟩
theorem fs_X2_76 : FS RX2 76 0 2 2 true (.array .int) := ⟨(RX0, TX0, 18), rfl, by decide, rfl, kF_X2_76, rfl, by decide +kernel, rfl⟩
theorem fs_X2_80 : FS RX2 80 0 15 0 false .int := ⟨(RX0, TX0, 18), rfl, by decide, rfl, kF_X2_80, rfl, by decide +kernel, rfl⟩
theorem fs_X2_83 : FS RX2 83 0 17 0 false .int := ⟨(RX0, TX0, 18), rfl, by decide, rfl, kF_X2_83, rfl, by decide +kernel, rfl⟩
theorem fs_X2_86 : FS RX2 86 2 12 1 false .long := ⟨(RX2, TX2, 13), rfl, by decide, rfl, kF_X2_86, rfl, by decide +kernel, rfl⟩
theorem fs_X2_9 : FS RX2 9 2 0 2 true (.array .byte) := ⟨(RX2, TX2, 13), rfl, by decide, rfl, kF_X2_9, rfl, by decide +kernel, rfl⟩
theorem fs_X3_100 : FS RX3 100 6 2 2 true (.array .int) := ⟨(RX6, TX6, 7), rfl, by decide, rfl, kF_X3_100, rfl, by decide +kernel, rfl⟩
theorem fs_X3_106 : FS RX3 106 6 3 2 true (.array .int) := ⟨(RX6, TX6, 7), rfl, by decide, rfl, kF_X3_106, rfl, by decide +kernel, rfl⟩
theorem fs_X3_117 : FS RX3 117 0 13 2 true (.array .int) := ⟨(RX0, TX0, 18), rfl, by decide, rfl, kF_X3_117, rfl, by decide +kernel, rfl⟩
theorem fs_X3_124 : FS RX3 124 6 1 2 true (.array .int) := ⟨(RX6, TX6, 7), rfl, by decide, rfl, kF_X3_124, rfl, by decide +kernel, rfl⟩
theorem fs_X3_127 : FS RX3 127 0 12 2 true (.array .int) := ⟨(RX0, TX0, 18), rfl, by decide, rfl, kF_X3_127, rfl, by decide +kernel, rfl⟩
theorem fs_X3_137 : FS RX3 137 0 14 2 true (.array .int) := ⟨(RX0, TX0, 18), rfl, by decide, rfl, kF_X3_137, rfl, by decide +kernel, rfl⟩
theorem fs_X3_140 : FS RX3 140 0 1 2 true (.array .int) := ⟨(RX0, TX0, 18), rfl, by decide, rfl, kF_X3_140, rfl, by decide +kernel, rfl⟩
theorem fs_X3_146 : FS RX3 146 6 4 2 true (.array .int) := ⟨(RX6, TX6, 7), rfl, by decide, rfl, kF_X3_146, rfl, by decide +kernel, rfl⟩
theorem fs_X3_15 : FS RX3 15 3 1 2 true (.array .int) := ⟨(RX3, TX3, 14), rfl, by decide, rfl, kF_X3_15, rfl, by decide +kernel, rfl⟩
theorem fs_X3_152 : FS RX3 152 6 6 0 false .int := ⟨(RX6, TX6, 7), rfl, by decide, rfl, kF_X3_152, rfl, by decide +kernel, rfl⟩
theorem fs_X3_155 : FS RX3 155 6 0 2 true (.array .int) := ⟨(RX6, TX6, 7), rfl, by decide, rfl, kF_X3_155, rfl, by decide +kernel, rfl⟩
theorem fs_X3_18 : FS RX3 18 3 2 2 true (.array .int) := ⟨(RX3, TX3, 14), rfl, by decide, rfl, kF_X3_18, rfl, by decide +kernel, rfl⟩
theorem fs_X3_21 : FS RX3 21 3 3 2 true (.array .int) := ⟨(RX3, TX3, 14), rfl, by decide, rfl, kF_X3_21, rfl, by decide +kernel, rfl⟩
theorem fs_X3_24 : FS RX3 24 3 4 2 true (.array .int) := ⟨(RX3, TX3, 14), rfl, by decide, rfl, kF_X3_24, rfl, by decide +kernel, rfl⟩
theorem fs_X3_27 : FS RX3 27 3 5 2 true (.array .int) := ⟨(RX3, TX3, 14), rfl, by decide, rfl, kF_X3_27, rfl, by decide +kernel, rfl⟩
theorem fs_X3_30 : FS RX3 30 3 6 2 true (.array .int) := ⟨(RX3, TX3, 14), rfl, by decide, rfl, kF_X3_30, rfl, by decide +kernel, rfl⟩
theorem fs_X3_33 : FS RX3 33 3 7 2 true (.array .int) := ⟨(RX3, TX3, 14), rfl, by decide, rfl, kF_X3_33, rfl, by decide +kernel, rfl⟩
theorem fs_X3_36 : FS RX3 36 3 8 2 true (.array .int) := ⟨(RX3, TX3, 14), rfl, by decide, rfl, kF_X3_36, rfl, by decide +kernel, rfl⟩
theorem fs_X3_39 : FS RX3 39 3 10 2 true (.array .int) := ⟨(RX3, TX3, 14), rfl, by decide, rfl, kF_X3_39, rfl, by decide +kernel, rfl⟩
theorem fs_X3_42 : FS RX3 42 3 11 2 true (.array .int) := ⟨(RX3, TX3, 14), rfl, by decide, rfl, kF_X3_42, rfl, by decide +kernel, rfl⟩
theorem fs_X3_45 : FS RX3 45 3 12 2 true (.array .int) := ⟨(RX3, TX3, 14), rfl, by decide, rfl, kF_X3_45, rfl, by decide +kernel, rfl⟩
theorem fs_X3_48 : FS RX3 48 3 13 2 true (.array .int) := ⟨(RX3, TX3, 14), rfl, by decide, rfl, kF_X3_48, rfl, by decide +kernel, rfl⟩
theorem fs_X3_51 : FS RX3 51 6 5 2 true (.array .int) := ⟨(RX6, TX6, 7), rfl, by decide, rfl, kF_X3_51, rfl, by decide +kernel, rfl⟩
theorem fs_X3_66 : FS RX3 66 3 9 0 false .int := ⟨(RX3, TX3, 14), rfl, by decide, rfl, kF_X3_66, rfl, by decide +kernel, rfl⟩
theorem fs_X3_70 : FS RX3 70 0 17 0 false .int := ⟨(RX0, TX0, 18), rfl, by decide, rfl, kF_X3_70, rfl, by decide +kernel, rfl⟩
theorem fs_X3_9 : FS RX3 9 3 0 2 true (.array .int) := ⟨(RX3, TX3, 14), rfl, by decide, rfl, kF_X3_9, rfl, by decide +kernel, rfl⟩
theorem fs_X3_97 : FS RX3 97 0 10 2 true (.array .int) := ⟨(RX0, TX0, 18), rfl, by decide, rfl, kF_X3_97, rfl, by decide +kernel, rfl⟩
theorem fs_X4_15 : FS RX4 15 4 1 2 true (.array .int) := ⟨(RX4, TX4, 5), rfl, by decide, rfl, kF_X4_15, rfl, by decide +kernel, rfl⟩
theorem fs_X4_18 : FS RX4 18 4 2 2 true (.array .int) := ⟨(RX4, TX4, 5), rfl, by decide, rfl, kF_X4_18, rfl, by decide +kernel, rfl⟩
theorem fs_X4_21 : FS RX4 21 4 3 0 false .int := ⟨(RX4, TX4, 5), rfl, by decide, rfl, kF_X4_21, rfl, by decide +kernel, rfl⟩
theorem fs_X4_25 : FS RX4 25 4 4 0 false .int := ⟨(RX4, TX4, 5), rfl, by decide, rfl, kF_X4_25, rfl, by decide +kernel, rfl⟩
theorem fs_X4_9 : FS RX4 9 4 0 2 true (.array .int) := ⟨(RX4, TX4, 5), rfl, by decide, rfl, kF_X4_9, rfl, by decide +kernel, rfl⟩
theorem fs_X5_105 : FS RX5 105 5 3 0 false .int := ⟨(RX5, TX5, 12), rfl, by decide, rfl, kF_X5_105, rfl, by decide +kernel, rfl⟩
theorem fs_X5_118 : FS RX5 118 5 4 0 false .int := ⟨(RX5, TX5, 12), rfl, by decide, rfl, kF_X5_118, rfl, by decide +kernel, rfl⟩
theorem fs_X5_15 : FS RX5 15 5 1 2 true (.array .int) := ⟨(RX5, TX5, 12), rfl, by decide, rfl, kF_X5_15, rfl, by decide +kernel, rfl⟩
theorem fs_X5_18 : FS RX5 18 5 5 2 true (.array .int) := ⟨(RX5, TX5, 12), rfl, by decide, rfl, kF_X5_18, rfl, by decide +kernel, rfl⟩
theorem fs_X5_21 : FS RX5 21 5 6 2 true (.array .int) := ⟨(RX5, TX5, 12), rfl, by decide, rfl, kF_X5_21, rfl, by decide +kernel, rfl⟩
theorem fs_X5_24 : FS RX5 24 5 7 2 true (.array .int) := ⟨(RX5, TX5, 12), rfl, by decide, rfl, kF_X5_24, rfl, by decide +kernel, rfl⟩
theorem fs_X5_27 : FS RX5 27 5 8 2 true (.array .int) := ⟨(RX5, TX5, 12), rfl, by decide, rfl, kF_X5_27, rfl, by decide +kernel, rfl⟩
theorem fs_X5_30 : FS RX5 30 5 9 2 true (.array .int) := ⟨(RX5, TX5, 12), rfl, by decide, rfl, kF_X5_30, rfl, by decide +kernel, rfl⟩
theorem fs_X5_33 : FS RX5 33 5 10 2 true (.array .int) := ⟨(RX5, TX5, 12), rfl, by decide, rfl, kF_X5_33, rfl, by decide +kernel, rfl⟩
theorem fs_X5_36 : FS RX5 36 5 11 2 true (.array .int) := ⟨(RX5, TX5, 12), rfl, by decide, rfl, kF_X5_36, rfl, by decide +kernel, rfl⟩
theorem fs_X5_39 : FS RX5 39 5 2 0 false .int := ⟨(RX5, TX5, 12), rfl, by decide, rfl, kF_X5_39, rfl, by decide +kernel, rfl⟩
theorem fs_X5_43 : FS RX5 43 6 6 0 false .int := ⟨(RX6, TX6, 7), rfl, by decide, rfl, kF_X5_43, rfl, by decide +kernel, rfl⟩
theorem fs_X5_48 : FS RX5 48 6 0 2 true (.array .int) := ⟨(RX6, TX6, 7), rfl, by decide, rfl, kF_X5_48, rfl, by decide +kernel, rfl⟩
theorem fs_X5_64 : FS RX5 64 6 1 2 true (.array .int) := ⟨(RX6, TX6, 7), rfl, by decide, rfl, kF_X5_64, rfl, by decide +kernel, rfl⟩
theorem fs_X5_67 : FS RX5 67 6 3 2 true (.array .int) := ⟨(RX6, TX6, 7), rfl, by decide, rfl, kF_X5_67, rfl, by decide +kernel, rfl⟩
theorem fs_X5_80 : FS RX5 80 0 13 2 true (.array .int) := ⟨(RX0, TX0, 18), rfl, by decide, rfl, kF_X5_80, rfl, by decide +kernel, rfl⟩
theorem fs_X5_83 : FS RX5 83 0 14 2 true (.array .int) := ⟨(RX0, TX0, 18), rfl, by decide, rfl, kF_X5_83, rfl, by decide +kernel, rfl⟩
theorem fs_X5_86 : FS RX5 86 0 1 2 true (.array .int) := ⟨(RX0, TX0, 18), rfl, by decide, rfl, kF_X5_86, rfl, by decide +kernel, rfl⟩
theorem fs_X5_87 : FS RX5 87 6 4 2 true (.array .int) := ⟨(RX6, TX6, 7), rfl, by decide, rfl, kF_X5_87, rfl, by decide +kernel, rfl⟩
theorem fs_X5_9 : FS RX5 9 5 0 2 true (.array .int) := ⟨(RX5, TX5, 12), rfl, by decide, rfl, kF_X5_9, rfl, by decide +kernel, rfl⟩
theorem fs_X5_99 : FS RX5 99 0 12 2 true (.array .int) := ⟨(RX0, TX0, 18), rfl, by decide, rfl, kF_X5_99, rfl, by decide +kernel, rfl⟩
theorem fs_X6_15 : FS RX6 15 6 1 2 true (.array .int) := ⟨(RX6, TX6, 7), rfl, by decide, rfl, kF_X6_15, rfl, by decide +kernel, rfl⟩
theorem fs_X6_18 : FS RX6 18 6 2 2 true (.array .int) := ⟨(RX6, TX6, 7), rfl, by decide, rfl, kF_X6_18, rfl, by decide +kernel, rfl⟩
theorem fs_X6_21 : FS RX6 21 6 3 2 true (.array .int) := ⟨(RX6, TX6, 7), rfl, by decide, rfl, kF_X6_21, rfl, by decide +kernel, rfl⟩
theorem fs_X6_24 : FS RX6 24 6 4 2 true (.array .int) := ⟨(RX6, TX6, 7), rfl, by decide, rfl, kF_X6_24, rfl, by decide +kernel, rfl⟩
theorem fs_X6_27 : FS RX6 27 6 5 2 true (.array .int) := ⟨(RX6, TX6, 7), rfl, by decide, rfl, kF_X6_27, rfl, by decide +kernel, rfl⟩
theorem fs_X6_30 : FS RX6 30 6 6 0 false .int := ⟨(RX6, TX6, 7), rfl, by decide, rfl, kF_X6_30, rfl, by decide +kernel, rfl⟩
theorem fs_X6_9 : FS RX6 9 6 0 2 true (.array .int) := ⟨(RX6, TX6, 7), rfl, by decide, rfl, kF_X6_9, rfl, by decide +kernel, rfl⟩
theorem fs_X7_102 : FS RX7 102 0 2 2 true (.array .int) := ⟨(RX0, TX0, 18), rfl, by decide, rfl, kF_X7_102, rfl, by decide +kernel, rfl⟩
theorem fs_X7_106 : FS RX7 106 7 10 0 false .boolean := ⟨(RX7, TX7, 13), rfl, by decide, rfl, kF_X7_106, rfl, by decide +kernel, rfl⟩
theorem fs_X7_110 : FS RX7 110 0 15 0 false .int := ⟨(RX0, TX0, 18), rfl, by decide, rfl, kF_X7_110, rfl, by decide +kernel, rfl⟩
theorem fs_X7_113 : FS RX7 113 0 17 0 false .int := ⟨(RX0, TX0, 18), rfl, by decide, rfl, kF_X7_113, rfl, by decide +kernel, rfl⟩
theorem fs_X7_116 : FS RX7 116 6 4 2 true (.array .int) := ⟨(RX6, TX6, 7), rfl, by decide, rfl, kF_X7_116, rfl, by decide +kernel, rfl⟩
theorem fs_X7_12 : FS RX7 12 7 0 2 true (.object "TrolleyPlanner$Parser") := ⟨(RX7, TX7, 13), rfl, by decide, rfl, kF_X7_12, rfl, by decide +kernel, rfl⟩
theorem fs_X7_123 : FS RX7 123 6 5 2 true (.array .int) := ⟨(RX6, TX6, 7), rfl, by decide, rfl, kF_X7_123, rfl, by decide +kernel, rfl⟩
theorem fs_X7_143 : FS RX7 143 6 0 2 true (.array .int) := ⟨(RX6, TX6, 7), rfl, by decide, rfl, kF_X7_143, rfl, by decide +kernel, rfl⟩
theorem fs_X7_146 : FS RX7 146 6 3 2 true (.array .int) := ⟨(RX6, TX6, 7), rfl, by decide, rfl, kF_X7_146, rfl, by decide +kernel, rfl⟩
theorem fs_X7_149 : FS RX7 149 3 0 2 true (.array .int) := ⟨(RX3, TX3, 14), rfl, by decide, rfl, kF_X7_149, rfl, by decide +kernel, rfl⟩
theorem fs_X7_152 : FS RX7 152 3 1 2 true (.array .int) := ⟨(RX3, TX3, 14), rfl, by decide, rfl, kF_X7_152, rfl, by decide +kernel, rfl⟩
theorem fs_X7_155 : FS RX7 155 3 6 2 true (.array .int) := ⟨(RX3, TX3, 14), rfl, by decide, rfl, kF_X7_155, rfl, by decide +kernel, rfl⟩
theorem fs_X7_158 : FS RX7 158 3 4 2 true (.array .int) := ⟨(RX3, TX3, 14), rfl, by decide, rfl, kF_X7_158, rfl, by decide +kernel, rfl⟩
theorem fs_X7_161 : FS RX7 161 3 7 2 true (.array .int) := ⟨(RX3, TX3, 14), rfl, by decide, rfl, kF_X7_161, rfl, by decide +kernel, rfl⟩
theorem fs_X7_167 : FS RX7 167 3 9 0 false .int := ⟨(RX3, TX3, 14), rfl, by decide, rfl, kF_X7_167, rfl, by decide +kernel, rfl⟩
theorem fs_X7_173 : FS RX7 173 3 8 2 true (.array .int) := ⟨(RX3, TX3, 14), rfl, by decide, rfl, kF_X7_173, rfl, by decide +kernel, rfl⟩
theorem fs_X7_179 : FS RX7 179 3 3 2 true (.array .int) := ⟨(RX3, TX3, 14), rfl, by decide, rfl, kF_X7_179, rfl, by decide +kernel, rfl⟩
theorem fs_X7_185 : FS RX7 185 6 1 2 true (.array .int) := ⟨(RX6, TX6, 7), rfl, by decide, rfl, kF_X7_185, rfl, by decide +kernel, rfl⟩
theorem fs_X7_188 : FS RX7 188 3 5 2 true (.array .int) := ⟨(RX3, TX3, 14), rfl, by decide, rfl, kF_X7_188, rfl, by decide +kernel, rfl⟩
theorem fs_X7_19 : FS RX7 19 7 1 2 true (.object "TrolleyPlanner$Run") := ⟨(RX7, TX7, 13), rfl, by decide, rfl, kF_X7_19, rfl, by decide +kernel, rfl⟩
theorem fs_X7_206 : FS RX7 206 4 2 2 true (.array .int) := ⟨(RX4, TX4, 5), rfl, by decide, rfl, kF_X7_206, rfl, by decide +kernel, rfl⟩
theorem fs_X7_23 : FS RX7 23 7 2 2 true (.object "TrolleyPlanner$Run") := ⟨(RX7, TX7, 13), rfl, by decide, rfl, kF_X7_23, rfl, by decide +kernel, rfl⟩
theorem fs_X7_244 : FS RX7 244 5 3 0 false .int := ⟨(RX5, TX5, 12), rfl, by decide, rfl, kF_X7_244, rfl, by decide +kernel, rfl⟩
theorem fs_X7_250 : FS RX7 250 5 4 0 false .int := ⟨(RX5, TX5, 12), rfl, by decide, rfl, kF_X7_250, rfl, by decide +kernel, rfl⟩
theorem fs_X7_253 : FS RX7 253 5 1 2 true (.array .int) := ⟨(RX5, TX5, 12), rfl, by decide, rfl, kF_X7_253, rfl, by decide +kernel, rfl⟩
theorem fs_X7_29 : FS RX7 29 7 3 2 true (.object "TrolleyPlanner$State") := ⟨(RX7, TX7, 13), rfl, by decide, rfl, kF_X7_29, rfl, by decide +kernel, rfl⟩
theorem fs_X7_304 : FS RX7 304 0 1 2 true (.array .int) := ⟨(RX0, TX0, 18), rfl, by decide, rfl, kF_X7_304, rfl, by decide +kernel, rfl⟩
theorem fs_X7_307 : FS RX7 307 5 0 2 true (.array .int) := ⟨(RX5, TX5, 12), rfl, by decide, rfl, kF_X7_307, rfl, by decide +kernel, rfl⟩
theorem fs_X7_314 : FS RX7 314 5 2 0 false .int := ⟨(RX5, TX5, 12), rfl, by decide, rfl, kF_X7_314, rfl, by decide +kernel, rfl⟩
theorem fs_X7_317 : FS RX7 317 1 1 0 false .int := ⟨(RX1, TX1, 2), rfl, by decide, rfl, kF_X7_317, rfl, by decide +kernel, rfl⟩
theorem fs_X7_321 : FS RX7 321 7 11 0 false .boolean := ⟨(RX7, TX7, 13), rfl, by decide, rfl, kF_X7_321, rfl, by decide +kernel, rfl⟩
theorem fs_X7_33 : FS RX7 33 7 4 2 true (.object "TrolleyPlanner$State") := ⟨(RX7, TX7, 13), rfl, by decide, rfl, kF_X7_33, rfl, by decide +kernel, rfl⟩
theorem fs_X7_331 : FS RX7 331 7 12 0 false .int := ⟨(RX7, TX7, 13), rfl, by decide, rfl, kF_X7_331, rfl, by decide +kernel, rfl⟩
theorem fs_X7_336 : FS RX7 336 2 5 2 false (.object "TrolleyPlanner$Facts") := ⟨(RX2, TX2, 13), rfl, by decide, rfl, kF_X7_336, rfl, by decide +kernel, rfl⟩
theorem fs_X7_337 : FS RX7 337 2 6 2 false (.object "TrolleyPlanner$State") := ⟨(RX2, TX2, 13), rfl, by decide, rfl, kF_X7_337, rfl, by decide +kernel, rfl⟩
theorem fs_X7_338 : FS RX7 338 0 16 0 false .int := ⟨(RX0, TX0, 18), rfl, by decide, rfl, kF_X7_338, rfl, by decide +kernel, rfl⟩
theorem fs_X7_341 : FS RX7 341 6 2 2 true (.array .int) := ⟨(RX6, TX6, 7), rfl, by decide, rfl, kF_X7_341, rfl, by decide +kernel, rfl⟩
theorem fs_X7_39 : FS RX7 39 7 5 2 true (.object "TrolleyPlanner$History") := ⟨(RX7, TX7, 13), rfl, by decide, rfl, kF_X7_39, rfl, by decide +kernel, rfl⟩
theorem fs_X7_46 : FS RX7 46 7 6 2 true (.object "TrolleyPlanner$Solo") := ⟨(RX7, TX7, 13), rfl, by decide, rfl, kF_X7_46, rfl, by decide +kernel, rfl⟩
theorem fs_X7_53 : FS RX7 53 7 7 2 true (.object "TrolleyPlanner$Sharing") := ⟨(RX7, TX7, 13), rfl, by decide, rfl, kF_X7_53, rfl, by decide +kernel, rfl⟩
theorem fs_X7_60 : FS RX7 60 7 8 2 false (.object "TrolleyPlanner$Facts") := ⟨(RX7, TX7, 13), rfl, by decide, rfl, kF_X7_60, rfl, by decide +kernel, rfl⟩
theorem fs_X7_64 : FS RX7 64 7 9 2 false (.object "TrolleyPlanner$State") := ⟨(RX7, TX7, 13), rfl, by decide, rfl, kF_X7_64, rfl, by decide +kernel, rfl⟩
theorem fs_X7_67 : FS RX7 67 2 2 0 false .int := ⟨(RX2, TX2, 13), rfl, by decide, rfl, kF_X7_67, rfl, by decide +kernel, rfl⟩
theorem fs_X7_83 : FS RX7 83 2 3 0 false .int := ⟨(RX2, TX2, 13), rfl, by decide, rfl, kF_X7_83, rfl, by decide +kernel, rfl⟩
theorem fs_X7_89 : FS RX7 89 6 6 0 false .int := ⟨(RX6, TX6, 7), rfl, by decide, rfl, kF_X7_89, rfl, by decide +kernel, rfl⟩
theorem fs_X7_95 : FS RX7 95 2 4 0 false .int := ⟨(RX2, TX2, 13), rfl, by decide, rfl, kF_X7_95, rfl, by decide +kernel, rfl⟩
theorem fs_X8_100 : FS RX8 100 8 46 2 true (.array .int) := ⟨(RX8, TX8, 50), rfl, by decide, rfl, kF_X8_100, rfl, by decide +kernel, rfl⟩
theorem fs_X8_103 : FS RX8 103 8 0 0 false .int := ⟨(RX8, TX8, 50), rfl, by decide, rfl, kF_X8_103, rfl, by decide +kernel, rfl⟩
theorem fs_X8_106 : FS RX8 106 8 1 0 false .int := ⟨(RX8, TX8, 50), rfl, by decide, rfl, kF_X8_106, rfl, by decide +kernel, rfl⟩
theorem fs_X8_112 : FS RX8 112 8 3 0 false .int := ⟨(RX8, TX8, 50), rfl, by decide, rfl, kF_X8_112, rfl, by decide +kernel, rfl⟩
theorem fs_X8_119 : FS RX8 119 8 6 0 false .int := ⟨(RX8, TX8, 50), rfl, by decide, rfl, kF_X8_119, rfl, by decide +kernel, rfl⟩
theorem fs_X8_122 : FS RX8 122 8 4 0 false .int := ⟨(RX8, TX8, 50), rfl, by decide, rfl, kF_X8_122, rfl, by decide +kernel, rfl⟩
theorem fs_X8_125 : FS RX8 125 8 9 0 false .int := ⟨(RX8, TX8, 50), rfl, by decide, rfl, kF_X8_125, rfl, by decide +kernel, rfl⟩
theorem fs_X8_128 : FS RX8 128 8 5 0 false .int := ⟨(RX8, TX8, 50), rfl, by decide, rfl, kF_X8_128, rfl, by decide +kernel, rfl⟩
theorem fs_X8_13 : FS RX8 13 8 7 0 false .int := ⟨(RX8, TX8, 50), rfl, by decide, rfl, kF_X8_13, rfl, by decide +kernel, rfl⟩
theorem fs_X8_135 : FS RX8 135 8 11 1 false .long := ⟨(RX8, TX8, 50), rfl, by decide, rfl, kF_X8_135, rfl, by decide +kernel, rfl⟩
theorem fs_X8_139 : FS RX8 139 8 8 0 false .int := ⟨(RX8, TX8, 50), rfl, by decide, rfl, kF_X8_139, rfl, by decide +kernel, rfl⟩
theorem fs_X8_150 : FS RX8 150 8 10 0 false .int := ⟨(RX8, TX8, 50), rfl, by decide, rfl, kF_X8_150, rfl, by decide +kernel, rfl⟩
theorem fs_X8_17 : FS RX8 17 8 12 2 true (.array .int) := ⟨(RX8, TX8, 50), rfl, by decide, rfl, kF_X8_17, rfl, by decide +kernel, rfl⟩
theorem fs_X8_20 : FS RX8 20 8 13 2 true (.array .int) := ⟨(RX8, TX8, 50), rfl, by decide, rfl, kF_X8_20, rfl, by decide +kernel, rfl⟩
theorem fs_X8_23 : FS RX8 23 8 14 2 true (.array .int) := ⟨(RX8, TX8, 50), rfl, by decide, rfl, kF_X8_23, rfl, by decide +kernel, rfl⟩
theorem fs_X8_236 : FS RX8 236 8 20 0 false .boolean := ⟨(RX8, TX8, 50), rfl, by decide, rfl, kF_X8_236, rfl, by decide +kernel, rfl⟩
theorem fs_X8_240 : FS RX8 240 8 21 0 false .boolean := ⟨(RX8, TX8, 50), rfl, by decide, rfl, kF_X8_240, rfl, by decide +kernel, rfl⟩
theorem fs_X8_243 : FS RX8 243 8 19 0 false .int := ⟨(RX8, TX8, 50), rfl, by decide, rfl, kF_X8_243, rfl, by decide +kernel, rfl⟩
theorem fs_X8_26 : FS RX8 26 8 15 2 true (.array .int) := ⟨(RX8, TX8, 50), rfl, by decide, rfl, kF_X8_26, rfl, by decide +kernel, rfl⟩
theorem fs_X8_29 : FS RX8 29 8 16 2 true (.array .long) := ⟨(RX8, TX8, 50), rfl, by decide, rfl, kF_X8_29, rfl, by decide +kernel, rfl⟩
theorem fs_X8_33 : FS RX8 33 8 17 2 true (.array .boolean) := ⟨(RX8, TX8, 50), rfl, by decide, rfl, kF_X8_33, rfl, by decide +kernel, rfl⟩
theorem fs_X8_333 : FS RX8 333 8 36 0 false .int := ⟨(RX8, TX8, 50), rfl, by decide, rfl, kF_X8_333, rfl, by decide +kernel, rfl⟩
theorem fs_X8_336 : FS RX8 336 8 37 0 false .int := ⟨(RX8, TX8, 50), rfl, by decide, rfl, kF_X8_336, rfl, by decide +kernel, rfl⟩
theorem fs_X8_358 : FS RX8 358 8 42 0 false .int := ⟨(RX8, TX8, 50), rfl, by decide, rfl, kF_X8_358, rfl, by decide +kernel, rfl⟩
theorem fs_X8_361 : FS RX8 361 8 43 0 false .int := ⟨(RX8, TX8, 50), rfl, by decide, rfl, kF_X8_361, rfl, by decide +kernel, rfl⟩
theorem fs_X8_37 : FS RX8 37 8 18 2 true (.array .boolean) := ⟨(RX8, TX8, 50), rfl, by decide, rfl, kF_X8_37, rfl, by decide +kernel, rfl⟩
theorem fs_X8_374 : FS RX8 374 8 47 0 false .int := ⟨(RX8, TX8, 50), rfl, by decide, rfl, kF_X8_374, rfl, by decide +kernel, rfl⟩
theorem fs_X8_386 : FS RX8 386 8 49 0 false .int := ⟨(RX8, TX8, 50), rfl, by decide, rfl, kF_X8_386, rfl, by decide +kernel, rfl⟩
theorem fs_X8_392 : FS RX8 392 8 48 0 false .int := ⟨(RX8, TX8, 50), rfl, by decide, rfl, kF_X8_392, rfl, by decide +kernel, rfl⟩
theorem fs_X8_40 : FS RX8 40 8 22 2 true (.array .int) := ⟨(RX8, TX8, 50), rfl, by decide, rfl, kF_X8_40, rfl, by decide +kernel, rfl⟩
theorem fs_X8_43 : FS RX8 43 8 23 2 true (.array .int) := ⟨(RX8, TX8, 50), rfl, by decide, rfl, kF_X8_43, rfl, by decide +kernel, rfl⟩
theorem fs_X8_46 : FS RX8 46 8 24 2 true (.array .int) := ⟨(RX8, TX8, 50), rfl, by decide, rfl, kF_X8_46, rfl, by decide +kernel, rfl⟩
theorem fs_X8_49 : FS RX8 49 8 25 2 true (.array .int) := ⟨(RX8, TX8, 50), rfl, by decide, rfl, kF_X8_49, rfl, by decide +kernel, rfl⟩
theorem fs_X8_52 : FS RX8 52 8 26 2 true (.array .int) := ⟨(RX8, TX8, 50), rfl, by decide, rfl, kF_X8_52, rfl, by decide +kernel, rfl⟩
theorem fs_X8_55 : FS RX8 55 8 27 2 true (.array .boolean) := ⟨(RX8, TX8, 50), rfl, by decide, rfl, kF_X8_55, rfl, by decide +kernel, rfl⟩
theorem fs_X8_58 : FS RX8 58 8 28 2 true (.array .int) := ⟨(RX8, TX8, 50), rfl, by decide, rfl, kF_X8_58, rfl, by decide +kernel, rfl⟩
theorem fs_X8_61 : FS RX8 61 8 29 2 true (.array .int) := ⟨(RX8, TX8, 50), rfl, by decide, rfl, kF_X8_61, rfl, by decide +kernel, rfl⟩
theorem fs_X8_64 : FS RX8 64 8 30 2 true (.array .int) := ⟨(RX8, TX8, 50), rfl, by decide, rfl, kF_X8_64, rfl, by decide +kernel, rfl⟩
theorem fs_X8_67 : FS RX8 67 8 31 2 true (.array .int) := ⟨(RX8, TX8, 50), rfl, by decide, rfl, kF_X8_67, rfl, by decide +kernel, rfl⟩
theorem fs_X8_70 : FS RX8 70 8 32 2 true (.array .int) := ⟨(RX8, TX8, 50), rfl, by decide, rfl, kF_X8_70, rfl, by decide +kernel, rfl⟩
theorem fs_X8_73 : FS RX8 73 8 33 2 true (.array .int) := ⟨(RX8, TX8, 50), rfl, by decide, rfl, kF_X8_73, rfl, by decide +kernel, rfl⟩
theorem fs_X8_76 : FS RX8 76 8 34 2 true (.array .int) := ⟨(RX8, TX8, 50), rfl, by decide, rfl, kF_X8_76, rfl, by decide +kernel, rfl⟩
theorem fs_X8_79 : FS RX8 79 8 35 2 true (.array .int) := ⟨(RX8, TX8, 50), rfl, by decide, rfl, kF_X8_79, rfl, by decide +kernel, rfl⟩
theorem fs_X8_82 : FS RX8 82 8 38 2 true (.array .int) := ⟨(RX8, TX8, 50), rfl, by decide, rfl, kF_X8_82, rfl, by decide +kernel, rfl⟩
theorem fs_X8_85 : FS RX8 85 8 39 2 true (.array .int) := ⟨(RX8, TX8, 50), rfl, by decide, rfl, kF_X8_85, rfl, by decide +kernel, rfl⟩
theorem fs_X8_88 : FS RX8 88 8 40 2 true (.array .int) := ⟨(RX8, TX8, 50), rfl, by decide, rfl, kF_X8_88, rfl, by decide +kernel, rfl⟩
theorem fs_X8_9 : FS RX8 9 8 2 2 true (.array .int) := ⟨(RX8, TX8, 50), rfl, by decide, rfl, kF_X8_9, rfl, by decide +kernel, rfl⟩
theorem fs_X8_91 : FS RX8 91 8 41 2 true (.array .int) := ⟨(RX8, TX8, 50), rfl, by decide, rfl, kF_X8_91, rfl, by decide +kernel, rfl⟩
theorem fs_X8_94 : FS RX8 94 8 44 2 true (.array .int) := ⟨(RX8, TX8, 50), rfl, by decide, rfl, kF_X8_94, rfl, by decide +kernel, rfl⟩
theorem fs_X8_97 : FS RX8 97 8 45 2 true (.array .int) := ⟨(RX8, TX8, 50), rfl, by decide, rfl, kF_X8_97, rfl, by decide +kernel, rfl⟩
theorem cm_X0_69 : CSN RX0 69 2 mX7_partsRoundedUp := ⟨⟨"TrolleyPlanner", by decide +kernel⟩, kT_X7_partsRoundedUp, kZ_X7, kC_X7_partsRoundedUp, ⟨by decide +kernel, by decide +kernel⟩, by decide +kernel⟩
theorem cm_X1_17 : CNN RX1 17 mX6_init := ⟨⟨"TrolleyPlanner", by decide +kernel⟩, rfl, kI_X6_init, kZ_X6, kC_X6_init, ⟨by decide +kernel, by decide +kernel⟩, by decide +kernel, rfl⟩
theorem cm_X1_22 : CM RX1 22 1 0 mX1_dropFirst := ⟨(RX1, TX1, 2), rfl, kM_X1_22, kI_X1_dropFirst, kS_X1_dropFirst, kZ_X1, kC_X1_dropFirst, ⟨by decide +kernel, by decide +kernel⟩, by decide +kernel⟩
theorem cm_X1_25 : CM RX1 25 6 1 mX6_copyFrom := ⟨(RX6, TX6, 7), rfl, kM_X1_25, kI_X6_copyFrom, kS_X6_copyFrom, kZ_X6, kC_X6_copyFrom, ⟨by decide +kernel, by decide +kernel⟩, by decide +kernel⟩
theorem cm_X2_25 : CNN RX2 25 mX0_init := ⟨⟨"TrolleyPlanner", by decide +kernel⟩, rfl, kI_X0_init, kZ_X0, kC_X0_init, ⟨by decide +kernel, by decide +kernel⟩, by decide +kernel, rfl⟩
theorem cm_X2_32 : CNN RX2 32 mX6_init := ⟨⟨"TrolleyPlanner", by decide +kernel⟩, rfl, kI_X6_init, kZ_X6, kC_X6_init, ⟨by decide +kernel, by decide +kernel⟩, by decide +kernel, rfl⟩
theorem cm_X2_40 : CM RX2 40 0 0 mX0_clear := ⟨(RX0, TX0, 18), rfl, kM_X2_40, kI_X0_clear, kS_X0_clear, kZ_X0, kC_X0_clear, ⟨by decide +kernel, by decide +kernel⟩, by decide +kernel⟩
theorem cm_X2_43 : CM RX2 43 6 0 mX6_clear := ⟨(RX6, TX6, 7), rfl, kM_X2_43, kI_X6_clear, kS_X6_clear, kZ_X6, kC_X6_clear, ⟨by decide +kernel, by decide +kernel⟩, by decide +kernel⟩
theorem cm_X2_53 : CM RX2 53 2 0 mX2_readLine := ⟨(RX2, TX2, 13), rfl, kM_X2_53, kI_X2_readLine, kS_X2_readLine, kZ_X2, kC_X2_readLine, ⟨by decide +kernel, by decide +kernel⟩, by decide +kernel⟩
theorem cm_X2_56 : CM RX2 56 2 0 mX2_advance := ⟨(RX2, TX2, 13), rfl, kM_X2_56, kI_X2_advance, kS_X2_advance, kZ_X2, kC_X2_advance, ⟨by decide +kernel, by decide +kernel⟩, by decide +kernel⟩
theorem cm_X2_62 : CM RX2 62 2 1 mX2_refuse := ⟨(RX2, TX2, 13), rfl, kM_X2_62, kI_X2_refuse, kS_X2_refuse, kZ_X2, kC_X2_refuse, ⟨by decide +kernel, by decide +kernel⟩, by decide +kernel⟩
theorem cm_X2_66 : CM RX2 66 2 0 mX2_isComplete := ⟨(RX2, TX2, 13), rfl, kM_X2_66, kI_X2_isComplete, kS_X2_isComplete, kZ_X2, kC_X2_isComplete, ⟨by decide +kernel, by decide +kernel⟩, by decide +kernel⟩
theorem cm_X2_92 : CM RX2 92 2 0 mX2_readTrain := ⟨(RX2, TX2, 13), rfl, kM_X2_92, kI_X2_readTrain, kS_X2_readTrain, kZ_X2, kC_X2_readTrain, ⟨by decide +kernel, by decide +kernel⟩, by decide +kernel⟩
theorem cm_X2_97 : CM RX2 97 2 0 mX2_readCar := ⟨(RX2, TX2, 13), rfl, kM_X2_97, kI_X2_readCar, kS_X2_readCar, kZ_X2, kC_X2_readCar, ⟨by decide +kernel, by decide +kernel⟩, by decide +kernel⟩
theorem cm_X2_102 : CM RX2 102 2 0 mX2_readMeal := ⟨(RX2, TX2, 13), rfl, kM_X2_102, kI_X2_readMeal, kS_X2_readMeal, kZ_X2, kC_X2_readMeal, ⟨by decide +kernel, by decide +kernel⟩, by decide +kernel⟩
theorem cm_X2_107 : CM RX2 107 2 0 mX2_readKitchen := ⟨(RX2, TX2, 13), rfl, kM_X2_107, kI_X2_readKitchen, kS_X2_readKitchen, kZ_X2, kC_X2_readKitchen, ⟨by decide +kernel, by decide +kernel⟩, by decide +kernel⟩
theorem cm_X2_112 : CM RX2 112 2 0 mX2_readStock := ⟨(RX2, TX2, 13), rfl, kM_X2_112, kI_X2_readStock, kS_X2_readStock, kZ_X2, kC_X2_readStock, ⟨by decide +kernel, by decide +kernel⟩, by decide +kernel⟩
theorem cm_X2_117 : CM RX2 117 2 0 mX2_readTrolley := ⟨(RX2, TX2, 13), rfl, kM_X2_117, kI_X2_readTrolley, kS_X2_readTrolley, kZ_X2, kC_X2_readTrolley, ⟨by decide +kernel, by decide +kernel⟩, by decide +kernel⟩
theorem cm_X2_122 : CM RX2 122 2 0 mX2_readJob := ⟨(RX2, TX2, 13), rfl, kM_X2_122, kI_X2_readJob, kS_X2_readJob, kZ_X2, kC_X2_readJob, ⟨by decide +kernel, by decide +kernel⟩, by decide +kernel⟩
theorem cm_X2_125 : CM RX2 125 2 2 mX2_takeNumber := ⟨(RX2, TX2, 13), rfl, kM_X2_125, kI_X2_takeNumber, kS_X2_takeNumber, kZ_X2, kC_X2_takeNumber, ⟨by decide +kernel, by decide +kernel⟩, by decide +kernel⟩
theorem cm_X2_131 : CM RX2 131 2 1 mX2_takeKeyword := ⟨(RX2, TX2, 13), rfl, kM_X2_131, kI_X2_takeKeyword, kS_X2_takeKeyword, kZ_X2, kC_X2_takeKeyword, ⟨by decide +kernel, by decide +kernel⟩, by decide +kernel⟩
theorem cm_X2_143 : CM RX2 143 2 1 mX2_refuseUnknownTrain := ⟨(RX2, TX2, 13), rfl, kM_X2_143, kI_X2_refuseUnknownTrain, kS_X2_refuseUnknownTrain, kZ_X2, kC_X2_refuseUnknownTrain, ⟨by decide +kernel, by decide +kernel⟩, by decide +kernel⟩
theorem cm_X2_146 : CSN RX2 146 2 mX7_doorIndex := ⟨⟨"TrolleyPlanner", by decide +kernel⟩, kT_X7_doorIndex, kZ_X7, kC_X7_doorIndex, ⟨by decide +kernel, by decide +kernel⟩, by decide +kernel⟩
theorem cm_X2_158 : CM RX2 158 2 0 mX2_takeName := ⟨(RX2, TX2, 13), rfl, kM_X2_158, kI_X2_takeName, kS_X2_takeName, kZ_X2, kC_X2_takeName, ⟨by decide +kernel, by decide +kernel⟩, by decide +kernel⟩
theorem cm_X2_161 : CM RX2 161 0 1 mX0_mealNamed := ⟨(RX0, TX0, 18), rfl, kM_X2_161, kI_X0_mealNamed, kS_X0_mealNamed, kZ_X0, kC_X0_mealNamed, ⟨by decide +kernel, by decide +kernel⟩, by decide +kernel⟩
theorem cm_X2_181 : CM RX2 181 2 0 mX2_namedMeal := ⟨(RX2, TX2, 13), rfl, kM_X2_181, kI_X2_namedMeal, kS_X2_namedMeal, kZ_X2, kC_X2_namedMeal, ⟨by decide +kernel, by decide +kernel⟩, by decide +kernel⟩
theorem cm_X2_185 : CSN RX2 185 2 mX7_stockIndex := ⟨⟨"TrolleyPlanner", by decide +kernel⟩, kT_X7_stockIndex, kZ_X7, kC_X7_stockIndex, ⟨by decide +kernel, by decide +kernel⟩, by decide +kernel⟩
theorem cm_X2_209 : CM RX2 209 6 1 mX6_jobsOf := ⟨(RX6, TX6, 7), rfl, kM_X2_209, kI_X6_jobsOf, kS_X6_jobsOf, kZ_X6, kC_X6_jobsOf, ⟨by decide +kernel, by decide +kernel⟩, by decide +kernel⟩
theorem cm_X2_213 : CM RX2 213 6 4 mX6_addLast := ⟨(RX6, TX6, 7), rfl, kM_X2_213, kI_X6_addLast, kS_X6_addLast, kZ_X6, kC_X6_addLast, ⟨by decide +kernel, by decide +kernel⟩, by decide +kernel⟩
theorem cm_X2_220 : CM RX2 220 2 0 mX2_isKeyword := ⟨(RX2, TX2, 13), rfl, kM_X2_220, kI_X2_isKeyword, kS_X2_isKeyword, kZ_X2, kC_X2_isKeyword, ⟨by decide +kernel, by decide +kernel⟩, by decide +kernel⟩
theorem cm_X2_228 : CM RX2 228 2 0 mX2_scanLetters := ⟨(RX2, TX2, 13), rfl, kM_X2_228, kI_X2_scanLetters, kS_X2_scanLetters, kZ_X2, kC_X2_scanLetters, ⟨by decide +kernel, by decide +kernel⟩, by decide +kernel⟩
theorem cm_X2_231 : CM RX2 231 2 0 mX2_scanDigits := ⟨(RX2, TX2, 13), rfl, kM_X2_231, kI_X2_scanDigits, kS_X2_scanDigits, kZ_X2, kC_X2_scanDigits, ⟨by decide +kernel, by decide +kernel⟩, by decide +kernel⟩
theorem cm_X3_60 : CSt RX3 60 2 mJ7_fill_53178 := ⟨kM_X3_60, kT_J7_fill_53178, kZ_J7, kC_J7_fill_53178, ⟨by decide +kernel, by decide +kernel⟩, by decide +kernel⟩
theorem cm_X3_75 : CM RX3 75 3 4 mX3_awaitStart := ⟨(RX3, TX3, 14), rfl, kM_X3_75, kI_X3_awaitStart, kS_X3_awaitStart, kZ_X3, kC_X3_awaitStart, ⟨by decide +kernel, by decide +kernel⟩, by decide +kernel⟩
theorem cm_X3_79 : CM RX3 79 3 1 mX3_nextTrolley := ⟨(RX3, TX3, 14), rfl, kM_X3_79, kI_X3_nextTrolley, kS_X3_nextTrolley, kZ_X3, kC_X3_nextTrolley, ⟨by decide +kernel, by decide +kernel⟩, by decide +kernel⟩
theorem cm_X3_83 : CM RX3 83 3 3 mX3_startJob := ⟨(RX3, TX3, 14), rfl, kM_X3_83, kI_X3_startJob, kS_X3_startJob, kZ_X3, kC_X3_startJob, ⟨by decide +kernel, by decide +kernel⟩, by decide +kernel⟩
theorem cm_X3_87 : CM RX3 87 3 3 mX3_reachDoor := ⟨(RX3, TX3, 14), rfl, kM_X3_87, kI_X3_reachDoor, kS_X3_reachDoor, kZ_X3, kC_X3_reachDoor, ⟨by decide +kernel, by decide +kernel⟩, by decide +kernel⟩
theorem cm_X3_90 : CM RX3 90 3 3 mX3_bringBack := ⟨(RX3, TX3, 14), rfl, kM_X3_90, kI_X3_bringBack, kS_X3_bringBack, kZ_X3, kC_X3_bringBack, ⟨by decide +kernel, by decide +kernel⟩, by decide +kernel⟩
theorem cm_X3_93 : CM RX3 93 6 2 mX6_jobFrom := ⟨(RX6, TX6, 7), rfl, kM_X3_93, kI_X6_jobFrom, kS_X6_jobFrom, kZ_X6, kC_X6_jobFrom, ⟨by decide +kernel, by decide +kernel⟩, by decide +kernel⟩
theorem cm_X3_103 : CSN RX3 103 2 mX7_stockIndex := ⟨⟨"TrolleyPlanner", by decide +kernel⟩, kT_X7_stockIndex, kZ_X7, kC_X7_stockIndex, ⟨by decide +kernel, by decide +kernel⟩, by decide +kernel⟩
theorem cm_X3_109 : CM RX3 109 0 2 mX0_mostMeals := ⟨(RX0, TX0, 18), rfl, kM_X3_109, kI_X0_mostMeals, kS_X0_mostMeals, kZ_X0, kC_X0_mostMeals, ⟨by decide +kernel, by decide +kernel⟩, by decide +kernel⟩
theorem cm_X3_120 : CM RX3 120 3 2 mX3_setNoUnloading := ⟨(RX3, TX3, 14), rfl, kM_X3_120, kI_X3_setNoUnloading, kS_X3_setNoUnloading, kZ_X3, kC_X3_setNoUnloading, ⟨by decide +kernel, by decide +kernel⟩, by decide +kernel⟩
theorem cm_X3_130 : CM RX3 130 0 3 mX0_walk := ⟨(RX0, TX0, 18), rfl, kM_X3_130, kI_X0_walk, kS_X0_walk, kZ_X0, kC_X0_walk, ⟨by decide +kernel, by decide +kernel⟩, by decide +kernel⟩
theorem cm_X3_134 : CM RX3 134 3 3 mX3_unload := ⟨(RX3, TX3, 14), rfl, kM_X3_134, kI_X3_unload, kS_X3_unload, kZ_X3, kC_X3_unload, ⟨by decide +kernel, by decide +kernel⟩, by decide +kernel⟩
theorem cm_X3_149 : CSN RX3 149 2 mX7_wholeParts := ⟨⟨"TrolleyPlanner", by decide +kernel⟩, kT_X7_wholeParts, kZ_X7, kC_X7_wholeParts, ⟨by decide +kernel, by decide +kernel⟩, by decide +kernel⟩
theorem cm_X3_158 : CM RX3 158 3 2 mX3_activity := ⟨(RX3, TX3, 14), rfl, kM_X3_158, kI_X3_activity, kS_X3_activity, kZ_X3, kC_X3_activity, ⟨by decide +kernel, by decide +kernel⟩, by decide +kernel⟩
theorem cm_X4_34 : CSN RX4 34 2 mX7_wholeParts := ⟨⟨"TrolleyPlanner", by decide +kernel⟩, kT_X7_wholeParts, kZ_X7, kC_X7_wholeParts, ⟨by decide +kernel, by decide +kernel⟩, by decide +kernel⟩
theorem cm_X4_38 : CM RX4 38 4 0 mX4_largestRest := ⟨(RX4, TX4, 5), rfl, kM_X4_38, kI_X4_largestRest, kS_X4_largestRest, kZ_X4, kC_X4_largestRest, ⟨by decide +kernel, by decide +kernel⟩, by decide +kernel⟩
theorem cm_X5_51 : CM RX5 51 5 4 mX5_studyJob := ⟨(RX5, TX5, 12), rfl, kM_X5_51, kI_X5_studyJob, kS_X5_studyJob, kZ_X5, kC_X5_studyJob, ⟨by decide +kernel, by decide +kernel⟩, by decide +kernel⟩
theorem cm_X5_56 : CM RX5 56 5 0 mX5_wholeSet := ⟨(RX5, TX5, 12), rfl, kM_X5_56, kI_X5_wholeSet, kS_X5_wholeSet, kZ_X5, kC_X5_wholeSet, ⟨by decide +kernel, by decide +kernel⟩, by decide +kernel⟩
theorem cm_X5_60 : CM RX5 60 5 1 mX5_latestBegin := ⟨(RX5, TX5, 12), rfl, kM_X5_60, kI_X5_latestBegin, kS_X5_latestBegin, kZ_X5, kC_X5_latestBegin, ⟨by decide +kernel, by decide +kernel⟩, by decide +kernel⟩
theorem cm_X5_70 : CM RX5 70 0 2 mX0_mostMeals := ⟨(RX0, TX0, 18), rfl, kM_X5_70, kI_X0_mostMeals, kS_X0_mostMeals, kZ_X0, kC_X0_mostMeals, ⟨by decide +kernel, by decide +kernel⟩, by decide +kernel⟩
theorem cm_X5_76 : CM RX5 76 0 3 mX0_walk := ⟨(RX0, TX0, 18), rfl, kM_X5_76, kI_X0_walk, kS_X0_walk, kZ_X0, kC_X0_walk, ⟨by decide +kernel, by decide +kernel⟩, by decide +kernel⟩
theorem cm_X5_88 : CM RX5 88 5 2 mX5_latestBeginWith := ⟨(RX5, TX5, 12), rfl, kM_X5_88, kI_X5_latestBeginWith, kS_X5_latestBeginWith, kZ_X5, kC_X5_latestBeginWith, ⟨by decide +kernel, by decide +kernel⟩, by decide +kernel⟩
theorem cm_X5_102 : CM RX5 102 5 4 mX5_study := ⟨(RX5, TX5, 12), rfl, kM_X5_102, kI_X5_study, kS_X5_study, kZ_X5, kC_X5_study, ⟨by decide +kernel, by decide +kernel⟩, by decide +kernel⟩
theorem cm_X5_108 : CM RX5 108 5 1 mX5_canDo := ⟨(RX5, TX5, 12), rfl, kM_X5_108, kI_X5_canDo, kS_X5_canDo, kZ_X5, kC_X5_canDo, ⟨by decide +kernel, by decide +kernel⟩, by decide +kernel⟩
theorem cm_X5_112 : CM RX5 112 5 1 mX5_mealsOf := ⟨(RX5, TX5, 12), rfl, kM_X5_112, kI_X5_mealsOf, kS_X5_mealsOf, kZ_X5, kC_X5_mealsOf, ⟨by decide +kernel, by decide +kernel⟩, by decide +kernel⟩
theorem cm_X5_115 : CM RX5 115 5 0 mX5_layOrder := ⟨(RX5, TX5, 12), rfl, kM_X5_115, kI_X5_layOrder, kS_X5_layOrder, kZ_X5, kC_X5_layOrder, ⟨by decide +kernel, by decide +kernel⟩, by decide +kernel⟩
theorem cm_X5_121 : CM RX5 121 5 2 mX5_firstThatFits := ⟨(RX5, TX5, 12), rfl, kM_X5_121, kI_X5_firstThatFits, kS_X5_firstThatFits, kZ_X5, kC_X5_firstThatFits, ⟨by decide +kernel, by decide +kernel⟩, by decide +kernel⟩
theorem cm_X6_34 : CSt RX6 34 2 mJ7_fill_53178 := ⟨kM_X6_34, kT_J7_fill_53178, kZ_J7, kC_J7_fill_53178, ⟨by decide +kernel, by decide +kernel⟩, by decide +kernel⟩
theorem cm_X6_46 : CM RX6 46 6 3 mX6_takeJob := ⟨(RX6, TX6, 7), rfl, kM_X6_46, kI_X6_takeJob, kS_X6_takeJob, kZ_X6, kC_X6_takeJob, ⟨by decide +kernel, by decide +kernel⟩, by decide +kernel⟩
theorem cm_X6_50 : CSt RX6 50 3 mX6_exchangeIn := ⟨kM_X6_50, kT_X6_exchangeIn, kZ_X6, kC_X6_exchangeIn, ⟨by decide +kernel, by decide +kernel⟩, by decide +kernel⟩
theorem cm_X7_11 : CNN RX7 11 mX2_init := ⟨⟨"TrolleyPlanner", by decide +kernel⟩, rfl, kI_X2_init, kZ_X2, kC_X2_init, ⟨by decide +kernel, by decide +kernel⟩, by decide +kernel, rfl⟩
theorem cm_X7_18 : CNN RX7 18 mX3_init := ⟨⟨"TrolleyPlanner", by decide +kernel⟩, rfl, kI_X3_init, kZ_X3, kC_X3_init, ⟨by decide +kernel, by decide +kernel⟩, by decide +kernel, rfl⟩
theorem cm_X7_28 : CNN RX7 28 mX6_init := ⟨⟨"TrolleyPlanner", by decide +kernel⟩, rfl, kI_X6_init, kZ_X6, kC_X6_init, ⟨by decide +kernel, by decide +kernel⟩, by decide +kernel, rfl⟩
theorem cm_X7_38 : CIn RX7 38 mX1_init := ⟨kM_X7_38, rfl, kI_X1_init, kZ_X1, kC_X1_init, ⟨by decide +kernel, by decide +kernel⟩, by decide +kernel, rfl⟩
theorem cm_X7_45 : CNN RX7 45 mX5_init := ⟨⟨"TrolleyPlanner", by decide +kernel⟩, rfl, kI_X5_init, kZ_X5, kC_X5_init, ⟨by decide +kernel, by decide +kernel⟩, by decide +kernel, rfl⟩
theorem cm_X7_52 : CNN RX7 52 mX4_init := ⟨⟨"TrolleyPlanner", by decide +kernel⟩, rfl, kI_X4_init, kZ_X4, kC_X4_init, ⟨by decide +kernel, by decide +kernel⟩, by decide +kernel, rfl⟩
theorem cm_X7_59 : CNN RX7 59 mX0_init := ⟨⟨"TrolleyPlanner", by decide +kernel⟩, rfl, kI_X0_init, kZ_X0, kC_X0_init, ⟨by decide +kernel, by decide +kernel⟩, by decide +kernel, rfl⟩
theorem cm_X7_72 : CM RX7 72 2 1 mX2_putFour := ⟨(RX2, TX2, 13), rfl, kM_X7_72, kI_X2_putFour, kS_X2_putFour, kZ_X2, kC_X2_putFour, ⟨by decide +kernel, by decide +kernel⟩, by decide +kernel⟩
theorem cm_X7_76 : CM RX7 76 7 1 mX7_fail := ⟨(RX7, TX7, 13), rfl, kM_X7_76, kI_X7_fail, kS_X7_fail, kZ_X7, kC_X7_fail, ⟨by decide +kernel, by decide +kernel⟩, by decide +kernel⟩
theorem cm_X7_80 : CM RX7 80 2 1 mX2_parse := ⟨(RX2, TX2, 13), rfl, kM_X7_80, kI_X2_parse, kS_X2_parse, kZ_X2, kC_X2_parse, ⟨by decide +kernel, by decide +kernel⟩, by decide +kernel⟩
theorem cm_X7_86 : CM RX7 86 7 0 mX7_takeParsedPlan := ⟨(RX7, TX7, 13), rfl, kM_X7_86, kI_X7_takeParsedPlan, kS_X7_takeParsedPlan, kZ_X7, kC_X7_takeParsedPlan, ⟨by decide +kernel, by decide +kernel⟩, by decide +kernel⟩
theorem cm_X7_92 : CM RX7 92 7 1 mX7_answer := ⟨(RX7, TX7, 13), rfl, kM_X7_92, kI_X7_answer, kS_X7_answer, kZ_X7, kC_X7_answer, ⟨by decide +kernel, by decide +kernel⟩, by decide +kernel⟩
theorem cm_X7_98 : CM RX7 98 7 1 mX7_isTrain := ⟨(RX7, TX7, 13), rfl, kM_X7_98, kI_X7_isTrain, kS_X7_isTrain, kZ_X7, kC_X7_isTrain, ⟨by decide +kernel, by decide +kernel⟩, by decide +kernel⟩
theorem cm_X7_119 : CM RX7 119 7 2 mX7_isStock := ⟨(RX7, TX7, 13), rfl, kM_X7_119, kI_X7_isStock, kS_X7_isStock, kZ_X7, kC_X7_isStock, ⟨by decide +kernel, by decide +kernel⟩, by decide +kernel⟩
theorem cm_X7_126 : CSt RX7 126 2 mX7_stockIndex := ⟨kM_X7_126, kT_X7_stockIndex, kZ_X7, kC_X7_stockIndex, ⟨by decide +kernel, by decide +kernel⟩, by decide +kernel⟩
theorem cm_X7_130 : CM RX7 130 7 3 mX7_isCarMeal := ⟨(RX7, TX7, 13), rfl, kM_X7_130, kI_X7_isCarMeal, kS_X7_isCarMeal, kZ_X7, kC_X7_isCarMeal, ⟨by decide +kernel, by decide +kernel⟩, by decide +kernel⟩
theorem cm_X7_134 : CSt RX7 134 2 mX7_doorIndex := ⟨kM_X7_134, kT_X7_doorIndex, kZ_X7, kC_X7_doorIndex, ⟨by decide +kernel, by decide +kernel⟩, by decide +kernel⟩
theorem cm_X7_137 : CM RX7 137 0 2 mX0_wanted := ⟨(RX0, TX0, 18), rfl, kM_X7_137, kI_X0_wanted, kS_X0_wanted, kZ_X0, kC_X0_wanted, ⟨by decide +kernel, by decide +kernel⟩, by decide +kernel⟩
theorem cm_X7_140 : CM RX7 140 7 1 mX7_isJob := ⟨(RX7, TX7, 13), rfl, kM_X7_140, kI_X7_isJob, kS_X7_isJob, kZ_X7, kC_X7_isJob, ⟨by decide +kernel, by decide +kernel⟩, by decide +kernel⟩
theorem cm_X7_164 : CM RX7 164 7 2 mX7_handedAt := ⟨(RX7, TX7, 13), rfl, kM_X7_164, kI_X7_handedAt, kS_X7_handedAt, kZ_X7, kC_X7_handedAt, ⟨by decide +kernel, by decide +kernel⟩, by decide +kernel⟩
theorem cm_X7_170 : CM RX7 170 7 1 mX7_isTrolley := ⟨(RX7, TX7, 13), rfl, kM_X7_170, kI_X7_isTrolley, kS_X7_isTrolley, kZ_X7, kC_X7_isTrolley, ⟨by decide +kernel, by decide +kernel⟩, by decide +kernel⟩
theorem cm_X7_182 : CM RX7 182 7 2 mX7_isCar := ⟨(RX7, TX7, 13), rfl, kM_X7_182, kI_X7_isCar, kS_X7_isCar, kZ_X7, kC_X7_isCar, ⟨by decide +kernel, by decide +kernel⟩, by decide +kernel⟩
theorem cm_X7_191 : CM RX7 191 3 3 mX3_jobAt := ⟨(RX3, TX3, 14), rfl, kM_X7_191, kI_X3_jobAt, kS_X3_jobAt, kZ_X3, kC_X3_jobAt, ⟨by decide +kernel, by decide +kernel⟩, by decide +kernel⟩
theorem cm_X7_195 : CM RX7 195 3 2 mX3_activity := ⟨(RX3, TX3, 14), rfl, kM_X7_195, kI_X3_activity, kS_X3_activity, kZ_X3, kC_X3_activity, ⟨by decide +kernel, by decide +kernel⟩, by decide +kernel⟩
theorem cm_X7_198 : CM RX7 198 3 4 mX3_mealsAboard := ⟨(RX3, TX3, 14), rfl, kM_X7_198, kI_X3_mealsAboard, kS_X3_mealsAboard, kZ_X3, kC_X3_mealsAboard, ⟨by decide +kernel, by decide +kernel⟩, by decide +kernel⟩
theorem cm_X7_202 : CM RX7 202 7 2 mX7_shareInTrain := ⟨(RX7, TX7, 13), rfl, kM_X7_202, kI_X7_shareInTrain, kS_X7_shareInTrain, kZ_X7, kC_X7_shareInTrain, ⟨by decide +kernel, by decide +kernel⟩, by decide +kernel⟩
theorem cm_X7_209 : CM RX7 209 7 1 mX7_isMeal := ⟨(RX7, TX7, 13), rfl, kM_X7_209, kI_X7_isMeal, kS_X7_isMeal, kZ_X7, kC_X7_isMeal, ⟨by decide +kernel, by decide +kernel⟩, by decide +kernel⟩
theorem cm_X7_212 : CM RX7 212 4 0 mX4_clear := ⟨(RX4, TX4, 5), rfl, kM_X7_212, kI_X4_clear, kS_X4_clear, kZ_X4, kC_X4_clear, ⟨by decide +kernel, by decide +kernel⟩, by decide +kernel⟩
theorem cm_X7_215 : CM RX7 215 7 2 mX7_addClaims := ⟨(RX7, TX7, 13), rfl, kM_X7_215, kI_X7_addClaims, kS_X7_addClaims, kZ_X7, kC_X7_addClaims, ⟨by decide +kernel, by decide +kernel⟩, by decide +kernel⟩
theorem cm_X7_218 : CM RX7 218 7 2 mX7_handedToTrain := ⟨(RX7, TX7, 13), rfl, kM_X7_218, kI_X7_handedToTrain, kS_X7_handedToTrain, kZ_X7, kC_X7_handedToTrain, ⟨by decide +kernel, by decide +kernel⟩, by decide +kernel⟩
theorem cm_X7_221 : CM RX7 221 4 1 mX4_shareOut := ⟨(RX4, TX4, 5), rfl, kM_X7_221, kI_X4_shareOut, kS_X4_shareOut, kZ_X4, kC_X4_shareOut, ⟨by decide +kernel, by decide +kernel⟩, by decide +kernel⟩
theorem cm_X7_224 : CM RX7 224 7 1 mX7_failLong := ⟨(RX7, TX7, 13), rfl, kM_X7_224, kI_X7_failLong, kS_X7_failLong, kZ_X7, kC_X7_failLong, ⟨by decide +kernel, by decide +kernel⟩, by decide +kernel⟩
theorem cm_X7_228 : CM RX7 228 7 3 mX7_lowestTerm := ⟨(RX7, TX7, 13), rfl, kM_X7_228, kI_X7_lowestTerm, kS_X7_lowestTerm, kZ_X7, kC_X7_lowestTerm, ⟨by decide +kernel, by decide +kernel⟩, by decide +kernel⟩
theorem cm_X7_232 : CM RX7 232 7 1 mX7_answerLong := ⟨(RX7, TX7, 13), rfl, kM_X7_232, kI_X7_answerLong, kS_X7_answerLong, kZ_X7, kC_X7_answerLong, ⟨by decide +kernel, by decide +kernel⟩, by decide +kernel⟩
theorem cm_X7_236 : CM RX7 236 7 4 mX7_compareCoverage := ⟨(RX7, TX7, 13), rfl, kM_X7_236, kI_X7_compareCoverage, kS_X7_compareCoverage, kZ_X7, kC_X7_compareCoverage, ⟨by decide +kernel, by decide +kernel⟩, by decide +kernel⟩
theorem cm_X7_240 : CM RX7 240 5 3 mX5_chooseBest := ⟨(RX5, TX5, 12), rfl, kM_X7_240, kI_X5_chooseBest, kS_X5_chooseBest, kZ_X5, kC_X5_chooseBest, ⟨by decide +kernel, by decide +kernel⟩, by decide +kernel⟩
theorem cm_X7_247 : CM RX7 247 5 1 mX5_mealsOf := ⟨(RX5, TX5, 12), rfl, kM_X7_247, kI_X5_mealsOf, kS_X5_mealsOf, kZ_X5, kC_X5_mealsOf, ⟨by decide +kernel, by decide +kernel⟩, by decide +kernel⟩
theorem cm_X7_256 : CM RX7 256 5 4 mX5_study := ⟨(RX5, TX5, 12), rfl, kM_X7_256, kI_X5_study, kS_X5_study, kZ_X5, kC_X5_study, ⟨by decide +kernel, by decide +kernel⟩, by decide +kernel⟩
theorem cm_X7_260 : CM RX7 260 5 0 mX5_wholeSet := ⟨(RX5, TX5, 12), rfl, kM_X7_260, kI_X5_wholeSet, kS_X5_wholeSet, kZ_X5, kC_X5_wholeSet, ⟨by decide +kernel, by decide +kernel⟩, by decide +kernel⟩
theorem cm_X7_264 : CM RX7 264 5 1 mX5_canDo := ⟨(RX5, TX5, 12), rfl, kM_X7_264, kI_X5_canDo, kS_X5_canDo, kZ_X5, kC_X5_canDo, ⟨by decide +kernel, by decide +kernel⟩, by decide +kernel⟩
theorem cm_X7_267 : CM RX7 267 6 1 mX6_copyFrom := ⟨(RX6, TX6, 7), rfl, kM_X7_267, kI_X6_copyFrom, kS_X6_copyFrom, kZ_X6, kC_X6_copyFrom, ⟨by decide +kernel, by decide +kernel⟩, by decide +kernel⟩
theorem cm_X7_271 : CM RX7 271 3 2 mX3_play := ⟨(RX3, TX3, 14), rfl, kM_X7_271, kI_X3_play, kS_X3_play, kZ_X3, kC_X3_play, ⟨by decide +kernel, by decide +kernel⟩, by decide +kernel⟩
theorem cm_X7_275 : CM RX7 275 3 2 mX3_leavesBehind := ⟨(RX3, TX3, 14), rfl, kM_X7_275, kI_X3_leavesBehind, kS_X3_leavesBehind, kZ_X3, kC_X3_leavesBehind, ⟨by decide +kernel, by decide +kernel⟩, by decide +kernel⟩
theorem cm_X7_279 : CM RX7 279 6 1 mX6_removeAt := ⟨(RX6, TX6, 7), rfl, kM_X7_279, kI_X6_removeAt, kS_X6_removeAt, kZ_X6, kC_X6_removeAt, ⟨by decide +kernel, by decide +kernel⟩, by decide +kernel⟩
theorem cm_X7_282 : CM RX7 282 7 0 mX7_rehearse := ⟨(RX7, TX7, 13), rfl, kM_X7_282, kI_X7_rehearse, kS_X7_rehearse, kZ_X7, kC_X7_rehearse, ⟨by decide +kernel, by decide +kernel⟩, by decide +kernel⟩
theorem cm_X7_285 : CM RX7 285 6 1 mX6_jobsOf := ⟨(RX6, TX6, 7), rfl, kM_X7_285, kI_X6_jobsOf, kS_X6_jobsOf, kZ_X6, kC_X6_jobsOf, ⟨by decide +kernel, by decide +kernel⟩, by decide +kernel⟩
theorem cm_X7_288 : CM RX7 288 6 2 mX6_exchange := ⟨(RX6, TX6, 7), rfl, kM_X7_288, kI_X6_exchange, kS_X6_exchange, kZ_X6, kC_X6_exchange, ⟨by decide +kernel, by decide +kernel⟩, by decide +kernel⟩
theorem cm_X7_291 : CSt RX7 291 1 mX7_isJobQuantity := ⟨kM_X7_291, kT_X7_isJobQuantity, kZ_X7, kC_X7_isJobQuantity, ⟨by decide +kernel, by decide +kernel⟩, by decide +kernel⟩
theorem cm_X7_294 : CM RX7 294 1 1 mX1_push := ⟨(RX1, TX1, 2), rfl, kM_X7_294, kI_X1_push, kS_X1_push, kZ_X1, kC_X1_push, ⟨by decide +kernel, by decide +kernel⟩, by decide +kernel⟩
theorem cm_X7_297 : CM RX7 297 6 4 mX6_addLast := ⟨(RX6, TX6, 7), rfl, kM_X7_297, kI_X6_addLast, kS_X6_addLast, kZ_X6, kC_X6_addLast, ⟨by decide +kernel, by decide +kernel⟩, by decide +kernel⟩
theorem cm_X7_301 : CM RX7 301 7 1 mX7_changed := ⟨(RX7, TX7, 13), rfl, kM_X7_301, kI_X7_changed, kS_X7_changed, kZ_X7, kC_X7_changed, ⟨by decide +kernel, by decide +kernel⟩, by decide +kernel⟩
theorem cm_X7_310 : CM RX7 310 6 3 mX6_takeJob := ⟨(RX6, TX6, 7), rfl, kM_X7_310, kI_X6_takeJob, kS_X6_takeJob, kZ_X6, kC_X6_takeJob, ⟨by decide +kernel, by decide +kernel⟩, by decide +kernel⟩
theorem cm_X7_318 : CM RX7 318 1 1 mX1_popInto := ⟨(RX1, TX1, 2), rfl, kM_X7_318, kI_X1_popInto, kS_X1_popInto, kZ_X1, kC_X1_popInto, ⟨by decide +kernel, by decide +kernel⟩, by decide +kernel⟩
theorem cm_X7_344 : CM RX7 344 4 1 mX4_addClaim := ⟨(RX4, TX4, 5), rfl, kM_X7_344, kI_X4_addClaim, kS_X4_addClaim, kZ_X4, kC_X4_addClaim, ⟨by decide +kernel, by decide +kernel⟩, by decide +kernel⟩
theorem cm_X7_347 : CM RX7 347 7 2 mX7_wantedByTrain := ⟨(RX7, TX7, 13), rfl, kM_X7_347, kI_X7_wantedByTrain, kS_X7_wantedByTrain, kZ_X7, kC_X7_wantedByTrain, ⟨by decide +kernel, by decide +kernel⟩, by decide +kernel⟩
theorem cm_X7_353 : CM RX7 353 7 2 mX7_coverageAbove := ⟨(RX7, TX7, 13), rfl, kM_X7_353, kI_X7_coverageAbove, kS_X7_coverageAbove, kZ_X7, kC_X7_coverageAbove, ⟨by decide +kernel, by decide +kernel⟩, by decide +kernel⟩
theorem cm_X7_356 : CM RX7 356 7 2 mX7_coverageBelow := ⟨(RX7, TX7, 13), rfl, kM_X7_356, kI_X7_coverageBelow, kS_X7_coverageBelow, kZ_X7, kC_X7_coverageBelow, ⟨by decide +kernel, by decide +kernel⟩, by decide +kernel⟩
theorem cm_X7_359 : CSt RX7 359 2 mX7_commonDivisor := ⟨kM_X7_359, kT_X7_commonDivisor, kZ_X7, kC_X7_commonDivisor, ⟨by decide +kernel, by decide +kernel⟩, by decide +kernel⟩
theorem cm_X7_362 : CSt RX7 362 2 mX7_wholeParts := ⟨kM_X7_362, kT_X7_wholeParts, kZ_X7, kC_X7_wholeParts, ⟨by decide +kernel, by decide +kernel⟩, by decide +kernel⟩
theorem cm_X7_365 : CSt RX7 365 2 mJ6_compare_7cf53 := ⟨kM_X7_365, kT_J6_compare_7cf53, kZ_J6, kC_J6_compare_7cf53, ⟨by decide +kernel, by decide +kernel⟩, by decide +kernel⟩
theorem cm_X8_115 : CM RX8 115 8 1 mX8_four := ⟨(RX8, TX8, 50), rfl, kM_X8_115, kI_X8_four, kS_X8_four, kZ_X8, kC_X8_four, ⟨by decide +kernel, by decide +kernel⟩, by decide +kernel⟩
theorem cm_X8_131 : CM RX8 131 8 1 mX8_byteAt := ⟨(RX8, TX8, 50), rfl, kM_X8_131, kI_X8_byteAt, kS_X8_byteAt, kZ_X8, kC_X8_byteAt, ⟨by decide +kernel, by decide +kernel⟩, by decide +kernel⟩
theorem cm_X8_142 : CSt RX8 142 3 mX8_in := ⟨kM_X8_142, kT_X8_in, kZ_X8, kC_X8_in, ⟨by decide +kernel, by decide +kernel⟩, by decide +kernel⟩
theorem cm_X8_165 : CM RX8 165 8 0 mX8_reserved := ⟨(RX8, TX8, 50), rfl, kM_X8_165, kI_X8_reserved, kS_X8_reserved, kZ_X8, kC_X8_reserved, ⟨by decide +kernel, by decide +kernel⟩, by decide +kernel⟩
theorem cm_X8_168 : CM RX8 168 8 1 mX8_report := ⟨(RX8, TX8, 50), rfl, kM_X8_168, kI_X8_report, kS_X8_report, kZ_X8, kC_X8_report, ⟨by decide +kernel, by decide +kernel⟩, by decide +kernel⟩
theorem cm_X8_171 : CM RX8 171 8 0 mX8_advance := ⟨(RX8, TX8, 50), rfl, kM_X8_171, kI_X8_advance, kS_X8_advance, kZ_X8, kC_X8_advance, ⟨by decide +kernel, by decide +kernel⟩, by decide +kernel⟩
theorem cm_X8_174 : CM RX8 174 8 2 mX8_peek := ⟨(RX8, TX8, 50), rfl, kM_X8_174, kI_X8_peek, kS_X8_peek, kZ_X8, kC_X8_peek, ⟨by decide +kernel, by decide +kernel⟩, by decide +kernel⟩
theorem cm_X8_178 : CM RX8 178 8 1 mX8_mealBy := ⟨(RX8, TX8, 50), rfl, kM_X8_178, kI_X8_mealBy, kS_X8_mealBy, kZ_X8, kC_X8_mealBy, ⟨by decide +kernel, by decide +kernel⟩, by decide +kernel⟩
theorem cm_X8_182 : CM RX8 182 8 1 mX8_keyword := ⟨(RX8, TX8, 50), rfl, kM_X8_182, kI_X8_keyword, kS_X8_keyword, kZ_X8, kC_X8_keyword, ⟨by decide +kernel, by decide +kernel⟩, by decide +kernel⟩
theorem cm_X8_185 : CM RX8 185 8 2 mX8_number := ⟨(RX8, TX8, 50), rfl, kM_X8_185, kI_X8_number, kS_X8_number, kZ_X8, kC_X8_number, ⟨by decide +kernel, by decide +kernel⟩, by decide +kernel⟩
theorem cm_X8_188 : CM RX8 188 8 0 mX8_peekTrain := ⟨(RX8, TX8, 50), rfl, kM_X8_188, kI_X8_peekTrain, kS_X8_peekTrain, kZ_X8, kC_X8_peekTrain, ⟨by decide +kernel, by decide +kernel⟩, by decide +kernel⟩
theorem cm_X8_191 : CM RX8 191 8 0 mX8_peekMeal := ⟨(RX8, TX8, 50), rfl, kM_X8_191, kI_X8_peekMeal, kS_X8_peekMeal, kZ_X8, kC_X8_peekMeal, ⟨by decide +kernel, by decide +kernel⟩, by decide +kernel⟩
theorem cm_X8_194 : CSt RX8 194 2 mX8_jobsOf := ⟨kM_X8_194, kT_X8_jobsOf, kZ_X8, kC_X8_jobsOf, ⟨by decide +kernel, by decide +kernel⟩, by decide +kernel⟩
theorem cm_X8_198 : CSt RX8 198 7 mX8_layJob := ⟨kM_X8_198, kT_X8_layJob, kZ_X8, kC_X8_layJob, ⟨by decide +kernel, by decide +kernel⟩, by decide +kernel⟩
theorem cm_X8_202 : CM RX8 202 8 0 mX8_readTrain := ⟨(RX8, TX8, 50), rfl, kM_X8_202, kI_X8_readTrain, kS_X8_readTrain, kZ_X8, kC_X8_readTrain, ⟨by decide +kernel, by decide +kernel⟩, by decide +kernel⟩
theorem cm_X8_205 : CM RX8 205 8 0 mX8_readCar := ⟨(RX8, TX8, 50), rfl, kM_X8_205, kI_X8_readCar, kS_X8_readCar, kZ_X8, kC_X8_readCar, ⟨by decide +kernel, by decide +kernel⟩, by decide +kernel⟩
theorem cm_X8_208 : CM RX8 208 8 0 mX8_readMeal := ⟨(RX8, TX8, 50), rfl, kM_X8_208, kI_X8_readMeal, kS_X8_readMeal, kZ_X8, kC_X8_readMeal, ⟨by decide +kernel, by decide +kernel⟩, by decide +kernel⟩
theorem cm_X8_211 : CM RX8 211 8 0 mX8_readKitchen := ⟨(RX8, TX8, 50), rfl, kM_X8_211, kI_X8_readKitchen, kS_X8_readKitchen, kZ_X8, kC_X8_readKitchen, ⟨by decide +kernel, by decide +kernel⟩, by decide +kernel⟩
theorem cm_X8_214 : CM RX8 214 8 0 mX8_readStock := ⟨(RX8, TX8, 50), rfl, kM_X8_214, kI_X8_readStock, kS_X8_readStock, kZ_X8, kC_X8_readStock, ⟨by decide +kernel, by decide +kernel⟩, by decide +kernel⟩
theorem cm_X8_217 : CM RX8 217 8 0 mX8_readTrolley := ⟨(RX8, TX8, 50), rfl, kM_X8_217, kI_X8_readTrolley, kS_X8_readTrolley, kZ_X8, kC_X8_readTrolley, ⟨by decide +kernel, by decide +kernel⟩, by decide +kernel⟩
theorem cm_X8_220 : CM RX8 220 8 0 mX8_readJob := ⟨(RX8, TX8, 50), rfl, kM_X8_220, kI_X8_readJob, kS_X8_readJob, kZ_X8, kC_X8_readJob, ⟨by decide +kernel, by decide +kernel⟩, by decide +kernel⟩
theorem cm_X8_223 : CM RX8 223 8 0 mX8_readLine := ⟨(RX8, TX8, 50), rfl, kM_X8_223, kI_X8_readLine, kS_X8_readLine, kZ_X8, kC_X8_readLine, ⟨by decide +kernel, by decide +kernel⟩, by decide +kernel⟩
theorem cm_X8_226 : CM RX8 226 8 1 mX8_failed := ⟨(RX8, TX8, 50), rfl, kM_X8_226, kI_X8_failed, kS_X8_failed, kZ_X8, kC_X8_failed, ⟨by decide +kernel, by decide +kernel⟩, by decide +kernel⟩
theorem cm_X8_229 : CM RX8 229 8 0 mX8_readText := ⟨(RX8, TX8, 50), rfl, kM_X8_229, kI_X8_readText, kS_X8_readText, kZ_X8, kC_X8_readText, ⟨by decide +kernel, by decide +kernel⟩, by decide +kernel⟩
theorem cm_X8_232 : CSt RX8 232 4 mX8_copy := ⟨kM_X8_232, kT_X8_copy, kZ_X8, kC_X8_copy, ⟨by decide +kernel, by decide +kernel⟩, by decide +kernel⟩
theorem cm_X8_246 : CM RX8 246 8 1 mX8_done := ⟨(RX8, TX8, 50), rfl, kM_X8_246, kI_X8_done, kS_X8_done, kZ_X8, kC_X8_done, ⟨by decide +kernel, by decide +kernel⟩, by decide +kernel⟩
theorem cm_X8_249 : CM RX8 249 8 1 mX8_isTrainNow := ⟨(RX8, TX8, 50), rfl, kM_X8_249, kI_X8_isTrainNow, kS_X8_isTrainNow, kZ_X8, kC_X8_isTrainNow, ⟨by decide +kernel, by decide +kernel⟩, by decide +kernel⟩
theorem cm_X8_253 : CM RX8 253 8 2 mX8_tell := ⟨(RX8, TX8, 50), rfl, kM_X8_253, kI_X8_tell, kS_X8_tell, kZ_X8, kC_X8_tell, ⟨by decide +kernel, by decide +kernel⟩, by decide +kernel⟩
theorem cm_X8_257 : CM RX8 257 8 1 mX8_isKitchen := ⟨(RX8, TX8, 50), rfl, kM_X8_257, kI_X8_isKitchen, kS_X8_isKitchen, kZ_X8, kC_X8_isKitchen, ⟨by decide +kernel, by decide +kernel⟩, by decide +kernel⟩
theorem cm_X8_260 : CM RX8 260 8 1 mX8_isMeal := ⟨(RX8, TX8, 50), rfl, kM_X8_260, kI_X8_isMeal, kS_X8_isMeal, kZ_X8, kC_X8_isMeal, ⟨by decide +kernel, by decide +kernel⟩, by decide +kernel⟩
theorem cm_X8_263 : CM RX8 263 8 3 mX8_demandOf := ⟨(RX8, TX8, 50), rfl, kM_X8_263, kI_X8_demandOf, kS_X8_demandOf, kZ_X8, kC_X8_demandOf, ⟨by decide +kernel, by decide +kernel⟩, by decide +kernel⟩
theorem cm_X8_267 : CM RX8 267 8 2 mX8_isCar := ⟨(RX8, TX8, 50), rfl, kM_X8_267, kI_X8_isCar, kS_X8_isCar, kZ_X8, kC_X8_isCar, ⟨by decide +kernel, by decide +kernel⟩, by decide +kernel⟩
theorem cm_X8_271 : CM RX8 271 8 1 mX8_isJob := ⟨(RX8, TX8, 50), rfl, kM_X8_271, kI_X8_isJob, kS_X8_isJob, kZ_X8, kC_X8_isJob, ⟨by decide +kernel, by decide +kernel⟩, by decide +kernel⟩
theorem cm_X8_274 : CM RX8 274 8 2 mX8_job := ⟨(RX8, TX8, 50), rfl, kM_X8_274, kI_X8_job, kS_X8_job, kZ_X8, kC_X8_job, ⟨by decide +kernel, by decide +kernel⟩, by decide +kernel⟩
theorem cm_X8_277 : CM RX8 277 8 2 mX8_trolley := ⟨(RX8, TX8, 50), rfl, kM_X8_277, kI_X8_trolley, kS_X8_trolley, kZ_X8, kC_X8_trolley, ⟨by decide +kernel, by decide +kernel⟩, by decide +kernel⟩
theorem cm_X8_285 : CSt RX8 285 2 mX8_ceil := ⟨kM_X8_285, kT_X8_ceil, kZ_X8, kC_X8_ceil, ⟨by decide +kernel, by decide +kernel⟩, by decide +kernel⟩
theorem cm_X8_291 : CM RX8 291 8 3 mX8_nextJob := ⟨(RX8, TX8, 50), rfl, kM_X8_291, kI_X8_nextJob, kS_X8_nextJob, kZ_X8, kC_X8_nextJob, ⟨by decide +kernel, by decide +kernel⟩, by decide +kernel⟩
theorem cm_X8_294 : CM RX8 294 8 1 mX8_walkOf := ⟨(RX8, TX8, 50), rfl, kM_X8_294, kI_X8_walkOf, kS_X8_walkOf, kZ_X8, kC_X8_walkOf, ⟨by decide +kernel, by decide +kernel⟩, by decide +kernel⟩
theorem cm_X8_300 : CM RX8 300 8 0 mX8_first := ⟨(RX8, TX8, 50), rfl, kM_X8_300, kI_X8_first, kS_X8_first, kZ_X8, kC_X8_first, ⟨by decide +kernel, by decide +kernel⟩, by decide +kernel⟩
theorem cm_X8_303 : CM RX8 303 8 1 mX8_bringsBack := ⟨(RX8, TX8, 50), rfl, kM_X8_303, kI_X8_bringsBack, kS_X8_bringsBack, kZ_X8, kC_X8_bringsBack, ⟨by decide +kernel, by decide +kernel⟩, by decide +kernel⟩
theorem cm_X8_306 : CM RX8 306 8 2 mX8_reaches := ⟨(RX8, TX8, 50), rfl, kM_X8_306, kI_X8_reaches, kS_X8_reaches, kZ_X8, kC_X8_reaches, ⟨by decide +kernel, by decide +kernel⟩, by decide +kernel⟩
theorem cm_X8_310 : CM RX8 310 8 2 mX8_starts := ⟨(RX8, TX8, 50), rfl, kM_X8_310, kI_X8_starts, kS_X8_starts, kZ_X8, kC_X8_starts, ⟨by decide +kernel, by decide +kernel⟩, by decide +kernel⟩
theorem cm_X8_314 : CM RX8 314 8 2 mX8_go := ⟨(RX8, TX8, 50), rfl, kM_X8_314, kI_X8_go, kS_X8_go, kZ_X8, kC_X8_go, ⟨by decide +kernel, by decide +kernel⟩, by decide +kernel⟩
theorem cm_X8_317 : CM RX8 317 8 0 mX8_goAll := ⟨(RX8, TX8, 50), rfl, kM_X8_317, kI_X8_goAll, kS_X8_goAll, kZ_X8, kC_X8_goAll, ⟨by decide +kernel, by decide +kernel⟩, by decide +kernel⟩
theorem cm_X8_320 : CM RX8 320 8 1 mX8_goesFor := ⟨(RX8, TX8, 50), rfl, kM_X8_320, kI_X8_goesFor, kS_X8_goesFor, kZ_X8, kC_X8_goesFor, ⟨by decide +kernel, by decide +kernel⟩, by decide +kernel⟩
theorem cm_X8_324 : CM RX8 324 8 3 mX8_deliveredTo := ⟨(RX8, TX8, 50), rfl, kM_X8_324, kI_X8_deliveredTo, kS_X8_deliveredTo, kZ_X8, kC_X8_deliveredTo, ⟨by decide +kernel, by decide +kernel⟩, by decide +kernel⟩
theorem cm_X8_327 : CM RX8 327 8 0 mX8_total := ⟨(RX8, TX8, 50), rfl, kM_X8_327, kI_X8_total, kS_X8_total, kZ_X8, kC_X8_total, ⟨by decide +kernel, by decide +kernel⟩, by decide +kernel⟩
theorem cm_X8_330 : CM RX8 330 8 1 mX8_isTrolley := ⟨(RX8, TX8, 50), rfl, kM_X8_330, kI_X8_isTrolley, kS_X8_isTrolley, kZ_X8, kC_X8_isTrolley, ⟨by decide +kernel, by decide +kernel⟩, by decide +kernel⟩
theorem cm_X8_339 : CM RX8 339 8 4 mX8_isDoing := ⟨(RX8, TX8, 50), rfl, kM_X8_339, kI_X8_isDoing, kS_X8_isDoing, kZ_X8, kC_X8_isDoing, ⟨by decide +kernel, by decide +kernel⟩, by decide +kernel⟩
theorem cm_X8_343 : CM RX8 343 8 2 mX8_findDoing := ⟨(RX8, TX8, 50), rfl, kM_X8_343, kI_X8_findDoing, kS_X8_findDoing, kZ_X8, kC_X8_findDoing, ⟨by decide +kernel, by decide +kernel⟩, by decide +kernel⟩
theorem cm_X8_346 : CM RX8 346 8 2 mX8_deliveredToTrain := ⟨(RX8, TX8, 50), rfl, kM_X8_346, kI_X8_deliveredToTrain, kS_X8_deliveredToTrain, kZ_X8, kC_X8_deliveredToTrain, ⟨by decide +kernel, by decide +kernel⟩, by decide +kernel⟩
theorem cm_X8_349 : CM RX8 349 8 2 mX8_demandOfTrain := ⟨(RX8, TX8, 50), rfl, kM_X8_349, kI_X8_demandOfTrain, kS_X8_demandOfTrain, kZ_X8, kC_X8_demandOfTrain, ⟨by decide +kernel, by decide +kernel⟩, by decide +kernel⟩
theorem cm_X8_352 : CM RX8 352 8 1 mX8_layBoth := ⟨(RX8, TX8, 50), rfl, kM_X8_352, kI_X8_layBoth, kS_X8_layBoth, kZ_X8, kC_X8_layBoth, ⟨by decide +kernel, by decide +kernel⟩, by decide +kernel⟩
theorem cm_X8_355 : CM RX8 355 8 2 mX8_layShares := ⟨(RX8, TX8, 50), rfl, kM_X8_355, kI_X8_layShares, kS_X8_layShares, kZ_X8, kC_X8_layShares, ⟨by decide +kernel, by decide +kernel⟩, by decide +kernel⟩
theorem cm_X8_364 : CM RX8 364 8 1 mX8_failedLong := ⟨(RX8, TX8, 50), rfl, kM_X8_364, kI_X8_failedLong, kS_X8_failedLong, kZ_X8, kC_X8_failedLong, ⟨by decide +kernel, by decide +kernel⟩, by decide +kernel⟩
theorem cm_X8_368 : CM RX8 368 8 2 mX8_layCoverage := ⟨(RX8, TX8, 50), rfl, kM_X8_368, kI_X8_layCoverage, kS_X8_layCoverage, kZ_X8, kC_X8_layCoverage, ⟨by decide +kernel, by decide +kernel⟩, by decide +kernel⟩
theorem cm_X8_371 : CM RX8 371 8 1 mX8_carriedBy := ⟨(RX8, TX8, 50), rfl, kM_X8_371, kI_X8_carriedBy, kS_X8_carriedBy, kZ_X8, kC_X8_carriedBy, ⟨by decide +kernel, by decide +kernel⟩, by decide +kernel⟩
theorem cm_X8_377 : CM RX8 377 8 2 mX8_endOf := ⟨(RX8, TX8, 50), rfl, kM_X8_377, kI_X8_endOf, kS_X8_endOf, kZ_X8, kC_X8_endOf, ⟨by decide +kernel, by decide +kernel⟩, by decide +kernel⟩
theorem cm_X8_380 : CM RX8 380 8 1 mX8_layOwn := ⟨(RX8, TX8, 50), rfl, kM_X8_380, kI_X8_layOwn, kS_X8_layOwn, kZ_X8, kC_X8_layOwn, ⟨by decide +kernel, by decide +kernel⟩, by decide +kernel⟩
theorem cm_X8_383 : CM RX8 383 8 1 mX8_layEnds := ⟨(RX8, TX8, 50), rfl, kM_X8_383, kI_X8_layEnds, kS_X8_layEnds, kZ_X8, kC_X8_layEnds, ⟨by decide +kernel, by decide +kernel⟩, by decide +kernel⟩
theorem cm_X8_389 : CM RX8 389 8 1 mX8_bestOf := ⟨(RX8, TX8, 50), rfl, kM_X8_389, kI_X8_bestOf, kS_X8_bestOf, kZ_X8, kC_X8_bestOf, ⟨by decide +kernel, by decide +kernel⟩, by decide +kernel⟩
theorem cm_X8_395 : CM RX8 395 8 1 mX8_layOrder := ⟨(RX8, TX8, 50), rfl, kM_X8_395, kI_X8_layOrder, kS_X8_layOrder, kZ_X8, kC_X8_layOrder, ⟨by decide +kernel, by decide +kernel⟩, by decide +kernel⟩
theorem cm_X8_398 : CM RX8 398 8 1 mX8_leavesNone := ⟨(RX8, TX8, 50), rfl, kM_X8_398, kI_X8_leavesNone, kS_X8_leavesNone, kZ_X8, kC_X8_leavesNone, ⟨by decide +kernel, by decide +kernel⟩, by decide +kernel⟩
theorem cm_X8_401 : CM RX8 401 8 2 mX8_swap := ⟨(RX8, TX8, 50), rfl, kM_X8_401, kI_X8_swap, kS_X8_swap, kZ_X8, kC_X8_swap, ⟨by decide +kernel, by decide +kernel⟩, by decide +kernel⟩
theorem cm_X8_404 : CM RX8 404 8 0 mX8_remember := ⟨(RX8, TX8, 50), rfl, kM_X8_404, kI_X8_remember, kS_X8_remember, kZ_X8, kC_X8_remember, ⟨by decide +kernel, by decide +kernel⟩, by decide +kernel⟩
theorem cm_X8_407 : CM RX8 407 8 1 mX8_dropJob := ⟨(RX8, TX8, 50), rfl, kM_X8_407, kI_X8_dropJob, kS_X8_dropJob, kZ_X8, kC_X8_dropJob, ⟨by decide +kernel, by decide +kernel⟩, by decide +kernel⟩
theorem cm_X8_410 : CM RX8 410 8 2 mX8_set := ⟨(RX8, TX8, 50), rfl, kM_X8_410, kI_X8_set, kS_X8_set, kZ_X8, kC_X8_set, ⟨by decide +kernel, by decide +kernel⟩, by decide +kernel⟩
