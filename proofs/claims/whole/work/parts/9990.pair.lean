/-! ===== class and reference answer alike: every call ===== -/
theorem pr_parseError : PAIR mX7_parseError mX8_parseError [] := fun σ hS => ⟨_, _, fun _ _ h => c_parseError h, fun _ _ h => q_parseError h, hS⟩
theorem pr_errorPosition : PAIR mX7_errorPosition mX8_errorPosition [] := fun σ hS => ⟨_, _, fun _ _ h => c_errorPosition h, fun _ _ h => q_errorPosition h, hS⟩
theorem pr_buffered : PAIR mX7_buffered mX8_buffered [] := fun σ hS => ⟨_, _, fun _ _ h => c_buffered h, fun _ _ h => q_buffered h, hS⟩
theorem pr_carCount {a : Int} : PAIR mX7_carCount mX8_carCount [qI a] := fun σ hS => ⟨_, _, fun _ _ h => c_carCount h hS, fun _ _ h => q_carCount h hS, hS.e⟩
theorem pr_mealCount : PAIR mX7_mealCount mX8_mealCount [] := fun σ hS => ⟨_, _, fun _ _ h => c_mealCount h hS, fun _ _ h => q_mealCount h hS, hS.e⟩
theorem pr_trolleyCount : PAIR mX7_trolleyCount mX8_trolleyCount [] := fun σ hS => ⟨_, _, fun _ _ h => c_trolleyCount h hS, fun _ _ h => q_trolleyCount h hS, hS.e⟩
theorem pr_jobCount : PAIR mX7_jobCount mX8_jobCount [] := fun σ hS => ⟨_, _, fun _ _ h => c_jobCount h hS, fun _ _ h => q_jobCount h hS, hS.e⟩
theorem pr_departure {a : Int} : PAIR mX7_departure mX8_departure [qI a] := fun σ hS => ⟨_, _, fun _ _ h => c_departure h hS, fun _ _ h => q_departure h hS, hS.e⟩
theorem pr_stock {a b : Int} : PAIR mX7_stock mX8_stock [qI a, qI b] := fun σ hS => ⟨_, _, fun _ _ h => c_stock h hS, fun _ _ h => q_stock h hS, hS.e⟩
theorem pr_demand {a b c : Int} : PAIR mX7_demand mX8_demand [qI a, qI b, qI c] := fun σ hS => ⟨_, _, fun _ _ h => c_demand h hS, fun _ _ h => q_demand h hS, hS.e⟩
theorem pr_jobTrolley {a : Int} : PAIR mX7_jobTrolley mX8_jobTrolley [qI a] := fun σ hS => ⟨_, _, fun _ _ h => c_jobTrolley h hS, fun _ _ h => q_jobTrolley h hS, hS.e⟩
theorem pr_jobQuantity {a : Int} : PAIR mX7_jobQuantity mX8_jobQuantity [qI a] := fun σ hS => ⟨_, _, fun _ _ h => c_jobQuantity h hS, fun _ _ h => q_jobQuantity h hS, hS.e⟩
theorem pr_startTime {a : Int} : PAIR mX7_startTime mX8_startTime [qI a] := fun σ hS => ⟨_, _, fun _ _ h => c_startTime h hS, fun _ _ h => q_startTime h hS, hS.e⟩
theorem pr_loaded {a : Int} : PAIR mX7_loaded mX8_loaded [qI a] := fun σ hS => ⟨_, _, fun _ _ h => c_loaded h hS, fun _ _ h => q_loaded h hS, hS.e⟩
theorem pr_unloaded {a : Int} : PAIR mX7_unloaded mX8_unloaded [qI a] := fun σ hS => ⟨_, _, fun _ _ h => c_unloaded h hS, fun _ _ h => q_unloaded h hS, hS.e⟩
theorem pr_unloadTime {a : Int} : PAIR mX7_unloadTime mX8_unloadTime [qI a] := fun σ hS => ⟨_, _, fun _ _ h => c_unloadTime h hS, fun _ _ h => q_unloadTime h hS, hS.e⟩
theorem pr_finishTime {a : Int} : PAIR mX7_finishTime mX8_finishTime [qI a] := fun σ hS => ⟨_, _, fun _ _ h => c_finishTime h hS, fun _ _ h => q_finishTime h hS, hS.e⟩
theorem pr_delivered {a b c : Int} : PAIR mX7_delivered mX8_delivered [qI a, qI b, qI c] := fun σ hS => ⟨_, _, fun _ _ h => c_delivered h hS, fun _ _ h => q_delivered h hS, hS.e⟩
theorem pr_deliveredTotal : PAIR mX7_deliveredTotal mX8_deliveredTotal [] := fun σ hS => ⟨_, _, fun _ _ h => c_deliveredTotal h hS, fun _ _ h => q_deliveredTotal h hS, hS.e⟩
theorem pr_leftBehind {a : Int} : PAIR mX7_leftBehind mX8_leftBehind [qI a] := fun σ hS => ⟨_, _, fun _ _ h => c_leftBehind h hS, fun _ _ h => q_leftBehind h hS, hS.e⟩
theorem pr_finalStock {a b : Int} : PAIR mX7_finalStock mX8_finalStock [qI a, qI b] := fun σ hS => ⟨_, _, fun _ _ h => c_finalStock h hS, fun _ _ h => q_finalStock h hS, hS.e⟩
theorem pr_shortage {a b c : Int} : PAIR mX7_shortage mX8_shortage [qI a, qI b, qI c] := fun σ hS => ⟨_, _, fun _ _ h => c_shortage h hS, fun _ _ h => q_shortage h hS, hS.e⟩
theorem pr_longestWait {a : Int} : PAIR mX7_longestWait mX8_longestWait [qI a] := fun σ hS => ⟨_, _, fun _ _ h => c_longestWait h hS, fun _ _ h => q_longestWait h hS, hS.e⟩
theorem pr_doorBusy {a b : Int} : PAIR mX7_doorBusy mX8_doorBusy [qI a, qI b] := fun σ hS => ⟨_, _, fun _ _ h => c_doorBusy h hS, fun _ _ h => q_doorBusy h hS, hS.e⟩
theorem pr_stateAt {a b : Int} : PAIR mX7_stateAt mX8_stateAt [qI a, qI b] := fun σ hS => ⟨_, _, fun _ _ h => c_stateAt h hS, fun _ _ h => q_stateAt h hS, hS.e⟩
theorem pr_mealsOn {a b : Int} : PAIR mX7_mealsOn mX8_mealsOn [qI a, qI b] := fun σ hS => ⟨_, _, fun _ _ h => c_mealsOn h hS, fun _ _ h => q_mealsOn h hS, hS.e⟩
theorem pr_share {a b c : Int} : PAIR mX7_share mX8_share [qI a, qI b, qI c] := fun σ hS => ⟨_, _, fun _ _ h => c_share h hS, fun _ _ h => q_share h hS, hS.e⟩
theorem pr_carried {a b : Int} : PAIR mX7_carried mX8_carried [qI a, qI b] := fun σ hS => ⟨_, _, fun _ _ h => c_carried h hS, fun _ _ h => q_carried h hS, hS.e⟩
theorem pr_jointShare {a b c : Int} : PAIR mX7_jointShare mX8_jointShare [qI a, qI b, qI c] := fun σ hS => ⟨_, _, fun _ _ h => c_jointShare h hS, fun _ _ h => q_jointShare h hS, hS.e⟩
theorem pr_coverage {a b c : Int} : PAIR mX7_coverage mX8_coverage [qI a, qI b, qI c] := fun σ hS => ⟨_, _, fun _ _ h => c_coverage h hS, fun _ _ h => q_coverage h hS, hS.e⟩
theorem pr_leastCoverage {a b : Int} : PAIR mX7_leastCoverage mX8_leastCoverage [qI a, qI b] := fun σ hS => ⟨_, _, fun _ _ h => c_leastCoverage h hS, fun _ _ h => q_leastCoverage h hS, hS.e⟩
theorem pr_betterServed {a : Int} : PAIR mX7_betterServed mX8_betterServed [qI a] := fun σ hS => ⟨_, _, fun _ _ h => c_betterServed h hS, fun _ _ h => q_betterServed h hS, hS.e⟩
theorem pr_bestSet {a : Int} : PAIR mX7_bestSet mX8_bestSet [qI a] := fun σ hS => ⟨_, _, fun _ _ h => c_bestSet h hS, fun _ _ h => q_bestSet h hS, hS.e⟩
theorem pr_bestMeals {a : Int} : PAIR mX7_bestMeals mX8_bestMeals [qI a] := fun σ hS => ⟨_, _, fun _ _ h => c_bestMeals h hS, fun _ _ h => q_bestMeals h hS, hS.e⟩
theorem pr_bestOrder {a b : Int} : PAIR mX7_bestOrder mX8_bestOrder [qI a, qI b] := fun σ hS => ⟨_, _, fun _ _ h => c_bestOrder h hS, fun _ _ h => q_bestOrder h hS, hS.e⟩
theorem pr_leastSpeed {a : Int} : PAIR mX7_leastSpeed mX8_leastSpeed [qI a] := fun σ hS => ⟨_, _, fun _ _ h => c_leastSpeed h hS, fun _ _ h => q_leastSpeed h hS, hS.e⟩
theorem pr_neededDelay {a : Int} : PAIR mX7_neededDelay mX8_neededDelay [qI a] := fun σ hS => ⟨_, _, fun _ _ h => c_neededDelay h hS, fun _ _ h => q_neededDelay h hS, hS.e⟩
theorem pr_deliveredWithout {a : Int} : PAIR mX7_deliveredWithout mX8_deliveredWithout [qI a] := fun σ hS => ⟨_, _, fun _ _ h => c_deliveredWithout h hS, fun _ _ h => q_deliveredWithout h hS, hS.e⟩
theorem pr_worstJob : PAIR mX7_worstJob mX8_worstJob [] := fun σ hS => ⟨_, _, fun _ _ h => c_worstJob h hS, fun _ _ h => q_worstJob h hS, hS.e⟩
theorem pr_bestTrolley {a : Int} : PAIR mX7_bestTrolley mX8_bestTrolley [qI a] := fun σ hS => ⟨_, _, fun _ _ h => c_bestTrolley h hS, fun _ _ h => q_bestTrolley h hS, hS.e⟩
theorem pr_bestSwap : PAIR mX7_bestSwap mX8_bestSwap [] := fun σ hS => ⟨_, _, fun _ _ h => c_bestSwap h hS, fun _ _ h => q_bestSwap h hS, hS.e⟩
theorem pr_error : PAIR mX7_error mX8_error [] := fun σ hS => ⟨_, _, fun _ _ h => c_error h, fun _ _ h => q_error h, hS⟩
