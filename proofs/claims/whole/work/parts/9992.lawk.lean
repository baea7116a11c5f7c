/-! ===== the law's cases ===== -/
theorem cmL_19 : CM RL 19 7 5 mX7_append := ⟨(RX7, TX7, 13), rfl, kM_L_19, kI_X7_append, kS_X7_append, kZ_X7, kC_X7_append, ⟨by decide +kernel, by decide +kernel⟩, by decide +kernel⟩
theorem cmL_23 : CM RL 23 8 5 mX8_append := ⟨(RX8, TX8, 50), rfl, kM_L_23, kI_X8_append, kS_X8_append, kZ_X8, kC_X8_append, ⟨by decide +kernel, by decide +kernel⟩, by decide +kernel⟩
theorem cmL_24 : CM RL 24 7 1 mX7_load := ⟨(RX7, TX7, 13), rfl, kM_L_24, kI_X7_load, kS_X7_load, kZ_X7, kC_X7_load, ⟨by decide +kernel, by decide +kernel⟩, by decide +kernel⟩
theorem cmL_27 : CM RL 27 8 1 mX8_load := ⟨(RX8, TX8, 50), rfl, kM_L_27, kI_X8_load, kS_X8_load, kZ_X8, kC_X8_load, ⟨by decide +kernel, by decide +kernel⟩, by decide +kernel⟩
theorem cmL_28 : CM RL 28 7 0 mX7_parseError := ⟨(RX7, TX7, 13), rfl, kM_L_28, kI_X7_parseError, kS_X7_parseError, kZ_X7, kC_X7_parseError, ⟨by decide +kernel, by decide +kernel⟩, by decide +kernel⟩
theorem cmL_32 : CM RL 32 8 0 mX8_parseError := ⟨(RX8, TX8, 50), rfl, kM_L_32, kI_X8_parseError, kS_X8_parseError, kZ_X8, kC_X8_parseError, ⟨by decide +kernel, by decide +kernel⟩, by decide +kernel⟩
theorem cmL_33 : CM RL 33 7 0 mX7_errorPosition := ⟨(RX7, TX7, 13), rfl, kM_L_33, kI_X7_errorPosition, kS_X7_errorPosition, kZ_X7, kC_X7_errorPosition, ⟨by decide +kernel, by decide +kernel⟩, by decide +kernel⟩
theorem cmL_36 : CM RL 36 8 0 mX8_errorPosition := ⟨(RX8, TX8, 50), rfl, kM_L_36, kI_X8_errorPosition, kS_X8_errorPosition, kZ_X8, kC_X8_errorPosition, ⟨by decide +kernel, by decide +kernel⟩, by decide +kernel⟩
theorem cmL_37 : CM RL 37 7 0 mX7_buffered := ⟨(RX7, TX7, 13), rfl, kM_L_37, kI_X7_buffered, kS_X7_buffered, kZ_X7, kC_X7_buffered, ⟨by decide +kernel, by decide +kernel⟩, by decide +kernel⟩
theorem cmL_40 : CM RL 40 8 0 mX8_buffered := ⟨(RX8, TX8, 50), rfl, kM_L_40, kI_X8_buffered, kS_X8_buffered, kZ_X8, kC_X8_buffered, ⟨by decide +kernel, by decide +kernel⟩, by decide +kernel⟩
theorem cmL_41 : CM RL 41 7 1 mX7_carCount := ⟨(RX7, TX7, 13), rfl, kM_L_41, kI_X7_carCount, kS_X7_carCount, kZ_X7, kC_X7_carCount, ⟨by decide +kernel, by decide +kernel⟩, by decide +kernel⟩
theorem cmL_44 : CM RL 44 8 1 mX8_carCount := ⟨(RX8, TX8, 50), rfl, kM_L_44, kI_X8_carCount, kS_X8_carCount, kZ_X8, kC_X8_carCount, ⟨by decide +kernel, by decide +kernel⟩, by decide +kernel⟩
theorem cmL_45 : CM RL 45 7 0 mX7_mealCount := ⟨(RX7, TX7, 13), rfl, kM_L_45, kI_X7_mealCount, kS_X7_mealCount, kZ_X7, kC_X7_mealCount, ⟨by decide +kernel, by decide +kernel⟩, by decide +kernel⟩
theorem cmL_48 : CM RL 48 8 0 mX8_mealCount := ⟨(RX8, TX8, 50), rfl, kM_L_48, kI_X8_mealCount, kS_X8_mealCount, kZ_X8, kC_X8_mealCount, ⟨by decide +kernel, by decide +kernel⟩, by decide +kernel⟩
theorem cmL_49 : CM RL 49 7 0 mX7_trolleyCount := ⟨(RX7, TX7, 13), rfl, kM_L_49, kI_X7_trolleyCount, kS_X7_trolleyCount, kZ_X7, kC_X7_trolleyCount, ⟨by decide +kernel, by decide +kernel⟩, by decide +kernel⟩
theorem cmL_52 : CM RL 52 8 0 mX8_trolleyCount := ⟨(RX8, TX8, 50), rfl, kM_L_52, kI_X8_trolleyCount, kS_X8_trolleyCount, kZ_X8, kC_X8_trolleyCount, ⟨by decide +kernel, by decide +kernel⟩, by decide +kernel⟩
theorem cmL_53 : CM RL 53 7 0 mX7_jobCount := ⟨(RX7, TX7, 13), rfl, kM_L_53, kI_X7_jobCount, kS_X7_jobCount, kZ_X7, kC_X7_jobCount, ⟨by decide +kernel, by decide +kernel⟩, by decide +kernel⟩
theorem cmL_56 : CM RL 56 8 0 mX8_jobCount := ⟨(RX8, TX8, 50), rfl, kM_L_56, kI_X8_jobCount, kS_X8_jobCount, kZ_X8, kC_X8_jobCount, ⟨by decide +kernel, by decide +kernel⟩, by decide +kernel⟩
theorem cmL_57 : CM RL 57 7 1 mX7_departure := ⟨(RX7, TX7, 13), rfl, kM_L_57, kI_X7_departure, kS_X7_departure, kZ_X7, kC_X7_departure, ⟨by decide +kernel, by decide +kernel⟩, by decide +kernel⟩
theorem cmL_60 : CM RL 60 8 1 mX8_departure := ⟨(RX8, TX8, 50), rfl, kM_L_60, kI_X8_departure, kS_X8_departure, kZ_X8, kC_X8_departure, ⟨by decide +kernel, by decide +kernel⟩, by decide +kernel⟩
theorem cmL_61 : CM RL 61 7 2 mX7_stock := ⟨(RX7, TX7, 13), rfl, kM_L_61, kI_X7_stock, kS_X7_stock, kZ_X7, kC_X7_stock, ⟨by decide +kernel, by decide +kernel⟩, by decide +kernel⟩
theorem cmL_65 : CM RL 65 8 2 mX8_stock := ⟨(RX8, TX8, 50), rfl, kM_L_65, kI_X8_stock, kS_X8_stock, kZ_X8, kC_X8_stock, ⟨by decide +kernel, by decide +kernel⟩, by decide +kernel⟩
theorem cmL_66 : CM RL 66 7 3 mX7_demand := ⟨(RX7, TX7, 13), rfl, kM_L_66, kI_X7_demand, kS_X7_demand, kZ_X7, kC_X7_demand, ⟨by decide +kernel, by decide +kernel⟩, by decide +kernel⟩
theorem cmL_70 : CM RL 70 8 3 mX8_demand := ⟨(RX8, TX8, 50), rfl, kM_L_70, kI_X8_demand, kS_X8_demand, kZ_X8, kC_X8_demand, ⟨by decide +kernel, by decide +kernel⟩, by decide +kernel⟩
theorem cmL_71 : CM RL 71 7 1 mX7_jobTrolley := ⟨(RX7, TX7, 13), rfl, kM_L_71, kI_X7_jobTrolley, kS_X7_jobTrolley, kZ_X7, kC_X7_jobTrolley, ⟨by decide +kernel, by decide +kernel⟩, by decide +kernel⟩
theorem cmL_74 : CM RL 74 8 1 mX8_jobTrolley := ⟨(RX8, TX8, 50), rfl, kM_L_74, kI_X8_jobTrolley, kS_X8_jobTrolley, kZ_X8, kC_X8_jobTrolley, ⟨by decide +kernel, by decide +kernel⟩, by decide +kernel⟩
theorem cmL_75 : CM RL 75 7 1 mX7_jobQuantity := ⟨(RX7, TX7, 13), rfl, kM_L_75, kI_X7_jobQuantity, kS_X7_jobQuantity, kZ_X7, kC_X7_jobQuantity, ⟨by decide +kernel, by decide +kernel⟩, by decide +kernel⟩
theorem cmL_78 : CM RL 78 8 1 mX8_jobQuantity := ⟨(RX8, TX8, 50), rfl, kM_L_78, kI_X8_jobQuantity, kS_X8_jobQuantity, kZ_X8, kC_X8_jobQuantity, ⟨by decide +kernel, by decide +kernel⟩, by decide +kernel⟩
theorem cmL_79 : CM RL 79 7 1 mX7_startTime := ⟨(RX7, TX7, 13), rfl, kM_L_79, kI_X7_startTime, kS_X7_startTime, kZ_X7, kC_X7_startTime, ⟨by decide +kernel, by decide +kernel⟩, by decide +kernel⟩
theorem cmL_82 : CM RL 82 8 1 mX8_startTime := ⟨(RX8, TX8, 50), rfl, kM_L_82, kI_X8_startTime, kS_X8_startTime, kZ_X8, kC_X8_startTime, ⟨by decide +kernel, by decide +kernel⟩, by decide +kernel⟩
theorem cmL_83 : CM RL 83 7 1 mX7_loaded := ⟨(RX7, TX7, 13), rfl, kM_L_83, kI_X7_loaded, kS_X7_loaded, kZ_X7, kC_X7_loaded, ⟨by decide +kernel, by decide +kernel⟩, by decide +kernel⟩
theorem cmL_86 : CM RL 86 8 1 mX8_loaded := ⟨(RX8, TX8, 50), rfl, kM_L_86, kI_X8_loaded, kS_X8_loaded, kZ_X8, kC_X8_loaded, ⟨by decide +kernel, by decide +kernel⟩, by decide +kernel⟩
theorem cmL_87 : CM RL 87 7 1 mX7_unloaded := ⟨(RX7, TX7, 13), rfl, kM_L_87, kI_X7_unloaded, kS_X7_unloaded, kZ_X7, kC_X7_unloaded, ⟨by decide +kernel, by decide +kernel⟩, by decide +kernel⟩
theorem cmL_90 : CM RL 90 8 1 mX8_unloaded := ⟨(RX8, TX8, 50), rfl, kM_L_90, kI_X8_unloaded, kS_X8_unloaded, kZ_X8, kC_X8_unloaded, ⟨by decide +kernel, by decide +kernel⟩, by decide +kernel⟩
theorem cmL_91 : CM RL 91 7 1 mX7_unloadTime := ⟨(RX7, TX7, 13), rfl, kM_L_91, kI_X7_unloadTime, kS_X7_unloadTime, kZ_X7, kC_X7_unloadTime, ⟨by decide +kernel, by decide +kernel⟩, by decide +kernel⟩
theorem cmL_94 : CM RL 94 8 1 mX8_unloadTime := ⟨(RX8, TX8, 50), rfl, kM_L_94, kI_X8_unloadTime, kS_X8_unloadTime, kZ_X8, kC_X8_unloadTime, ⟨by decide +kernel, by decide +kernel⟩, by decide +kernel⟩
theorem cmL_95 : CM RL 95 7 1 mX7_finishTime := ⟨(RX7, TX7, 13), rfl, kM_L_95, kI_X7_finishTime, kS_X7_finishTime, kZ_X7, kC_X7_finishTime, ⟨by decide +kernel, by decide +kernel⟩, by decide +kernel⟩
theorem cmL_98 : CM RL 98 8 1 mX8_finishTime := ⟨(RX8, TX8, 50), rfl, kM_L_98, kI_X8_finishTime, kS_X8_finishTime, kZ_X8, kC_X8_finishTime, ⟨by decide +kernel, by decide +kernel⟩, by decide +kernel⟩
theorem cmL_99 : CM RL 99 7 3 mX7_delivered := ⟨(RX7, TX7, 13), rfl, kM_L_99, kI_X7_delivered, kS_X7_delivered, kZ_X7, kC_X7_delivered, ⟨by decide +kernel, by decide +kernel⟩, by decide +kernel⟩
theorem cmL_102 : CM RL 102 8 3 mX8_delivered := ⟨(RX8, TX8, 50), rfl, kM_L_102, kI_X8_delivered, kS_X8_delivered, kZ_X8, kC_X8_delivered, ⟨by decide +kernel, by decide +kernel⟩, by decide +kernel⟩
theorem cmL_103 : CM RL 103 7 0 mX7_deliveredTotal := ⟨(RX7, TX7, 13), rfl, kM_L_103, kI_X7_deliveredTotal, kS_X7_deliveredTotal, kZ_X7, kC_X7_deliveredTotal, ⟨by decide +kernel, by decide +kernel⟩, by decide +kernel⟩
theorem cmL_106 : CM RL 106 8 0 mX8_deliveredTotal := ⟨(RX8, TX8, 50), rfl, kM_L_106, kI_X8_deliveredTotal, kS_X8_deliveredTotal, kZ_X8, kC_X8_deliveredTotal, ⟨by decide +kernel, by decide +kernel⟩, by decide +kernel⟩
theorem cmL_107 : CM RL 107 7 1 mX7_leftBehind := ⟨(RX7, TX7, 13), rfl, kM_L_107, kI_X7_leftBehind, kS_X7_leftBehind, kZ_X7, kC_X7_leftBehind, ⟨by decide +kernel, by decide +kernel⟩, by decide +kernel⟩
theorem cmL_110 : CM RL 110 8 1 mX8_leftBehind := ⟨(RX8, TX8, 50), rfl, kM_L_110, kI_X8_leftBehind, kS_X8_leftBehind, kZ_X8, kC_X8_leftBehind, ⟨by decide +kernel, by decide +kernel⟩, by decide +kernel⟩
theorem cmL_111 : CM RL 111 7 2 mX7_finalStock := ⟨(RX7, TX7, 13), rfl, kM_L_111, kI_X7_finalStock, kS_X7_finalStock, kZ_X7, kC_X7_finalStock, ⟨by decide +kernel, by decide +kernel⟩, by decide +kernel⟩
theorem cmL_114 : CM RL 114 8 2 mX8_finalStock := ⟨(RX8, TX8, 50), rfl, kM_L_114, kI_X8_finalStock, kS_X8_finalStock, kZ_X8, kC_X8_finalStock, ⟨by decide +kernel, by decide +kernel⟩, by decide +kernel⟩
theorem cmL_115 : CM RL 115 7 3 mX7_shortage := ⟨(RX7, TX7, 13), rfl, kM_L_115, kI_X7_shortage, kS_X7_shortage, kZ_X7, kC_X7_shortage, ⟨by decide +kernel, by decide +kernel⟩, by decide +kernel⟩
theorem cmL_118 : CM RL 118 8 3 mX8_shortage := ⟨(RX8, TX8, 50), rfl, kM_L_118, kI_X8_shortage, kS_X8_shortage, kZ_X8, kC_X8_shortage, ⟨by decide +kernel, by decide +kernel⟩, by decide +kernel⟩
theorem cmL_119 : CM RL 119 7 1 mX7_longestWait := ⟨(RX7, TX7, 13), rfl, kM_L_119, kI_X7_longestWait, kS_X7_longestWait, kZ_X7, kC_X7_longestWait, ⟨by decide +kernel, by decide +kernel⟩, by decide +kernel⟩
theorem cmL_122 : CM RL 122 8 1 mX8_longestWait := ⟨(RX8, TX8, 50), rfl, kM_L_122, kI_X8_longestWait, kS_X8_longestWait, kZ_X8, kC_X8_longestWait, ⟨by decide +kernel, by decide +kernel⟩, by decide +kernel⟩
theorem cmL_123 : CM RL 123 7 2 mX7_doorBusy := ⟨(RX7, TX7, 13), rfl, kM_L_123, kI_X7_doorBusy, kS_X7_doorBusy, kZ_X7, kC_X7_doorBusy, ⟨by decide +kernel, by decide +kernel⟩, by decide +kernel⟩
theorem cmL_126 : CM RL 126 8 2 mX8_doorBusy := ⟨(RX8, TX8, 50), rfl, kM_L_126, kI_X8_doorBusy, kS_X8_doorBusy, kZ_X8, kC_X8_doorBusy, ⟨by decide +kernel, by decide +kernel⟩, by decide +kernel⟩
theorem cmL_127 : CM RL 127 7 2 mX7_stateAt := ⟨(RX7, TX7, 13), rfl, kM_L_127, kI_X7_stateAt, kS_X7_stateAt, kZ_X7, kC_X7_stateAt, ⟨by decide +kernel, by decide +kernel⟩, by decide +kernel⟩
theorem cmL_130 : CM RL 130 8 2 mX8_stateAt := ⟨(RX8, TX8, 50), rfl, kM_L_130, kI_X8_stateAt, kS_X8_stateAt, kZ_X8, kC_X8_stateAt, ⟨by decide +kernel, by decide +kernel⟩, by decide +kernel⟩
theorem cmL_131 : CM RL 131 7 2 mX7_mealsOn := ⟨(RX7, TX7, 13), rfl, kM_L_131, kI_X7_mealsOn, kS_X7_mealsOn, kZ_X7, kC_X7_mealsOn, ⟨by decide +kernel, by decide +kernel⟩, by decide +kernel⟩
theorem cmL_134 : CM RL 134 8 2 mX8_mealsOn := ⟨(RX8, TX8, 50), rfl, kM_L_134, kI_X8_mealsOn, kS_X8_mealsOn, kZ_X8, kC_X8_mealsOn, ⟨by decide +kernel, by decide +kernel⟩, by decide +kernel⟩
theorem cmL_135 : CM RL 135 7 3 mX7_share := ⟨(RX7, TX7, 13), rfl, kM_L_135, kI_X7_share, kS_X7_share, kZ_X7, kC_X7_share, ⟨by decide +kernel, by decide +kernel⟩, by decide +kernel⟩
theorem cmL_138 : CM RL 138 8 3 mX8_share := ⟨(RX8, TX8, 50), rfl, kM_L_138, kI_X8_share, kS_X8_share, kZ_X8, kC_X8_share, ⟨by decide +kernel, by decide +kernel⟩, by decide +kernel⟩
theorem cmL_139 : CM RL 139 7 2 mX7_carried := ⟨(RX7, TX7, 13), rfl, kM_L_139, kI_X7_carried, kS_X7_carried, kZ_X7, kC_X7_carried, ⟨by decide +kernel, by decide +kernel⟩, by decide +kernel⟩
theorem cmL_142 : CM RL 142 8 2 mX8_carried := ⟨(RX8, TX8, 50), rfl, kM_L_142, kI_X8_carried, kS_X8_carried, kZ_X8, kC_X8_carried, ⟨by decide +kernel, by decide +kernel⟩, by decide +kernel⟩
theorem cmL_143 : CM RL 143 7 3 mX7_jointShare := ⟨(RX7, TX7, 13), rfl, kM_L_143, kI_X7_jointShare, kS_X7_jointShare, kZ_X7, kC_X7_jointShare, ⟨by decide +kernel, by decide +kernel⟩, by decide +kernel⟩
theorem cmL_146 : CM RL 146 8 3 mX8_jointShare := ⟨(RX8, TX8, 50), rfl, kM_L_146, kI_X8_jointShare, kS_X8_jointShare, kZ_X8, kC_X8_jointShare, ⟨by decide +kernel, by decide +kernel⟩, by decide +kernel⟩
theorem cmL_147 : CM RL 147 7 3 mX7_coverage := ⟨(RX7, TX7, 13), rfl, kM_L_147, kI_X7_coverage, kS_X7_coverage, kZ_X7, kC_X7_coverage, ⟨by decide +kernel, by decide +kernel⟩, by decide +kernel⟩
theorem cmL_151 : CM RL 151 8 3 mX8_coverage := ⟨(RX8, TX8, 50), rfl, kM_L_151, kI_X8_coverage, kS_X8_coverage, kZ_X8, kC_X8_coverage, ⟨by decide +kernel, by decide +kernel⟩, by decide +kernel⟩
theorem cmL_152 : CM RL 152 7 2 mX7_leastCoverage := ⟨(RX7, TX7, 13), rfl, kM_L_152, kI_X7_leastCoverage, kS_X7_leastCoverage, kZ_X7, kC_X7_leastCoverage, ⟨by decide +kernel, by decide +kernel⟩, by decide +kernel⟩
theorem cmL_156 : CM RL 156 8 2 mX8_leastCoverage := ⟨(RX8, TX8, 50), rfl, kM_L_156, kI_X8_leastCoverage, kS_X8_leastCoverage, kZ_X8, kC_X8_leastCoverage, ⟨by decide +kernel, by decide +kernel⟩, by decide +kernel⟩
theorem cmL_157 : CM RL 157 7 1 mX7_betterServed := ⟨(RX7, TX7, 13), rfl, kM_L_157, kI_X7_betterServed, kS_X7_betterServed, kZ_X7, kC_X7_betterServed, ⟨by decide +kernel, by decide +kernel⟩, by decide +kernel⟩
theorem cmL_160 : CM RL 160 8 1 mX8_betterServed := ⟨(RX8, TX8, 50), rfl, kM_L_160, kI_X8_betterServed, kS_X8_betterServed, kZ_X8, kC_X8_betterServed, ⟨by decide +kernel, by decide +kernel⟩, by decide +kernel⟩
theorem cmL_161 : CM RL 161 7 1 mX7_bestSet := ⟨(RX7, TX7, 13), rfl, kM_L_161, kI_X7_bestSet, kS_X7_bestSet, kZ_X7, kC_X7_bestSet, ⟨by decide +kernel, by decide +kernel⟩, by decide +kernel⟩
theorem cmL_164 : CM RL 164 8 1 mX8_bestSet := ⟨(RX8, TX8, 50), rfl, kM_L_164, kI_X8_bestSet, kS_X8_bestSet, kZ_X8, kC_X8_bestSet, ⟨by decide +kernel, by decide +kernel⟩, by decide +kernel⟩
theorem cmL_165 : CM RL 165 7 1 mX7_bestMeals := ⟨(RX7, TX7, 13), rfl, kM_L_165, kI_X7_bestMeals, kS_X7_bestMeals, kZ_X7, kC_X7_bestMeals, ⟨by decide +kernel, by decide +kernel⟩, by decide +kernel⟩
theorem cmL_168 : CM RL 168 8 1 mX8_bestMeals := ⟨(RX8, TX8, 50), rfl, kM_L_168, kI_X8_bestMeals, kS_X8_bestMeals, kZ_X8, kC_X8_bestMeals, ⟨by decide +kernel, by decide +kernel⟩, by decide +kernel⟩
theorem cmL_169 : CM RL 169 7 2 mX7_bestOrder := ⟨(RX7, TX7, 13), rfl, kM_L_169, kI_X7_bestOrder, kS_X7_bestOrder, kZ_X7, kC_X7_bestOrder, ⟨by decide +kernel, by decide +kernel⟩, by decide +kernel⟩
theorem cmL_172 : CM RL 172 8 2 mX8_bestOrder := ⟨(RX8, TX8, 50), rfl, kM_L_172, kI_X8_bestOrder, kS_X8_bestOrder, kZ_X8, kC_X8_bestOrder, ⟨by decide +kernel, by decide +kernel⟩, by decide +kernel⟩
theorem cmL_173 : CM RL 173 7 1 mX7_leastSpeed := ⟨(RX7, TX7, 13), rfl, kM_L_173, kI_X7_leastSpeed, kS_X7_leastSpeed, kZ_X7, kC_X7_leastSpeed, ⟨by decide +kernel, by decide +kernel⟩, by decide +kernel⟩
theorem cmL_176 : CM RL 176 8 1 mX8_leastSpeed := ⟨(RX8, TX8, 50), rfl, kM_L_176, kI_X8_leastSpeed, kS_X8_leastSpeed, kZ_X8, kC_X8_leastSpeed, ⟨by decide +kernel, by decide +kernel⟩, by decide +kernel⟩
theorem cmL_177 : CM RL 177 7 1 mX7_neededDelay := ⟨(RX7, TX7, 13), rfl, kM_L_177, kI_X7_neededDelay, kS_X7_neededDelay, kZ_X7, kC_X7_neededDelay, ⟨by decide +kernel, by decide +kernel⟩, by decide +kernel⟩
theorem cmL_180 : CM RL 180 8 1 mX8_neededDelay := ⟨(RX8, TX8, 50), rfl, kM_L_180, kI_X8_neededDelay, kS_X8_neededDelay, kZ_X8, kC_X8_neededDelay, ⟨by decide +kernel, by decide +kernel⟩, by decide +kernel⟩
theorem cmL_181 : CM RL 181 7 1 mX7_deliveredWithout := ⟨(RX7, TX7, 13), rfl, kM_L_181, kI_X7_deliveredWithout, kS_X7_deliveredWithout, kZ_X7, kC_X7_deliveredWithout, ⟨by decide +kernel, by decide +kernel⟩, by decide +kernel⟩
theorem cmL_184 : CM RL 184 8 1 mX8_deliveredWithout := ⟨(RX8, TX8, 50), rfl, kM_L_184, kI_X8_deliveredWithout, kS_X8_deliveredWithout, kZ_X8, kC_X8_deliveredWithout, ⟨by decide +kernel, by decide +kernel⟩, by decide +kernel⟩
theorem cmL_185 : CM RL 185 7 0 mX7_worstJob := ⟨(RX7, TX7, 13), rfl, kM_L_185, kI_X7_worstJob, kS_X7_worstJob, kZ_X7, kC_X7_worstJob, ⟨by decide +kernel, by decide +kernel⟩, by decide +kernel⟩
theorem cmL_188 : CM RL 188 8 0 mX8_worstJob := ⟨(RX8, TX8, 50), rfl, kM_L_188, kI_X8_worstJob, kS_X8_worstJob, kZ_X8, kC_X8_worstJob, ⟨by decide +kernel, by decide +kernel⟩, by decide +kernel⟩
theorem cmL_189 : CM RL 189 7 1 mX7_bestTrolley := ⟨(RX7, TX7, 13), rfl, kM_L_189, kI_X7_bestTrolley, kS_X7_bestTrolley, kZ_X7, kC_X7_bestTrolley, ⟨by decide +kernel, by decide +kernel⟩, by decide +kernel⟩
theorem cmL_192 : CM RL 192 8 1 mX8_bestTrolley := ⟨(RX8, TX8, 50), rfl, kM_L_192, kI_X8_bestTrolley, kS_X8_bestTrolley, kZ_X8, kC_X8_bestTrolley, ⟨by decide +kernel, by decide +kernel⟩, by decide +kernel⟩
theorem cmL_193 : CM RL 193 7 0 mX7_bestSwap := ⟨(RX7, TX7, 13), rfl, kM_L_193, kI_X7_bestSwap, kS_X7_bestSwap, kZ_X7, kC_X7_bestSwap, ⟨by decide +kernel, by decide +kernel⟩, by decide +kernel⟩
theorem cmL_196 : CM RL 196 8 0 mX8_bestSwap := ⟨(RX8, TX8, 50), rfl, kM_L_196, kI_X8_bestSwap, kS_X8_bestSwap, kZ_X8, kC_X8_bestSwap, ⟨by decide +kernel, by decide +kernel⟩, by decide +kernel⟩
theorem cmL_197 : CM RL 197 7 5 mX7_addJob := ⟨(RX7, TX7, 13), rfl, kM_L_197, kI_X7_addJob, kS_X7_addJob, kZ_X7, kC_X7_addJob, ⟨by decide +kernel, by decide +kernel⟩, by decide +kernel⟩
theorem cmL_200 : CM RL 200 8 5 mX8_addJob := ⟨(RX8, TX8, 50), rfl, kM_L_200, kI_X8_addJob, kS_X8_addJob, kZ_X8, kC_X8_addJob, ⟨by decide +kernel, by decide +kernel⟩, by decide +kernel⟩
theorem cmL_201 : CM RL 201 7 1 mX7_removeJob := ⟨(RX7, TX7, 13), rfl, kM_L_201, kI_X7_removeJob, kS_X7_removeJob, kZ_X7, kC_X7_removeJob, ⟨by decide +kernel, by decide +kernel⟩, by decide +kernel⟩
theorem cmL_204 : CM RL 204 8 1 mX8_removeJob := ⟨(RX8, TX8, 50), rfl, kM_L_204, kI_X8_removeJob, kS_X8_removeJob, kZ_X8, kC_X8_removeJob, ⟨by decide +kernel, by decide +kernel⟩, by decide +kernel⟩
theorem cmL_205 : CM RL 205 7 2 mX7_moveJob := ⟨(RX7, TX7, 13), rfl, kM_L_205, kI_X7_moveJob, kS_X7_moveJob, kZ_X7, kC_X7_moveJob, ⟨by decide +kernel, by decide +kernel⟩, by decide +kernel⟩
theorem cmL_208 : CM RL 208 8 2 mX8_moveJob := ⟨(RX8, TX8, 50), rfl, kM_L_208, kI_X8_moveJob, kS_X8_moveJob, kZ_X8, kC_X8_moveJob, ⟨by decide +kernel, by decide +kernel⟩, by decide +kernel⟩
theorem cmL_209 : CM RL 209 7 2 mX7_setDeparture := ⟨(RX7, TX7, 13), rfl, kM_L_209, kI_X7_setDeparture, kS_X7_setDeparture, kZ_X7, kC_X7_setDeparture, ⟨by decide +kernel, by decide +kernel⟩, by decide +kernel⟩
theorem cmL_212 : CM RL 212 8 2 mX8_setDeparture := ⟨(RX8, TX8, 50), rfl, kM_L_212, kI_X8_setDeparture, kS_X8_setDeparture, kZ_X8, kC_X8_setDeparture, ⟨by decide +kernel, by decide +kernel⟩, by decide +kernel⟩
theorem cmL_213 : CM RL 213 7 3 mX7_setStock := ⟨(RX7, TX7, 13), rfl, kM_L_213, kI_X7_setStock, kS_X7_setStock, kZ_X7, kC_X7_setStock, ⟨by decide +kernel, by decide +kernel⟩, by decide +kernel⟩
theorem cmL_216 : CM RL 216 8 3 mX8_setStock := ⟨(RX8, TX8, 50), rfl, kM_L_216, kI_X8_setStock, kS_X8_setStock, kZ_X8, kC_X8_setStock, ⟨by decide +kernel, by decide +kernel⟩, by decide +kernel⟩
theorem cmL_217 : CM RL 217 7 2 mX7_setQuantity := ⟨(RX7, TX7, 13), rfl, kM_L_217, kI_X7_setQuantity, kS_X7_setQuantity, kZ_X7, kC_X7_setQuantity, ⟨by decide +kernel, by decide +kernel⟩, by decide +kernel⟩
theorem cmL_220 : CM RL 220 8 2 mX8_setQuantity := ⟨(RX8, TX8, 50), rfl, kM_L_220, kI_X8_setQuantity, kS_X8_setQuantity, kZ_X8, kC_X8_setQuantity, ⟨by decide +kernel, by decide +kernel⟩, by decide +kernel⟩
theorem cmL_221 : CM RL 221 7 1 mX7_applyBest := ⟨(RX7, TX7, 13), rfl, kM_L_221, kI_X7_applyBest, kS_X7_applyBest, kZ_X7, kC_X7_applyBest, ⟨by decide +kernel, by decide +kernel⟩, by decide +kernel⟩
theorem cmL_224 : CM RL 224 8 1 mX8_applyBest := ⟨(RX8, TX8, 50), rfl, kM_L_224, kI_X8_applyBest, kS_X8_applyBest, kZ_X8, kC_X8_applyBest, ⟨by decide +kernel, by decide +kernel⟩, by decide +kernel⟩
theorem cmL_225 : CM RL 225 7 0 mX7_undo := ⟨(RX7, TX7, 13), rfl, kM_L_225, kI_X7_undo, kS_X7_undo, kZ_X7, kC_X7_undo, ⟨by decide +kernel, by decide +kernel⟩, by decide +kernel⟩
theorem cmL_228 : CM RL 228 8 0 mX8_undo := ⟨(RX8, TX8, 50), rfl, kM_L_228, kI_X8_undo, kS_X8_undo, kZ_X8, kC_X8_undo, ⟨by decide +kernel, by decide +kernel⟩, by decide +kernel⟩
theorem cmL_229 : CM RL 229 7 0 mX7_save := ⟨(RX7, TX7, 13), rfl, kM_L_229, kI_X7_save, kS_X7_save, kZ_X7, kC_X7_save, ⟨by decide +kernel, by decide +kernel⟩, by decide +kernel⟩
theorem cmL_232 : CM RL 232 8 0 mX8_save := ⟨(RX8, TX8, 50), rfl, kM_L_232, kI_X8_save, kS_X8_save, kZ_X8, kC_X8_save, ⟨by decide +kernel, by decide +kernel⟩, by decide +kernel⟩
theorem cmL_233 : CM RL 233 7 0 mX7_restore := ⟨(RX7, TX7, 13), rfl, kM_L_233, kI_X7_restore, kS_X7_restore, kZ_X7, kC_X7_restore, ⟨by decide +kernel, by decide +kernel⟩, by decide +kernel⟩
theorem cmL_236 : CM RL 236 8 0 mX8_restore := ⟨(RX8, TX8, 50), rfl, kM_L_236, kI_X8_restore, kS_X8_restore, kZ_X8, kC_X8_restore, ⟨by decide +kernel, by decide +kernel⟩, by decide +kernel⟩
theorem cmL_246 : CM RL 246 7 0 mX7_error := ⟨(RX7, TX7, 13), rfl, kM_L_246, kI_X7_error, kS_X7_error, kZ_X7, kC_X7_error, ⟨by decide +kernel, by decide +kernel⟩, by decide +kernel⟩
theorem cmL_249 : CM RL 249 8 0 mX8_error := ⟨(RX8, TX8, 50), rfl, kM_L_249, kI_X8_error, kS_X8_error, kZ_X8, kC_X8_error, ⟨by decide +kernel, by decide +kernel⟩, by decide +kernel⟩
theorem lr_X7_append : LR mX7_append := ⟨⟨by decide, by decide⟩, rfl, rfl⟩
theorem lr_X8_append : LR mX8_append := ⟨⟨by decide, by decide⟩, rfl, rfl⟩
theorem lr_X7_load : LR mX7_load := ⟨⟨by decide, by decide⟩, rfl, rfl⟩
theorem lr_X8_load : LR mX8_load := ⟨⟨by decide, by decide⟩, rfl, rfl⟩
theorem lr_X7_parseError : LR mX7_parseError := ⟨⟨by decide, by decide⟩, rfl, rfl⟩
theorem lr_X8_parseError : LR mX8_parseError := ⟨⟨by decide, by decide⟩, rfl, rfl⟩
theorem lr_X7_errorPosition : LR mX7_errorPosition := ⟨⟨by decide, by decide⟩, rfl, rfl⟩
theorem lr_X8_errorPosition : LR mX8_errorPosition := ⟨⟨by decide, by decide⟩, rfl, rfl⟩
theorem lr_X7_buffered : LR mX7_buffered := ⟨⟨by decide, by decide⟩, rfl, rfl⟩
theorem lr_X8_buffered : LR mX8_buffered := ⟨⟨by decide, by decide⟩, rfl, rfl⟩
theorem lr_X7_carCount : LR mX7_carCount := ⟨⟨by decide, by decide⟩, rfl, rfl⟩
theorem lr_X8_carCount : LR mX8_carCount := ⟨⟨by decide, by decide⟩, rfl, rfl⟩
theorem lr_X7_mealCount : LR mX7_mealCount := ⟨⟨by decide, by decide⟩, rfl, rfl⟩
theorem lr_X8_mealCount : LR mX8_mealCount := ⟨⟨by decide, by decide⟩, rfl, rfl⟩
theorem lr_X7_trolleyCount : LR mX7_trolleyCount := ⟨⟨by decide, by decide⟩, rfl, rfl⟩
theorem lr_X8_trolleyCount : LR mX8_trolleyCount := ⟨⟨by decide, by decide⟩, rfl, rfl⟩
theorem lr_X7_jobCount : LR mX7_jobCount := ⟨⟨by decide, by decide⟩, rfl, rfl⟩
theorem lr_X8_jobCount : LR mX8_jobCount := ⟨⟨by decide, by decide⟩, rfl, rfl⟩
theorem lr_X7_departure : LR mX7_departure := ⟨⟨by decide, by decide⟩, rfl, rfl⟩
theorem lr_X8_departure : LR mX8_departure := ⟨⟨by decide, by decide⟩, rfl, rfl⟩
theorem lr_X7_stock : LR mX7_stock := ⟨⟨by decide, by decide⟩, rfl, rfl⟩
theorem lr_X8_stock : LR mX8_stock := ⟨⟨by decide, by decide⟩, rfl, rfl⟩
theorem lr_X7_demand : LR mX7_demand := ⟨⟨by decide, by decide⟩, rfl, rfl⟩
theorem lr_X8_demand : LR mX8_demand := ⟨⟨by decide, by decide⟩, rfl, rfl⟩
theorem lr_X7_jobTrolley : LR mX7_jobTrolley := ⟨⟨by decide, by decide⟩, rfl, rfl⟩
theorem lr_X8_jobTrolley : LR mX8_jobTrolley := ⟨⟨by decide, by decide⟩, rfl, rfl⟩
theorem lr_X7_jobQuantity : LR mX7_jobQuantity := ⟨⟨by decide, by decide⟩, rfl, rfl⟩
theorem lr_X8_jobQuantity : LR mX8_jobQuantity := ⟨⟨by decide, by decide⟩, rfl, rfl⟩
theorem lr_X7_startTime : LR mX7_startTime := ⟨⟨by decide, by decide⟩, rfl, rfl⟩
theorem lr_X8_startTime : LR mX8_startTime := ⟨⟨by decide, by decide⟩, rfl, rfl⟩
theorem lr_X7_loaded : LR mX7_loaded := ⟨⟨by decide, by decide⟩, rfl, rfl⟩
theorem lr_X8_loaded : LR mX8_loaded := ⟨⟨by decide, by decide⟩, rfl, rfl⟩
theorem lr_X7_unloaded : LR mX7_unloaded := ⟨⟨by decide, by decide⟩, rfl, rfl⟩
theorem lr_X8_unloaded : LR mX8_unloaded := ⟨⟨by decide, by decide⟩, rfl, rfl⟩
theorem lr_X7_unloadTime : LR mX7_unloadTime := ⟨⟨by decide, by decide⟩, rfl, rfl⟩
theorem lr_X8_unloadTime : LR mX8_unloadTime := ⟨⟨by decide, by decide⟩, rfl, rfl⟩
theorem lr_X7_finishTime : LR mX7_finishTime := ⟨⟨by decide, by decide⟩, rfl, rfl⟩
theorem lr_X8_finishTime : LR mX8_finishTime := ⟨⟨by decide, by decide⟩, rfl, rfl⟩
theorem lr_X7_delivered : LR mX7_delivered := ⟨⟨by decide, by decide⟩, rfl, rfl⟩
theorem lr_X8_delivered : LR mX8_delivered := ⟨⟨by decide, by decide⟩, rfl, rfl⟩
theorem lr_X7_deliveredTotal : LR mX7_deliveredTotal := ⟨⟨by decide, by decide⟩, rfl, rfl⟩
theorem lr_X8_deliveredTotal : LR mX8_deliveredTotal := ⟨⟨by decide, by decide⟩, rfl, rfl⟩
theorem lr_X7_leftBehind : LR mX7_leftBehind := ⟨⟨by decide, by decide⟩, rfl, rfl⟩
theorem lr_X8_leftBehind : LR mX8_leftBehind := ⟨⟨by decide, by decide⟩, rfl, rfl⟩
theorem lr_X7_finalStock : LR mX7_finalStock := ⟨⟨by decide, by decide⟩, rfl, rfl⟩
theorem lr_X8_finalStock : LR mX8_finalStock := ⟨⟨by decide, by decide⟩, rfl, rfl⟩
theorem lr_X7_shortage : LR mX7_shortage := ⟨⟨by decide, by decide⟩, rfl, rfl⟩
theorem lr_X8_shortage : LR mX8_shortage := ⟨⟨by decide, by decide⟩, rfl, rfl⟩
theorem lr_X7_longestWait : LR mX7_longestWait := ⟨⟨by decide, by decide⟩, rfl, rfl⟩
theorem lr_X8_longestWait : LR mX8_longestWait := ⟨⟨by decide, by decide⟩, rfl, rfl⟩
theorem lr_X7_doorBusy : LR mX7_doorBusy := ⟨⟨by decide, by decide⟩, rfl, rfl⟩
theorem lr_X8_doorBusy : LR mX8_doorBusy := ⟨⟨by decide, by decide⟩, rfl, rfl⟩
theorem lr_X7_stateAt : LR mX7_stateAt := ⟨⟨by decide, by decide⟩, rfl, rfl⟩
theorem lr_X8_stateAt : LR mX8_stateAt := ⟨⟨by decide, by decide⟩, rfl, rfl⟩
theorem lr_X7_mealsOn : LR mX7_mealsOn := ⟨⟨by decide, by decide⟩, rfl, rfl⟩
theorem lr_X8_mealsOn : LR mX8_mealsOn := ⟨⟨by decide, by decide⟩, rfl, rfl⟩
theorem lr_X7_share : LR mX7_share := ⟨⟨by decide, by decide⟩, rfl, rfl⟩
theorem lr_X8_share : LR mX8_share := ⟨⟨by decide, by decide⟩, rfl, rfl⟩
theorem lr_X7_carried : LR mX7_carried := ⟨⟨by decide, by decide⟩, rfl, rfl⟩
theorem lr_X8_carried : LR mX8_carried := ⟨⟨by decide, by decide⟩, rfl, rfl⟩
theorem lr_X7_jointShare : LR mX7_jointShare := ⟨⟨by decide, by decide⟩, rfl, rfl⟩
theorem lr_X8_jointShare : LR mX8_jointShare := ⟨⟨by decide, by decide⟩, rfl, rfl⟩
theorem lr_X7_coverage : LR mX7_coverage := ⟨⟨by decide, by decide⟩, rfl, rfl⟩
theorem lr_X8_coverage : LR mX8_coverage := ⟨⟨by decide, by decide⟩, rfl, rfl⟩
theorem lr_X7_leastCoverage : LR mX7_leastCoverage := ⟨⟨by decide, by decide⟩, rfl, rfl⟩
theorem lr_X8_leastCoverage : LR mX8_leastCoverage := ⟨⟨by decide, by decide⟩, rfl, rfl⟩
theorem lr_X7_betterServed : LR mX7_betterServed := ⟨⟨by decide, by decide⟩, rfl, rfl⟩
theorem lr_X8_betterServed : LR mX8_betterServed := ⟨⟨by decide, by decide⟩, rfl, rfl⟩
theorem lr_X7_bestSet : LR mX7_bestSet := ⟨⟨by decide, by decide⟩, rfl, rfl⟩
theorem lr_X8_bestSet : LR mX8_bestSet := ⟨⟨by decide, by decide⟩, rfl, rfl⟩
theorem lr_X7_bestMeals : LR mX7_bestMeals := ⟨⟨by decide, by decide⟩, rfl, rfl⟩
theorem lr_X8_bestMeals : LR mX8_bestMeals := ⟨⟨by decide, by decide⟩, rfl, rfl⟩
theorem lr_X7_bestOrder : LR mX7_bestOrder := ⟨⟨by decide, by decide⟩, rfl, rfl⟩
theorem lr_X8_bestOrder : LR mX8_bestOrder := ⟨⟨by decide, by decide⟩, rfl, rfl⟩
theorem lr_X7_leastSpeed : LR mX7_leastSpeed := ⟨⟨by decide, by decide⟩, rfl, rfl⟩
theorem lr_X8_leastSpeed : LR mX8_leastSpeed := ⟨⟨by decide, by decide⟩, rfl, rfl⟩
theorem lr_X7_neededDelay : LR mX7_neededDelay := ⟨⟨by decide, by decide⟩, rfl, rfl⟩
theorem lr_X8_neededDelay : LR mX8_neededDelay := ⟨⟨by decide, by decide⟩, rfl, rfl⟩
theorem lr_X7_deliveredWithout : LR mX7_deliveredWithout := ⟨⟨by decide, by decide⟩, rfl, rfl⟩
theorem lr_X8_deliveredWithout : LR mX8_deliveredWithout := ⟨⟨by decide, by decide⟩, rfl, rfl⟩
theorem lr_X7_worstJob : LR mX7_worstJob := ⟨⟨by decide, by decide⟩, rfl, rfl⟩
theorem lr_X8_worstJob : LR mX8_worstJob := ⟨⟨by decide, by decide⟩, rfl, rfl⟩
theorem lr_X7_bestTrolley : LR mX7_bestTrolley := ⟨⟨by decide, by decide⟩, rfl, rfl⟩
theorem lr_X8_bestTrolley : LR mX8_bestTrolley := ⟨⟨by decide, by decide⟩, rfl, rfl⟩
theorem lr_X7_bestSwap : LR mX7_bestSwap := ⟨⟨by decide, by decide⟩, rfl, rfl⟩
theorem lr_X8_bestSwap : LR mX8_bestSwap := ⟨⟨by decide, by decide⟩, rfl, rfl⟩
theorem lr_X7_addJob : LR mX7_addJob := ⟨⟨by decide, by decide⟩, rfl, rfl⟩
theorem lr_X8_addJob : LR mX8_addJob := ⟨⟨by decide, by decide⟩, rfl, rfl⟩
theorem lr_X7_removeJob : LR mX7_removeJob := ⟨⟨by decide, by decide⟩, rfl, rfl⟩
theorem lr_X8_removeJob : LR mX8_removeJob := ⟨⟨by decide, by decide⟩, rfl, rfl⟩
theorem lr_X7_moveJob : LR mX7_moveJob := ⟨⟨by decide, by decide⟩, rfl, rfl⟩
theorem lr_X8_moveJob : LR mX8_moveJob := ⟨⟨by decide, by decide⟩, rfl, rfl⟩
theorem lr_X7_setDeparture : LR mX7_setDeparture := ⟨⟨by decide, by decide⟩, rfl, rfl⟩
theorem lr_X8_setDeparture : LR mX8_setDeparture := ⟨⟨by decide, by decide⟩, rfl, rfl⟩
theorem lr_X7_setStock : LR mX7_setStock := ⟨⟨by decide, by decide⟩, rfl, rfl⟩
theorem lr_X8_setStock : LR mX8_setStock := ⟨⟨by decide, by decide⟩, rfl, rfl⟩
theorem lr_X7_setQuantity : LR mX7_setQuantity := ⟨⟨by decide, by decide⟩, rfl, rfl⟩
theorem lr_X8_setQuantity : LR mX8_setQuantity := ⟨⟨by decide, by decide⟩, rfl, rfl⟩
theorem lr_X7_applyBest : LR mX7_applyBest := ⟨⟨by decide, by decide⟩, rfl, rfl⟩
theorem lr_X8_applyBest : LR mX8_applyBest := ⟨⟨by decide, by decide⟩, rfl, rfl⟩
theorem lr_X7_undo : LR mX7_undo := ⟨⟨by decide, by decide⟩, rfl, rfl⟩
theorem lr_X8_undo : LR mX8_undo := ⟨⟨by decide, by decide⟩, rfl, rfl⟩
theorem lr_X7_save : LR mX7_save := ⟨⟨by decide, by decide⟩, rfl, rfl⟩
theorem lr_X8_save : LR mX8_save := ⟨⟨by decide, by decide⟩, rfl, rfl⟩
theorem lr_X7_restore : LR mX7_restore := ⟨⟨by decide, by decide⟩, rfl, rfl⟩
theorem lr_X8_restore : LR mX8_restore := ⟨⟨by decide, by decide⟩, rfl, rfl⟩
theorem lr_X7_error : LR mX7_error := ⟨⟨by decide, by decide⟩, rfl, rfl⟩
theorem lr_X8_error : LR mX8_error := ⟨⟨by decide, by decide⟩, rfl, rfl⟩
theorem aL_277 : AD 277 1 := ⟨dL_law_277, dL_law_278, dL_law_280, dL_law_281, dL_law_282⟩
theorem aL_283 : AD 283 2 := ⟨dL_law_283, dL_law_284, dL_law_286, dL_law_287, dL_law_288⟩
theorem aL_289 : AD 289 3 := ⟨dL_law_289, dL_law_290, dL_law_292, dL_law_293, dL_law_294⟩
theorem aL_295 : AD 295 4 := ⟨dL_law_295, dL_law_296, dL_law_298, dL_law_299, dL_law_300⟩
theorem aL_301 : AD 301 5 := ⟨dL_law_301, dL_law_302, dL_law_304, dL_law_305, dL_law_306⟩
theorem aL_311 : AD 311 1 := ⟨dL_law_311, dL_law_312, dL_law_314, dL_law_315, dL_law_316⟩
theorem aL_317 : AD 317 2 := ⟨dL_law_317, dL_law_318, dL_law_320, dL_law_321, dL_law_322⟩
theorem aL_323 : AD 323 3 := ⟨dL_law_323, dL_law_324, dL_law_326, dL_law_327, dL_law_328⟩
theorem aL_329 : AD 329 4 := ⟨dL_law_329, dL_law_330, dL_law_332, dL_law_333, dL_law_334⟩
theorem aL_335 : AD 335 5 := ⟨dL_law_335, dL_law_336, dL_law_338, dL_law_339, dL_law_340⟩
theorem aL_350 : AD 350 1 := ⟨dL_law_350, dL_law_351, dL_law_353, dL_law_354, dL_law_355⟩
theorem aL_360 : AD 360 1 := ⟨dL_law_360, dL_law_361, dL_law_363, dL_law_364, dL_law_365⟩
theorem aL_414 : AD 414 1 := ⟨dL_law_414, dL_law_415, dL_law_417, dL_law_418, dL_law_419⟩
theorem aL_424 : AD 424 1 := ⟨dL_law_424, dL_law_425, dL_law_427, dL_law_428, dL_law_429⟩
theorem aL_478 : AD 478 1 := ⟨dL_law_478, dL_law_479, dL_law_481, dL_law_482, dL_law_483⟩
theorem aL_488 : AD 488 1 := ⟨dL_law_488, dL_law_489, dL_law_491, dL_law_492, dL_law_493⟩
theorem aL_503 : AD 503 1 := ⟨dL_law_503, dL_law_504, dL_law_506, dL_law_507, dL_law_508⟩
theorem aL_509 : AD 509 2 := ⟨dL_law_509, dL_law_510, dL_law_512, dL_law_513, dL_law_514⟩
theorem aL_519 : AD 519 1 := ⟨dL_law_519, dL_law_520, dL_law_522, dL_law_523, dL_law_524⟩
theorem aL_525 : AD 525 2 := ⟨dL_law_525, dL_law_526, dL_law_528, dL_law_529, dL_law_530⟩
theorem aL_540 : AD 540 1 := ⟨dL_law_540, dL_law_541, dL_law_543, dL_law_544, dL_law_545⟩
theorem aL_546 : AD 546 2 := ⟨dL_law_546, dL_law_547, dL_law_549, dL_law_550, dL_law_551⟩
theorem aL_552 : AD 552 3 := ⟨dL_law_552, dL_law_553, dL_law_555, dL_law_556, dL_law_557⟩
theorem aL_562 : AD 562 1 := ⟨dL_law_562, dL_law_563, dL_law_565, dL_law_566, dL_law_567⟩
theorem aL_568 : AD 568 2 := ⟨dL_law_568, dL_law_569, dL_law_571, dL_law_572, dL_law_573⟩
theorem aL_574 : AD 574 3 := ⟨dL_law_574, dL_law_575, dL_law_577, dL_law_578, dL_law_579⟩
theorem aL_589 : AD 589 1 := ⟨dL_law_589, dL_law_590, dL_law_592, dL_law_593, dL_law_594⟩
theorem aL_599 : AD 599 1 := ⟨dL_law_599, dL_law_600, dL_law_602, dL_law_603, dL_law_604⟩
theorem aL_614 : AD 614 1 := ⟨dL_law_614, dL_law_615, dL_law_617, dL_law_618, dL_law_619⟩
theorem aL_624 : AD 624 1 := ⟨dL_law_624, dL_law_625, dL_law_627, dL_law_628, dL_law_629⟩
theorem aL_639 : AD 639 1 := ⟨dL_law_639, dL_law_640, dL_law_642, dL_law_643, dL_law_644⟩
theorem aL_649 : AD 649 1 := ⟨dL_law_649, dL_law_650, dL_law_652, dL_law_653, dL_law_654⟩
theorem aL_664 : AD 664 1 := ⟨dL_law_664, dL_law_665, dL_law_667, dL_law_668, dL_law_669⟩
theorem aL_674 : AD 674 1 := ⟨dL_law_674, dL_law_675, dL_law_677, dL_law_678, dL_law_679⟩
theorem aL_689 : AD 689 1 := ⟨dL_law_689, dL_law_690, dL_law_692, dL_law_693, dL_law_694⟩
theorem aL_699 : AD 699 1 := ⟨dL_law_699, dL_law_700, dL_law_702, dL_law_703, dL_law_704⟩
theorem aL_714 : AD 714 1 := ⟨dL_law_714, dL_law_715, dL_law_717, dL_law_718, dL_law_719⟩
theorem aL_724 : AD 724 1 := ⟨dL_law_724, dL_law_725, dL_law_727, dL_law_728, dL_law_729⟩
theorem aL_739 : AD 739 1 := ⟨dL_law_739, dL_law_740, dL_law_742, dL_law_743, dL_law_744⟩
theorem aL_749 : AD 749 1 := ⟨dL_law_749, dL_law_750, dL_law_752, dL_law_753, dL_law_754⟩
theorem aL_764 : AD 764 1 := ⟨dL_law_764, dL_law_765, dL_law_767, dL_law_768, dL_law_769⟩
theorem aL_770 : AD 770 2 := ⟨dL_law_770, dL_law_771, dL_law_773, dL_law_774, dL_law_775⟩
theorem aL_776 : AD 776 3 := ⟨dL_law_776, dL_law_777, dL_law_779, dL_law_780, dL_law_781⟩
theorem aL_786 : AD 786 1 := ⟨dL_law_786, dL_law_787, dL_law_789, dL_law_790, dL_law_791⟩
theorem aL_792 : AD 792 2 := ⟨dL_law_792, dL_law_793, dL_law_795, dL_law_796, dL_law_797⟩
theorem aL_798 : AD 798 3 := ⟨dL_law_798, dL_law_799, dL_law_801, dL_law_802, dL_law_803⟩
theorem aL_826 : AD 826 1 := ⟨dL_law_826, dL_law_827, dL_law_829, dL_law_830, dL_law_831⟩
theorem aL_836 : AD 836 1 := ⟨dL_law_836, dL_law_837, dL_law_839, dL_law_840, dL_law_841⟩
theorem aL_851 : AD 851 1 := ⟨dL_law_851, dL_law_852, dL_law_854, dL_law_855, dL_law_856⟩
theorem aL_857 : AD 857 2 := ⟨dL_law_857, dL_law_858, dL_law_860, dL_law_861, dL_law_862⟩
theorem aL_867 : AD 867 1 := ⟨dL_law_867, dL_law_868, dL_law_870, dL_law_871, dL_law_872⟩
theorem aL_873 : AD 873 2 := ⟨dL_law_873, dL_law_874, dL_law_876, dL_law_877, dL_law_878⟩
theorem aL_888 : AD 888 1 := ⟨dL_law_888, dL_law_889, dL_law_891, dL_law_892, dL_law_893⟩
theorem aL_894 : AD 894 2 := ⟨dL_law_894, dL_law_895, dL_law_897, dL_law_898, dL_law_899⟩
theorem aL_900 : AD 900 3 := ⟨dL_law_900, dL_law_901, dL_law_903, dL_law_904, dL_law_905⟩
theorem aL_910 : AD 910 1 := ⟨dL_law_910, dL_law_911, dL_law_913, dL_law_914, dL_law_915⟩
theorem aL_916 : AD 916 2 := ⟨dL_law_916, dL_law_917, dL_law_919, dL_law_920, dL_law_921⟩
theorem aL_922 : AD 922 3 := ⟨dL_law_922, dL_law_923, dL_law_925, dL_law_926, dL_law_927⟩
theorem aL_937 : AD 937 1 := ⟨dL_law_937, dL_law_938, dL_law_940, dL_law_941, dL_law_942⟩
theorem aL_947 : AD 947 1 := ⟨dL_law_947, dL_law_948, dL_law_950, dL_law_951, dL_law_952⟩
theorem aL_962 : AD 962 1 := ⟨dL_law_962, dL_law_963, dL_law_965, dL_law_966, dL_law_967⟩
theorem aL_968 : AD 968 2 := ⟨dL_law_968, dL_law_969, dL_law_971, dL_law_972, dL_law_973⟩
theorem aL_978 : AD 978 1 := ⟨dL_law_978, dL_law_979, dL_law_981, dL_law_982, dL_law_983⟩
theorem aL_984 : AD 984 2 := ⟨dL_law_984, dL_law_985, dL_law_987, dL_law_988, dL_law_989⟩
theorem aL_999 : AD 999 1 := ⟨dL_law_999, dL_law_1000, dL_law_1002, dL_law_1003, dL_law_1004⟩
theorem aL_1005 : AD 1005 2 := ⟨dL_law_1005, dL_law_1006, dL_law_1008, dL_law_1009, dL_law_1010⟩
theorem aL_1015 : AD 1015 1 := ⟨dL_law_1015, dL_law_1016, dL_law_1018, dL_law_1019, dL_law_1020⟩
theorem aL_1021 : AD 1021 2 := ⟨dL_law_1021, dL_law_1022, dL_law_1024, dL_law_1025, dL_law_1026⟩
theorem aL_1036 : AD 1036 1 := ⟨dL_law_1036, dL_law_1037, dL_law_1039, dL_law_1040, dL_law_1041⟩
theorem aL_1042 : AD 1042 2 := ⟨dL_law_1042, dL_law_1043, dL_law_1045, dL_law_1046, dL_law_1047⟩
theorem aL_1052 : AD 1052 1 := ⟨dL_law_1052, dL_law_1053, dL_law_1055, dL_law_1056, dL_law_1057⟩
theorem aL_1058 : AD 1058 2 := ⟨dL_law_1058, dL_law_1059, dL_law_1061, dL_law_1062, dL_law_1063⟩
theorem aL_1073 : AD 1073 1 := ⟨dL_law_1073, dL_law_1074, dL_law_1076, dL_law_1077, dL_law_1078⟩
theorem aL_1079 : AD 1079 2 := ⟨dL_law_1079, dL_law_1080, dL_law_1082, dL_law_1083, dL_law_1084⟩
theorem aL_1085 : AD 1085 3 := ⟨dL_law_1085, dL_law_1086, dL_law_1088, dL_law_1089, dL_law_1090⟩
theorem aL_1095 : AD 1095 1 := ⟨dL_law_1095, dL_law_1096, dL_law_1098, dL_law_1099, dL_law_1100⟩
theorem aL_1101 : AD 1101 2 := ⟨dL_law_1101, dL_law_1102, dL_law_1104, dL_law_1105, dL_law_1106⟩
theorem aL_1107 : AD 1107 3 := ⟨dL_law_1107, dL_law_1108, dL_law_1110, dL_law_1111, dL_law_1112⟩
theorem aL_1122 : AD 1122 1 := ⟨dL_law_1122, dL_law_1123, dL_law_1125, dL_law_1126, dL_law_1127⟩
theorem aL_1128 : AD 1128 2 := ⟨dL_law_1128, dL_law_1129, dL_law_1131, dL_law_1132, dL_law_1133⟩
theorem aL_1138 : AD 1138 1 := ⟨dL_law_1138, dL_law_1139, dL_law_1141, dL_law_1142, dL_law_1143⟩
theorem aL_1144 : AD 1144 2 := ⟨dL_law_1144, dL_law_1145, dL_law_1147, dL_law_1148, dL_law_1149⟩
theorem aL_1159 : AD 1159 1 := ⟨dL_law_1159, dL_law_1160, dL_law_1162, dL_law_1163, dL_law_1164⟩
theorem aL_1165 : AD 1165 2 := ⟨dL_law_1165, dL_law_1166, dL_law_1168, dL_law_1169, dL_law_1170⟩
theorem aL_1171 : AD 1171 3 := ⟨dL_law_1171, dL_law_1172, dL_law_1174, dL_law_1175, dL_law_1176⟩
theorem aL_1181 : AD 1181 1 := ⟨dL_law_1181, dL_law_1182, dL_law_1184, dL_law_1185, dL_law_1186⟩
theorem aL_1187 : AD 1187 2 := ⟨dL_law_1187, dL_law_1188, dL_law_1190, dL_law_1191, dL_law_1192⟩
theorem aL_1193 : AD 1193 3 := ⟨dL_law_1193, dL_law_1194, dL_law_1196, dL_law_1197, dL_law_1198⟩
theorem aL_1208 : AD 1208 1 := ⟨dL_law_1208, dL_law_1209, dL_law_1211, dL_law_1212, dL_law_1213⟩
theorem aL_1214 : AD 1214 2 := ⟨dL_law_1214, dL_law_1215, dL_law_1217, dL_law_1218, dL_law_1219⟩
theorem aL_1220 : AD 1220 3 := ⟨dL_law_1220, dL_law_1221, dL_law_1223, dL_law_1224, dL_law_1225⟩
theorem aL_1238 : AD 1238 1 := ⟨dL_law_1238, dL_law_1239, dL_law_1241, dL_law_1242, dL_law_1243⟩
theorem aL_1244 : AD 1244 2 := ⟨dL_law_1244, dL_law_1245, dL_law_1247, dL_law_1248, dL_law_1249⟩
theorem aL_1250 : AD 1250 3 := ⟨dL_law_1250, dL_law_1251, dL_law_1253, dL_law_1254, dL_law_1255⟩
theorem aL_1274 : AD 1274 1 := ⟨dL_law_1274, dL_law_1275, dL_law_1277, dL_law_1278, dL_law_1279⟩
theorem aL_1280 : AD 1280 2 := ⟨dL_law_1280, dL_law_1281, dL_law_1283, dL_law_1284, dL_law_1285⟩
theorem aL_1298 : AD 1298 1 := ⟨dL_law_1298, dL_law_1299, dL_law_1301, dL_law_1302, dL_law_1303⟩
theorem aL_1304 : AD 1304 2 := ⟨dL_law_1304, dL_law_1305, dL_law_1307, dL_law_1308, dL_law_1309⟩
theorem aL_1328 : AD 1328 1 := ⟨dL_law_1328, dL_law_1329, dL_law_1331, dL_law_1332, dL_law_1333⟩
theorem aL_1338 : AD 1338 1 := ⟨dL_law_1338, dL_law_1339, dL_law_1341, dL_law_1342, dL_law_1343⟩
theorem aL_1353 : AD 1353 1 := ⟨dL_law_1353, dL_law_1354, dL_law_1356, dL_law_1357, dL_law_1358⟩
theorem aL_1363 : AD 1363 1 := ⟨dL_law_1363, dL_law_1364, dL_law_1366, dL_law_1367, dL_law_1368⟩
theorem aL_1378 : AD 1378 1 := ⟨dL_law_1378, dL_law_1379, dL_law_1381, dL_law_1382, dL_law_1383⟩
theorem aL_1388 : AD 1388 1 := ⟨dL_law_1388, dL_law_1389, dL_law_1391, dL_law_1392, dL_law_1393⟩
theorem aL_1403 : AD 1403 1 := ⟨dL_law_1403, dL_law_1404, dL_law_1406, dL_law_1407, dL_law_1408⟩
theorem aL_1409 : AD 1409 2 := ⟨dL_law_1409, dL_law_1410, dL_law_1412, dL_law_1413, dL_law_1414⟩
theorem aL_1419 : AD 1419 1 := ⟨dL_law_1419, dL_law_1420, dL_law_1422, dL_law_1423, dL_law_1424⟩
theorem aL_1425 : AD 1425 2 := ⟨dL_law_1425, dL_law_1426, dL_law_1428, dL_law_1429, dL_law_1430⟩
theorem aL_1440 : AD 1440 1 := ⟨dL_law_1440, dL_law_1441, dL_law_1443, dL_law_1444, dL_law_1445⟩
theorem aL_1450 : AD 1450 1 := ⟨dL_law_1450, dL_law_1451, dL_law_1453, dL_law_1454, dL_law_1455⟩
theorem aL_1465 : AD 1465 1 := ⟨dL_law_1465, dL_law_1466, dL_law_1468, dL_law_1469, dL_law_1470⟩
theorem aL_1475 : AD 1475 1 := ⟨dL_law_1475, dL_law_1476, dL_law_1478, dL_law_1479, dL_law_1480⟩
theorem aL_1490 : AD 1490 1 := ⟨dL_law_1490, dL_law_1491, dL_law_1493, dL_law_1494, dL_law_1495⟩
theorem aL_1500 : AD 1500 1 := ⟨dL_law_1500, dL_law_1501, dL_law_1503, dL_law_1504, dL_law_1505⟩
theorem aL_1528 : AD 1528 1 := ⟨dL_law_1528, dL_law_1529, dL_law_1531, dL_law_1532, dL_law_1533⟩
theorem aL_1538 : AD 1538 1 := ⟨dL_law_1538, dL_law_1539, dL_law_1541, dL_law_1542, dL_law_1543⟩
theorem aL_1566 : AD 1566 1 := ⟨dL_law_1566, dL_law_1567, dL_law_1569, dL_law_1570, dL_law_1571⟩
theorem aL_1572 : AD 1572 2 := ⟨dL_law_1572, dL_law_1573, dL_law_1575, dL_law_1576, dL_law_1577⟩
theorem aL_1578 : AD 1578 3 := ⟨dL_law_1578, dL_law_1579, dL_law_1581, dL_law_1582, dL_law_1583⟩
theorem aL_1584 : AD 1584 4 := ⟨dL_law_1584, dL_law_1585, dL_law_1587, dL_law_1588, dL_law_1589⟩
theorem aL_1590 : AD 1590 5 := ⟨dL_law_1590, dL_law_1591, dL_law_1593, dL_law_1594, dL_law_1595⟩
theorem aL_1600 : AD 1600 1 := ⟨dL_law_1600, dL_law_1601, dL_law_1603, dL_law_1604, dL_law_1605⟩
theorem aL_1606 : AD 1606 2 := ⟨dL_law_1606, dL_law_1607, dL_law_1609, dL_law_1610, dL_law_1611⟩
theorem aL_1612 : AD 1612 3 := ⟨dL_law_1612, dL_law_1613, dL_law_1615, dL_law_1616, dL_law_1617⟩
theorem aL_1618 : AD 1618 4 := ⟨dL_law_1618, dL_law_1619, dL_law_1621, dL_law_1622, dL_law_1623⟩
theorem aL_1624 : AD 1624 5 := ⟨dL_law_1624, dL_law_1625, dL_law_1627, dL_law_1628, dL_law_1629⟩
theorem aL_1639 : AD 1639 1 := ⟨dL_law_1639, dL_law_1640, dL_law_1642, dL_law_1643, dL_law_1644⟩
theorem aL_1649 : AD 1649 1 := ⟨dL_law_1649, dL_law_1650, dL_law_1652, dL_law_1653, dL_law_1654⟩
theorem aL_1664 : AD 1664 1 := ⟨dL_law_1664, dL_law_1665, dL_law_1667, dL_law_1668, dL_law_1669⟩
theorem aL_1670 : AD 1670 2 := ⟨dL_law_1670, dL_law_1671, dL_law_1673, dL_law_1674, dL_law_1675⟩
theorem aL_1680 : AD 1680 1 := ⟨dL_law_1680, dL_law_1681, dL_law_1683, dL_law_1684, dL_law_1685⟩
theorem aL_1686 : AD 1686 2 := ⟨dL_law_1686, dL_law_1687, dL_law_1689, dL_law_1690, dL_law_1691⟩
theorem aL_1701 : AD 1701 1 := ⟨dL_law_1701, dL_law_1702, dL_law_1704, dL_law_1705, dL_law_1706⟩
theorem aL_1707 : AD 1707 2 := ⟨dL_law_1707, dL_law_1708, dL_law_1710, dL_law_1711, dL_law_1712⟩
theorem aL_1717 : AD 1717 1 := ⟨dL_law_1717, dL_law_1718, dL_law_1720, dL_law_1721, dL_law_1722⟩
theorem aL_1723 : AD 1723 2 := ⟨dL_law_1723, dL_law_1724, dL_law_1726, dL_law_1727, dL_law_1728⟩
theorem aL_1738 : AD 1738 1 := ⟨dL_law_1738, dL_law_1739, dL_law_1741, dL_law_1742, dL_law_1743⟩
theorem aL_1744 : AD 1744 2 := ⟨dL_law_1744, dL_law_1745, dL_law_1747, dL_law_1748, dL_law_1749⟩
theorem aL_1750 : AD 1750 3 := ⟨dL_law_1750, dL_law_1751, dL_law_1753, dL_law_1754, dL_law_1755⟩
theorem aL_1760 : AD 1760 1 := ⟨dL_law_1760, dL_law_1761, dL_law_1763, dL_law_1764, dL_law_1765⟩
theorem aL_1766 : AD 1766 2 := ⟨dL_law_1766, dL_law_1767, dL_law_1769, dL_law_1770, dL_law_1771⟩
theorem aL_1772 : AD 1772 3 := ⟨dL_law_1772, dL_law_1773, dL_law_1775, dL_law_1776, dL_law_1777⟩
theorem aL_1787 : AD 1787 1 := ⟨dL_law_1787, dL_law_1788, dL_law_1790, dL_law_1791, dL_law_1792⟩
theorem aL_1793 : AD 1793 2 := ⟨dL_law_1793, dL_law_1794, dL_law_1796, dL_law_1797, dL_law_1798⟩
theorem aL_1803 : AD 1803 1 := ⟨dL_law_1803, dL_law_1804, dL_law_1806, dL_law_1807, dL_law_1808⟩
theorem aL_1809 : AD 1809 2 := ⟨dL_law_1809, dL_law_1810, dL_law_1812, dL_law_1813, dL_law_1814⟩
theorem aL_1824 : AD 1824 1 := ⟨dL_law_1824, dL_law_1825, dL_law_1827, dL_law_1828, dL_law_1829⟩
theorem aL_1834 : AD 1834 1 := ⟨dL_law_1834, dL_law_1835, dL_law_1837, dL_law_1838, dL_law_1839⟩
theorem aL_1888 : AD 1888 1 := ⟨dL_law_1888, dL_law_1889, dL_law_1891, dL_law_1892, dL_law_1893⟩
section LAWK
variable {p : Program} {l : Launch} {e : Env} {s : State} {m : MethodId} {b L : Nat} {xs : Nat → Int32} {below : List Frame} {meth : Method} {c : Code} {D : va_G} {cA : Nat → ClassId} {ad : Nat × Nat} {Q : State → Prop} {φ : Nat → Nat} {ρ : Rf} {μ : Mem} {H : Heap} {locs : List Loc} {cells slots : Nat} {ls : Array Slot} {i : Int}
theorem lw_0 (hN : (∀ (φ' : Nat → Nat) (ρ' : Rf) (μ' : Mem) (H1 : Heap) (locs1 : List Loc), LJ s D cA φ' ρ' μ' H1 locs1 → lv_has ls 7 (LLv b φ' i) → W p l e room_1 s m #[Value.ref b] below meth c H1 locs1 cells slots Q (F0 m 1956 ls []))) (C : LC p s m b L xs c D cA ad) (J : LJ s D cA φ ρ μ H locs) (hl : lv_has ls 7 (LLv b φ i)) (hi : 0 ≤ i) (hL : i + 5 < L) (hcap : cells ≤ room_1.cells ∧ slots ≤ room_1.slots) : W p l e room_1 s m #[Value.ref b] below meth c H locs cells slots Q (F0 m 276 ls []) :=
  l_case 5 hN C J hl hi hL hcap (by decide) ⟨rfl, rfl⟩ pr_append cmL_19 cmL_23 lr_X7_append lr_X8_append dL_law_276 ⟨aL_277, aL_283, aL_289, aL_295, aL_301, trivial⟩ dL_law_307 dL_law_310 ⟨aL_311, aL_317, aL_323, aL_329, aL_335, trivial⟩ dL_law_341 dL_law_344 (by decide)
theorem lw_1 (hN : (∀ (φ' : Nat → Nat) (ρ' : Rf) (μ' : Mem) (H1 : Heap) (locs1 : List Loc), LJ s D cA φ' ρ' μ' H1 locs1 → lv_has ls 7 (LLv b φ' i) → W p l e room_1 s m #[Value.ref b] below meth c H1 locs1 cells slots Q (F0 m 1956 ls []))) (C : LC p s m b L xs c D cA ad) (J : LJ s D cA φ ρ μ H locs) (hl : lv_has ls 7 (LLv b φ i)) (hi : 0 ≤ i) (hL : i + 5 < L) (hcap : cells ≤ room_1.cells ∧ slots ≤ room_1.slots) : W p l e room_1 s m #[Value.ref b] below meth c H locs cells slots Q (F0 m 349 ls []) :=
  l_case 1 hN C J hl hi hL hcap (by decide) ⟨rfl, rfl⟩ pr_load cmL_24 cmL_27 lr_X7_load lr_X8_load dL_law_349 ⟨aL_350, trivial⟩ dL_law_356 dL_law_359 ⟨aL_360, trivial⟩ dL_law_366 dL_law_369 (by decide)
theorem lw_2 (hN : (∀ (φ' : Nat → Nat) (ρ' : Rf) (μ' : Mem) (H1 : Heap) (locs1 : List Loc), LJ s D cA φ' ρ' μ' H1 locs1 → lv_has ls 7 (LLv b φ' i) → W p l e room_1 s m #[Value.ref b] below meth c H1 locs1 cells slots Q (F0 m 1956 ls []))) (C : LC p s m b L xs c D cA ad) (J : LJ s D cA φ ρ μ H locs) (hl : lv_has ls 7 (LLv b φ i)) (hi : 0 ≤ i) (hL : i + 5 < L) (hcap : cells ≤ room_1.cells ∧ slots ≤ room_1.slots) : W p l e room_1 s m #[Value.ref b] below meth c H locs cells slots Q (F0 m 374 ls []) :=
  l_case 0 hN C J hl hi hL hcap (by decide) ⟨rfl, rfl⟩ pr_parseError cmL_28 cmL_32 lr_X7_parseError lr_X8_parseError dL_law_374 trivial dL_law_375 dL_law_378 trivial dL_law_379 dL_law_382 (by decide)
theorem lw_3 (hN : (∀ (φ' : Nat → Nat) (ρ' : Rf) (μ' : Mem) (H1 : Heap) (locs1 : List Loc), LJ s D cA φ' ρ' μ' H1 locs1 → lv_has ls 7 (LLv b φ' i) → W p l e room_1 s m #[Value.ref b] below meth c H1 locs1 cells slots Q (F0 m 1956 ls []))) (C : LC p s m b L xs c D cA ad) (J : LJ s D cA φ ρ μ H locs) (hl : lv_has ls 7 (LLv b φ i)) (hi : 0 ≤ i) (hL : i + 5 < L) (hcap : cells ≤ room_1.cells ∧ slots ≤ room_1.slots) : W p l e room_1 s m #[Value.ref b] below meth c H locs cells slots Q (F0 m 387 ls []) :=
  l_case 0 hN C J hl hi hL hcap (by decide) ⟨rfl, rfl⟩ pr_errorPosition cmL_33 cmL_36 lr_X7_errorPosition lr_X8_errorPosition dL_law_387 trivial dL_law_388 dL_law_391 trivial dL_law_392 dL_law_395 (by decide)
theorem lw_4 (hN : (∀ (φ' : Nat → Nat) (ρ' : Rf) (μ' : Mem) (H1 : Heap) (locs1 : List Loc), LJ s D cA φ' ρ' μ' H1 locs1 → lv_has ls 7 (LLv b φ' i) → W p l e room_1 s m #[Value.ref b] below meth c H1 locs1 cells slots Q (F0 m 1956 ls []))) (C : LC p s m b L xs c D cA ad) (J : LJ s D cA φ ρ μ H locs) (hl : lv_has ls 7 (LLv b φ i)) (hi : 0 ≤ i) (hL : i + 5 < L) (hcap : cells ≤ room_1.cells ∧ slots ≤ room_1.slots) : W p l e room_1 s m #[Value.ref b] below meth c H locs cells slots Q (F0 m 400 ls []) :=
  l_case 0 hN C J hl hi hL hcap (by decide) ⟨rfl, rfl⟩ pr_buffered cmL_37 cmL_40 lr_X7_buffered lr_X8_buffered dL_law_400 trivial dL_law_401 dL_law_404 trivial dL_law_405 dL_law_408 (by decide)
theorem lw_5 (hN : (∀ (φ' : Nat → Nat) (ρ' : Rf) (μ' : Mem) (H1 : Heap) (locs1 : List Loc), LJ s D cA φ' ρ' μ' H1 locs1 → lv_has ls 7 (LLv b φ' i) → W p l e room_1 s m #[Value.ref b] below meth c H1 locs1 cells slots Q (F0 m 1956 ls []))) (C : LC p s m b L xs c D cA ad) (J : LJ s D cA φ ρ μ H locs) (hl : lv_has ls 7 (LLv b φ i)) (hi : 0 ≤ i) (hL : i + 5 < L) (hcap : cells ≤ room_1.cells ∧ slots ≤ room_1.slots) : W p l e room_1 s m #[Value.ref b] below meth c H locs cells slots Q (F0 m 413 ls []) :=
  l_case 1 hN C J hl hi hL hcap (by decide) ⟨rfl, rfl⟩ pr_carCount cmL_41 cmL_44 lr_X7_carCount lr_X8_carCount dL_law_413 ⟨aL_414, trivial⟩ dL_law_420 dL_law_423 ⟨aL_424, trivial⟩ dL_law_430 dL_law_433 (by decide)
theorem lw_6 (hN : (∀ (φ' : Nat → Nat) (ρ' : Rf) (μ' : Mem) (H1 : Heap) (locs1 : List Loc), LJ s D cA φ' ρ' μ' H1 locs1 → lv_has ls 7 (LLv b φ' i) → W p l e room_1 s m #[Value.ref b] below meth c H1 locs1 cells slots Q (F0 m 1956 ls []))) (C : LC p s m b L xs c D cA ad) (J : LJ s D cA φ ρ μ H locs) (hl : lv_has ls 7 (LLv b φ i)) (hi : 0 ≤ i) (hL : i + 5 < L) (hcap : cells ≤ room_1.cells ∧ slots ≤ room_1.slots) : W p l e room_1 s m #[Value.ref b] below meth c H locs cells slots Q (F0 m 438 ls []) :=
  l_case 0 hN C J hl hi hL hcap (by decide) ⟨rfl, rfl⟩ pr_mealCount cmL_45 cmL_48 lr_X7_mealCount lr_X8_mealCount dL_law_438 trivial dL_law_439 dL_law_442 trivial dL_law_443 dL_law_446 (by decide)
theorem lw_7 (hN : (∀ (φ' : Nat → Nat) (ρ' : Rf) (μ' : Mem) (H1 : Heap) (locs1 : List Loc), LJ s D cA φ' ρ' μ' H1 locs1 → lv_has ls 7 (LLv b φ' i) → W p l e room_1 s m #[Value.ref b] below meth c H1 locs1 cells slots Q (F0 m 1956 ls []))) (C : LC p s m b L xs c D cA ad) (J : LJ s D cA φ ρ μ H locs) (hl : lv_has ls 7 (LLv b φ i)) (hi : 0 ≤ i) (hL : i + 5 < L) (hcap : cells ≤ room_1.cells ∧ slots ≤ room_1.slots) : W p l e room_1 s m #[Value.ref b] below meth c H locs cells slots Q (F0 m 451 ls []) :=
  l_case 0 hN C J hl hi hL hcap (by decide) ⟨rfl, rfl⟩ pr_trolleyCount cmL_49 cmL_52 lr_X7_trolleyCount lr_X8_trolleyCount dL_law_451 trivial dL_law_452 dL_law_455 trivial dL_law_456 dL_law_459 (by decide)
theorem lw_8 (hN : (∀ (φ' : Nat → Nat) (ρ' : Rf) (μ' : Mem) (H1 : Heap) (locs1 : List Loc), LJ s D cA φ' ρ' μ' H1 locs1 → lv_has ls 7 (LLv b φ' i) → W p l e room_1 s m #[Value.ref b] below meth c H1 locs1 cells slots Q (F0 m 1956 ls []))) (C : LC p s m b L xs c D cA ad) (J : LJ s D cA φ ρ μ H locs) (hl : lv_has ls 7 (LLv b φ i)) (hi : 0 ≤ i) (hL : i + 5 < L) (hcap : cells ≤ room_1.cells ∧ slots ≤ room_1.slots) : W p l e room_1 s m #[Value.ref b] below meth c H locs cells slots Q (F0 m 464 ls []) :=
  l_case 0 hN C J hl hi hL hcap (by decide) ⟨rfl, rfl⟩ pr_jobCount cmL_53 cmL_56 lr_X7_jobCount lr_X8_jobCount dL_law_464 trivial dL_law_465 dL_law_468 trivial dL_law_469 dL_law_472 (by decide)
theorem lw_9 (hN : (∀ (φ' : Nat → Nat) (ρ' : Rf) (μ' : Mem) (H1 : Heap) (locs1 : List Loc), LJ s D cA φ' ρ' μ' H1 locs1 → lv_has ls 7 (LLv b φ' i) → W p l e room_1 s m #[Value.ref b] below meth c H1 locs1 cells slots Q (F0 m 1956 ls []))) (C : LC p s m b L xs c D cA ad) (J : LJ s D cA φ ρ μ H locs) (hl : lv_has ls 7 (LLv b φ i)) (hi : 0 ≤ i) (hL : i + 5 < L) (hcap : cells ≤ room_1.cells ∧ slots ≤ room_1.slots) : W p l e room_1 s m #[Value.ref b] below meth c H locs cells slots Q (F0 m 477 ls []) :=
  l_case 1 hN C J hl hi hL hcap (by decide) ⟨rfl, rfl⟩ pr_departure cmL_57 cmL_60 lr_X7_departure lr_X8_departure dL_law_477 ⟨aL_478, trivial⟩ dL_law_484 dL_law_487 ⟨aL_488, trivial⟩ dL_law_494 dL_law_497 (by decide)
theorem lw_10 (hN : (∀ (φ' : Nat → Nat) (ρ' : Rf) (μ' : Mem) (H1 : Heap) (locs1 : List Loc), LJ s D cA φ' ρ' μ' H1 locs1 → lv_has ls 7 (LLv b φ' i) → W p l e room_1 s m #[Value.ref b] below meth c H1 locs1 cells slots Q (F0 m 1956 ls []))) (C : LC p s m b L xs c D cA ad) (J : LJ s D cA φ ρ μ H locs) (hl : lv_has ls 7 (LLv b φ i)) (hi : 0 ≤ i) (hL : i + 5 < L) (hcap : cells ≤ room_1.cells ∧ slots ≤ room_1.slots) : W p l e room_1 s m #[Value.ref b] below meth c H locs cells slots Q (F0 m 502 ls []) :=
  l_case 2 hN C J hl hi hL hcap (by decide) ⟨rfl, rfl⟩ pr_stock cmL_61 cmL_65 lr_X7_stock lr_X8_stock dL_law_502 ⟨aL_503, aL_509, trivial⟩ dL_law_515 dL_law_518 ⟨aL_519, aL_525, trivial⟩ dL_law_531 dL_law_534 (by decide)
theorem lw_11 (hN : (∀ (φ' : Nat → Nat) (ρ' : Rf) (μ' : Mem) (H1 : Heap) (locs1 : List Loc), LJ s D cA φ' ρ' μ' H1 locs1 → lv_has ls 7 (LLv b φ' i) → W p l e room_1 s m #[Value.ref b] below meth c H1 locs1 cells slots Q (F0 m 1956 ls []))) (C : LC p s m b L xs c D cA ad) (J : LJ s D cA φ ρ μ H locs) (hl : lv_has ls 7 (LLv b φ i)) (hi : 0 ≤ i) (hL : i + 5 < L) (hcap : cells ≤ room_1.cells ∧ slots ≤ room_1.slots) : W p l e room_1 s m #[Value.ref b] below meth c H locs cells slots Q (F0 m 539 ls []) :=
  l_case 3 hN C J hl hi hL hcap (by decide) ⟨rfl, rfl⟩ pr_demand cmL_66 cmL_70 lr_X7_demand lr_X8_demand dL_law_539 ⟨aL_540, aL_546, aL_552, trivial⟩ dL_law_558 dL_law_561 ⟨aL_562, aL_568, aL_574, trivial⟩ dL_law_580 dL_law_583 (by decide)
theorem lw_12 (hN : (∀ (φ' : Nat → Nat) (ρ' : Rf) (μ' : Mem) (H1 : Heap) (locs1 : List Loc), LJ s D cA φ' ρ' μ' H1 locs1 → lv_has ls 7 (LLv b φ' i) → W p l e room_1 s m #[Value.ref b] below meth c H1 locs1 cells slots Q (F0 m 1956 ls []))) (C : LC p s m b L xs c D cA ad) (J : LJ s D cA φ ρ μ H locs) (hl : lv_has ls 7 (LLv b φ i)) (hi : 0 ≤ i) (hL : i + 5 < L) (hcap : cells ≤ room_1.cells ∧ slots ≤ room_1.slots) : W p l e room_1 s m #[Value.ref b] below meth c H locs cells slots Q (F0 m 588 ls []) :=
  l_case 1 hN C J hl hi hL hcap (by decide) ⟨rfl, rfl⟩ pr_jobTrolley cmL_71 cmL_74 lr_X7_jobTrolley lr_X8_jobTrolley dL_law_588 ⟨aL_589, trivial⟩ dL_law_595 dL_law_598 ⟨aL_599, trivial⟩ dL_law_605 dL_law_608 (by decide)
theorem lw_13 (hN : (∀ (φ' : Nat → Nat) (ρ' : Rf) (μ' : Mem) (H1 : Heap) (locs1 : List Loc), LJ s D cA φ' ρ' μ' H1 locs1 → lv_has ls 7 (LLv b φ' i) → W p l e room_1 s m #[Value.ref b] below meth c H1 locs1 cells slots Q (F0 m 1956 ls []))) (C : LC p s m b L xs c D cA ad) (J : LJ s D cA φ ρ μ H locs) (hl : lv_has ls 7 (LLv b φ i)) (hi : 0 ≤ i) (hL : i + 5 < L) (hcap : cells ≤ room_1.cells ∧ slots ≤ room_1.slots) : W p l e room_1 s m #[Value.ref b] below meth c H locs cells slots Q (F0 m 613 ls []) :=
  l_case 1 hN C J hl hi hL hcap (by decide) ⟨rfl, rfl⟩ pr_jobQuantity cmL_75 cmL_78 lr_X7_jobQuantity lr_X8_jobQuantity dL_law_613 ⟨aL_614, trivial⟩ dL_law_620 dL_law_623 ⟨aL_624, trivial⟩ dL_law_630 dL_law_633 (by decide)
theorem lw_14 (hN : (∀ (φ' : Nat → Nat) (ρ' : Rf) (μ' : Mem) (H1 : Heap) (locs1 : List Loc), LJ s D cA φ' ρ' μ' H1 locs1 → lv_has ls 7 (LLv b φ' i) → W p l e room_1 s m #[Value.ref b] below meth c H1 locs1 cells slots Q (F0 m 1956 ls []))) (C : LC p s m b L xs c D cA ad) (J : LJ s D cA φ ρ μ H locs) (hl : lv_has ls 7 (LLv b φ i)) (hi : 0 ≤ i) (hL : i + 5 < L) (hcap : cells ≤ room_1.cells ∧ slots ≤ room_1.slots) : W p l e room_1 s m #[Value.ref b] below meth c H locs cells slots Q (F0 m 638 ls []) :=
  l_case 1 hN C J hl hi hL hcap (by decide) ⟨rfl, rfl⟩ pr_startTime cmL_79 cmL_82 lr_X7_startTime lr_X8_startTime dL_law_638 ⟨aL_639, trivial⟩ dL_law_645 dL_law_648 ⟨aL_649, trivial⟩ dL_law_655 dL_law_658 (by decide)
theorem lw_15 (hN : (∀ (φ' : Nat → Nat) (ρ' : Rf) (μ' : Mem) (H1 : Heap) (locs1 : List Loc), LJ s D cA φ' ρ' μ' H1 locs1 → lv_has ls 7 (LLv b φ' i) → W p l e room_1 s m #[Value.ref b] below meth c H1 locs1 cells slots Q (F0 m 1956 ls []))) (C : LC p s m b L xs c D cA ad) (J : LJ s D cA φ ρ μ H locs) (hl : lv_has ls 7 (LLv b φ i)) (hi : 0 ≤ i) (hL : i + 5 < L) (hcap : cells ≤ room_1.cells ∧ slots ≤ room_1.slots) : W p l e room_1 s m #[Value.ref b] below meth c H locs cells slots Q (F0 m 663 ls []) :=
  l_case 1 hN C J hl hi hL hcap (by decide) ⟨rfl, rfl⟩ pr_loaded cmL_83 cmL_86 lr_X7_loaded lr_X8_loaded dL_law_663 ⟨aL_664, trivial⟩ dL_law_670 dL_law_673 ⟨aL_674, trivial⟩ dL_law_680 dL_law_683 (by decide)
theorem lw_16 (hN : (∀ (φ' : Nat → Nat) (ρ' : Rf) (μ' : Mem) (H1 : Heap) (locs1 : List Loc), LJ s D cA φ' ρ' μ' H1 locs1 → lv_has ls 7 (LLv b φ' i) → W p l e room_1 s m #[Value.ref b] below meth c H1 locs1 cells slots Q (F0 m 1956 ls []))) (C : LC p s m b L xs c D cA ad) (J : LJ s D cA φ ρ μ H locs) (hl : lv_has ls 7 (LLv b φ i)) (hi : 0 ≤ i) (hL : i + 5 < L) (hcap : cells ≤ room_1.cells ∧ slots ≤ room_1.slots) : W p l e room_1 s m #[Value.ref b] below meth c H locs cells slots Q (F0 m 688 ls []) :=
  l_case 1 hN C J hl hi hL hcap (by decide) ⟨rfl, rfl⟩ pr_unloaded cmL_87 cmL_90 lr_X7_unloaded lr_X8_unloaded dL_law_688 ⟨aL_689, trivial⟩ dL_law_695 dL_law_698 ⟨aL_699, trivial⟩ dL_law_705 dL_law_708 (by decide)
theorem lw_17 (hN : (∀ (φ' : Nat → Nat) (ρ' : Rf) (μ' : Mem) (H1 : Heap) (locs1 : List Loc), LJ s D cA φ' ρ' μ' H1 locs1 → lv_has ls 7 (LLv b φ' i) → W p l e room_1 s m #[Value.ref b] below meth c H1 locs1 cells slots Q (F0 m 1956 ls []))) (C : LC p s m b L xs c D cA ad) (J : LJ s D cA φ ρ μ H locs) (hl : lv_has ls 7 (LLv b φ i)) (hi : 0 ≤ i) (hL : i + 5 < L) (hcap : cells ≤ room_1.cells ∧ slots ≤ room_1.slots) : W p l e room_1 s m #[Value.ref b] below meth c H locs cells slots Q (F0 m 713 ls []) :=
  l_case 1 hN C J hl hi hL hcap (by decide) ⟨rfl, rfl⟩ pr_unloadTime cmL_91 cmL_94 lr_X7_unloadTime lr_X8_unloadTime dL_law_713 ⟨aL_714, trivial⟩ dL_law_720 dL_law_723 ⟨aL_724, trivial⟩ dL_law_730 dL_law_733 (by decide)
theorem lw_18 (hN : (∀ (φ' : Nat → Nat) (ρ' : Rf) (μ' : Mem) (H1 : Heap) (locs1 : List Loc), LJ s D cA φ' ρ' μ' H1 locs1 → lv_has ls 7 (LLv b φ' i) → W p l e room_1 s m #[Value.ref b] below meth c H1 locs1 cells slots Q (F0 m 1956 ls []))) (C : LC p s m b L xs c D cA ad) (J : LJ s D cA φ ρ μ H locs) (hl : lv_has ls 7 (LLv b φ i)) (hi : 0 ≤ i) (hL : i + 5 < L) (hcap : cells ≤ room_1.cells ∧ slots ≤ room_1.slots) : W p l e room_1 s m #[Value.ref b] below meth c H locs cells slots Q (F0 m 738 ls []) :=
  l_case 1 hN C J hl hi hL hcap (by decide) ⟨rfl, rfl⟩ pr_finishTime cmL_95 cmL_98 lr_X7_finishTime lr_X8_finishTime dL_law_738 ⟨aL_739, trivial⟩ dL_law_745 dL_law_748 ⟨aL_749, trivial⟩ dL_law_755 dL_law_758 (by decide)
theorem lw_19 (hN : (∀ (φ' : Nat → Nat) (ρ' : Rf) (μ' : Mem) (H1 : Heap) (locs1 : List Loc), LJ s D cA φ' ρ' μ' H1 locs1 → lv_has ls 7 (LLv b φ' i) → W p l e room_1 s m #[Value.ref b] below meth c H1 locs1 cells slots Q (F0 m 1956 ls []))) (C : LC p s m b L xs c D cA ad) (J : LJ s D cA φ ρ μ H locs) (hl : lv_has ls 7 (LLv b φ i)) (hi : 0 ≤ i) (hL : i + 5 < L) (hcap : cells ≤ room_1.cells ∧ slots ≤ room_1.slots) : W p l e room_1 s m #[Value.ref b] below meth c H locs cells slots Q (F0 m 763 ls []) :=
  l_case 3 hN C J hl hi hL hcap (by decide) ⟨rfl, rfl⟩ pr_delivered cmL_99 cmL_102 lr_X7_delivered lr_X8_delivered dL_law_763 ⟨aL_764, aL_770, aL_776, trivial⟩ dL_law_782 dL_law_785 ⟨aL_786, aL_792, aL_798, trivial⟩ dL_law_804 dL_law_807 (by decide)
theorem lw_20 (hN : (∀ (φ' : Nat → Nat) (ρ' : Rf) (μ' : Mem) (H1 : Heap) (locs1 : List Loc), LJ s D cA φ' ρ' μ' H1 locs1 → lv_has ls 7 (LLv b φ' i) → W p l e room_1 s m #[Value.ref b] below meth c H1 locs1 cells slots Q (F0 m 1956 ls []))) (C : LC p s m b L xs c D cA ad) (J : LJ s D cA φ ρ μ H locs) (hl : lv_has ls 7 (LLv b φ i)) (hi : 0 ≤ i) (hL : i + 5 < L) (hcap : cells ≤ room_1.cells ∧ slots ≤ room_1.slots) : W p l e room_1 s m #[Value.ref b] below meth c H locs cells slots Q (F0 m 812 ls []) :=
  l_case 0 hN C J hl hi hL hcap (by decide) ⟨rfl, rfl⟩ pr_deliveredTotal cmL_103 cmL_106 lr_X7_deliveredTotal lr_X8_deliveredTotal dL_law_812 trivial dL_law_813 dL_law_816 trivial dL_law_817 dL_law_820 (by decide)
theorem lw_21 (hN : (∀ (φ' : Nat → Nat) (ρ' : Rf) (μ' : Mem) (H1 : Heap) (locs1 : List Loc), LJ s D cA φ' ρ' μ' H1 locs1 → lv_has ls 7 (LLv b φ' i) → W p l e room_1 s m #[Value.ref b] below meth c H1 locs1 cells slots Q (F0 m 1956 ls []))) (C : LC p s m b L xs c D cA ad) (J : LJ s D cA φ ρ μ H locs) (hl : lv_has ls 7 (LLv b φ i)) (hi : 0 ≤ i) (hL : i + 5 < L) (hcap : cells ≤ room_1.cells ∧ slots ≤ room_1.slots) : W p l e room_1 s m #[Value.ref b] below meth c H locs cells slots Q (F0 m 825 ls []) :=
  l_case 1 hN C J hl hi hL hcap (by decide) ⟨rfl, rfl⟩ pr_leftBehind cmL_107 cmL_110 lr_X7_leftBehind lr_X8_leftBehind dL_law_825 ⟨aL_826, trivial⟩ dL_law_832 dL_law_835 ⟨aL_836, trivial⟩ dL_law_842 dL_law_845 (by decide)
theorem lw_22 (hN : (∀ (φ' : Nat → Nat) (ρ' : Rf) (μ' : Mem) (H1 : Heap) (locs1 : List Loc), LJ s D cA φ' ρ' μ' H1 locs1 → lv_has ls 7 (LLv b φ' i) → W p l e room_1 s m #[Value.ref b] below meth c H1 locs1 cells slots Q (F0 m 1956 ls []))) (C : LC p s m b L xs c D cA ad) (J : LJ s D cA φ ρ μ H locs) (hl : lv_has ls 7 (LLv b φ i)) (hi : 0 ≤ i) (hL : i + 5 < L) (hcap : cells ≤ room_1.cells ∧ slots ≤ room_1.slots) : W p l e room_1 s m #[Value.ref b] below meth c H locs cells slots Q (F0 m 850 ls []) :=
  l_case 2 hN C J hl hi hL hcap (by decide) ⟨rfl, rfl⟩ pr_finalStock cmL_111 cmL_114 lr_X7_finalStock lr_X8_finalStock dL_law_850 ⟨aL_851, aL_857, trivial⟩ dL_law_863 dL_law_866 ⟨aL_867, aL_873, trivial⟩ dL_law_879 dL_law_882 (by decide)
theorem lw_23 (hN : (∀ (φ' : Nat → Nat) (ρ' : Rf) (μ' : Mem) (H1 : Heap) (locs1 : List Loc), LJ s D cA φ' ρ' μ' H1 locs1 → lv_has ls 7 (LLv b φ' i) → W p l e room_1 s m #[Value.ref b] below meth c H1 locs1 cells slots Q (F0 m 1956 ls []))) (C : LC p s m b L xs c D cA ad) (J : LJ s D cA φ ρ μ H locs) (hl : lv_has ls 7 (LLv b φ i)) (hi : 0 ≤ i) (hL : i + 5 < L) (hcap : cells ≤ room_1.cells ∧ slots ≤ room_1.slots) : W p l e room_1 s m #[Value.ref b] below meth c H locs cells slots Q (F0 m 887 ls []) :=
  l_case 3 hN C J hl hi hL hcap (by decide) ⟨rfl, rfl⟩ pr_shortage cmL_115 cmL_118 lr_X7_shortage lr_X8_shortage dL_law_887 ⟨aL_888, aL_894, aL_900, trivial⟩ dL_law_906 dL_law_909 ⟨aL_910, aL_916, aL_922, trivial⟩ dL_law_928 dL_law_931 (by decide)
theorem lw_24 (hN : (∀ (φ' : Nat → Nat) (ρ' : Rf) (μ' : Mem) (H1 : Heap) (locs1 : List Loc), LJ s D cA φ' ρ' μ' H1 locs1 → lv_has ls 7 (LLv b φ' i) → W p l e room_1 s m #[Value.ref b] below meth c H1 locs1 cells slots Q (F0 m 1956 ls []))) (C : LC p s m b L xs c D cA ad) (J : LJ s D cA φ ρ μ H locs) (hl : lv_has ls 7 (LLv b φ i)) (hi : 0 ≤ i) (hL : i + 5 < L) (hcap : cells ≤ room_1.cells ∧ slots ≤ room_1.slots) : W p l e room_1 s m #[Value.ref b] below meth c H locs cells slots Q (F0 m 936 ls []) :=
  l_case 1 hN C J hl hi hL hcap (by decide) ⟨rfl, rfl⟩ pr_longestWait cmL_119 cmL_122 lr_X7_longestWait lr_X8_longestWait dL_law_936 ⟨aL_937, trivial⟩ dL_law_943 dL_law_946 ⟨aL_947, trivial⟩ dL_law_953 dL_law_956 (by decide)
theorem lw_25 (hN : (∀ (φ' : Nat → Nat) (ρ' : Rf) (μ' : Mem) (H1 : Heap) (locs1 : List Loc), LJ s D cA φ' ρ' μ' H1 locs1 → lv_has ls 7 (LLv b φ' i) → W p l e room_1 s m #[Value.ref b] below meth c H1 locs1 cells slots Q (F0 m 1956 ls []))) (C : LC p s m b L xs c D cA ad) (J : LJ s D cA φ ρ μ H locs) (hl : lv_has ls 7 (LLv b φ i)) (hi : 0 ≤ i) (hL : i + 5 < L) (hcap : cells ≤ room_1.cells ∧ slots ≤ room_1.slots) : W p l e room_1 s m #[Value.ref b] below meth c H locs cells slots Q (F0 m 961 ls []) :=
  l_case 2 hN C J hl hi hL hcap (by decide) ⟨rfl, rfl⟩ pr_doorBusy cmL_123 cmL_126 lr_X7_doorBusy lr_X8_doorBusy dL_law_961 ⟨aL_962, aL_968, trivial⟩ dL_law_974 dL_law_977 ⟨aL_978, aL_984, trivial⟩ dL_law_990 dL_law_993 (by decide)
theorem lw_26 (hN : (∀ (φ' : Nat → Nat) (ρ' : Rf) (μ' : Mem) (H1 : Heap) (locs1 : List Loc), LJ s D cA φ' ρ' μ' H1 locs1 → lv_has ls 7 (LLv b φ' i) → W p l e room_1 s m #[Value.ref b] below meth c H1 locs1 cells slots Q (F0 m 1956 ls []))) (C : LC p s m b L xs c D cA ad) (J : LJ s D cA φ ρ μ H locs) (hl : lv_has ls 7 (LLv b φ i)) (hi : 0 ≤ i) (hL : i + 5 < L) (hcap : cells ≤ room_1.cells ∧ slots ≤ room_1.slots) : W p l e room_1 s m #[Value.ref b] below meth c H locs cells slots Q (F0 m 998 ls []) :=
  l_case 2 hN C J hl hi hL hcap (by decide) ⟨rfl, rfl⟩ pr_stateAt cmL_127 cmL_130 lr_X7_stateAt lr_X8_stateAt dL_law_998 ⟨aL_999, aL_1005, trivial⟩ dL_law_1011 dL_law_1014 ⟨aL_1015, aL_1021, trivial⟩ dL_law_1027 dL_law_1030 (by decide)
theorem lw_27 (hN : (∀ (φ' : Nat → Nat) (ρ' : Rf) (μ' : Mem) (H1 : Heap) (locs1 : List Loc), LJ s D cA φ' ρ' μ' H1 locs1 → lv_has ls 7 (LLv b φ' i) → W p l e room_1 s m #[Value.ref b] below meth c H1 locs1 cells slots Q (F0 m 1956 ls []))) (C : LC p s m b L xs c D cA ad) (J : LJ s D cA φ ρ μ H locs) (hl : lv_has ls 7 (LLv b φ i)) (hi : 0 ≤ i) (hL : i + 5 < L) (hcap : cells ≤ room_1.cells ∧ slots ≤ room_1.slots) : W p l e room_1 s m #[Value.ref b] below meth c H locs cells slots Q (F0 m 1035 ls []) :=
  l_case 2 hN C J hl hi hL hcap (by decide) ⟨rfl, rfl⟩ pr_mealsOn cmL_131 cmL_134 lr_X7_mealsOn lr_X8_mealsOn dL_law_1035 ⟨aL_1036, aL_1042, trivial⟩ dL_law_1048 dL_law_1051 ⟨aL_1052, aL_1058, trivial⟩ dL_law_1064 dL_law_1067 (by decide)
theorem lw_28 (hN : (∀ (φ' : Nat → Nat) (ρ' : Rf) (μ' : Mem) (H1 : Heap) (locs1 : List Loc), LJ s D cA φ' ρ' μ' H1 locs1 → lv_has ls 7 (LLv b φ' i) → W p l e room_1 s m #[Value.ref b] below meth c H1 locs1 cells slots Q (F0 m 1956 ls []))) (C : LC p s m b L xs c D cA ad) (J : LJ s D cA φ ρ μ H locs) (hl : lv_has ls 7 (LLv b φ i)) (hi : 0 ≤ i) (hL : i + 5 < L) (hcap : cells ≤ room_1.cells ∧ slots ≤ room_1.slots) : W p l e room_1 s m #[Value.ref b] below meth c H locs cells slots Q (F0 m 1072 ls []) :=
  l_case 3 hN C J hl hi hL hcap (by decide) ⟨rfl, rfl⟩ pr_share cmL_135 cmL_138 lr_X7_share lr_X8_share dL_law_1072 ⟨aL_1073, aL_1079, aL_1085, trivial⟩ dL_law_1091 dL_law_1094 ⟨aL_1095, aL_1101, aL_1107, trivial⟩ dL_law_1113 dL_law_1116 (by decide)
theorem lw_29 (hN : (∀ (φ' : Nat → Nat) (ρ' : Rf) (μ' : Mem) (H1 : Heap) (locs1 : List Loc), LJ s D cA φ' ρ' μ' H1 locs1 → lv_has ls 7 (LLv b φ' i) → W p l e room_1 s m #[Value.ref b] below meth c H1 locs1 cells slots Q (F0 m 1956 ls []))) (C : LC p s m b L xs c D cA ad) (J : LJ s D cA φ ρ μ H locs) (hl : lv_has ls 7 (LLv b φ i)) (hi : 0 ≤ i) (hL : i + 5 < L) (hcap : cells ≤ room_1.cells ∧ slots ≤ room_1.slots) : W p l e room_1 s m #[Value.ref b] below meth c H locs cells slots Q (F0 m 1121 ls []) :=
  l_case 2 hN C J hl hi hL hcap (by decide) ⟨rfl, rfl⟩ pr_carried cmL_139 cmL_142 lr_X7_carried lr_X8_carried dL_law_1121 ⟨aL_1122, aL_1128, trivial⟩ dL_law_1134 dL_law_1137 ⟨aL_1138, aL_1144, trivial⟩ dL_law_1150 dL_law_1153 (by decide)
theorem lw_30 (hN : (∀ (φ' : Nat → Nat) (ρ' : Rf) (μ' : Mem) (H1 : Heap) (locs1 : List Loc), LJ s D cA φ' ρ' μ' H1 locs1 → lv_has ls 7 (LLv b φ' i) → W p l e room_1 s m #[Value.ref b] below meth c H1 locs1 cells slots Q (F0 m 1956 ls []))) (C : LC p s m b L xs c D cA ad) (J : LJ s D cA φ ρ μ H locs) (hl : lv_has ls 7 (LLv b φ i)) (hi : 0 ≤ i) (hL : i + 5 < L) (hcap : cells ≤ room_1.cells ∧ slots ≤ room_1.slots) : W p l e room_1 s m #[Value.ref b] below meth c H locs cells slots Q (F0 m 1158 ls []) :=
  l_case 3 hN C J hl hi hL hcap (by decide) ⟨rfl, rfl⟩ pr_jointShare cmL_143 cmL_146 lr_X7_jointShare lr_X8_jointShare dL_law_1158 ⟨aL_1159, aL_1165, aL_1171, trivial⟩ dL_law_1177 dL_law_1180 ⟨aL_1181, aL_1187, aL_1193, trivial⟩ dL_law_1199 dL_law_1202 (by decide)
theorem lw_33 (hN : (∀ (φ' : Nat → Nat) (ρ' : Rf) (μ' : Mem) (H1 : Heap) (locs1 : List Loc), LJ s D cA φ' ρ' μ' H1 locs1 → lv_has ls 7 (LLv b φ' i) → W p l e room_1 s m #[Value.ref b] below meth c H1 locs1 cells slots Q (F0 m 1956 ls []))) (C : LC p s m b L xs c D cA ad) (J : LJ s D cA φ ρ μ H locs) (hl : lv_has ls 7 (LLv b φ i)) (hi : 0 ≤ i) (hL : i + 5 < L) (hcap : cells ≤ room_1.cells ∧ slots ≤ room_1.slots) : W p l e room_1 s m #[Value.ref b] below meth c H locs cells slots Q (F0 m 1327 ls []) :=
  l_case 1 hN C J hl hi hL hcap (by decide) ⟨rfl, rfl⟩ pr_betterServed cmL_157 cmL_160 lr_X7_betterServed lr_X8_betterServed dL_law_1327 ⟨aL_1328, trivial⟩ dL_law_1334 dL_law_1337 ⟨aL_1338, trivial⟩ dL_law_1344 dL_law_1347 (by decide)
theorem lw_34 (hN : (∀ (φ' : Nat → Nat) (ρ' : Rf) (μ' : Mem) (H1 : Heap) (locs1 : List Loc), LJ s D cA φ' ρ' μ' H1 locs1 → lv_has ls 7 (LLv b φ' i) → W p l e room_1 s m #[Value.ref b] below meth c H1 locs1 cells slots Q (F0 m 1956 ls []))) (C : LC p s m b L xs c D cA ad) (J : LJ s D cA φ ρ μ H locs) (hl : lv_has ls 7 (LLv b φ i)) (hi : 0 ≤ i) (hL : i + 5 < L) (hcap : cells ≤ room_1.cells ∧ slots ≤ room_1.slots) : W p l e room_1 s m #[Value.ref b] below meth c H locs cells slots Q (F0 m 1352 ls []) :=
  l_case 1 hN C J hl hi hL hcap (by decide) ⟨rfl, rfl⟩ pr_bestSet cmL_161 cmL_164 lr_X7_bestSet lr_X8_bestSet dL_law_1352 ⟨aL_1353, trivial⟩ dL_law_1359 dL_law_1362 ⟨aL_1363, trivial⟩ dL_law_1369 dL_law_1372 (by decide)
theorem lw_35 (hN : (∀ (φ' : Nat → Nat) (ρ' : Rf) (μ' : Mem) (H1 : Heap) (locs1 : List Loc), LJ s D cA φ' ρ' μ' H1 locs1 → lv_has ls 7 (LLv b φ' i) → W p l e room_1 s m #[Value.ref b] below meth c H1 locs1 cells slots Q (F0 m 1956 ls []))) (C : LC p s m b L xs c D cA ad) (J : LJ s D cA φ ρ μ H locs) (hl : lv_has ls 7 (LLv b φ i)) (hi : 0 ≤ i) (hL : i + 5 < L) (hcap : cells ≤ room_1.cells ∧ slots ≤ room_1.slots) : W p l e room_1 s m #[Value.ref b] below meth c H locs cells slots Q (F0 m 1377 ls []) :=
  l_case 1 hN C J hl hi hL hcap (by decide) ⟨rfl, rfl⟩ pr_bestMeals cmL_165 cmL_168 lr_X7_bestMeals lr_X8_bestMeals dL_law_1377 ⟨aL_1378, trivial⟩ dL_law_1384 dL_law_1387 ⟨aL_1388, trivial⟩ dL_law_1394 dL_law_1397 (by decide)
theorem lw_36 (hN : (∀ (φ' : Nat → Nat) (ρ' : Rf) (μ' : Mem) (H1 : Heap) (locs1 : List Loc), LJ s D cA φ' ρ' μ' H1 locs1 → lv_has ls 7 (LLv b φ' i) → W p l e room_1 s m #[Value.ref b] below meth c H1 locs1 cells slots Q (F0 m 1956 ls []))) (C : LC p s m b L xs c D cA ad) (J : LJ s D cA φ ρ μ H locs) (hl : lv_has ls 7 (LLv b φ i)) (hi : 0 ≤ i) (hL : i + 5 < L) (hcap : cells ≤ room_1.cells ∧ slots ≤ room_1.slots) : W p l e room_1 s m #[Value.ref b] below meth c H locs cells slots Q (F0 m 1402 ls []) :=
  l_case 2 hN C J hl hi hL hcap (by decide) ⟨rfl, rfl⟩ pr_bestOrder cmL_169 cmL_172 lr_X7_bestOrder lr_X8_bestOrder dL_law_1402 ⟨aL_1403, aL_1409, trivial⟩ dL_law_1415 dL_law_1418 ⟨aL_1419, aL_1425, trivial⟩ dL_law_1431 dL_law_1434 (by decide)
theorem lw_37 (hN : (∀ (φ' : Nat → Nat) (ρ' : Rf) (μ' : Mem) (H1 : Heap) (locs1 : List Loc), LJ s D cA φ' ρ' μ' H1 locs1 → lv_has ls 7 (LLv b φ' i) → W p l e room_1 s m #[Value.ref b] below meth c H1 locs1 cells slots Q (F0 m 1956 ls []))) (C : LC p s m b L xs c D cA ad) (J : LJ s D cA φ ρ μ H locs) (hl : lv_has ls 7 (LLv b φ i)) (hi : 0 ≤ i) (hL : i + 5 < L) (hcap : cells ≤ room_1.cells ∧ slots ≤ room_1.slots) : W p l e room_1 s m #[Value.ref b] below meth c H locs cells slots Q (F0 m 1439 ls []) :=
  l_case 1 hN C J hl hi hL hcap (by decide) ⟨rfl, rfl⟩ pr_leastSpeed cmL_173 cmL_176 lr_X7_leastSpeed lr_X8_leastSpeed dL_law_1439 ⟨aL_1440, trivial⟩ dL_law_1446 dL_law_1449 ⟨aL_1450, trivial⟩ dL_law_1456 dL_law_1459 (by decide)
theorem lw_38 (hN : (∀ (φ' : Nat → Nat) (ρ' : Rf) (μ' : Mem) (H1 : Heap) (locs1 : List Loc), LJ s D cA φ' ρ' μ' H1 locs1 → lv_has ls 7 (LLv b φ' i) → W p l e room_1 s m #[Value.ref b] below meth c H1 locs1 cells slots Q (F0 m 1956 ls []))) (C : LC p s m b L xs c D cA ad) (J : LJ s D cA φ ρ μ H locs) (hl : lv_has ls 7 (LLv b φ i)) (hi : 0 ≤ i) (hL : i + 5 < L) (hcap : cells ≤ room_1.cells ∧ slots ≤ room_1.slots) : W p l e room_1 s m #[Value.ref b] below meth c H locs cells slots Q (F0 m 1464 ls []) :=
  l_case 1 hN C J hl hi hL hcap (by decide) ⟨rfl, rfl⟩ pr_neededDelay cmL_177 cmL_180 lr_X7_neededDelay lr_X8_neededDelay dL_law_1464 ⟨aL_1465, trivial⟩ dL_law_1471 dL_law_1474 ⟨aL_1475, trivial⟩ dL_law_1481 dL_law_1484 (by decide)
theorem lw_39 (hN : (∀ (φ' : Nat → Nat) (ρ' : Rf) (μ' : Mem) (H1 : Heap) (locs1 : List Loc), LJ s D cA φ' ρ' μ' H1 locs1 → lv_has ls 7 (LLv b φ' i) → W p l e room_1 s m #[Value.ref b] below meth c H1 locs1 cells slots Q (F0 m 1956 ls []))) (C : LC p s m b L xs c D cA ad) (J : LJ s D cA φ ρ μ H locs) (hl : lv_has ls 7 (LLv b φ i)) (hi : 0 ≤ i) (hL : i + 5 < L) (hcap : cells ≤ room_1.cells ∧ slots ≤ room_1.slots) : W p l e room_1 s m #[Value.ref b] below meth c H locs cells slots Q (F0 m 1489 ls []) :=
  l_case 1 hN C J hl hi hL hcap (by decide) ⟨rfl, rfl⟩ pr_deliveredWithout cmL_181 cmL_184 lr_X7_deliveredWithout lr_X8_deliveredWithout dL_law_1489 ⟨aL_1490, trivial⟩ dL_law_1496 dL_law_1499 ⟨aL_1500, trivial⟩ dL_law_1506 dL_law_1509 (by decide)
theorem lw_40 (hN : (∀ (φ' : Nat → Nat) (ρ' : Rf) (μ' : Mem) (H1 : Heap) (locs1 : List Loc), LJ s D cA φ' ρ' μ' H1 locs1 → lv_has ls 7 (LLv b φ' i) → W p l e room_1 s m #[Value.ref b] below meth c H1 locs1 cells slots Q (F0 m 1956 ls []))) (C : LC p s m b L xs c D cA ad) (J : LJ s D cA φ ρ μ H locs) (hl : lv_has ls 7 (LLv b φ i)) (hi : 0 ≤ i) (hL : i + 5 < L) (hcap : cells ≤ room_1.cells ∧ slots ≤ room_1.slots) : W p l e room_1 s m #[Value.ref b] below meth c H locs cells slots Q (F0 m 1514 ls []) :=
  l_case 0 hN C J hl hi hL hcap (by decide) ⟨rfl, rfl⟩ pr_worstJob cmL_185 cmL_188 lr_X7_worstJob lr_X8_worstJob dL_law_1514 trivial dL_law_1515 dL_law_1518 trivial dL_law_1519 dL_law_1522 (by decide)
theorem lw_41 (hN : (∀ (φ' : Nat → Nat) (ρ' : Rf) (μ' : Mem) (H1 : Heap) (locs1 : List Loc), LJ s D cA φ' ρ' μ' H1 locs1 → lv_has ls 7 (LLv b φ' i) → W p l e room_1 s m #[Value.ref b] below meth c H1 locs1 cells slots Q (F0 m 1956 ls []))) (C : LC p s m b L xs c D cA ad) (J : LJ s D cA φ ρ μ H locs) (hl : lv_has ls 7 (LLv b φ i)) (hi : 0 ≤ i) (hL : i + 5 < L) (hcap : cells ≤ room_1.cells ∧ slots ≤ room_1.slots) : W p l e room_1 s m #[Value.ref b] below meth c H locs cells slots Q (F0 m 1527 ls []) :=
  l_case 1 hN C J hl hi hL hcap (by decide) ⟨rfl, rfl⟩ pr_bestTrolley cmL_189 cmL_192 lr_X7_bestTrolley lr_X8_bestTrolley dL_law_1527 ⟨aL_1528, trivial⟩ dL_law_1534 dL_law_1537 ⟨aL_1538, trivial⟩ dL_law_1544 dL_law_1547 (by decide)
theorem lw_42 (hN : (∀ (φ' : Nat → Nat) (ρ' : Rf) (μ' : Mem) (H1 : Heap) (locs1 : List Loc), LJ s D cA φ' ρ' μ' H1 locs1 → lv_has ls 7 (LLv b φ' i) → W p l e room_1 s m #[Value.ref b] below meth c H1 locs1 cells slots Q (F0 m 1956 ls []))) (C : LC p s m b L xs c D cA ad) (J : LJ s D cA φ ρ μ H locs) (hl : lv_has ls 7 (LLv b φ i)) (hi : 0 ≤ i) (hL : i + 5 < L) (hcap : cells ≤ room_1.cells ∧ slots ≤ room_1.slots) : W p l e room_1 s m #[Value.ref b] below meth c H locs cells slots Q (F0 m 1552 ls []) :=
  l_case 0 hN C J hl hi hL hcap (by decide) ⟨rfl, rfl⟩ pr_bestSwap cmL_193 cmL_196 lr_X7_bestSwap lr_X8_bestSwap dL_law_1552 trivial dL_law_1553 dL_law_1556 trivial dL_law_1557 dL_law_1560 (by decide)
theorem lw_43 (hN : (∀ (φ' : Nat → Nat) (ρ' : Rf) (μ' : Mem) (H1 : Heap) (locs1 : List Loc), LJ s D cA φ' ρ' μ' H1 locs1 → lv_has ls 7 (LLv b φ' i) → W p l e room_1 s m #[Value.ref b] below meth c H1 locs1 cells slots Q (F0 m 1956 ls []))) (C : LC p s m b L xs c D cA ad) (J : LJ s D cA φ ρ μ H locs) (hl : lv_has ls 7 (LLv b φ i)) (hi : 0 ≤ i) (hL : i + 5 < L) (hcap : cells ≤ room_1.cells ∧ slots ≤ room_1.slots) : W p l e room_1 s m #[Value.ref b] below meth c H locs cells slots Q (F0 m 1565 ls []) :=
  l_case 5 hN C J hl hi hL hcap (by decide) ⟨rfl, rfl⟩ pr_addJob cmL_197 cmL_200 lr_X7_addJob lr_X8_addJob dL_law_1565 ⟨aL_1566, aL_1572, aL_1578, aL_1584, aL_1590, trivial⟩ dL_law_1596 dL_law_1599 ⟨aL_1600, aL_1606, aL_1612, aL_1618, aL_1624, trivial⟩ dL_law_1630 dL_law_1633 (by decide)
theorem lw_44 (hN : (∀ (φ' : Nat → Nat) (ρ' : Rf) (μ' : Mem) (H1 : Heap) (locs1 : List Loc), LJ s D cA φ' ρ' μ' H1 locs1 → lv_has ls 7 (LLv b φ' i) → W p l e room_1 s m #[Value.ref b] below meth c H1 locs1 cells slots Q (F0 m 1956 ls []))) (C : LC p s m b L xs c D cA ad) (J : LJ s D cA φ ρ μ H locs) (hl : lv_has ls 7 (LLv b φ i)) (hi : 0 ≤ i) (hL : i + 5 < L) (hcap : cells ≤ room_1.cells ∧ slots ≤ room_1.slots) : W p l e room_1 s m #[Value.ref b] below meth c H locs cells slots Q (F0 m 1638 ls []) :=
  l_case 1 hN C J hl hi hL hcap (by decide) ⟨rfl, rfl⟩ pr_removeJob cmL_201 cmL_204 lr_X7_removeJob lr_X8_removeJob dL_law_1638 ⟨aL_1639, trivial⟩ dL_law_1645 dL_law_1648 ⟨aL_1649, trivial⟩ dL_law_1655 dL_law_1658 (by decide)
theorem lw_45 (hN : (∀ (φ' : Nat → Nat) (ρ' : Rf) (μ' : Mem) (H1 : Heap) (locs1 : List Loc), LJ s D cA φ' ρ' μ' H1 locs1 → lv_has ls 7 (LLv b φ' i) → W p l e room_1 s m #[Value.ref b] below meth c H1 locs1 cells slots Q (F0 m 1956 ls []))) (C : LC p s m b L xs c D cA ad) (J : LJ s D cA φ ρ μ H locs) (hl : lv_has ls 7 (LLv b φ i)) (hi : 0 ≤ i) (hL : i + 5 < L) (hcap : cells ≤ room_1.cells ∧ slots ≤ room_1.slots) : W p l e room_1 s m #[Value.ref b] below meth c H locs cells slots Q (F0 m 1663 ls []) :=
  l_case 2 hN C J hl hi hL hcap (by decide) ⟨rfl, rfl⟩ pr_moveJob cmL_205 cmL_208 lr_X7_moveJob lr_X8_moveJob dL_law_1663 ⟨aL_1664, aL_1670, trivial⟩ dL_law_1676 dL_law_1679 ⟨aL_1680, aL_1686, trivial⟩ dL_law_1692 dL_law_1695 (by decide)
theorem lw_46 (hN : (∀ (φ' : Nat → Nat) (ρ' : Rf) (μ' : Mem) (H1 : Heap) (locs1 : List Loc), LJ s D cA φ' ρ' μ' H1 locs1 → lv_has ls 7 (LLv b φ' i) → W p l e room_1 s m #[Value.ref b] below meth c H1 locs1 cells slots Q (F0 m 1956 ls []))) (C : LC p s m b L xs c D cA ad) (J : LJ s D cA φ ρ μ H locs) (hl : lv_has ls 7 (LLv b φ i)) (hi : 0 ≤ i) (hL : i + 5 < L) (hcap : cells ≤ room_1.cells ∧ slots ≤ room_1.slots) : W p l e room_1 s m #[Value.ref b] below meth c H locs cells slots Q (F0 m 1700 ls []) :=
  l_case 2 hN C J hl hi hL hcap (by decide) ⟨rfl, rfl⟩ pr_setDeparture cmL_209 cmL_212 lr_X7_setDeparture lr_X8_setDeparture dL_law_1700 ⟨aL_1701, aL_1707, trivial⟩ dL_law_1713 dL_law_1716 ⟨aL_1717, aL_1723, trivial⟩ dL_law_1729 dL_law_1732 (by decide)
theorem lw_47 (hN : (∀ (φ' : Nat → Nat) (ρ' : Rf) (μ' : Mem) (H1 : Heap) (locs1 : List Loc), LJ s D cA φ' ρ' μ' H1 locs1 → lv_has ls 7 (LLv b φ' i) → W p l e room_1 s m #[Value.ref b] below meth c H1 locs1 cells slots Q (F0 m 1956 ls []))) (C : LC p s m b L xs c D cA ad) (J : LJ s D cA φ ρ μ H locs) (hl : lv_has ls 7 (LLv b φ i)) (hi : 0 ≤ i) (hL : i + 5 < L) (hcap : cells ≤ room_1.cells ∧ slots ≤ room_1.slots) : W p l e room_1 s m #[Value.ref b] below meth c H locs cells slots Q (F0 m 1737 ls []) :=
  l_case 3 hN C J hl hi hL hcap (by decide) ⟨rfl, rfl⟩ pr_setStock cmL_213 cmL_216 lr_X7_setStock lr_X8_setStock dL_law_1737 ⟨aL_1738, aL_1744, aL_1750, trivial⟩ dL_law_1756 dL_law_1759 ⟨aL_1760, aL_1766, aL_1772, trivial⟩ dL_law_1778 dL_law_1781 (by decide)
theorem lw_48 (hN : (∀ (φ' : Nat → Nat) (ρ' : Rf) (μ' : Mem) (H1 : Heap) (locs1 : List Loc), LJ s D cA φ' ρ' μ' H1 locs1 → lv_has ls 7 (LLv b φ' i) → W p l e room_1 s m #[Value.ref b] below meth c H1 locs1 cells slots Q (F0 m 1956 ls []))) (C : LC p s m b L xs c D cA ad) (J : LJ s D cA φ ρ μ H locs) (hl : lv_has ls 7 (LLv b φ i)) (hi : 0 ≤ i) (hL : i + 5 < L) (hcap : cells ≤ room_1.cells ∧ slots ≤ room_1.slots) : W p l e room_1 s m #[Value.ref b] below meth c H locs cells slots Q (F0 m 1786 ls []) :=
  l_case 2 hN C J hl hi hL hcap (by decide) ⟨rfl, rfl⟩ pr_setQuantity cmL_217 cmL_220 lr_X7_setQuantity lr_X8_setQuantity dL_law_1786 ⟨aL_1787, aL_1793, trivial⟩ dL_law_1799 dL_law_1802 ⟨aL_1803, aL_1809, trivial⟩ dL_law_1815 dL_law_1818 (by decide)
theorem lw_49 (hN : (∀ (φ' : Nat → Nat) (ρ' : Rf) (μ' : Mem) (H1 : Heap) (locs1 : List Loc), LJ s D cA φ' ρ' μ' H1 locs1 → lv_has ls 7 (LLv b φ' i) → W p l e room_1 s m #[Value.ref b] below meth c H1 locs1 cells slots Q (F0 m 1956 ls []))) (C : LC p s m b L xs c D cA ad) (J : LJ s D cA φ ρ μ H locs) (hl : lv_has ls 7 (LLv b φ i)) (hi : 0 ≤ i) (hL : i + 5 < L) (hcap : cells ≤ room_1.cells ∧ slots ≤ room_1.slots) : W p l e room_1 s m #[Value.ref b] below meth c H locs cells slots Q (F0 m 1823 ls []) :=
  l_case 1 hN C J hl hi hL hcap (by decide) ⟨rfl, rfl⟩ pr_applyBest cmL_221 cmL_224 lr_X7_applyBest lr_X8_applyBest dL_law_1823 ⟨aL_1824, trivial⟩ dL_law_1830 dL_law_1833 ⟨aL_1834, trivial⟩ dL_law_1840 dL_law_1843 (by decide)
theorem lw_50 (hN : (∀ (φ' : Nat → Nat) (ρ' : Rf) (μ' : Mem) (H1 : Heap) (locs1 : List Loc), LJ s D cA φ' ρ' μ' H1 locs1 → lv_has ls 7 (LLv b φ' i) → W p l e room_1 s m #[Value.ref b] below meth c H1 locs1 cells slots Q (F0 m 1956 ls []))) (C : LC p s m b L xs c D cA ad) (J : LJ s D cA φ ρ μ H locs) (hl : lv_has ls 7 (LLv b φ i)) (hi : 0 ≤ i) (hL : i + 5 < L) (hcap : cells ≤ room_1.cells ∧ slots ≤ room_1.slots) : W p l e room_1 s m #[Value.ref b] below meth c H locs cells slots Q (F0 m 1848 ls []) :=
  l_case 0 hN C J hl hi hL hcap (by decide) ⟨rfl, rfl⟩ pr_undo cmL_225 cmL_228 lr_X7_undo lr_X8_undo dL_law_1848 trivial dL_law_1849 dL_law_1852 trivial dL_law_1853 dL_law_1856 (by decide)
theorem lw_51 (hN : (∀ (φ' : Nat → Nat) (ρ' : Rf) (μ' : Mem) (H1 : Heap) (locs1 : List Loc), LJ s D cA φ' ρ' μ' H1 locs1 → lv_has ls 7 (LLv b φ' i) → W p l e room_1 s m #[Value.ref b] below meth c H1 locs1 cells slots Q (F0 m 1956 ls []))) (C : LC p s m b L xs c D cA ad) (J : LJ s D cA φ ρ μ H locs) (hl : lv_has ls 7 (LLv b φ i)) (hi : 0 ≤ i) (hL : i + 5 < L) (hcap : cells ≤ room_1.cells ∧ slots ≤ room_1.slots) : W p l e room_1 s m #[Value.ref b] below meth c H locs cells slots Q (F0 m 1861 ls []) :=
  l_case 0 hN C J hl hi hL hcap (by decide) ⟨rfl, rfl⟩ pr_save cmL_229 cmL_232 lr_X7_save lr_X8_save dL_law_1861 trivial dL_law_1862 dL_law_1865 trivial dL_law_1866 dL_law_1869 (by decide)
theorem lw_52 (hN : (∀ (φ' : Nat → Nat) (ρ' : Rf) (μ' : Mem) (H1 : Heap) (locs1 : List Loc), LJ s D cA φ' ρ' μ' H1 locs1 → lv_has ls 7 (LLv b φ' i) → W p l e room_1 s m #[Value.ref b] below meth c H1 locs1 cells slots Q (F0 m 1956 ls []))) (C : LC p s m b L xs c D cA ad) (J : LJ s D cA φ ρ μ H locs) (hl : lv_has ls 7 (LLv b φ i)) (hi : 0 ≤ i) (hL : i + 5 < L) (hcap : cells ≤ room_1.cells ∧ slots ≤ room_1.slots) : W p l e room_1 s m #[Value.ref b] below meth c H locs cells slots Q (F0 m 1874 ls []) :=
  l_case 0 hN C J hl hi hL hcap (by decide) ⟨rfl, rfl⟩ pr_restore cmL_233 cmL_236 lr_X7_restore lr_X8_restore dL_law_1874 trivial dL_law_1875 dL_law_1878 trivial dL_law_1879 dL_law_1882 (by decide)
theorem lw_54 (hN : (∀ (φ' : Nat → Nat) (ρ' : Rf) (μ' : Mem) (H1 : Heap) (locs1 : List Loc), LJ s D cA φ' ρ' μ' H1 locs1 → lv_has ls 7 (LLv b φ' i) → W p l e room_1 s m #[Value.ref b] below meth c H1 locs1 cells slots Q (F0 m 1956 ls []))) (C : LC p s m b L xs c D cA ad) (J : LJ s D cA φ ρ μ H locs) (hl : lv_has ls 7 (LLv b φ i)) (hi : 0 ≤ i) (hL : i + 5 < L) (hcap : cells ≤ room_1.cells ∧ slots ≤ room_1.slots) : W p l e room_1 s m #[Value.ref b] below meth c H locs cells slots Q (F0 m 1943 ls []) :=
  l_case 0 hN C J hl hi hL hcap (by decide) ⟨rfl, rfl⟩ pr_error cmL_246 cmL_249 lr_X7_error lr_X8_error dL_law_1943 trivial dL_law_1944 dL_law_1947 trivial dL_law_1948 dL_law_1951 (by decide)
end LAWK
