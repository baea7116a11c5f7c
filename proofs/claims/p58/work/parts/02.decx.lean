theorem dX0_init_0 : decode cX0_init 0 = .ok (.aload_n 0, 1) := by decide +kernel
theorem dX0_init_1 : decode cX0_init 1 = .ok (.invokespecial 3, 3) := by decide +kernel
theorem dX0_init_4 : decode cX0_init 4 = .ok (.aload_n 0, 1) := by decide +kernel
theorem dX0_init_5 : decode cX0_init 5 = .ok (.iconst 2, 1) := by decide +kernel
theorem dX0_init_6 : decode cX0_init 6 = .ok (.newarray .boolean, 2) := by decide +kernel
theorem dX0_init_8 : decode cX0_init 8 = .ok (.putfield 9, 3) := by decide +kernel
theorem dX0_init_11 : decode cX0_init 11 = .ok (.aload_n 0, 1) := by decide +kernel
theorem dX0_init_12 : decode cX0_init 12 = .ok (.iconst 2, 1) := by decide +kernel
theorem dX0_init_13 : decode cX0_init 13 = .ok (.newarray .int, 2) := by decide +kernel
theorem dX0_init_15 : decode cX0_init 15 = .ok (.putfield 15, 3) := by decide +kernel
theorem dX0_init_18 : decode cX0_init 18 = .ok (.aload_n 0, 1) := by decide +kernel
theorem dX0_init_19 : decode cX0_init 19 = .ok (.iconst 2, 1) := by decide +kernel
theorem dX0_init_20 : decode cX0_init 20 = .ok (.newarray .int, 2) := by decide +kernel
theorem dX0_init_22 : decode cX0_init 22 = .ok (.putfield 19, 3) := by decide +kernel
theorem dX0_init_25 : decode cX0_init 25 = .ok (.aload_n 0, 1) := by decide +kernel
theorem dX0_init_26 : decode cX0_init 26 = .ok (.bipush 10, 2) := by decide +kernel
theorem dX0_init_28 : decode cX0_init 28 = .ok (.newarray .int, 2) := by decide +kernel
theorem dX0_init_30 : decode cX0_init 30 = .ok (.putfield 22, 3) := by decide +kernel
theorem dX0_init_33 : decode cX0_init 33 = .ok (.aload_n 0, 1) := by decide +kernel
theorem dX0_init_34 : decode cX0_init 34 = .ok (.bipush 10, 2) := by decide +kernel
theorem dX0_init_36 : decode cX0_init 36 = .ok (.newarray .int, 2) := by decide +kernel
theorem dX0_init_38 : decode cX0_init 38 = .ok (.putfield 25, 3) := by decide +kernel
theorem dX0_init_41 : decode cX0_init 41 = .ok (.aload_n 0, 1) := by decide +kernel
theorem dX0_init_42 : decode cX0_init 42 = .ok (.bipush 10, 2) := by decide +kernel
theorem dX0_init_44 : decode cX0_init 44 = .ok (.newarray .int, 2) := by decide +kernel
theorem dX0_init_46 : decode cX0_init 46 = .ok (.putfield 28, 3) := by decide +kernel
theorem dX0_init_49 : decode cX0_init 49 = .ok (.aload_n 0, 1) := by decide +kernel
theorem dX0_init_50 : decode cX0_init 50 = .ok (.iconst 4, 1) := by decide +kernel
theorem dX0_init_51 : decode cX0_init 51 = .ok (.newarray .long, 2) := by decide +kernel
theorem dX0_init_53 : decode cX0_init 53 = .ok (.putfield 31, 3) := by decide +kernel
theorem dX0_init_56 : decode cX0_init 56 = .ok (.aload_n 0, 1) := by decide +kernel
theorem dX0_init_57 : decode cX0_init 57 = .ok (.iconst 4, 1) := by decide +kernel
theorem dX0_init_58 : decode cX0_init 58 = .ok (.newarray .int, 2) := by decide +kernel
theorem dX0_init_60 : decode cX0_init 60 = .ok (.putfield 35, 3) := by decide +kernel
theorem dX0_init_63 : decode cX0_init 63 = .ok (.aload_n 0, 1) := by decide +kernel
theorem dX0_init_64 : decode cX0_init 64 = .ok (.iconst 4, 1) := by decide +kernel
theorem dX0_init_65 : decode cX0_init 65 = .ok (.newarray .int, 2) := by decide +kernel
theorem dX0_init_67 : decode cX0_init 67 = .ok (.putfield 38, 3) := by decide +kernel
theorem dX0_init_70 : decode cX0_init 70 = .ok (.aload_n 0, 1) := by decide +kernel
theorem dX0_init_71 : decode cX0_init 71 = .ok (.iconst 3, 1) := by decide +kernel
theorem dX0_init_72 : decode cX0_init 72 = .ok (.newarray .int, 2) := by decide +kernel
theorem dX0_init_74 : decode cX0_init 74 = .ok (.putfield 41, 3) := by decide +kernel
theorem dX0_init_77 : decode cX0_init 77 = .ok (.aload_n 0, 1) := by decide +kernel
theorem dX0_init_78 : decode cX0_init 78 = .ok (.iconst 5, 1) := by decide +kernel
theorem dX0_init_79 : decode cX0_init 79 = .ok (.newarray .int, 2) := by decide +kernel
theorem dX0_init_81 : decode cX0_init 81 = .ok (.putfield 44, 3) := by decide +kernel
theorem dX0_init_84 : decode cX0_init 84 = .ok (.aload_n 0, 1) := by decide +kernel
theorem dX0_init_85 : decode cX0_init 85 = .ok (.iconst 5, 1) := by decide +kernel
theorem dX0_init_86 : decode cX0_init 86 = .ok (.newarray .int, 2) := by decide +kernel
theorem dX0_init_88 : decode cX0_init 88 = .ok (.putfield 47, 3) := by decide +kernel
theorem dX0_init_91 : decode cX0_init 91 = .ok (.aload_n 0, 1) := by decide +kernel
theorem dX0_init_92 : decode cX0_init 92 = .ok (.iconst 5, 1) := by decide +kernel
theorem dX0_init_93 : decode cX0_init 93 = .ok (.newarray .int, 2) := by decide +kernel
theorem dX0_init_95 : decode cX0_init 95 = .ok (.putfield 50, 3) := by decide +kernel
theorem dX0_init_98 : decode cX0_init 98 = .ok (.aload_n 0, 1) := by decide +kernel
theorem dX0_init_99 : decode cX0_init 99 = .ok (.iconst 5, 1) := by decide +kernel
theorem dX0_init_100 : decode cX0_init 100 = .ok (.newarray .int, 2) := by decide +kernel
theorem dX0_init_102 : decode cX0_init 102 = .ok (.putfield 53, 3) := by decide +kernel
theorem dX0_init_105 : decode cX0_init 105 = .ok (.aload_n 0, 1) := by decide +kernel
theorem dX0_init_106 : decode cX0_init 106 = .ok (.iconst 5, 1) := by decide +kernel
theorem dX0_init_107 : decode cX0_init 107 = .ok (.newarray .int, 2) := by decide +kernel
theorem dX0_init_109 : decode cX0_init 109 = .ok (.putfield 56, 3) := by decide +kernel
theorem dX0_init_112 : decode cX0_init 112 = .ok (.return_, 1) := by decide +kernel
theorem dX0_clear_0 : decode cX0_clear 0 = .ok (.iconst 0, 1) := by decide +kernel
theorem dX0_clear_1 : decode cX0_clear 1 = .ok (.istore_n 1, 1) := by decide +kernel
theorem dX0_clear_2 : decode cX0_clear 2 = .ok (.iload_n 1, 1) := by decide +kernel
theorem dX0_clear_3 : decode cX0_clear 3 = .ok (.iconst 2, 1) := by decide +kernel
theorem dX0_clear_4 : decode cX0_clear 4 = .ok (.if_icmp .ge 23, 3) := by decide +kernel
theorem dX0_clear_7 : decode cX0_clear 7 = .ok (.aload_n 0, 1) := by decide +kernel
theorem dX0_clear_8 : decode cX0_clear 8 = .ok (.getfield 9, 3) := by decide +kernel
theorem dX0_clear_11 : decode cX0_clear 11 = .ok (.iload_n 1, 1) := by decide +kernel
theorem dX0_clear_12 : decode cX0_clear 12 = .ok (.iconst 0, 1) := by decide +kernel
theorem dX0_clear_13 : decode cX0_clear 13 = .ok (.bastore, 1) := by decide +kernel
theorem dX0_clear_14 : decode cX0_clear 14 = .ok (.aload_n 0, 1) := by decide +kernel
theorem dX0_clear_15 : decode cX0_clear 15 = .ok (.getfield 19, 3) := by decide +kernel
theorem dX0_clear_18 : decode cX0_clear 18 = .ok (.iload_n 1, 1) := by decide +kernel
theorem dX0_clear_19 : decode cX0_clear 19 = .ok (.iconst 0, 1) := by decide +kernel
theorem dX0_clear_20 : decode cX0_clear 20 = .ok (.iastore, 1) := by decide +kernel
theorem dX0_clear_21 : decode cX0_clear 21 = .ok (.iinc 1 1, 3) := by decide +kernel
theorem dX0_clear_24 : decode cX0_clear 24 = .ok (.goto (-22), 3) := by decide +kernel
theorem dX0_clear_27 : decode cX0_clear 27 = .ok (.aload_n 0, 1) := by decide +kernel
theorem dX0_clear_28 : decode cX0_clear 28 = .ok (.iconst 0, 1) := by decide +kernel
theorem dX0_clear_29 : decode cX0_clear 29 = .ok (.putfield 59, 3) := by decide +kernel
theorem dX0_clear_32 : decode cX0_clear 32 = .ok (.aload_n 0, 1) := by decide +kernel
theorem dX0_clear_33 : decode cX0_clear 33 = .ok (.iconst 0, 1) := by decide +kernel
theorem dX0_clear_34 : decode cX0_clear 34 = .ok (.putfield 63, 3) := by decide +kernel
theorem dX0_clear_37 : decode cX0_clear 37 = .ok (.aload_n 0, 1) := by decide +kernel
theorem dX0_clear_38 : decode cX0_clear 38 = .ok (.iconst 0, 1) := by decide +kernel
theorem dX0_clear_39 : decode cX0_clear 39 = .ok (.putfield 66, 3) := by decide +kernel
theorem dX0_clear_42 : decode cX0_clear 42 = .ok (.return_, 1) := by decide +kernel
theorem dX0_wanted_0 : decode cX0_wanted 0 = .ok (.aload_n 0, 1) := by decide +kernel
theorem dX0_wanted_1 : decode cX0_wanted 1 = .ok (.getfield 25, 3) := by decide +kernel
theorem dX0_wanted_4 : decode cX0_wanted 4 = .ok (.iload_n 1, 1) := by decide +kernel
theorem dX0_wanted_5 : decode cX0_wanted 5 = .ok (.iaload, 1) := by decide +kernel
theorem dX0_wanted_6 : decode cX0_wanted 6 = .ok (.aload_n 0, 1) := by decide +kernel
theorem dX0_wanted_7 : decode cX0_wanted 7 = .ok (.getfield 35, 3) := by decide +kernel
theorem dX0_wanted_10 : decode cX0_wanted 10 = .ok (.iload_n 2, 1) := by decide +kernel
theorem dX0_wanted_11 : decode cX0_wanted 11 = .ok (.iaload, 1) := by decide +kernel
theorem dX0_wanted_12 : decode cX0_wanted 12 = .ok (.imul, 1) := by decide +kernel
theorem dX0_wanted_13 : decode cX0_wanted 13 = .ok (.aload_n 0, 1) := by decide +kernel
theorem dX0_wanted_14 : decode cX0_wanted 14 = .ok (.getfield 28, 3) := by decide +kernel
theorem dX0_wanted_17 : decode cX0_wanted 17 = .ok (.iload_n 1, 1) := by decide +kernel
theorem dX0_wanted_18 : decode cX0_wanted 18 = .ok (.iaload, 1) := by decide +kernel
theorem dX0_wanted_19 : decode cX0_wanted 19 = .ok (.aload_n 0, 1) := by decide +kernel
theorem dX0_wanted_20 : decode cX0_wanted 20 = .ok (.getfield 38, 3) := by decide +kernel
theorem dX0_wanted_23 : decode cX0_wanted 23 = .ok (.iload_n 2, 1) := by decide +kernel
theorem dX0_wanted_24 : decode cX0_wanted 24 = .ok (.iaload, 1) := by decide +kernel
theorem dX0_wanted_25 : decode cX0_wanted 25 = .ok (.imul, 1) := by decide +kernel
theorem dX0_wanted_26 : decode cX0_wanted 26 = .ok (.iadd, 1) := by decide +kernel
theorem dX0_wanted_27 : decode cX0_wanted 27 = .ok (.bipush 10, 2) := by decide +kernel
theorem dX0_wanted_29 : decode cX0_wanted 29 = .ok (.invokestatic 69, 3) := by decide +kernel
theorem dX0_wanted_32 : decode cX0_wanted 32 = .ok (.ireturn, 1) := by decide +kernel
theorem dX0_walk_0 : decode cX0_walk 0 = .ok (.aload_n 0, 1) := by decide +kernel
theorem dX0_walk_1 : decode cX0_walk 1 = .ok (.getfield 41, 3) := by decide +kernel
theorem dX0_walk_4 : decode cX0_walk 4 = .ok (.aload_n 0, 1) := by decide +kernel
theorem dX0_walk_5 : decode cX0_walk 5 = .ok (.getfield 44, 3) := by decide +kernel
theorem dX0_walk_8 : decode cX0_walk 8 = .ok (.iload_n 1, 1) := by decide +kernel
theorem dX0_walk_9 : decode cX0_walk 9 = .ok (.iaload, 1) := by decide +kernel
theorem dX0_walk_10 : decode cX0_walk 10 = .ok (.iaload, 1) := by decide +kernel
theorem dX0_walk_11 : decode cX0_walk 11 = .ok (.aload_n 0, 1) := by decide +kernel
theorem dX0_walk_12 : decode cX0_walk 12 = .ok (.getfield 22, 3) := by decide +kernel
theorem dX0_walk_15 : decode cX0_walk 15 = .ok (.iload_n 2, 1) := by decide +kernel
theorem dX0_walk_16 : decode cX0_walk 16 = .ok (.iaload, 1) := by decide +kernel
theorem dX0_walk_17 : decode cX0_walk 17 = .ok (.isub, 1) := by decide +kernel
theorem dX0_walk_18 : decode cX0_walk 18 = .ok (.istore 4, 2) := by decide +kernel
theorem dX0_walk_20 : decode cX0_walk 20 = .ok (.iload 4, 2) := by decide +kernel
theorem dX0_walk_22 : decode cX0_walk 22 = .ok (.invokestatic 73, 3) := by decide +kernel
theorem dX0_walk_25 : decode cX0_walk 25 = .ok (.iload_n 3, 1) := by decide +kernel
theorem dX0_walk_26 : decode cX0_walk 26 = .ok (.invokestatic 69, 3) := by decide +kernel
theorem dX0_walk_29 : decode cX0_walk 29 = .ok (.ireturn, 1) := by decide +kernel
theorem dX0_mostMeals_0 : decode cX0_mostMeals 0 = .ok (.iload_n 2, 1) := by decide +kernel
theorem dX0_mostMeals_1 : decode cX0_mostMeals 1 = .ok (.aload_n 0, 1) := by decide +kernel
theorem dX0_mostMeals_2 : decode cX0_mostMeals 2 = .ok (.getfield 47, 3) := by decide +kernel
theorem dX0_mostMeals_5 : decode cX0_mostMeals 5 = .ok (.iload_n 1, 1) := by decide +kernel
theorem dX0_mostMeals_6 : decode cX0_mostMeals 6 = .ok (.iaload, 1) := by decide +kernel
theorem dX0_mostMeals_7 : decode cX0_mostMeals 7 = .ok (.invokestatic 79, 3) := by decide +kernel
theorem dX0_mostMeals_10 : decode cX0_mostMeals 10 = .ok (.ireturn, 1) := by decide +kernel
theorem dX0_mealNamed_0 : decode cX0_mealNamed 0 = .ok (.iconst 0, 1) := by decide +kernel
theorem dX0_mealNamed_1 : decode cX0_mealNamed 1 = .ok (.istore_n 3, 1) := by decide +kernel
theorem dX0_mealNamed_2 : decode cX0_mealNamed 2 = .ok (.iload_n 3, 1) := by decide +kernel
theorem dX0_mealNamed_3 : decode cX0_mealNamed 3 = .ok (.aload_n 0, 1) := by decide +kernel
theorem dX0_mealNamed_4 : decode cX0_mealNamed 4 = .ok (.getfield 59, 3) := by decide +kernel
theorem dX0_mealNamed_7 : decode cX0_mealNamed 7 = .ok (.if_icmp .ge 22, 3) := by decide +kernel
theorem dX0_mealNamed_10 : decode cX0_mealNamed 10 = .ok (.aload_n 0, 1) := by decide +kernel
theorem dX0_mealNamed_11 : decode cX0_mealNamed 11 = .ok (.getfield 31, 3) := by decide +kernel
theorem dX0_mealNamed_14 : decode cX0_mealNamed 14 = .ok (.iload_n 3, 1) := by decide +kernel
theorem dX0_mealNamed_15 : decode cX0_mealNamed 15 = .ok (.laload, 1) := by decide +kernel
theorem dX0_mealNamed_16 : decode cX0_mealNamed 16 = .ok (.lload_n 1, 1) := by decide +kernel
theorem dX0_mealNamed_17 : decode cX0_mealNamed 17 = .ok (.lcmp, 1) := by decide +kernel
theorem dX0_mealNamed_18 : decode cX0_mealNamed 18 = .ok (.ifCond .ne 5, 3) := by decide +kernel
theorem dX0_mealNamed_21 : decode cX0_mealNamed 21 = .ok (.iload_n 3, 1) := by decide +kernel
theorem dX0_mealNamed_22 : decode cX0_mealNamed 22 = .ok (.ireturn, 1) := by decide +kernel
theorem dX0_mealNamed_23 : decode cX0_mealNamed 23 = .ok (.iinc 3 1, 3) := by decide +kernel
theorem dX0_mealNamed_26 : decode cX0_mealNamed 26 = .ok (.goto (-24), 3) := by decide +kernel
theorem dX0_mealNamed_29 : decode cX0_mealNamed 29 = .ok (.iconst (-1), 1) := by decide +kernel
theorem dX0_mealNamed_30 : decode cX0_mealNamed 30 = .ok (.ireturn, 1) := by decide +kernel
theorem dX1_init_0 : decode cX1_init 0 = .ok (.aload_n 0, 1) := by decide +kernel
theorem dX1_init_1 : decode cX1_init 1 = .ok (.invokespecial 3, 3) := by decide +kernel
theorem dX1_init_4 : decode cX1_init 4 = .ok (.aload_n 0, 1) := by decide +kernel
theorem dX1_init_5 : decode cX1_init 5 = .ok (.bipush 10, 2) := by decide +kernel
theorem dX1_init_7 : decode cX1_init 7 = .ok (.anewarray 9, 3) := by decide +kernel
theorem dX1_init_10 : decode cX1_init 10 = .ok (.putfield 11, 3) := by decide +kernel
theorem dX1_init_13 : decode cX1_init 13 = .ok (.iconst 0, 1) := by decide +kernel
theorem dX1_init_14 : decode cX1_init 14 = .ok (.istore_n 1, 1) := by decide +kernel
theorem dX1_init_15 : decode cX1_init 15 = .ok (.iload_n 1, 1) := by decide +kernel
theorem dX1_init_16 : decode cX1_init 16 = .ok (.bipush 10, 2) := by decide +kernel
theorem dX1_init_18 : decode cX1_init 18 = .ok (.if_icmp .ge 22, 3) := by decide +kernel
theorem dX1_init_21 : decode cX1_init 21 = .ok (.aload_n 0, 1) := by decide +kernel
theorem dX1_init_22 : decode cX1_init 22 = .ok (.getfield 11, 3) := by decide +kernel
theorem dX1_init_25 : decode cX1_init 25 = .ok (.iload_n 1, 1) := by decide +kernel
theorem dX1_init_26 : decode cX1_init 26 = .ok (.new 9, 3) := by decide +kernel
theorem dX1_init_29 : decode cX1_init 29 = .ok (.dup, 1) := by decide +kernel
theorem dX1_init_30 : decode cX1_init 30 = .ok (.invokespecial 17, 3) := by decide +kernel
theorem dX1_init_33 : decode cX1_init 33 = .ok (.aastore, 1) := by decide +kernel
theorem dX1_init_34 : decode cX1_init 34 = .ok (.iinc 1 1, 3) := by decide +kernel
theorem dX1_init_37 : decode cX1_init 37 = .ok (.goto (-22), 3) := by decide +kernel
theorem dX1_init_40 : decode cX1_init 40 = .ok (.return_, 1) := by decide +kernel
theorem dX1_push_0 : decode cX1_push 0 = .ok (.aload_n 0, 1) := by decide +kernel
theorem dX1_push_1 : decode cX1_push 1 = .ok (.getfield 18, 3) := by decide +kernel
theorem dX1_push_4 : decode cX1_push 4 = .ok (.bipush 10, 2) := by decide +kernel
theorem dX1_push_6 : decode cX1_push 6 = .ok (.if_icmp .lt 7, 3) := by decide +kernel
theorem dX1_push_9 : decode cX1_push 9 = .ok (.aload_n 0, 1) := by decide +kernel
theorem dX1_push_10 : decode cX1_push 10 = .ok (.invokevirtual 22, 3) := by decide +kernel
theorem dX1_push_13 : decode cX1_push 13 = .ok (.aload_n 0, 1) := by decide +kernel
theorem dX1_push_14 : decode cX1_push 14 = .ok (.getfield 11, 3) := by decide +kernel
theorem dX1_push_17 : decode cX1_push 17 = .ok (.aload_n 0, 1) := by decide +kernel
theorem dX1_push_18 : decode cX1_push 18 = .ok (.getfield 18, 3) := by decide +kernel
theorem dX1_push_21 : decode cX1_push 21 = .ok (.aaload, 1) := by decide +kernel
theorem dX1_push_22 : decode cX1_push 22 = .ok (.aload_n 1, 1) := by decide +kernel
theorem dX1_push_23 : decode cX1_push 23 = .ok (.invokevirtual 25, 3) := by decide +kernel
theorem dX1_push_26 : decode cX1_push 26 = .ok (.aload_n 0, 1) := by decide +kernel
theorem dX1_push_27 : decode cX1_push 27 = .ok (.dup, 1) := by decide +kernel
theorem dX1_push_28 : decode cX1_push 28 = .ok (.getfield 18, 3) := by decide +kernel
theorem dX1_push_31 : decode cX1_push 31 = .ok (.iconst 1, 1) := by decide +kernel
theorem dX1_push_32 : decode cX1_push 32 = .ok (.iadd, 1) := by decide +kernel
theorem dX1_push_33 : decode cX1_push 33 = .ok (.putfield 18, 3) := by decide +kernel
theorem dX1_push_36 : decode cX1_push 36 = .ok (.return_, 1) := by decide +kernel
theorem dX1_popInto_0 : decode cX1_popInto 0 = .ok (.aload_n 0, 1) := by decide +kernel
theorem dX1_popInto_1 : decode cX1_popInto 1 = .ok (.getfield 18, 3) := by decide +kernel
theorem dX1_popInto_4 : decode cX1_popInto 4 = .ok (.ifCond .gt 4, 3) := by decide +kernel
theorem dX1_popInto_7 : decode cX1_popInto 7 = .ok (.return_, 1) := by decide +kernel
theorem dX1_popInto_8 : decode cX1_popInto 8 = .ok (.aload_n 0, 1) := by decide +kernel
theorem dX1_popInto_9 : decode cX1_popInto 9 = .ok (.dup, 1) := by decide +kernel
theorem dX1_popInto_10 : decode cX1_popInto 10 = .ok (.getfield 18, 3) := by decide +kernel
theorem dX1_popInto_13 : decode cX1_popInto 13 = .ok (.iconst 1, 1) := by decide +kernel
theorem dX1_popInto_14 : decode cX1_popInto 14 = .ok (.isub, 1) := by decide +kernel
theorem dX1_popInto_15 : decode cX1_popInto 15 = .ok (.putfield 18, 3) := by decide +kernel
theorem dX1_popInto_18 : decode cX1_popInto 18 = .ok (.aload_n 1, 1) := by decide +kernel
theorem dX1_popInto_19 : decode cX1_popInto 19 = .ok (.aload_n 0, 1) := by decide +kernel
theorem dX1_popInto_20 : decode cX1_popInto 20 = .ok (.getfield 11, 3) := by decide +kernel
theorem dX1_popInto_23 : decode cX1_popInto 23 = .ok (.aload_n 0, 1) := by decide +kernel
theorem dX1_popInto_24 : decode cX1_popInto 24 = .ok (.getfield 18, 3) := by decide +kernel
theorem dX1_popInto_27 : decode cX1_popInto 27 = .ok (.aaload, 1) := by decide +kernel
theorem dX1_popInto_28 : decode cX1_popInto 28 = .ok (.invokevirtual 25, 3) := by decide +kernel
theorem dX1_popInto_31 : decode cX1_popInto 31 = .ok (.return_, 1) := by decide +kernel
theorem dX1_dropFirst_0 : decode cX1_dropFirst 0 = .ok (.aload_n 0, 1) := by decide +kernel
theorem dX1_dropFirst_1 : decode cX1_dropFirst 1 = .ok (.getfield 11, 3) := by decide +kernel
theorem dX1_dropFirst_4 : decode cX1_dropFirst 4 = .ok (.iconst 0, 1) := by decide +kernel
theorem dX1_dropFirst_5 : decode cX1_dropFirst 5 = .ok (.aaload, 1) := by decide +kernel
theorem dX1_dropFirst_6 : decode cX1_dropFirst 6 = .ok (.astore_n 1, 1) := by decide +kernel
theorem dX1_dropFirst_7 : decode cX1_dropFirst 7 = .ok (.iconst 1, 1) := by decide +kernel
theorem dX1_dropFirst_8 : decode cX1_dropFirst 8 = .ok (.istore_n 2, 1) := by decide +kernel
theorem dX1_dropFirst_9 : decode cX1_dropFirst 9 = .ok (.iload_n 2, 1) := by decide +kernel
theorem dX1_dropFirst_10 : decode cX1_dropFirst 10 = .ok (.bipush 10, 2) := by decide +kernel
theorem dX1_dropFirst_12 : decode cX1_dropFirst 12 = .ok (.if_icmp .ge 23, 3) := by decide +kernel
theorem dX1_dropFirst_15 : decode cX1_dropFirst 15 = .ok (.aload_n 0, 1) := by decide +kernel
theorem dX1_dropFirst_16 : decode cX1_dropFirst 16 = .ok (.getfield 11, 3) := by decide +kernel
theorem dX1_dropFirst_19 : decode cX1_dropFirst 19 = .ok (.iload_n 2, 1) := by decide +kernel
theorem dX1_dropFirst_20 : decode cX1_dropFirst 20 = .ok (.iconst 1, 1) := by decide +kernel
theorem dX1_dropFirst_21 : decode cX1_dropFirst 21 = .ok (.isub, 1) := by decide +kernel
theorem dX1_dropFirst_22 : decode cX1_dropFirst 22 = .ok (.aload_n 0, 1) := by decide +kernel
theorem dX1_dropFirst_23 : decode cX1_dropFirst 23 = .ok (.getfield 11, 3) := by decide +kernel
theorem dX1_dropFirst_26 : decode cX1_dropFirst 26 = .ok (.iload_n 2, 1) := by decide +kernel
theorem dX1_dropFirst_27 : decode cX1_dropFirst 27 = .ok (.aaload, 1) := by decide +kernel
theorem dX1_dropFirst_28 : decode cX1_dropFirst 28 = .ok (.aastore, 1) := by decide +kernel
theorem dX1_dropFirst_29 : decode cX1_dropFirst 29 = .ok (.iinc 2 1, 3) := by decide +kernel
theorem dX1_dropFirst_32 : decode cX1_dropFirst 32 = .ok (.goto (-23), 3) := by decide +kernel
theorem dX1_dropFirst_35 : decode cX1_dropFirst 35 = .ok (.aload_n 0, 1) := by decide +kernel
theorem dX1_dropFirst_36 : decode cX1_dropFirst 36 = .ok (.getfield 11, 3) := by decide +kernel
theorem dX1_dropFirst_39 : decode cX1_dropFirst 39 = .ok (.bipush 9, 2) := by decide +kernel
theorem dX1_dropFirst_41 : decode cX1_dropFirst 41 = .ok (.aload_n 1, 1) := by decide +kernel
theorem dX1_dropFirst_42 : decode cX1_dropFirst 42 = .ok (.aastore, 1) := by decide +kernel
theorem dX1_dropFirst_43 : decode cX1_dropFirst 43 = .ok (.aload_n 0, 1) := by decide +kernel
theorem dX1_dropFirst_44 : decode cX1_dropFirst 44 = .ok (.bipush 9, 2) := by decide +kernel
theorem dX1_dropFirst_46 : decode cX1_dropFirst 46 = .ok (.putfield 18, 3) := by decide +kernel
theorem dX1_dropFirst_49 : decode cX1_dropFirst 49 = .ok (.return_, 1) := by decide +kernel
theorem dX2_init_0 : decode cX2_init 0 = .ok (.aload_n 0, 1) := by decide +kernel
theorem dX2_init_1 : decode cX2_init 1 = .ok (.invokespecial 3, 3) := by decide +kernel
theorem dX2_init_4 : decode cX2_init 4 = .ok (.aload_n 0, 1) := by decide +kernel
theorem dX2_init_5 : decode cX2_init 5 = .ok (.sipush 900, 3) := by decide +kernel
theorem dX2_init_8 : decode cX2_init 8 = .ok (.newarray .byte, 2) := by decide +kernel
theorem dX2_init_10 : decode cX2_init 10 = .ok (.putfield 9, 3) := by decide +kernel
theorem dX2_init_13 : decode cX2_init 13 = .ok (.aload_n 0, 1) := by decide +kernel
theorem dX2_init_14 : decode cX2_init 14 = .ok (.bipush 12, 2) := by decide +kernel
theorem dX2_init_16 : decode cX2_init 16 = .ok (.newarray .boolean, 2) := by decide +kernel
theorem dX2_init_18 : decode cX2_init 18 = .ok (.putfield 15, 3) := by decide +kernel
theorem dX2_init_21 : decode cX2_init 21 = .ok (.aload_n 0, 1) := by decide +kernel
theorem dX2_init_22 : decode cX2_init 22 = .ok (.iconst (-1), 1) := by decide +kernel
theorem dX2_init_23 : decode cX2_init 23 = .ok (.putfield 19, 3) := by decide +kernel
theorem dX2_init_26 : decode cX2_init 26 = .ok (.aload_n 0, 1) := by decide +kernel
theorem dX2_init_27 : decode cX2_init 27 = .ok (.new 23, 3) := by decide +kernel
theorem dX2_init_30 : decode cX2_init 30 = .ok (.dup, 1) := by decide +kernel
theorem dX2_init_31 : decode cX2_init 31 = .ok (.invokespecial 25, 3) := by decide +kernel
theorem dX2_init_34 : decode cX2_init 34 = .ok (.putfield 26, 3) := by decide +kernel
theorem dX2_init_37 : decode cX2_init 37 = .ok (.aload_n 0, 1) := by decide +kernel
theorem dX2_init_38 : decode cX2_init 38 = .ok (.new 30, 3) := by decide +kernel
theorem dX2_init_41 : decode cX2_init 41 = .ok (.dup, 1) := by decide +kernel
theorem dX2_init_42 : decode cX2_init 42 = .ok (.invokespecial 32, 3) := by decide +kernel
theorem dX2_init_45 : decode cX2_init 45 = .ok (.putfield 33, 3) := by decide +kernel
theorem dX2_init_48 : decode cX2_init 48 = .ok (.return_, 1) := by decide +kernel
theorem dX2_putFour_0 : decode cX2_putFour 0 = .ok (.bipush 24, 2) := by decide +kernel
theorem dX2_putFour_2 : decode cX2_putFour 2 = .ok (.istore_n 2, 1) := by decide +kernel
theorem dX2_putFour_3 : decode cX2_putFour 3 = .ok (.iload_n 2, 1) := by decide +kernel
theorem dX2_putFour_4 : decode cX2_putFour 4 = .ok (.ifCond .lt 42, 3) := by decide +kernel
theorem dX2_putFour_7 : decode cX2_putFour 7 = .ok (.aload_n 0, 1) := by decide +kernel
theorem dX2_putFour_8 : decode cX2_putFour 8 = .ok (.getfield 37, 3) := by decide +kernel
theorem dX2_putFour_11 : decode cX2_putFour 11 = .ok (.sipush 900, 3) := by decide +kernel
theorem dX2_putFour_14 : decode cX2_putFour 14 = .ok (.if_icmp .ge 26, 3) := by decide +kernel
theorem dX2_putFour_17 : decode cX2_putFour 17 = .ok (.aload_n 0, 1) := by decide +kernel
theorem dX2_putFour_18 : decode cX2_putFour 18 = .ok (.getfield 9, 3) := by decide +kernel
theorem dX2_putFour_21 : decode cX2_putFour 21 = .ok (.aload_n 0, 1) := by decide +kernel
theorem dX2_putFour_22 : decode cX2_putFour 22 = .ok (.getfield 37, 3) := by decide +kernel
theorem dX2_putFour_25 : decode cX2_putFour 25 = .ok (.iload_n 1, 1) := by decide +kernel
theorem dX2_putFour_26 : decode cX2_putFour 26 = .ok (.iload_n 2, 1) := by decide +kernel
theorem dX2_putFour_27 : decode cX2_putFour 27 = .ok (.iushr, 1) := by decide +kernel
theorem dX2_putFour_28 : decode cX2_putFour 28 = .ok (.i2b, 1) := by decide +kernel
theorem dX2_putFour_29 : decode cX2_putFour 29 = .ok (.bastore, 1) := by decide +kernel
theorem dX2_putFour_30 : decode cX2_putFour 30 = .ok (.aload_n 0, 1) := by decide +kernel
theorem dX2_putFour_31 : decode cX2_putFour 31 = .ok (.dup, 1) := by decide +kernel
theorem dX2_putFour_32 : decode cX2_putFour 32 = .ok (.getfield 37, 3) := by decide +kernel
theorem dX2_putFour_35 : decode cX2_putFour 35 = .ok (.iconst 1, 1) := by decide +kernel
theorem dX2_putFour_36 : decode cX2_putFour 36 = .ok (.iadd, 1) := by decide +kernel
theorem dX2_putFour_37 : decode cX2_putFour 37 = .ok (.putfield 37, 3) := by decide +kernel
theorem dX2_putFour_40 : decode cX2_putFour 40 = .ok (.iinc 2 (-8), 3) := by decide +kernel
theorem dX2_putFour_43 : decode cX2_putFour 43 = .ok (.goto (-40), 3) := by decide +kernel
theorem dX2_putFour_46 : decode cX2_putFour 46 = .ok (.return_, 1) := by decide +kernel
theorem dX2_parse_0 : decode cX2_parse 0 = .ok (.aload_n 0, 1) := by decide +kernel
theorem dX2_parse_1 : decode cX2_parse 1 = .ok (.getfield 26, 3) := by decide +kernel
theorem dX2_parse_4 : decode cX2_parse 4 = .ok (.invokevirtual 40, 3) := by decide +kernel
theorem dX2_parse_7 : decode cX2_parse 7 = .ok (.aload_n 0, 1) := by decide +kernel
theorem dX2_parse_8 : decode cX2_parse 8 = .ok (.getfield 33, 3) := by decide +kernel
theorem dX2_parse_11 : decode cX2_parse 11 = .ok (.invokevirtual 43, 3) := by decide +kernel
theorem dX2_parse_14 : decode cX2_parse 14 = .ok (.iconst 0, 1) := by decide +kernel
theorem dX2_parse_15 : decode cX2_parse 15 = .ok (.istore_n 2, 1) := by decide +kernel
theorem dX2_parse_16 : decode cX2_parse 16 = .ok (.iload_n 2, 1) := by decide +kernel
theorem dX2_parse_17 : decode cX2_parse 17 = .ok (.bipush 12, 2) := by decide +kernel
theorem dX2_parse_19 : decode cX2_parse 19 = .ok (.if_icmp .ge 16, 3) := by decide +kernel
theorem dX2_parse_22 : decode cX2_parse 22 = .ok (.aload_n 0, 1) := by decide +kernel
theorem dX2_parse_23 : decode cX2_parse 23 = .ok (.getfield 15, 3) := by decide +kernel
theorem dX2_parse_26 : decode cX2_parse 26 = .ok (.iload_n 2, 1) := by decide +kernel
theorem dX2_parse_27 : decode cX2_parse 27 = .ok (.iconst 0, 1) := by decide +kernel
theorem dX2_parse_28 : decode cX2_parse 28 = .ok (.bastore, 1) := by decide +kernel
theorem dX2_parse_29 : decode cX2_parse 29 = .ok (.iinc 2 1, 3) := by decide +kernel
theorem dX2_parse_32 : decode cX2_parse 32 = .ok (.goto (-16), 3) := by decide +kernel
theorem dX2_parse_35 : decode cX2_parse 35 = .ok (.aload_n 0, 1) := by decide +kernel
theorem dX2_parse_36 : decode cX2_parse 36 = .ok (.iconst 0, 1) := by decide +kernel
theorem dX2_parse_37 : decode cX2_parse 37 = .ok (.putfield 44, 3) := by decide +kernel
theorem dX2_parse_40 : decode cX2_parse 40 = .ok (.aload_n 0, 1) := by decide +kernel
theorem dX2_parse_41 : decode cX2_parse 41 = .ok (.iconst (-1), 1) := by decide +kernel
theorem dX2_parse_42 : decode cX2_parse 42 = .ok (.putfield 19, 3) := by decide +kernel
theorem dX2_parse_45 : decode cX2_parse 45 = .ok (.aload_n 0, 1) := by decide +kernel
theorem dX2_parse_46 : decode cX2_parse 46 = .ok (.iload_n 1, 1) := by decide +kernel
theorem dX2_parse_47 : decode cX2_parse 47 = .ok (.putfield 47, 3) := by decide +kernel
theorem dX2_parse_50 : decode cX2_parse 50 = .ok (.aload_n 0, 1) := by decide +kernel
theorem dX2_parse_51 : decode cX2_parse 51 = .ok (.iconst 0, 1) := by decide +kernel
theorem dX2_parse_52 : decode cX2_parse 52 = .ok (.putfield 50, 3) := by decide +kernel
theorem dX2_parse_55 : decode cX2_parse 55 = .ok (.iconst 0, 1) := by decide +kernel
theorem dX2_parse_56 : decode cX2_parse 56 = .ok (.istore_n 2, 1) := by decide +kernel
theorem dX2_parse_57 : decode cX2_parse 57 = .ok (.iload_n 2, 1) := by decide +kernel
theorem dX2_parse_58 : decode cX2_parse 58 = .ok (.sipush 900, 3) := by decide +kernel
theorem dX2_parse_61 : decode cX2_parse 61 = .ok (.if_icmp .gt 35, 3) := by decide +kernel
theorem dX2_parse_64 : decode cX2_parse 64 = .ok (.aload_n 0, 1) := by decide +kernel
theorem dX2_parse_65 : decode cX2_parse 65 = .ok (.invokevirtual 53, 3) := by decide +kernel
theorem dX2_parse_68 : decode cX2_parse 68 = .ok (.aload_n 0, 1) := by decide +kernel
theorem dX2_parse_69 : decode cX2_parse 69 = .ok (.invokevirtual 56, 3) := by decide +kernel
theorem dX2_parse_72 : decode cX2_parse 72 = .ok (.aload_n 0, 1) := by decide +kernel
theorem dX2_parse_73 : decode cX2_parse 73 = .ok (.getfield 44, 3) := by decide +kernel
theorem dX2_parse_76 : decode cX2_parse 76 = .ok (.ifCond .ne 20, 3) := by decide +kernel
theorem dX2_parse_79 : decode cX2_parse 79 = .ok (.aload_n 0, 1) := by decide +kernel
theorem dX2_parse_80 : decode cX2_parse 80 = .ok (.getfield 59, 3) := by decide +kernel
theorem dX2_parse_83 : decode cX2_parse 83 = .ok (.iconst 3, 1) := by decide +kernel
theorem dX2_parse_84 : decode cX2_parse 84 = .ok (.if_icmp .eq 6, 3) := by decide +kernel
theorem dX2_parse_87 : decode cX2_parse 87 = .ok (.goto 9, 3) := by decide +kernel
theorem dX2_parse_90 : decode cX2_parse 90 = .ok (.iinc 2 1, 3) := by decide +kernel
theorem dX2_parse_93 : decode cX2_parse 93 = .ok (.goto (-36), 3) := by decide +kernel
theorem dX2_parse_96 : decode cX2_parse 96 = .ok (.aload_n 0, 1) := by decide +kernel
theorem dX2_parse_97 : decode cX2_parse 97 = .ok (.getfield 59, 3) := by decide +kernel
theorem dX2_parse_100 : decode cX2_parse 100 = .ok (.ifCond .eq 8, 3) := by decide +kernel
theorem dX2_parse_103 : decode cX2_parse 103 = .ok (.aload_n 0, 1) := by decide +kernel
theorem dX2_parse_104 : decode cX2_parse 104 = .ok (.iconst 1, 1) := by decide +kernel
theorem dX2_parse_105 : decode cX2_parse 105 = .ok (.invokevirtual 62, 3) := by decide +kernel
theorem dX2_parse_108 : decode cX2_parse 108 = .ok (.aload_n 0, 1) := by decide +kernel
theorem dX2_parse_109 : decode cX2_parse 109 = .ok (.invokevirtual 66, 3) := by decide +kernel
theorem dX2_parse_112 : decode cX2_parse 112 = .ok (.ifCond .ne 8, 3) := by decide +kernel
theorem dX2_parse_115 : decode cX2_parse 115 = .ok (.aload_n 0, 1) := by decide +kernel
theorem dX2_parse_116 : decode cX2_parse 116 = .ok (.iconst 5, 1) := by decide +kernel
theorem dX2_parse_117 : decode cX2_parse 117 = .ok (.invokevirtual 62, 3) := by decide +kernel
theorem dX2_parse_120 : decode cX2_parse 120 = .ok (.return_, 1) := by decide +kernel
theorem dX2_refuse_0 : decode cX2_refuse 0 = .ok (.aload_n 0, 1) := by decide +kernel
theorem dX2_refuse_1 : decode cX2_refuse 1 = .ok (.getfield 44, 3) := by decide +kernel
theorem dX2_refuse_4 : decode cX2_refuse 4 = .ok (.ifCond .ne 16, 3) := by decide +kernel
theorem dX2_refuse_7 : decode cX2_refuse 7 = .ok (.aload_n 0, 1) := by decide +kernel
theorem dX2_refuse_8 : decode cX2_refuse 8 = .ok (.iload_n 1, 1) := by decide +kernel
theorem dX2_refuse_9 : decode cX2_refuse 9 = .ok (.putfield 44, 3) := by decide +kernel
theorem dX2_refuse_12 : decode cX2_refuse 12 = .ok (.aload_n 0, 1) := by decide +kernel
theorem dX2_refuse_13 : decode cX2_refuse 13 = .ok (.aload_n 0, 1) := by decide +kernel
theorem dX2_refuse_14 : decode cX2_refuse 14 = .ok (.getfield 70, 3) := by decide +kernel
theorem dX2_refuse_17 : decode cX2_refuse 17 = .ok (.putfield 19, 3) := by decide +kernel
theorem dX2_refuse_20 : decode cX2_refuse 20 = .ok (.return_, 1) := by decide +kernel
theorem dX2_isComplete_0 : decode cX2_isComplete 0 = .ok (.iconst 0, 1) := by decide +kernel
theorem dX2_isComplete_1 : decode cX2_isComplete 1 = .ok (.istore_n 1, 1) := by decide +kernel
theorem dX2_isComplete_2 : decode cX2_isComplete 2 = .ok (.iload_n 1, 1) := by decide +kernel
theorem dX2_isComplete_3 : decode cX2_isComplete 3 = .ok (.iconst 2, 1) := by decide +kernel
theorem dX2_isComplete_4 : decode cX2_isComplete 4 = .ok (.if_icmp .ge 35, 3) := by decide +kernel
theorem dX2_isComplete_7 : decode cX2_isComplete 7 = .ok (.aload_n 0, 1) := by decide +kernel
theorem dX2_isComplete_8 : decode cX2_isComplete 8 = .ok (.getfield 26, 3) := by decide +kernel
theorem dX2_isComplete_11 : decode cX2_isComplete 11 = .ok (.getfield 73, 3) := by decide +kernel
theorem dX2_isComplete_14 : decode cX2_isComplete 14 = .ok (.iload_n 1, 1) := by decide +kernel
theorem dX2_isComplete_15 : decode cX2_isComplete 15 = .ok (.baload, 1) := by decide +kernel
theorem dX2_isComplete_16 : decode cX2_isComplete 16 = .ok (.ifCond .eq 15, 3) := by decide +kernel
theorem dX2_isComplete_19 : decode cX2_isComplete 19 = .ok (.aload_n 0, 1) := by decide +kernel
theorem dX2_isComplete_20 : decode cX2_isComplete 20 = .ok (.getfield 26, 3) := by decide +kernel
theorem dX2_isComplete_23 : decode cX2_isComplete 23 = .ok (.getfield 76, 3) := by decide +kernel
theorem dX2_isComplete_26 : decode cX2_isComplete 26 = .ok (.iload_n 1, 1) := by decide +kernel
theorem dX2_isComplete_27 : decode cX2_isComplete 27 = .ok (.iaload, 1) := by decide +kernel
theorem dX2_isComplete_28 : decode cX2_isComplete 28 = .ok (.ifCond .ne 5, 3) := by decide +kernel
theorem dX2_isComplete_31 : decode cX2_isComplete 31 = .ok (.iconst 0, 1) := by decide +kernel
theorem dX2_isComplete_32 : decode cX2_isComplete 32 = .ok (.ireturn, 1) := by decide +kernel
theorem dX2_isComplete_33 : decode cX2_isComplete 33 = .ok (.iinc 1 1, 3) := by decide +kernel
theorem dX2_isComplete_36 : decode cX2_isComplete 36 = .ok (.goto (-34), 3) := by decide +kernel
theorem dX2_isComplete_39 : decode cX2_isComplete 39 = .ok (.aload_n 0, 1) := by decide +kernel
theorem dX2_isComplete_40 : decode cX2_isComplete 40 = .ok (.getfield 26, 3) := by decide +kernel
theorem dX2_isComplete_43 : decode cX2_isComplete 43 = .ok (.getfield 80, 3) := by decide +kernel
theorem dX2_isComplete_46 : decode cX2_isComplete 46 = .ok (.ifCond .le 17, 3) := by decide +kernel
theorem dX2_isComplete_49 : decode cX2_isComplete 49 = .ok (.aload_n 0, 1) := by decide +kernel
theorem dX2_isComplete_50 : decode cX2_isComplete 50 = .ok (.getfield 26, 3) := by decide +kernel
theorem dX2_isComplete_53 : decode cX2_isComplete 53 = .ok (.getfield 83, 3) := by decide +kernel
theorem dX2_isComplete_56 : decode cX2_isComplete 56 = .ok (.ifCond .le 7, 3) := by decide +kernel
theorem dX2_isComplete_59 : decode cX2_isComplete 59 = .ok (.iconst 1, 1) := by decide +kernel
theorem dX2_isComplete_60 : decode cX2_isComplete 60 = .ok (.goto 4, 3) := by decide +kernel
theorem dX2_isComplete_63 : decode cX2_isComplete 63 = .ok (.iconst 0, 1) := by decide +kernel
theorem dX2_isComplete_64 : decode cX2_isComplete 64 = .ok (.ireturn, 1) := by decide +kernel
theorem dX2_readLine_0 : decode cX2_readLine 0 = .ok (.aload_n 0, 1) := by decide +kernel
theorem dX2_readLine_1 : decode cX2_readLine 1 = .ok (.invokevirtual 56, 3) := by decide +kernel
theorem dX2_readLine_4 : decode cX2_readLine 4 = .ok (.aload_n 0, 1) := by decide +kernel
theorem dX2_readLine_5 : decode cX2_readLine 5 = .ok (.getfield 59, 3) := by decide +kernel
theorem dX2_readLine_8 : decode cX2_readLine 8 = .ok (.iconst 1, 1) := by decide +kernel
theorem dX2_readLine_9 : decode cX2_readLine 9 = .ok (.if_icmp .eq 11, 3) := by decide +kernel
theorem dX2_readLine_12 : decode cX2_readLine 12 = .ok (.aload_n 0, 1) := by decide +kernel
theorem dX2_readLine_13 : decode cX2_readLine 13 = .ok (.iconst 1, 1) := by decide +kernel
theorem dX2_readLine_14 : decode cX2_readLine 14 = .ok (.invokevirtual 62, 3) := by decide +kernel
theorem dX2_readLine_17 : decode cX2_readLine 17 = .ok (.goto 134, 3) := by decide +kernel
theorem dX2_readLine_20 : decode cX2_readLine 20 = .ok (.aload_n 0, 1) := by decide +kernel
theorem dX2_readLine_21 : decode cX2_readLine 21 = .ok (.getfield 86, 3) := by decide +kernel
theorem dX2_readLine_24 : decode cX2_readLine 24 = .ok (.ldc2_w 90, 3) := by decide +kernel
theorem dX2_readLine_27 : decode cX2_readLine 27 = .ok (.lcmp, 1) := by decide +kernel
theorem dX2_readLine_28 : decode cX2_readLine 28 = .ok (.ifCond .ne 10, 3) := by decide +kernel
theorem dX2_readLine_31 : decode cX2_readLine 31 = .ok (.aload_n 0, 1) := by decide +kernel
theorem dX2_readLine_32 : decode cX2_readLine 32 = .ok (.invokevirtual 92, 3) := by decide +kernel
theorem dX2_readLine_35 : decode cX2_readLine 35 = .ok (.goto 116, 3) := by decide +kernel
theorem dX2_readLine_38 : decode cX2_readLine 38 = .ok (.aload_n 0, 1) := by decide +kernel
theorem dX2_readLine_39 : decode cX2_readLine 39 = .ok (.getfield 86, 3) := by decide +kernel
theorem dX2_readLine_42 : decode cX2_readLine 42 = .ok (.ldc2_w 95, 3) := by decide +kernel
theorem dX2_readLine_45 : decode cX2_readLine 45 = .ok (.lcmp, 1) := by decide +kernel
theorem dX2_readLine_46 : decode cX2_readLine 46 = .ok (.ifCond .ne 10, 3) := by decide +kernel
theorem dX2_readLine_49 : decode cX2_readLine 49 = .ok (.aload_n 0, 1) := by decide +kernel
theorem dX2_readLine_50 : decode cX2_readLine 50 = .ok (.invokevirtual 97, 3) := by decide +kernel
theorem dX2_readLine_53 : decode cX2_readLine 53 = .ok (.goto 98, 3) := by decide +kernel
theorem dX2_readLine_56 : decode cX2_readLine 56 = .ok (.aload_n 0, 1) := by decide +kernel
theorem dX2_readLine_57 : decode cX2_readLine 57 = .ok (.getfield 86, 3) := by decide +kernel
theorem dX2_readLine_60 : decode cX2_readLine 60 = .ok (.ldc2_w 100, 3) := by decide +kernel
theorem dX2_readLine_63 : decode cX2_readLine 63 = .ok (.lcmp, 1) := by decide +kernel
theorem dX2_readLine_64 : decode cX2_readLine 64 = .ok (.ifCond .ne 10, 3) := by decide +kernel
theorem dX2_readLine_67 : decode cX2_readLine 67 = .ok (.aload_n 0, 1) := by decide +kernel
theorem dX2_readLine_68 : decode cX2_readLine 68 = .ok (.invokevirtual 102, 3) := by decide +kernel
theorem dX2_readLine_71 : decode cX2_readLine 71 = .ok (.goto 80, 3) := by decide +kernel
theorem dX2_readLine_74 : decode cX2_readLine 74 = .ok (.aload_n 0, 1) := by decide +kernel
theorem dX2_readLine_75 : decode cX2_readLine 75 = .ok (.getfield 86, 3) := by decide +kernel
theorem dX2_readLine_78 : decode cX2_readLine 78 = .ok (.ldc2_w 105, 3) := by decide +kernel
theorem dX2_readLine_81 : decode cX2_readLine 81 = .ok (.lcmp, 1) := by decide +kernel
theorem dX2_readLine_82 : decode cX2_readLine 82 = .ok (.ifCond .ne 10, 3) := by decide +kernel
theorem dX2_readLine_85 : decode cX2_readLine 85 = .ok (.aload_n 0, 1) := by decide +kernel
theorem dX2_readLine_86 : decode cX2_readLine 86 = .ok (.invokevirtual 107, 3) := by decide +kernel
theorem dX2_readLine_89 : decode cX2_readLine 89 = .ok (.goto 62, 3) := by decide +kernel
theorem dX2_readLine_92 : decode cX2_readLine 92 = .ok (.aload_n 0, 1) := by decide +kernel
theorem dX2_readLine_93 : decode cX2_readLine 93 = .ok (.getfield 86, 3) := by decide +kernel
theorem dX2_readLine_96 : decode cX2_readLine 96 = .ok (.ldc2_w 110, 3) := by decide +kernel
theorem dX2_readLine_99 : decode cX2_readLine 99 = .ok (.lcmp, 1) := by decide +kernel
theorem dX2_readLine_100 : decode cX2_readLine 100 = .ok (.ifCond .ne 10, 3) := by decide +kernel
theorem dX2_readLine_103 : decode cX2_readLine 103 = .ok (.aload_n 0, 1) := by decide +kernel
theorem dX2_readLine_104 : decode cX2_readLine 104 = .ok (.invokevirtual 112, 3) := by decide +kernel
theorem dX2_readLine_107 : decode cX2_readLine 107 = .ok (.goto 44, 3) := by decide +kernel
theorem dX2_readLine_110 : decode cX2_readLine 110 = .ok (.aload_n 0, 1) := by decide +kernel
theorem dX2_readLine_111 : decode cX2_readLine 111 = .ok (.getfield 86, 3) := by decide +kernel
theorem dX2_readLine_114 : decode cX2_readLine 114 = .ok (.ldc2_w 115, 3) := by decide +kernel
theorem dX2_readLine_117 : decode cX2_readLine 117 = .ok (.lcmp, 1) := by decide +kernel
theorem dX2_readLine_118 : decode cX2_readLine 118 = .ok (.ifCond .ne 10, 3) := by decide +kernel
theorem dX2_readLine_121 : decode cX2_readLine 121 = .ok (.aload_n 0, 1) := by decide +kernel
theorem dX2_readLine_122 : decode cX2_readLine 122 = .ok (.invokevirtual 117, 3) := by decide +kernel
theorem dX2_readLine_125 : decode cX2_readLine 125 = .ok (.goto 26, 3) := by decide +kernel
theorem dX2_readLine_128 : decode cX2_readLine 128 = .ok (.aload_n 0, 1) := by decide +kernel
theorem dX2_readLine_129 : decode cX2_readLine 129 = .ok (.getfield 86, 3) := by decide +kernel
theorem dX2_readLine_132 : decode cX2_readLine 132 = .ok (.ldc2_w 120, 3) := by decide +kernel
theorem dX2_readLine_135 : decode cX2_readLine 135 = .ok (.lcmp, 1) := by decide +kernel
theorem dX2_readLine_136 : decode cX2_readLine 136 = .ok (.ifCond .ne 10, 3) := by decide +kernel
theorem dX2_readLine_139 : decode cX2_readLine 139 = .ok (.aload_n 0, 1) := by decide +kernel
theorem dX2_readLine_140 : decode cX2_readLine 140 = .ok (.invokevirtual 122, 3) := by decide +kernel
theorem dX2_readLine_143 : decode cX2_readLine 143 = .ok (.goto 8, 3) := by decide +kernel
theorem dX2_readLine_146 : decode cX2_readLine 146 = .ok (.aload_n 0, 1) := by decide +kernel
theorem dX2_readLine_147 : decode cX2_readLine 147 = .ok (.iconst 1, 1) := by decide +kernel
theorem dX2_readLine_148 : decode cX2_readLine 148 = .ok (.invokevirtual 62, 3) := by decide +kernel
theorem dX2_readLine_151 : decode cX2_readLine 151 = .ok (.return_, 1) := by decide +kernel
theorem dX2_readTrain_0 : decode cX2_readTrain 0 = .ok (.aload_n 0, 1) := by decide +kernel
theorem dX2_readTrain_1 : decode cX2_readTrain 1 = .ok (.iconst 0, 1) := by decide +kernel
theorem dX2_readTrain_2 : decode cX2_readTrain 2 = .ok (.iconst 1, 1) := by decide +kernel
theorem dX2_readTrain_3 : decode cX2_readTrain 3 = .ok (.invokevirtual 125, 3) := by decide +kernel
theorem dX2_readTrain_6 : decode cX2_readTrain 6 = .ok (.istore_n 1, 1) := by decide +kernel
theorem dX2_readTrain_7 : decode cX2_readTrain 7 = .ok (.aload_n 0, 1) := by decide +kernel
theorem dX2_readTrain_8 : decode cX2_readTrain 8 = .ok (.getfield 26, 3) := by decide +kernel
theorem dX2_readTrain_11 : decode cX2_readTrain 11 = .ok (.getfield 73, 3) := by decide +kernel
theorem dX2_readTrain_14 : decode cX2_readTrain 14 = .ok (.iload_n 1, 1) := by decide +kernel
theorem dX2_readTrain_15 : decode cX2_readTrain 15 = .ok (.baload, 1) := by decide +kernel
theorem dX2_readTrain_16 : decode cX2_readTrain 16 = .ok (.ifCond .eq 8, 3) := by decide +kernel
theorem dX2_readTrain_19 : decode cX2_readTrain 19 = .ok (.aload_n 0, 1) := by decide +kernel
theorem dX2_readTrain_20 : decode cX2_readTrain 20 = .ok (.iconst 3, 1) := by decide +kernel
theorem dX2_readTrain_21 : decode cX2_readTrain 21 = .ok (.invokevirtual 62, 3) := by decide +kernel
theorem dX2_readTrain_24 : decode cX2_readTrain 24 = .ok (.aload_n 0, 1) := by decide +kernel
theorem dX2_readTrain_25 : decode cX2_readTrain 25 = .ok (.ldc2_w 129, 3) := by decide +kernel
theorem dX2_readTrain_28 : decode cX2_readTrain 28 = .ok (.invokevirtual 131, 3) := by decide +kernel
theorem dX2_readTrain_31 : decode cX2_readTrain 31 = .ok (.aload_n 0, 1) := by decide +kernel
theorem dX2_readTrain_32 : decode cX2_readTrain 32 = .ok (.iconst 0, 1) := by decide +kernel
theorem dX2_readTrain_33 : decode cX2_readTrain 33 = .ok (.sipush 900, 3) := by decide +kernel
theorem dX2_readTrain_36 : decode cX2_readTrain 36 = .ok (.invokevirtual 125, 3) := by decide +kernel
theorem dX2_readTrain_39 : decode cX2_readTrain 39 = .ok (.istore_n 2, 1) := by decide +kernel
theorem dX2_readTrain_40 : decode cX2_readTrain 40 = .ok (.aload_n 0, 1) := by decide +kernel
theorem dX2_readTrain_41 : decode cX2_readTrain 41 = .ok (.ldc2_w 135, 3) := by decide +kernel
theorem dX2_readTrain_44 : decode cX2_readTrain 44 = .ok (.invokevirtual 131, 3) := by decide +kernel
theorem dX2_readTrain_47 : decode cX2_readTrain 47 = .ok (.aload_n 0, 1) := by decide +kernel
theorem dX2_readTrain_48 : decode cX2_readTrain 48 = .ok (.iload_n 2, 1) := by decide +kernel
theorem dX2_readTrain_49 : decode cX2_readTrain 49 = .ok (.sipush 999, 3) := by decide +kernel
theorem dX2_readTrain_52 : decode cX2_readTrain 52 = .ok (.invokevirtual 125, 3) := by decide +kernel
theorem dX2_readTrain_55 : decode cX2_readTrain 55 = .ok (.istore_n 3, 1) := by decide +kernel
theorem dX2_readTrain_56 : decode cX2_readTrain 56 = .ok (.aload_n 0, 1) := by decide +kernel
theorem dX2_readTrain_57 : decode cX2_readTrain 57 = .ok (.getfield 44, 3) := by decide +kernel
theorem dX2_readTrain_60 : decode cX2_readTrain 60 = .ok (.ifCond .ne 33, 3) := by decide +kernel
theorem dX2_readTrain_63 : decode cX2_readTrain 63 = .ok (.aload_n 0, 1) := by decide +kernel
theorem dX2_readTrain_64 : decode cX2_readTrain 64 = .ok (.getfield 26, 3) := by decide +kernel
theorem dX2_readTrain_67 : decode cX2_readTrain 67 = .ok (.getfield 73, 3) := by decide +kernel
theorem dX2_readTrain_70 : decode cX2_readTrain 70 = .ok (.iload_n 1, 1) := by decide +kernel
theorem dX2_readTrain_71 : decode cX2_readTrain 71 = .ok (.iconst 1, 1) := by decide +kernel
theorem dX2_readTrain_72 : decode cX2_readTrain 72 = .ok (.bastore, 1) := by decide +kernel
theorem dX2_readTrain_73 : decode cX2_readTrain 73 = .ok (.aload_n 0, 1) := by decide +kernel
theorem dX2_readTrain_74 : decode cX2_readTrain 74 = .ok (.getfield 26, 3) := by decide +kernel
theorem dX2_readTrain_77 : decode cX2_readTrain 77 = .ok (.getfield 137, 3) := by decide +kernel
theorem dX2_readTrain_80 : decode cX2_readTrain 80 = .ok (.iload_n 1, 1) := by decide +kernel
theorem dX2_readTrain_81 : decode cX2_readTrain 81 = .ok (.iload_n 2, 1) := by decide +kernel
theorem dX2_readTrain_82 : decode cX2_readTrain 82 = .ok (.iastore, 1) := by decide +kernel
theorem dX2_readTrain_83 : decode cX2_readTrain 83 = .ok (.aload_n 0, 1) := by decide +kernel
theorem dX2_readTrain_84 : decode cX2_readTrain 84 = .ok (.getfield 33, 3) := by decide +kernel
theorem dX2_readTrain_87 : decode cX2_readTrain 87 = .ok (.getfield 140, 3) := by decide +kernel
theorem dX2_readTrain_90 : decode cX2_readTrain 90 = .ok (.iload_n 1, 1) := by decide +kernel
theorem dX2_readTrain_91 : decode cX2_readTrain 91 = .ok (.iload_n 3, 1) := by decide +kernel
theorem dX2_readTrain_92 : decode cX2_readTrain 92 = .ok (.iastore, 1) := by decide +kernel
theorem dX2_readTrain_93 : decode cX2_readTrain 93 = .ok (.return_, 1) := by decide +kernel
theorem dX2_readCar_0 : decode cX2_readCar 0 = .ok (.aload_n 0, 1) := by decide +kernel
theorem dX2_readCar_1 : decode cX2_readCar 1 = .ok (.iconst 0, 1) := by decide +kernel
theorem dX2_readCar_2 : decode cX2_readCar 2 = .ok (.iconst 1, 1) := by decide +kernel
theorem dX2_readCar_3 : decode cX2_readCar 3 = .ok (.invokevirtual 125, 3) := by decide +kernel
theorem dX2_readCar_6 : decode cX2_readCar 6 = .ok (.istore_n 1, 1) := by decide +kernel
theorem dX2_readCar_7 : decode cX2_readCar 7 = .ok (.aload_n 0, 1) := by decide +kernel
theorem dX2_readCar_8 : decode cX2_readCar 8 = .ok (.iload_n 1, 1) := by decide +kernel
theorem dX2_readCar_9 : decode cX2_readCar 9 = .ok (.invokevirtual 143, 3) := by decide +kernel
theorem dX2_readCar_12 : decode cX2_readCar 12 = .ok (.aload_n 0, 1) := by decide +kernel
theorem dX2_readCar_13 : decode cX2_readCar 13 = .ok (.getfield 26, 3) := by decide +kernel
theorem dX2_readCar_16 : decode cX2_readCar 16 = .ok (.getfield 76, 3) := by decide +kernel
theorem dX2_readCar_19 : decode cX2_readCar 19 = .ok (.iload_n 1, 1) := by decide +kernel
theorem dX2_readCar_20 : decode cX2_readCar 20 = .ok (.iaload, 1) := by decide +kernel
theorem dX2_readCar_21 : decode cX2_readCar 21 = .ok (.iconst 5, 1) := by decide +kernel
theorem dX2_readCar_22 : decode cX2_readCar 22 = .ok (.if_icmp .lt 8, 3) := by decide +kernel
theorem dX2_readCar_25 : decode cX2_readCar 25 = .ok (.aload_n 0, 1) := by decide +kernel
theorem dX2_readCar_26 : decode cX2_readCar 26 = .ok (.iconst 4, 1) := by decide +kernel
theorem dX2_readCar_27 : decode cX2_readCar 27 = .ok (.invokevirtual 62, 3) := by decide +kernel
theorem dX2_readCar_30 : decode cX2_readCar 30 = .ok (.aload_n 0, 1) := by decide +kernel
theorem dX2_readCar_31 : decode cX2_readCar 31 = .ok (.iconst 0, 1) := by decide +kernel
theorem dX2_readCar_32 : decode cX2_readCar 32 = .ok (.bipush 99, 2) := by decide +kernel
theorem dX2_readCar_34 : decode cX2_readCar 34 = .ok (.invokevirtual 125, 3) := by decide +kernel
theorem dX2_readCar_37 : decode cX2_readCar 37 = .ok (.istore_n 2, 1) := by decide +kernel
theorem dX2_readCar_38 : decode cX2_readCar 38 = .ok (.aload_n 0, 1) := by decide +kernel
theorem dX2_readCar_39 : decode cX2_readCar 39 = .ok (.iconst 0, 1) := by decide +kernel
theorem dX2_readCar_40 : decode cX2_readCar 40 = .ok (.bipush 99, 2) := by decide +kernel
theorem dX2_readCar_42 : decode cX2_readCar 42 = .ok (.invokevirtual 125, 3) := by decide +kernel
theorem dX2_readCar_45 : decode cX2_readCar 45 = .ok (.istore_n 3, 1) := by decide +kernel
theorem dX2_readCar_46 : decode cX2_readCar 46 = .ok (.aload_n 0, 1) := by decide +kernel
theorem dX2_readCar_47 : decode cX2_readCar 47 = .ok (.iconst 0, 1) := by decide +kernel
theorem dX2_readCar_48 : decode cX2_readCar 48 = .ok (.bipush 99, 2) := by decide +kernel
theorem dX2_readCar_50 : decode cX2_readCar 50 = .ok (.invokevirtual 125, 3) := by decide +kernel
theorem dX2_readCar_53 : decode cX2_readCar 53 = .ok (.istore 4, 2) := by decide +kernel
theorem dX2_readCar_55 : decode cX2_readCar 55 = .ok (.aload_n 0, 1) := by decide +kernel
theorem dX2_readCar_56 : decode cX2_readCar 56 = .ok (.getfield 44, 3) := by decide +kernel
theorem dX2_readCar_59 : decode cX2_readCar 59 = .ok (.ifCond .ne 65, 3) := by decide +kernel
theorem dX2_readCar_62 : decode cX2_readCar 62 = .ok (.iload_n 1, 1) := by decide +kernel
theorem dX2_readCar_63 : decode cX2_readCar 63 = .ok (.aload_n 0, 1) := by decide +kernel
theorem dX2_readCar_64 : decode cX2_readCar 64 = .ok (.getfield 26, 3) := by decide +kernel
theorem dX2_readCar_67 : decode cX2_readCar 67 = .ok (.getfield 76, 3) := by decide +kernel
theorem dX2_readCar_70 : decode cX2_readCar 70 = .ok (.iload_n 1, 1) := by decide +kernel
theorem dX2_readCar_71 : decode cX2_readCar 71 = .ok (.iaload, 1) := by decide +kernel
theorem dX2_readCar_72 : decode cX2_readCar 72 = .ok (.invokestatic 146, 3) := by decide +kernel
theorem dX2_readCar_75 : decode cX2_readCar 75 = .ok (.istore 5, 2) := by decide +kernel
theorem dX2_readCar_77 : decode cX2_readCar 77 = .ok (.aload_n 0, 1) := by decide +kernel
theorem dX2_readCar_78 : decode cX2_readCar 78 = .ok (.getfield 26, 3) := by decide +kernel
theorem dX2_readCar_81 : decode cX2_readCar 81 = .ok (.getfield 149, 3) := by decide +kernel
theorem dX2_readCar_84 : decode cX2_readCar 84 = .ok (.iload 5, 2) := by decide +kernel
theorem dX2_readCar_86 : decode cX2_readCar 86 = .ok (.iload_n 2, 1) := by decide +kernel
theorem dX2_readCar_87 : decode cX2_readCar 87 = .ok (.iastore, 1) := by decide +kernel
theorem dX2_readCar_88 : decode cX2_readCar 88 = .ok (.aload_n 0, 1) := by decide +kernel
theorem dX2_readCar_89 : decode cX2_readCar 89 = .ok (.getfield 26, 3) := by decide +kernel
theorem dX2_readCar_92 : decode cX2_readCar 92 = .ok (.getfield 152, 3) := by decide +kernel
theorem dX2_readCar_95 : decode cX2_readCar 95 = .ok (.iload 5, 2) := by decide +kernel
theorem dX2_readCar_97 : decode cX2_readCar 97 = .ok (.iload_n 3, 1) := by decide +kernel
theorem dX2_readCar_98 : decode cX2_readCar 98 = .ok (.iastore, 1) := by decide +kernel
theorem dX2_readCar_99 : decode cX2_readCar 99 = .ok (.aload_n 0, 1) := by decide +kernel
theorem dX2_readCar_100 : decode cX2_readCar 100 = .ok (.getfield 26, 3) := by decide +kernel
theorem dX2_readCar_103 : decode cX2_readCar 103 = .ok (.getfield 155, 3) := by decide +kernel
theorem dX2_readCar_106 : decode cX2_readCar 106 = .ok (.iload 5, 2) := by decide +kernel
theorem dX2_readCar_108 : decode cX2_readCar 108 = .ok (.iload 4, 2) := by decide +kernel
theorem dX2_readCar_110 : decode cX2_readCar 110 = .ok (.iastore, 1) := by decide +kernel
theorem dX2_readCar_111 : decode cX2_readCar 111 = .ok (.aload_n 0, 1) := by decide +kernel
theorem dX2_readCar_112 : decode cX2_readCar 112 = .ok (.getfield 26, 3) := by decide +kernel
theorem dX2_readCar_115 : decode cX2_readCar 115 = .ok (.getfield 76, 3) := by decide +kernel
theorem dX2_readCar_118 : decode cX2_readCar 118 = .ok (.iload_n 1, 1) := by decide +kernel
theorem dX2_readCar_119 : decode cX2_readCar 119 = .ok (.dup2, 1) := by decide +kernel
theorem dX2_readCar_120 : decode cX2_readCar 120 = .ok (.iaload, 1) := by decide +kernel
theorem dX2_readCar_121 : decode cX2_readCar 121 = .ok (.iconst 1, 1) := by decide +kernel
theorem dX2_readCar_122 : decode cX2_readCar 122 = .ok (.iadd, 1) := by decide +kernel
theorem dX2_readCar_123 : decode cX2_readCar 123 = .ok (.iastore, 1) := by decide +kernel
theorem dX2_readCar_124 : decode cX2_readCar 124 = .ok (.return_, 1) := by decide +kernel
theorem dX2_readMeal_0 : decode cX2_readMeal 0 = .ok (.aload_n 0, 1) := by decide +kernel
theorem dX2_readMeal_1 : decode cX2_readMeal 1 = .ok (.getfield 26, 3) := by decide +kernel
theorem dX2_readMeal_4 : decode cX2_readMeal 4 = .ok (.getfield 80, 3) := by decide +kernel
theorem dX2_readMeal_7 : decode cX2_readMeal 7 = .ok (.iconst 4, 1) := by decide +kernel
theorem dX2_readMeal_8 : decode cX2_readMeal 8 = .ok (.if_icmp .lt 8, 3) := by decide +kernel
theorem dX2_readMeal_11 : decode cX2_readMeal 11 = .ok (.aload_n 0, 1) := by decide +kernel
theorem dX2_readMeal_12 : decode cX2_readMeal 12 = .ok (.iconst 4, 1) := by decide +kernel
theorem dX2_readMeal_13 : decode cX2_readMeal 13 = .ok (.invokevirtual 62, 3) := by decide +kernel
theorem dX2_readMeal_16 : decode cX2_readMeal 16 = .ok (.aload_n 0, 1) := by decide +kernel
theorem dX2_readMeal_17 : decode cX2_readMeal 17 = .ok (.invokevirtual 158, 3) := by decide +kernel
theorem dX2_readMeal_20 : decode cX2_readMeal 20 = .ok (.aload_n 0, 1) := by decide +kernel
theorem dX2_readMeal_21 : decode cX2_readMeal 21 = .ok (.getfield 86, 3) := by decide +kernel
theorem dX2_readMeal_24 : decode cX2_readMeal 24 = .ok (.lstore_n 1, 1) := by decide +kernel
theorem dX2_readMeal_25 : decode cX2_readMeal 25 = .ok (.aload_n 0, 1) := by decide +kernel
theorem dX2_readMeal_26 : decode cX2_readMeal 26 = .ok (.getfield 26, 3) := by decide +kernel
theorem dX2_readMeal_29 : decode cX2_readMeal 29 = .ok (.lload_n 1, 1) := by decide +kernel
theorem dX2_readMeal_30 : decode cX2_readMeal 30 = .ok (.invokevirtual 161, 3) := by decide +kernel
theorem dX2_readMeal_33 : decode cX2_readMeal 33 = .ok (.ifCond .lt 8, 3) := by decide +kernel
theorem dX2_readMeal_36 : decode cX2_readMeal 36 = .ok (.aload_n 0, 1) := by decide +kernel
theorem dX2_readMeal_37 : decode cX2_readMeal 37 = .ok (.iconst 3, 1) := by decide +kernel
theorem dX2_readMeal_38 : decode cX2_readMeal 38 = .ok (.invokevirtual 62, 3) := by decide +kernel
theorem dX2_readMeal_41 : decode cX2_readMeal 41 = .ok (.aload_n 0, 1) := by decide +kernel
theorem dX2_readMeal_42 : decode cX2_readMeal 42 = .ok (.iconst 0, 1) := by decide +kernel
theorem dX2_readMeal_43 : decode cX2_readMeal 43 = .ok (.bipush 20, 2) := by decide +kernel
theorem dX2_readMeal_45 : decode cX2_readMeal 45 = .ok (.invokevirtual 125, 3) := by decide +kernel
theorem dX2_readMeal_48 : decode cX2_readMeal 48 = .ok (.istore_n 3, 1) := by decide +kernel
theorem dX2_readMeal_49 : decode cX2_readMeal 49 = .ok (.aload_n 0, 1) := by decide +kernel
theorem dX2_readMeal_50 : decode cX2_readMeal 50 = .ok (.iconst 0, 1) := by decide +kernel
theorem dX2_readMeal_51 : decode cX2_readMeal 51 = .ok (.bipush 20, 2) := by decide +kernel
theorem dX2_readMeal_53 : decode cX2_readMeal 53 = .ok (.invokevirtual 125, 3) := by decide +kernel
theorem dX2_readMeal_56 : decode cX2_readMeal 56 = .ok (.istore 4, 2) := by decide +kernel
theorem dX2_readMeal_58 : decode cX2_readMeal 58 = .ok (.aload_n 0, 1) := by decide +kernel
theorem dX2_readMeal_59 : decode cX2_readMeal 59 = .ok (.getfield 44, 3) := by decide +kernel
theorem dX2_readMeal_62 : decode cX2_readMeal 62 = .ok (.ifCond .ne 65, 3) := by decide +kernel
theorem dX2_readMeal_65 : decode cX2_readMeal 65 = .ok (.aload_n 0, 1) := by decide +kernel
theorem dX2_readMeal_66 : decode cX2_readMeal 66 = .ok (.getfield 26, 3) := by decide +kernel
theorem dX2_readMeal_69 : decode cX2_readMeal 69 = .ok (.getfield 165, 3) := by decide +kernel
theorem dX2_readMeal_72 : decode cX2_readMeal 72 = .ok (.aload_n 0, 1) := by decide +kernel
theorem dX2_readMeal_73 : decode cX2_readMeal 73 = .ok (.getfield 26, 3) := by decide +kernel
theorem dX2_readMeal_76 : decode cX2_readMeal 76 = .ok (.getfield 80, 3) := by decide +kernel
theorem dX2_readMeal_79 : decode cX2_readMeal 79 = .ok (.lload_n 1, 1) := by decide +kernel
theorem dX2_readMeal_80 : decode cX2_readMeal 80 = .ok (.lastore, 1) := by decide +kernel
theorem dX2_readMeal_81 : decode cX2_readMeal 81 = .ok (.aload_n 0, 1) := by decide +kernel
theorem dX2_readMeal_82 : decode cX2_readMeal 82 = .ok (.getfield 26, 3) := by decide +kernel
theorem dX2_readMeal_85 : decode cX2_readMeal 85 = .ok (.getfield 169, 3) := by decide +kernel
theorem dX2_readMeal_88 : decode cX2_readMeal 88 = .ok (.aload_n 0, 1) := by decide +kernel
theorem dX2_readMeal_89 : decode cX2_readMeal 89 = .ok (.getfield 26, 3) := by decide +kernel
theorem dX2_readMeal_92 : decode cX2_readMeal 92 = .ok (.getfield 80, 3) := by decide +kernel
theorem dX2_readMeal_95 : decode cX2_readMeal 95 = .ok (.iload_n 3, 1) := by decide +kernel
theorem dX2_readMeal_96 : decode cX2_readMeal 96 = .ok (.iastore, 1) := by decide +kernel
theorem dX2_readMeal_97 : decode cX2_readMeal 97 = .ok (.aload_n 0, 1) := by decide +kernel
theorem dX2_readMeal_98 : decode cX2_readMeal 98 = .ok (.getfield 26, 3) := by decide +kernel
theorem dX2_readMeal_101 : decode cX2_readMeal 101 = .ok (.getfield 172, 3) := by decide +kernel
theorem dX2_readMeal_104 : decode cX2_readMeal 104 = .ok (.aload_n 0, 1) := by decide +kernel
theorem dX2_readMeal_105 : decode cX2_readMeal 105 = .ok (.getfield 26, 3) := by decide +kernel
theorem dX2_readMeal_108 : decode cX2_readMeal 108 = .ok (.getfield 80, 3) := by decide +kernel
theorem dX2_readMeal_111 : decode cX2_readMeal 111 = .ok (.iload 4, 2) := by decide +kernel
theorem dX2_readMeal_113 : decode cX2_readMeal 113 = .ok (.iastore, 1) := by decide +kernel
theorem dX2_readMeal_114 : decode cX2_readMeal 114 = .ok (.aload_n 0, 1) := by decide +kernel
theorem dX2_readMeal_115 : decode cX2_readMeal 115 = .ok (.getfield 26, 3) := by decide +kernel
theorem dX2_readMeal_118 : decode cX2_readMeal 118 = .ok (.dup, 1) := by decide +kernel
theorem dX2_readMeal_119 : decode cX2_readMeal 119 = .ok (.getfield 80, 3) := by decide +kernel
theorem dX2_readMeal_122 : decode cX2_readMeal 122 = .ok (.iconst 1, 1) := by decide +kernel
theorem dX2_readMeal_123 : decode cX2_readMeal 123 = .ok (.iadd, 1) := by decide +kernel
theorem dX2_readMeal_124 : decode cX2_readMeal 124 = .ok (.putfield 80, 3) := by decide +kernel
theorem dX2_readMeal_127 : decode cX2_readMeal 127 = .ok (.return_, 1) := by decide +kernel
theorem dX2_readKitchen_0 : decode cX2_readKitchen 0 = .ok (.aload_n 0, 1) := by decide +kernel
theorem dX2_readKitchen_1 : decode cX2_readKitchen 1 = .ok (.getfield 26, 3) := by decide +kernel
theorem dX2_readKitchen_4 : decode cX2_readKitchen 4 = .ok (.getfield 175, 3) := by decide +kernel
theorem dX2_readKitchen_7 : decode cX2_readKitchen 7 = .ok (.iconst 3, 1) := by decide +kernel
theorem dX2_readKitchen_8 : decode cX2_readKitchen 8 = .ok (.if_icmp .lt 8, 3) := by decide +kernel
theorem dX2_readKitchen_11 : decode cX2_readKitchen 11 = .ok (.aload_n 0, 1) := by decide +kernel
theorem dX2_readKitchen_12 : decode cX2_readKitchen 12 = .ok (.iconst 4, 1) := by decide +kernel
theorem dX2_readKitchen_13 : decode cX2_readKitchen 13 = .ok (.invokevirtual 62, 3) := by decide +kernel
theorem dX2_readKitchen_16 : decode cX2_readKitchen 16 = .ok (.aload_n 0, 1) := by decide +kernel
theorem dX2_readKitchen_17 : decode cX2_readKitchen 17 = .ok (.iconst 0, 1) := by decide +kernel
theorem dX2_readKitchen_18 : decode cX2_readKitchen 18 = .ok (.bipush 99, 2) := by decide +kernel
theorem dX2_readKitchen_20 : decode cX2_readKitchen 20 = .ok (.invokevirtual 125, 3) := by decide +kernel
theorem dX2_readKitchen_23 : decode cX2_readKitchen 23 = .ok (.istore_n 1, 1) := by decide +kernel
theorem dX2_readKitchen_24 : decode cX2_readKitchen 24 = .ok (.aload_n 0, 1) := by decide +kernel
theorem dX2_readKitchen_25 : decode cX2_readKitchen 25 = .ok (.getfield 44, 3) := by decide +kernel
theorem dX2_readKitchen_28 : decode cX2_readKitchen 28 = .ok (.ifCond .ne 32, 3) := by decide +kernel
theorem dX2_readKitchen_31 : decode cX2_readKitchen 31 = .ok (.aload_n 0, 1) := by decide +kernel
theorem dX2_readKitchen_32 : decode cX2_readKitchen 32 = .ok (.getfield 26, 3) := by decide +kernel
theorem dX2_readKitchen_35 : decode cX2_readKitchen 35 = .ok (.getfield 178, 3) := by decide +kernel
theorem dX2_readKitchen_38 : decode cX2_readKitchen 38 = .ok (.aload_n 0, 1) := by decide +kernel
theorem dX2_readKitchen_39 : decode cX2_readKitchen 39 = .ok (.getfield 26, 3) := by decide +kernel
theorem dX2_readKitchen_42 : decode cX2_readKitchen 42 = .ok (.getfield 175, 3) := by decide +kernel
theorem dX2_readKitchen_45 : decode cX2_readKitchen 45 = .ok (.iload_n 1, 1) := by decide +kernel
theorem dX2_readKitchen_46 : decode cX2_readKitchen 46 = .ok (.iastore, 1) := by decide +kernel
theorem dX2_readKitchen_47 : decode cX2_readKitchen 47 = .ok (.aload_n 0, 1) := by decide +kernel
theorem dX2_readKitchen_48 : decode cX2_readKitchen 48 = .ok (.getfield 26, 3) := by decide +kernel
theorem dX2_readKitchen_51 : decode cX2_readKitchen 51 = .ok (.dup, 1) := by decide +kernel
theorem dX2_readKitchen_52 : decode cX2_readKitchen 52 = .ok (.getfield 175, 3) := by decide +kernel
theorem dX2_readKitchen_55 : decode cX2_readKitchen 55 = .ok (.iconst 1, 1) := by decide +kernel
theorem dX2_readKitchen_56 : decode cX2_readKitchen 56 = .ok (.iadd, 1) := by decide +kernel
theorem dX2_readKitchen_57 : decode cX2_readKitchen 57 = .ok (.putfield 175, 3) := by decide +kernel
theorem dX2_readKitchen_60 : decode cX2_readKitchen 60 = .ok (.return_, 1) := by decide +kernel
theorem dX2_readStock_0 : decode cX2_readStock 0 = .ok (.aload_n 0, 1) := by decide +kernel
theorem dX2_readStock_1 : decode cX2_readStock 1 = .ok (.iconst 0, 1) := by decide +kernel
theorem dX2_readStock_2 : decode cX2_readStock 2 = .ok (.aload_n 0, 1) := by decide +kernel
theorem dX2_readStock_3 : decode cX2_readStock 3 = .ok (.getfield 26, 3) := by decide +kernel
theorem dX2_readStock_6 : decode cX2_readStock 6 = .ok (.getfield 175, 3) := by decide +kernel
theorem dX2_readStock_9 : decode cX2_readStock 9 = .ok (.iconst 1, 1) := by decide +kernel
theorem dX2_readStock_10 : decode cX2_readStock 10 = .ok (.isub, 1) := by decide +kernel
theorem dX2_readStock_11 : decode cX2_readStock 11 = .ok (.invokevirtual 125, 3) := by decide +kernel
theorem dX2_readStock_14 : decode cX2_readStock 14 = .ok (.istore_n 1, 1) := by decide +kernel
theorem dX2_readStock_15 : decode cX2_readStock 15 = .ok (.aload_n 0, 1) := by decide +kernel
theorem dX2_readStock_16 : decode cX2_readStock 16 = .ok (.invokevirtual 158, 3) := by decide +kernel
theorem dX2_readStock_19 : decode cX2_readStock 19 = .ok (.aload_n 0, 1) := by decide +kernel
theorem dX2_readStock_20 : decode cX2_readStock 20 = .ok (.invokevirtual 181, 3) := by decide +kernel
theorem dX2_readStock_23 : decode cX2_readStock 23 = .ok (.istore_n 2, 1) := by decide +kernel
theorem dX2_readStock_24 : decode cX2_readStock 24 = .ok (.iload_n 1, 1) := by decide +kernel
theorem dX2_readStock_25 : decode cX2_readStock 25 = .ok (.iload_n 2, 1) := by decide +kernel
theorem dX2_readStock_26 : decode cX2_readStock 26 = .ok (.invokestatic 185, 3) := by decide +kernel
theorem dX2_readStock_29 : decode cX2_readStock 29 = .ok (.istore_n 3, 1) := by decide +kernel
theorem dX2_readStock_30 : decode cX2_readStock 30 = .ok (.aload_n 0, 1) := by decide +kernel
theorem dX2_readStock_31 : decode cX2_readStock 31 = .ok (.getfield 15, 3) := by decide +kernel
theorem dX2_readStock_34 : decode cX2_readStock 34 = .ok (.iload_n 3, 1) := by decide +kernel
theorem dX2_readStock_35 : decode cX2_readStock 35 = .ok (.baload, 1) := by decide +kernel
theorem dX2_readStock_36 : decode cX2_readStock 36 = .ok (.ifCond .eq 8, 3) := by decide +kernel
theorem dX2_readStock_39 : decode cX2_readStock 39 = .ok (.aload_n 0, 1) := by decide +kernel
theorem dX2_readStock_40 : decode cX2_readStock 40 = .ok (.iconst 3, 1) := by decide +kernel
theorem dX2_readStock_41 : decode cX2_readStock 41 = .ok (.invokevirtual 62, 3) := by decide +kernel
theorem dX2_readStock_44 : decode cX2_readStock 44 = .ok (.aload_n 0, 1) := by decide +kernel
theorem dX2_readStock_45 : decode cX2_readStock 45 = .ok (.iconst 0, 1) := by decide +kernel
theorem dX2_readStock_46 : decode cX2_readStock 46 = .ok (.sipush 999, 3) := by decide +kernel
theorem dX2_readStock_49 : decode cX2_readStock 49 = .ok (.invokevirtual 125, 3) := by decide +kernel
theorem dX2_readStock_52 : decode cX2_readStock 52 = .ok (.istore 4, 2) := by decide +kernel
theorem dX2_readStock_54 : decode cX2_readStock 54 = .ok (.aload_n 0, 1) := by decide +kernel
theorem dX2_readStock_55 : decode cX2_readStock 55 = .ok (.getfield 44, 3) := by decide +kernel
theorem dX2_readStock_58 : decode cX2_readStock 58 = .ok (.ifCond .ne 21, 3) := by decide +kernel
theorem dX2_readStock_61 : decode cX2_readStock 61 = .ok (.aload_n 0, 1) := by decide +kernel
theorem dX2_readStock_62 : decode cX2_readStock 62 = .ok (.getfield 15, 3) := by decide +kernel
theorem dX2_readStock_65 : decode cX2_readStock 65 = .ok (.iload_n 3, 1) := by decide +kernel
theorem dX2_readStock_66 : decode cX2_readStock 66 = .ok (.iconst 1, 1) := by decide +kernel
theorem dX2_readStock_67 : decode cX2_readStock 67 = .ok (.bastore, 1) := by decide +kernel
theorem dX2_readStock_68 : decode cX2_readStock 68 = .ok (.aload_n 0, 1) := by decide +kernel
theorem dX2_readStock_69 : decode cX2_readStock 69 = .ok (.getfield 33, 3) := by decide +kernel
theorem dX2_readStock_72 : decode cX2_readStock 72 = .ok (.getfield 188, 3) := by decide +kernel
theorem dX2_readStock_75 : decode cX2_readStock 75 = .ok (.iload_n 3, 1) := by decide +kernel
theorem dX2_readStock_76 : decode cX2_readStock 76 = .ok (.iload 4, 2) := by decide +kernel
theorem dX2_readStock_78 : decode cX2_readStock 78 = .ok (.iastore, 1) := by decide +kernel
theorem dX2_readStock_79 : decode cX2_readStock 79 = .ok (.return_, 1) := by decide +kernel
theorem dX2_readTrolley_0 : decode cX2_readTrolley 0 = .ok (.aload_n 0, 1) := by decide +kernel
theorem dX2_readTrolley_1 : decode cX2_readTrolley 1 = .ok (.getfield 26, 3) := by decide +kernel
theorem dX2_readTrolley_4 : decode cX2_readTrolley 4 = .ok (.getfield 83, 3) := by decide +kernel
theorem dX2_readTrolley_7 : decode cX2_readTrolley 7 = .ok (.iconst 5, 1) := by decide +kernel
theorem dX2_readTrolley_8 : decode cX2_readTrolley 8 = .ok (.if_icmp .lt 8, 3) := by decide +kernel
theorem dX2_readTrolley_11 : decode cX2_readTrolley 11 = .ok (.aload_n 0, 1) := by decide +kernel
theorem dX2_readTrolley_12 : decode cX2_readTrolley 12 = .ok (.iconst 4, 1) := by decide +kernel
theorem dX2_readTrolley_13 : decode cX2_readTrolley 13 = .ok (.invokevirtual 62, 3) := by decide +kernel
theorem dX2_readTrolley_16 : decode cX2_readTrolley 16 = .ok (.aload_n 0, 1) := by decide +kernel
theorem dX2_readTrolley_17 : decode cX2_readTrolley 17 = .ok (.iconst 0, 1) := by decide +kernel
theorem dX2_readTrolley_18 : decode cX2_readTrolley 18 = .ok (.aload_n 0, 1) := by decide +kernel
theorem dX2_readTrolley_19 : decode cX2_readTrolley 19 = .ok (.getfield 26, 3) := by decide +kernel
theorem dX2_readTrolley_22 : decode cX2_readTrolley 22 = .ok (.getfield 175, 3) := by decide +kernel
theorem dX2_readTrolley_25 : decode cX2_readTrolley 25 = .ok (.iconst 1, 1) := by decide +kernel
theorem dX2_readTrolley_26 : decode cX2_readTrolley 26 = .ok (.isub, 1) := by decide +kernel
theorem dX2_readTrolley_27 : decode cX2_readTrolley 27 = .ok (.invokevirtual 125, 3) := by decide +kernel
theorem dX2_readTrolley_30 : decode cX2_readTrolley 30 = .ok (.istore_n 1, 1) := by decide +kernel
theorem dX2_readTrolley_31 : decode cX2_readTrolley 31 = .ok (.aload_n 0, 1) := by decide +kernel
theorem dX2_readTrolley_32 : decode cX2_readTrolley 32 = .ok (.iconst 1, 1) := by decide +kernel
theorem dX2_readTrolley_33 : decode cX2_readTrolley 33 = .ok (.bipush 99, 2) := by decide +kernel
theorem dX2_readTrolley_35 : decode cX2_readTrolley 35 = .ok (.invokevirtual 125, 3) := by decide +kernel
theorem dX2_readTrolley_38 : decode cX2_readTrolley 38 = .ok (.istore_n 2, 1) := by decide +kernel
theorem dX2_readTrolley_39 : decode cX2_readTrolley 39 = .ok (.aload_n 0, 1) := by decide +kernel
theorem dX2_readTrolley_40 : decode cX2_readTrolley 40 = .ok (.iconst 1, 1) := by decide +kernel
theorem dX2_readTrolley_41 : decode cX2_readTrolley 41 = .ok (.bipush 9, 2) := by decide +kernel
theorem dX2_readTrolley_43 : decode cX2_readTrolley 43 = .ok (.invokevirtual 125, 3) := by decide +kernel
theorem dX2_readTrolley_46 : decode cX2_readTrolley 46 = .ok (.istore_n 3, 1) := by decide +kernel
theorem dX2_readTrolley_47 : decode cX2_readTrolley 47 = .ok (.aload_n 0, 1) := by decide +kernel
theorem dX2_readTrolley_48 : decode cX2_readTrolley 48 = .ok (.iconst 1, 1) := by decide +kernel
theorem dX2_readTrolley_49 : decode cX2_readTrolley 49 = .ok (.iconst 5, 1) := by decide +kernel
theorem dX2_readTrolley_50 : decode cX2_readTrolley 50 = .ok (.invokevirtual 125, 3) := by decide +kernel
theorem dX2_readTrolley_53 : decode cX2_readTrolley 53 = .ok (.istore 4, 2) := by decide +kernel
theorem dX2_readTrolley_55 : decode cX2_readTrolley 55 = .ok (.aload_n 0, 1) := by decide +kernel
theorem dX2_readTrolley_56 : decode cX2_readTrolley 56 = .ok (.iconst 1, 1) := by decide +kernel
theorem dX2_readTrolley_57 : decode cX2_readTrolley 57 = .ok (.iconst 5, 1) := by decide +kernel
theorem dX2_readTrolley_58 : decode cX2_readTrolley 58 = .ok (.invokevirtual 125, 3) := by decide +kernel
theorem dX2_readTrolley_61 : decode cX2_readTrolley 61 = .ok (.istore 5, 2) := by decide +kernel
theorem dX2_readTrolley_63 : decode cX2_readTrolley 63 = .ok (.aload_n 0, 1) := by decide +kernel
theorem dX2_readTrolley_64 : decode cX2_readTrolley 64 = .ok (.getfield 44, 3) := by decide +kernel
theorem dX2_readTrolley_67 : decode cX2_readTrolley 67 = .ok (.ifCond .ne 98, 3) := by decide +kernel
theorem dX2_readTrolley_70 : decode cX2_readTrolley 70 = .ok (.aload_n 0, 1) := by decide +kernel
theorem dX2_readTrolley_71 : decode cX2_readTrolley 71 = .ok (.getfield 26, 3) := by decide +kernel
theorem dX2_readTrolley_74 : decode cX2_readTrolley 74 = .ok (.getfield 191, 3) := by decide +kernel
theorem dX2_readTrolley_77 : decode cX2_readTrolley 77 = .ok (.aload_n 0, 1) := by decide +kernel
theorem dX2_readTrolley_78 : decode cX2_readTrolley 78 = .ok (.getfield 26, 3) := by decide +kernel
theorem dX2_readTrolley_81 : decode cX2_readTrolley 81 = .ok (.getfield 83, 3) := by decide +kernel
theorem dX2_readTrolley_84 : decode cX2_readTrolley 84 = .ok (.iload_n 1, 1) := by decide +kernel
theorem dX2_readTrolley_85 : decode cX2_readTrolley 85 = .ok (.iastore, 1) := by decide +kernel
theorem dX2_readTrolley_86 : decode cX2_readTrolley 86 = .ok (.aload_n 0, 1) := by decide +kernel
theorem dX2_readTrolley_87 : decode cX2_readTrolley 87 = .ok (.getfield 26, 3) := by decide +kernel
theorem dX2_readTrolley_90 : decode cX2_readTrolley 90 = .ok (.getfield 194, 3) := by decide +kernel
theorem dX2_readTrolley_93 : decode cX2_readTrolley 93 = .ok (.aload_n 0, 1) := by decide +kernel
theorem dX2_readTrolley_94 : decode cX2_readTrolley 94 = .ok (.getfield 26, 3) := by decide +kernel
theorem dX2_readTrolley_97 : decode cX2_readTrolley 97 = .ok (.getfield 83, 3) := by decide +kernel
theorem dX2_readTrolley_100 : decode cX2_readTrolley 100 = .ok (.iload_n 2, 1) := by decide +kernel
theorem dX2_readTrolley_101 : decode cX2_readTrolley 101 = .ok (.iastore, 1) := by decide +kernel
theorem dX2_readTrolley_102 : decode cX2_readTrolley 102 = .ok (.aload_n 0, 1) := by decide +kernel
theorem dX2_readTrolley_103 : decode cX2_readTrolley 103 = .ok (.getfield 26, 3) := by decide +kernel
theorem dX2_readTrolley_106 : decode cX2_readTrolley 106 = .ok (.getfield 197, 3) := by decide +kernel
theorem dX2_readTrolley_109 : decode cX2_readTrolley 109 = .ok (.aload_n 0, 1) := by decide +kernel
theorem dX2_readTrolley_110 : decode cX2_readTrolley 110 = .ok (.getfield 26, 3) := by decide +kernel
theorem dX2_readTrolley_113 : decode cX2_readTrolley 113 = .ok (.getfield 83, 3) := by decide +kernel
theorem dX2_readTrolley_116 : decode cX2_readTrolley 116 = .ok (.iload_n 3, 1) := by decide +kernel
theorem dX2_readTrolley_117 : decode cX2_readTrolley 117 = .ok (.iastore, 1) := by decide +kernel
theorem dX2_readTrolley_118 : decode cX2_readTrolley 118 = .ok (.aload_n 0, 1) := by decide +kernel
theorem dX2_readTrolley_119 : decode cX2_readTrolley 119 = .ok (.getfield 26, 3) := by decide +kernel
theorem dX2_readTrolley_122 : decode cX2_readTrolley 122 = .ok (.getfield 200, 3) := by decide +kernel
theorem dX2_readTrolley_125 : decode cX2_readTrolley 125 = .ok (.aload_n 0, 1) := by decide +kernel
theorem dX2_readTrolley_126 : decode cX2_readTrolley 126 = .ok (.getfield 26, 3) := by decide +kernel
theorem dX2_readTrolley_129 : decode cX2_readTrolley 129 = .ok (.getfield 83, 3) := by decide +kernel
theorem dX2_readTrolley_132 : decode cX2_readTrolley 132 = .ok (.iload 4, 2) := by decide +kernel
theorem dX2_readTrolley_134 : decode cX2_readTrolley 134 = .ok (.iastore, 1) := by decide +kernel
theorem dX2_readTrolley_135 : decode cX2_readTrolley 135 = .ok (.aload_n 0, 1) := by decide +kernel
theorem dX2_readTrolley_136 : decode cX2_readTrolley 136 = .ok (.getfield 26, 3) := by decide +kernel
theorem dX2_readTrolley_139 : decode cX2_readTrolley 139 = .ok (.getfield 203, 3) := by decide +kernel
theorem dX2_readTrolley_142 : decode cX2_readTrolley 142 = .ok (.aload_n 0, 1) := by decide +kernel
theorem dX2_readTrolley_143 : decode cX2_readTrolley 143 = .ok (.getfield 26, 3) := by decide +kernel
theorem dX2_readTrolley_146 : decode cX2_readTrolley 146 = .ok (.getfield 83, 3) := by decide +kernel
theorem dX2_readTrolley_149 : decode cX2_readTrolley 149 = .ok (.iload 5, 2) := by decide +kernel
theorem dX2_readTrolley_151 : decode cX2_readTrolley 151 = .ok (.iastore, 1) := by decide +kernel
theorem dX2_readTrolley_152 : decode cX2_readTrolley 152 = .ok (.aload_n 0, 1) := by decide +kernel
theorem dX2_readTrolley_153 : decode cX2_readTrolley 153 = .ok (.getfield 26, 3) := by decide +kernel
theorem dX2_readTrolley_156 : decode cX2_readTrolley 156 = .ok (.dup, 1) := by decide +kernel
theorem dX2_readTrolley_157 : decode cX2_readTrolley 157 = .ok (.getfield 83, 3) := by decide +kernel
theorem dX2_readTrolley_160 : decode cX2_readTrolley 160 = .ok (.iconst 1, 1) := by decide +kernel
theorem dX2_readTrolley_161 : decode cX2_readTrolley 161 = .ok (.iadd, 1) := by decide +kernel
theorem dX2_readTrolley_162 : decode cX2_readTrolley 162 = .ok (.putfield 83, 3) := by decide +kernel
theorem dX2_readTrolley_165 : decode cX2_readTrolley 165 = .ok (.return_, 1) := by decide +kernel
theorem dX2_readJob_0 : decode cX2_readJob 0 = .ok (.aload_n 0, 1) := by decide +kernel
theorem dX2_readJob_1 : decode cX2_readJob 1 = .ok (.getfield 33, 3) := by decide +kernel
theorem dX2_readJob_4 : decode cX2_readJob 4 = .ok (.getfield 206, 3) := by decide +kernel
theorem dX2_readJob_7 : decode cX2_readJob 7 = .ok (.bipush 20, 2) := by decide +kernel
theorem dX2_readJob_9 : decode cX2_readJob 9 = .ok (.if_icmp .lt 8, 3) := by decide +kernel
theorem dX2_readJob_12 : decode cX2_readJob 12 = .ok (.aload_n 0, 1) := by decide +kernel
theorem dX2_readJob_13 : decode cX2_readJob 13 = .ok (.iconst 4, 1) := by decide +kernel
theorem dX2_readJob_14 : decode cX2_readJob 14 = .ok (.invokevirtual 62, 3) := by decide +kernel
theorem dX2_readJob_17 : decode cX2_readJob 17 = .ok (.aload_n 0, 1) := by decide +kernel
theorem dX2_readJob_18 : decode cX2_readJob 18 = .ok (.iconst 0, 1) := by decide +kernel
theorem dX2_readJob_19 : decode cX2_readJob 19 = .ok (.aload_n 0, 1) := by decide +kernel
theorem dX2_readJob_20 : decode cX2_readJob 20 = .ok (.getfield 26, 3) := by decide +kernel
theorem dX2_readJob_23 : decode cX2_readJob 23 = .ok (.getfield 83, 3) := by decide +kernel
theorem dX2_readJob_26 : decode cX2_readJob 26 = .ok (.iconst 1, 1) := by decide +kernel
theorem dX2_readJob_27 : decode cX2_readJob 27 = .ok (.isub, 1) := by decide +kernel
theorem dX2_readJob_28 : decode cX2_readJob 28 = .ok (.invokevirtual 125, 3) := by decide +kernel
theorem dX2_readJob_31 : decode cX2_readJob 31 = .ok (.istore_n 1, 1) := by decide +kernel
theorem dX2_readJob_32 : decode cX2_readJob 32 = .ok (.aload_n 0, 1) := by decide +kernel
theorem dX2_readJob_33 : decode cX2_readJob 33 = .ok (.getfield 33, 3) := by decide +kernel
theorem dX2_readJob_36 : decode cX2_readJob 36 = .ok (.iload_n 1, 1) := by decide +kernel
theorem dX2_readJob_37 : decode cX2_readJob 37 = .ok (.invokevirtual 209, 3) := by decide +kernel
theorem dX2_readJob_40 : decode cX2_readJob 40 = .ok (.bipush 8, 2) := by decide +kernel
theorem dX2_readJob_42 : decode cX2_readJob 42 = .ok (.if_icmp .lt 8, 3) := by decide +kernel
theorem dX2_readJob_45 : decode cX2_readJob 45 = .ok (.aload_n 0, 1) := by decide +kernel
theorem dX2_readJob_46 : decode cX2_readJob 46 = .ok (.iconst 4, 1) := by decide +kernel
theorem dX2_readJob_47 : decode cX2_readJob 47 = .ok (.invokevirtual 62, 3) := by decide +kernel
theorem dX2_readJob_50 : decode cX2_readJob 50 = .ok (.aload_n 0, 1) := by decide +kernel
theorem dX2_readJob_51 : decode cX2_readJob 51 = .ok (.iconst 0, 1) := by decide +kernel
theorem dX2_readJob_52 : decode cX2_readJob 52 = .ok (.iconst 1, 1) := by decide +kernel
theorem dX2_readJob_53 : decode cX2_readJob 53 = .ok (.invokevirtual 125, 3) := by decide +kernel
theorem dX2_readJob_56 : decode cX2_readJob 56 = .ok (.istore_n 2, 1) := by decide +kernel
theorem dX2_readJob_57 : decode cX2_readJob 57 = .ok (.aload_n 0, 1) := by decide +kernel
theorem dX2_readJob_58 : decode cX2_readJob 58 = .ok (.iload_n 2, 1) := by decide +kernel
theorem dX2_readJob_59 : decode cX2_readJob 59 = .ok (.invokevirtual 143, 3) := by decide +kernel
theorem dX2_readJob_62 : decode cX2_readJob 62 = .ok (.aload_n 0, 1) := by decide +kernel
theorem dX2_readJob_63 : decode cX2_readJob 63 = .ok (.iconst 0, 1) := by decide +kernel
theorem dX2_readJob_64 : decode cX2_readJob 64 = .ok (.aload_n 0, 1) := by decide +kernel
theorem dX2_readJob_65 : decode cX2_readJob 65 = .ok (.getfield 26, 3) := by decide +kernel
theorem dX2_readJob_68 : decode cX2_readJob 68 = .ok (.getfield 76, 3) := by decide +kernel
theorem dX2_readJob_71 : decode cX2_readJob 71 = .ok (.iload_n 2, 1) := by decide +kernel
theorem dX2_readJob_72 : decode cX2_readJob 72 = .ok (.iaload, 1) := by decide +kernel
theorem dX2_readJob_73 : decode cX2_readJob 73 = .ok (.iconst 1, 1) := by decide +kernel
theorem dX2_readJob_74 : decode cX2_readJob 74 = .ok (.isub, 1) := by decide +kernel
theorem dX2_readJob_75 : decode cX2_readJob 75 = .ok (.invokevirtual 125, 3) := by decide +kernel
theorem dX2_readJob_78 : decode cX2_readJob 78 = .ok (.istore_n 3, 1) := by decide +kernel
theorem dX2_readJob_79 : decode cX2_readJob 79 = .ok (.aload_n 0, 1) := by decide +kernel
theorem dX2_readJob_80 : decode cX2_readJob 80 = .ok (.invokevirtual 158, 3) := by decide +kernel
theorem dX2_readJob_83 : decode cX2_readJob 83 = .ok (.aload_n 0, 1) := by decide +kernel
theorem dX2_readJob_84 : decode cX2_readJob 84 = .ok (.invokevirtual 181, 3) := by decide +kernel
theorem dX2_readJob_87 : decode cX2_readJob 87 = .ok (.istore 4, 2) := by decide +kernel
theorem dX2_readJob_89 : decode cX2_readJob 89 = .ok (.aload_n 0, 1) := by decide +kernel
theorem dX2_readJob_90 : decode cX2_readJob 90 = .ok (.iconst 1, 1) := by decide +kernel
theorem dX2_readJob_91 : decode cX2_readJob 91 = .ok (.bipush 99, 2) := by decide +kernel
theorem dX2_readJob_93 : decode cX2_readJob 93 = .ok (.invokevirtual 125, 3) := by decide +kernel
theorem dX2_readJob_96 : decode cX2_readJob 96 = .ok (.istore 5, 2) := by decide +kernel
theorem dX2_readJob_98 : decode cX2_readJob 98 = .ok (.aload_n 0, 1) := by decide +kernel
theorem dX2_readJob_99 : decode cX2_readJob 99 = .ok (.getfield 44, 3) := by decide +kernel
theorem dX2_readJob_102 : decode cX2_readJob 102 = .ok (.ifCond .ne 20, 3) := by decide +kernel
theorem dX2_readJob_105 : decode cX2_readJob 105 = .ok (.aload_n 0, 1) := by decide +kernel
theorem dX2_readJob_106 : decode cX2_readJob 106 = .ok (.getfield 33, 3) := by decide +kernel
theorem dX2_readJob_109 : decode cX2_readJob 109 = .ok (.iload_n 1, 1) := by decide +kernel
theorem dX2_readJob_110 : decode cX2_readJob 110 = .ok (.iload_n 2, 1) := by decide +kernel
theorem dX2_readJob_111 : decode cX2_readJob 111 = .ok (.iload_n 3, 1) := by decide +kernel
theorem dX2_readJob_112 : decode cX2_readJob 112 = .ok (.invokestatic 146, 3) := by decide +kernel
theorem dX2_readJob_115 : decode cX2_readJob 115 = .ok (.iload 4, 2) := by decide +kernel
theorem dX2_readJob_117 : decode cX2_readJob 117 = .ok (.iload 5, 2) := by decide +kernel
theorem dX2_readJob_119 : decode cX2_readJob 119 = .ok (.invokevirtual 213, 3) := by decide +kernel
theorem dX2_readJob_122 : decode cX2_readJob 122 = .ok (.return_, 1) := by decide +kernel
theorem dX2_takeNumber_0 : decode cX2_takeNumber 0 = .ok (.aload_n 0, 1) := by decide +kernel
theorem dX2_takeNumber_1 : decode cX2_takeNumber 1 = .ok (.invokevirtual 56, 3) := by decide +kernel
theorem dX2_takeNumber_4 : decode cX2_takeNumber 4 = .ok (.aload_n 0, 1) := by decide +kernel
theorem dX2_takeNumber_5 : decode cX2_takeNumber 5 = .ok (.getfield 59, 3) := by decide +kernel
theorem dX2_takeNumber_8 : decode cX2_takeNumber 8 = .ok (.iconst 2, 1) := by decide +kernel
theorem dX2_takeNumber_9 : decode cX2_takeNumber 9 = .ok (.if_icmp .eq 11, 3) := by decide +kernel
theorem dX2_takeNumber_12 : decode cX2_takeNumber 12 = .ok (.aload_n 0, 1) := by decide +kernel
theorem dX2_takeNumber_13 : decode cX2_takeNumber 13 = .ok (.iconst 1, 1) := by decide +kernel
theorem dX2_takeNumber_14 : decode cX2_takeNumber 14 = .ok (.invokevirtual 62, 3) := by decide +kernel
theorem dX2_takeNumber_17 : decode cX2_takeNumber 17 = .ok (.goto 24, 3) := by decide +kernel
theorem dX2_takeNumber_20 : decode cX2_takeNumber 20 = .ok (.aload_n 0, 1) := by decide +kernel
theorem dX2_takeNumber_21 : decode cX2_takeNumber 21 = .ok (.getfield 217, 3) := by decide +kernel
theorem dX2_takeNumber_24 : decode cX2_takeNumber 24 = .ok (.iload_n 1, 1) := by decide +kernel
theorem dX2_takeNumber_25 : decode cX2_takeNumber 25 = .ok (.if_icmp .lt 11, 3) := by decide +kernel
theorem dX2_takeNumber_28 : decode cX2_takeNumber 28 = .ok (.aload_n 0, 1) := by decide +kernel
theorem dX2_takeNumber_29 : decode cX2_takeNumber 29 = .ok (.getfield 217, 3) := by decide +kernel
theorem dX2_takeNumber_32 : decode cX2_takeNumber 32 = .ok (.iload_n 2, 1) := by decide +kernel
theorem dX2_takeNumber_33 : decode cX2_takeNumber 33 = .ok (.if_icmp .le 8, 3) := by decide +kernel
theorem dX2_takeNumber_36 : decode cX2_takeNumber 36 = .ok (.aload_n 0, 1) := by decide +kernel
theorem dX2_takeNumber_37 : decode cX2_takeNumber 37 = .ok (.iconst 2, 1) := by decide +kernel
theorem dX2_takeNumber_38 : decode cX2_takeNumber 38 = .ok (.invokevirtual 62, 3) := by decide +kernel
theorem dX2_takeNumber_41 : decode cX2_takeNumber 41 = .ok (.aload_n 0, 1) := by decide +kernel
theorem dX2_takeNumber_42 : decode cX2_takeNumber 42 = .ok (.getfield 44, 3) := by decide +kernel
theorem dX2_takeNumber_45 : decode cX2_takeNumber 45 = .ok (.ifCond .ne 10, 3) := by decide +kernel
theorem dX2_takeNumber_48 : decode cX2_takeNumber 48 = .ok (.aload_n 0, 1) := by decide +kernel
theorem dX2_takeNumber_49 : decode cX2_takeNumber 49 = .ok (.getfield 217, 3) := by decide +kernel
theorem dX2_takeNumber_52 : decode cX2_takeNumber 52 = .ok (.goto 4, 3) := by decide +kernel
theorem dX2_takeNumber_55 : decode cX2_takeNumber 55 = .ok (.iload_n 1, 1) := by decide +kernel
theorem dX2_takeNumber_56 : decode cX2_takeNumber 56 = .ok (.ireturn, 1) := by decide +kernel
theorem dX2_refuseUnknownTrain_0 : decode cX2_refuseUnknownTrain 0 = .ok (.aload_n 0, 1) := by decide +kernel
theorem dX2_refuseUnknownTrain_1 : decode cX2_refuseUnknownTrain 1 = .ok (.getfield 26, 3) := by decide +kernel
theorem dX2_refuseUnknownTrain_4 : decode cX2_refuseUnknownTrain 4 = .ok (.getfield 73, 3) := by decide +kernel
theorem dX2_refuseUnknownTrain_7 : decode cX2_refuseUnknownTrain 7 = .ok (.iload_n 1, 1) := by decide +kernel
theorem dX2_refuseUnknownTrain_8 : decode cX2_refuseUnknownTrain 8 = .ok (.baload, 1) := by decide +kernel
theorem dX2_refuseUnknownTrain_9 : decode cX2_refuseUnknownTrain 9 = .ok (.ifCond .ne 8, 3) := by decide +kernel
theorem dX2_refuseUnknownTrain_12 : decode cX2_refuseUnknownTrain 12 = .ok (.aload_n 0, 1) := by decide +kernel
theorem dX2_refuseUnknownTrain_13 : decode cX2_refuseUnknownTrain 13 = .ok (.iconst 2, 1) := by decide +kernel
theorem dX2_refuseUnknownTrain_14 : decode cX2_refuseUnknownTrain 14 = .ok (.invokevirtual 62, 3) := by decide +kernel
theorem dX2_refuseUnknownTrain_17 : decode cX2_refuseUnknownTrain 17 = .ok (.return_, 1) := by decide +kernel
theorem dX2_takeKeyword_0 : decode cX2_takeKeyword 0 = .ok (.aload_n 0, 1) := by decide +kernel
theorem dX2_takeKeyword_1 : decode cX2_takeKeyword 1 = .ok (.invokevirtual 56, 3) := by decide +kernel
theorem dX2_takeKeyword_4 : decode cX2_takeKeyword 4 = .ok (.aload_n 0, 1) := by decide +kernel
theorem dX2_takeKeyword_5 : decode cX2_takeKeyword 5 = .ok (.getfield 59, 3) := by decide +kernel
theorem dX2_takeKeyword_8 : decode cX2_takeKeyword 8 = .ok (.iconst 1, 1) := by decide +kernel
theorem dX2_takeKeyword_9 : decode cX2_takeKeyword 9 = .ok (.if_icmp .ne 12, 3) := by decide +kernel
theorem dX2_takeKeyword_12 : decode cX2_takeKeyword 12 = .ok (.aload_n 0, 1) := by decide +kernel
theorem dX2_takeKeyword_13 : decode cX2_takeKeyword 13 = .ok (.getfield 86, 3) := by decide +kernel
theorem dX2_takeKeyword_16 : decode cX2_takeKeyword 16 = .ok (.lload_n 1, 1) := by decide +kernel
theorem dX2_takeKeyword_17 : decode cX2_takeKeyword 17 = .ok (.lcmp, 1) := by decide +kernel
theorem dX2_takeKeyword_18 : decode cX2_takeKeyword 18 = .ok (.ifCond .eq 8, 3) := by decide +kernel
theorem dX2_takeKeyword_21 : decode cX2_takeKeyword 21 = .ok (.aload_n 0, 1) := by decide +kernel
theorem dX2_takeKeyword_22 : decode cX2_takeKeyword 22 = .ok (.iconst 1, 1) := by decide +kernel
theorem dX2_takeKeyword_23 : decode cX2_takeKeyword 23 = .ok (.invokevirtual 62, 3) := by decide +kernel
theorem dX2_takeKeyword_26 : decode cX2_takeKeyword 26 = .ok (.return_, 1) := by decide +kernel
theorem dX2_takeName_0 : decode cX2_takeName 0 = .ok (.aload_n 0, 1) := by decide +kernel
theorem dX2_takeName_1 : decode cX2_takeName 1 = .ok (.invokevirtual 56, 3) := by decide +kernel
theorem dX2_takeName_4 : decode cX2_takeName 4 = .ok (.aload_n 0, 1) := by decide +kernel
theorem dX2_takeName_5 : decode cX2_takeName 5 = .ok (.getfield 59, 3) := by decide +kernel
theorem dX2_takeName_8 : decode cX2_takeName 8 = .ok (.iconst 1, 1) := by decide +kernel
theorem dX2_takeName_9 : decode cX2_takeName 9 = .ok (.if_icmp .ne 10, 3) := by decide +kernel
theorem dX2_takeName_12 : decode cX2_takeName 12 = .ok (.aload_n 0, 1) := by decide +kernel
theorem dX2_takeName_13 : decode cX2_takeName 13 = .ok (.invokevirtual 220, 3) := by decide +kernel
theorem dX2_takeName_16 : decode cX2_takeName 16 = .ok (.ifCond .eq 8, 3) := by decide +kernel
theorem dX2_takeName_19 : decode cX2_takeName 19 = .ok (.aload_n 0, 1) := by decide +kernel
theorem dX2_takeName_20 : decode cX2_takeName 20 = .ok (.iconst 1, 1) := by decide +kernel
theorem dX2_takeName_21 : decode cX2_takeName 21 = .ok (.invokevirtual 62, 3) := by decide +kernel
theorem dX2_takeName_24 : decode cX2_takeName 24 = .ok (.return_, 1) := by decide +kernel
theorem dX2_namedMeal_0 : decode cX2_namedMeal 0 = .ok (.aload_n 0, 1) := by decide +kernel
theorem dX2_namedMeal_1 : decode cX2_namedMeal 1 = .ok (.getfield 26, 3) := by decide +kernel
theorem dX2_namedMeal_4 : decode cX2_namedMeal 4 = .ok (.aload_n 0, 1) := by decide +kernel
theorem dX2_namedMeal_5 : decode cX2_namedMeal 5 = .ok (.getfield 86, 3) := by decide +kernel
theorem dX2_namedMeal_8 : decode cX2_namedMeal 8 = .ok (.invokevirtual 161, 3) := by decide +kernel
theorem dX2_namedMeal_11 : decode cX2_namedMeal 11 = .ok (.istore_n 1, 1) := by decide +kernel
theorem dX2_namedMeal_12 : decode cX2_namedMeal 12 = .ok (.iload_n 1, 1) := by decide +kernel
theorem dX2_namedMeal_13 : decode cX2_namedMeal 13 = .ok (.ifCond .ge 8, 3) := by decide +kernel
theorem dX2_namedMeal_16 : decode cX2_namedMeal 16 = .ok (.aload_n 0, 1) := by decide +kernel
theorem dX2_namedMeal_17 : decode cX2_namedMeal 17 = .ok (.iconst 2, 1) := by decide +kernel
theorem dX2_namedMeal_18 : decode cX2_namedMeal 18 = .ok (.invokevirtual 62, 3) := by decide +kernel
theorem dX2_namedMeal_21 : decode cX2_namedMeal 21 = .ok (.iconst 0, 1) := by decide +kernel
theorem dX2_namedMeal_22 : decode cX2_namedMeal 22 = .ok (.iload_n 1, 1) := by decide +kernel
theorem dX2_namedMeal_23 : decode cX2_namedMeal 23 = .ok (.invokestatic 223, 3) := by decide +kernel
theorem dX2_namedMeal_26 : decode cX2_namedMeal 26 = .ok (.ireturn, 1) := by decide +kernel
theorem dX2_isKeyword_0 : decode cX2_isKeyword 0 = .ok (.aload_n 0, 1) := by decide +kernel
theorem dX2_isKeyword_1 : decode cX2_isKeyword 1 = .ok (.getfield 86, 3) := by decide +kernel
theorem dX2_isKeyword_4 : decode cX2_isKeyword 4 = .ok (.ldc2_w 90, 3) := by decide +kernel
theorem dX2_isKeyword_7 : decode cX2_isKeyword 7 = .ok (.lcmp, 1) := by decide +kernel
theorem dX2_isKeyword_8 : decode cX2_isKeyword 8 = .ok (.ifCond .eq 91, 3) := by decide +kernel
theorem dX2_isKeyword_11 : decode cX2_isKeyword 11 = .ok (.aload_n 0, 1) := by decide +kernel
theorem dX2_isKeyword_12 : decode cX2_isKeyword 12 = .ok (.getfield 86, 3) := by decide +kernel
theorem dX2_isKeyword_15 : decode cX2_isKeyword 15 = .ok (.ldc2_w 95, 3) := by decide +kernel
theorem dX2_isKeyword_18 : decode cX2_isKeyword 18 = .ok (.lcmp, 1) := by decide +kernel
theorem dX2_isKeyword_19 : decode cX2_isKeyword 19 = .ok (.ifCond .eq 80, 3) := by decide +kernel
theorem dX2_isKeyword_22 : decode cX2_isKeyword 22 = .ok (.aload_n 0, 1) := by decide +kernel
theorem dX2_isKeyword_23 : decode cX2_isKeyword 23 = .ok (.getfield 86, 3) := by decide +kernel
theorem dX2_isKeyword_26 : decode cX2_isKeyword 26 = .ok (.ldc2_w 100, 3) := by decide +kernel
theorem dX2_isKeyword_29 : decode cX2_isKeyword 29 = .ok (.lcmp, 1) := by decide +kernel
theorem dX2_isKeyword_30 : decode cX2_isKeyword 30 = .ok (.ifCond .eq 69, 3) := by decide +kernel
theorem dX2_isKeyword_33 : decode cX2_isKeyword 33 = .ok (.aload_n 0, 1) := by decide +kernel
theorem dX2_isKeyword_34 : decode cX2_isKeyword 34 = .ok (.getfield 86, 3) := by decide +kernel
theorem dX2_isKeyword_37 : decode cX2_isKeyword 37 = .ok (.ldc2_w 105, 3) := by decide +kernel
theorem dX2_isKeyword_40 : decode cX2_isKeyword 40 = .ok (.lcmp, 1) := by decide +kernel
theorem dX2_isKeyword_41 : decode cX2_isKeyword 41 = .ok (.ifCond .eq 58, 3) := by decide +kernel
theorem dX2_isKeyword_44 : decode cX2_isKeyword 44 = .ok (.aload_n 0, 1) := by decide +kernel
theorem dX2_isKeyword_45 : decode cX2_isKeyword 45 = .ok (.getfield 86, 3) := by decide +kernel
theorem dX2_isKeyword_48 : decode cX2_isKeyword 48 = .ok (.ldc2_w 110, 3) := by decide +kernel
theorem dX2_isKeyword_51 : decode cX2_isKeyword 51 = .ok (.lcmp, 1) := by decide +kernel
theorem dX2_isKeyword_52 : decode cX2_isKeyword 52 = .ok (.ifCond .eq 47, 3) := by decide +kernel
theorem dX2_isKeyword_55 : decode cX2_isKeyword 55 = .ok (.aload_n 0, 1) := by decide +kernel
theorem dX2_isKeyword_56 : decode cX2_isKeyword 56 = .ok (.getfield 86, 3) := by decide +kernel
theorem dX2_isKeyword_59 : decode cX2_isKeyword 59 = .ok (.ldc2_w 115, 3) := by decide +kernel
theorem dX2_isKeyword_62 : decode cX2_isKeyword 62 = .ok (.lcmp, 1) := by decide +kernel
theorem dX2_isKeyword_63 : decode cX2_isKeyword 63 = .ok (.ifCond .eq 36, 3) := by decide +kernel
theorem dX2_isKeyword_66 : decode cX2_isKeyword 66 = .ok (.aload_n 0, 1) := by decide +kernel
theorem dX2_isKeyword_67 : decode cX2_isKeyword 67 = .ok (.getfield 86, 3) := by decide +kernel
theorem dX2_isKeyword_70 : decode cX2_isKeyword 70 = .ok (.ldc2_w 120, 3) := by decide +kernel
theorem dX2_isKeyword_73 : decode cX2_isKeyword 73 = .ok (.lcmp, 1) := by decide +kernel
theorem dX2_isKeyword_74 : decode cX2_isKeyword 74 = .ok (.ifCond .eq 25, 3) := by decide +kernel
theorem dX2_isKeyword_77 : decode cX2_isKeyword 77 = .ok (.aload_n 0, 1) := by decide +kernel
theorem dX2_isKeyword_78 : decode cX2_isKeyword 78 = .ok (.getfield 86, 3) := by decide +kernel
theorem dX2_isKeyword_81 : decode cX2_isKeyword 81 = .ok (.ldc2_w 129, 3) := by decide +kernel
theorem dX2_isKeyword_84 : decode cX2_isKeyword 84 = .ok (.lcmp, 1) := by decide +kernel
theorem dX2_isKeyword_85 : decode cX2_isKeyword 85 = .ok (.ifCond .eq 14, 3) := by decide +kernel
theorem dX2_isKeyword_88 : decode cX2_isKeyword 88 = .ok (.aload_n 0, 1) := by decide +kernel
theorem dX2_isKeyword_89 : decode cX2_isKeyword 89 = .ok (.getfield 86, 3) := by decide +kernel
theorem dX2_isKeyword_92 : decode cX2_isKeyword 92 = .ok (.ldc2_w 135, 3) := by decide +kernel
theorem dX2_isKeyword_95 : decode cX2_isKeyword 95 = .ok (.lcmp, 1) := by decide +kernel
theorem dX2_isKeyword_96 : decode cX2_isKeyword 96 = .ok (.ifCond .ne 7, 3) := by decide +kernel
theorem dX2_isKeyword_99 : decode cX2_isKeyword 99 = .ok (.iconst 1, 1) := by decide +kernel
theorem dX2_isKeyword_100 : decode cX2_isKeyword 100 = .ok (.goto 4, 3) := by decide +kernel
theorem dX2_isKeyword_103 : decode cX2_isKeyword 103 = .ok (.iconst 0, 1) := by decide +kernel
theorem dX2_isKeyword_104 : decode cX2_isKeyword 104 = .ok (.ireturn, 1) := by decide +kernel
theorem dX2_advance_0 : decode cX2_advance 0 = .ok (.aload_n 0, 1) := by decide +kernel
theorem dX2_advance_1 : decode cX2_advance 1 = .ok (.getfield 44, 3) := by decide +kernel
theorem dX2_advance_4 : decode cX2_advance 4 = .ok (.ifCond .eq 4, 3) := by decide +kernel
theorem dX2_advance_7 : decode cX2_advance 7 = .ok (.return_, 1) := by decide +kernel
theorem dX2_advance_8 : decode cX2_advance 8 = .ok (.aload_n 0, 1) := by decide +kernel
theorem dX2_advance_9 : decode cX2_advance 9 = .ok (.getfield 50, 3) := by decide +kernel
theorem dX2_advance_12 : decode cX2_advance 12 = .ok (.aload_n 0, 1) := by decide +kernel
theorem dX2_advance_13 : decode cX2_advance 13 = .ok (.getfield 47, 3) := by decide +kernel
theorem dX2_advance_16 : decode cX2_advance 16 = .ok (.if_icmp .ge 30, 3) := by decide +kernel
theorem dX2_advance_19 : decode cX2_advance 19 = .ok (.aload_n 0, 1) := by decide +kernel
theorem dX2_advance_20 : decode cX2_advance 20 = .ok (.getfield 9, 3) := by decide +kernel
theorem dX2_advance_23 : decode cX2_advance 23 = .ok (.aload_n 0, 1) := by decide +kernel
theorem dX2_advance_24 : decode cX2_advance 24 = .ok (.getfield 50, 3) := by decide +kernel
theorem dX2_advance_27 : decode cX2_advance 27 = .ok (.baload, 1) := by decide +kernel
theorem dX2_advance_28 : decode cX2_advance 28 = .ok (.bipush 32, 2) := by decide +kernel
theorem dX2_advance_30 : decode cX2_advance 30 = .ok (.if_icmp .ne 16, 3) := by decide +kernel
theorem dX2_advance_33 : decode cX2_advance 33 = .ok (.aload_n 0, 1) := by decide +kernel
theorem dX2_advance_34 : decode cX2_advance 34 = .ok (.dup, 1) := by decide +kernel
theorem dX2_advance_35 : decode cX2_advance 35 = .ok (.getfield 50, 3) := by decide +kernel
theorem dX2_advance_38 : decode cX2_advance 38 = .ok (.iconst 1, 1) := by decide +kernel
theorem dX2_advance_39 : decode cX2_advance 39 = .ok (.iadd, 1) := by decide +kernel
theorem dX2_advance_40 : decode cX2_advance 40 = .ok (.putfield 50, 3) := by decide +kernel
theorem dX2_advance_43 : decode cX2_advance 43 = .ok (.goto (-35), 3) := by decide +kernel
theorem dX2_advance_46 : decode cX2_advance 46 = .ok (.aload_n 0, 1) := by decide +kernel
theorem dX2_advance_47 : decode cX2_advance 47 = .ok (.aload_n 0, 1) := by decide +kernel
theorem dX2_advance_48 : decode cX2_advance 48 = .ok (.getfield 50, 3) := by decide +kernel
theorem dX2_advance_51 : decode cX2_advance 51 = .ok (.putfield 70, 3) := by decide +kernel
theorem dX2_advance_54 : decode cX2_advance 54 = .ok (.aload_n 0, 1) := by decide +kernel
theorem dX2_advance_55 : decode cX2_advance 55 = .ok (.iconst 0, 1) := by decide +kernel
theorem dX2_advance_56 : decode cX2_advance 56 = .ok (.putfield 59, 3) := by decide +kernel
theorem dX2_advance_59 : decode cX2_advance 59 = .ok (.aload_n 0, 1) := by decide +kernel
theorem dX2_advance_60 : decode cX2_advance 60 = .ok (.getfield 50, 3) := by decide +kernel
theorem dX2_advance_63 : decode cX2_advance 63 = .ok (.aload_n 0, 1) := by decide +kernel
theorem dX2_advance_64 : decode cX2_advance 64 = .ok (.getfield 47, 3) := by decide +kernel
theorem dX2_advance_67 : decode cX2_advance 67 = .ok (.if_icmp .ge 7, 3) := by decide +kernel
theorem dX2_advance_70 : decode cX2_advance 70 = .ok (.aload_n 0, 1) := by decide +kernel
theorem dX2_advance_71 : decode cX2_advance 71 = .ok (.invokevirtual 228, 3) := by decide +kernel
theorem dX2_advance_74 : decode cX2_advance 74 = .ok (.aload_n 0, 1) := by decide +kernel
theorem dX2_advance_75 : decode cX2_advance 75 = .ok (.getfield 50, 3) := by decide +kernel
theorem dX2_advance_78 : decode cX2_advance 78 = .ok (.aload_n 0, 1) := by decide +kernel
theorem dX2_advance_79 : decode cX2_advance 79 = .ok (.getfield 47, 3) := by decide +kernel
theorem dX2_advance_82 : decode cX2_advance 82 = .ok (.if_icmp .ge 14, 3) := by decide +kernel
theorem dX2_advance_85 : decode cX2_advance 85 = .ok (.aload_n 0, 1) := by decide +kernel
theorem dX2_advance_86 : decode cX2_advance 86 = .ok (.getfield 59, 3) := by decide +kernel
theorem dX2_advance_89 : decode cX2_advance 89 = .ok (.ifCond .ne 7, 3) := by decide +kernel
theorem dX2_advance_92 : decode cX2_advance 92 = .ok (.aload_n 0, 1) := by decide +kernel
theorem dX2_advance_93 : decode cX2_advance 93 = .ok (.invokevirtual 231, 3) := by decide +kernel
theorem dX2_advance_96 : decode cX2_advance 96 = .ok (.aload_n 0, 1) := by decide +kernel
theorem dX2_advance_97 : decode cX2_advance 97 = .ok (.getfield 50, 3) := by decide +kernel
theorem dX2_advance_100 : decode cX2_advance 100 = .ok (.aload_n 0, 1) := by decide +kernel
theorem dX2_advance_101 : decode cX2_advance 101 = .ok (.getfield 47, 3) := by decide +kernel
theorem dX2_advance_104 : decode cX2_advance 104 = .ok (.if_icmp .ge 43, 3) := by decide +kernel
theorem dX2_advance_107 : decode cX2_advance 107 = .ok (.aload_n 0, 1) := by decide +kernel
theorem dX2_advance_108 : decode cX2_advance 108 = .ok (.getfield 59, 3) := by decide +kernel
theorem dX2_advance_111 : decode cX2_advance 111 = .ok (.ifCond .ne 36, 3) := by decide +kernel
theorem dX2_advance_114 : decode cX2_advance 114 = .ok (.aload_n 0, 1) := by decide +kernel
theorem dX2_advance_115 : decode cX2_advance 115 = .ok (.aload_n 0, 1) := by decide +kernel
theorem dX2_advance_116 : decode cX2_advance 116 = .ok (.getfield 9, 3) := by decide +kernel
theorem dX2_advance_119 : decode cX2_advance 119 = .ok (.aload_n 0, 1) := by decide +kernel
theorem dX2_advance_120 : decode cX2_advance 120 = .ok (.getfield 50, 3) := by decide +kernel
theorem dX2_advance_123 : decode cX2_advance 123 = .ok (.baload, 1) := by decide +kernel
theorem dX2_advance_124 : decode cX2_advance 124 = .ok (.bipush 59, 2) := by decide +kernel
theorem dX2_advance_126 : decode cX2_advance 126 = .ok (.if_icmp .ne 7, 3) := by decide +kernel
theorem dX2_advance_129 : decode cX2_advance 129 = .ok (.iconst 3, 1) := by decide +kernel
theorem dX2_advance_130 : decode cX2_advance 130 = .ok (.goto 4, 3) := by decide +kernel
theorem dX2_advance_133 : decode cX2_advance 133 = .ok (.iconst 4, 1) := by decide +kernel
theorem dX2_advance_134 : decode cX2_advance 134 = .ok (.putfield 59, 3) := by decide +kernel
theorem dX2_advance_137 : decode cX2_advance 137 = .ok (.aload_n 0, 1) := by decide +kernel
theorem dX2_advance_138 : decode cX2_advance 138 = .ok (.dup, 1) := by decide +kernel
theorem dX2_advance_139 : decode cX2_advance 139 = .ok (.getfield 50, 3) := by decide +kernel
theorem dX2_advance_142 : decode cX2_advance 142 = .ok (.iconst 1, 1) := by decide +kernel
theorem dX2_advance_143 : decode cX2_advance 143 = .ok (.iadd, 1) := by decide +kernel
theorem dX2_advance_144 : decode cX2_advance 144 = .ok (.putfield 50, 3) := by decide +kernel
theorem dX2_advance_147 : decode cX2_advance 147 = .ok (.return_, 1) := by decide +kernel
theorem dX2_scanLetters_0 : decode cX2_scanLetters 0 = .ok (.aload_n 0, 1) := by decide +kernel
theorem dX2_scanLetters_1 : decode cX2_scanLetters 1 = .ok (.lconst 0, 1) := by decide +kernel
theorem dX2_scanLetters_2 : decode cX2_scanLetters 2 = .ok (.putfield 86, 3) := by decide +kernel
theorem dX2_scanLetters_5 : decode cX2_scanLetters 5 = .ok (.aload_n 0, 1) := by decide +kernel
theorem dX2_scanLetters_6 : decode cX2_scanLetters 6 = .ok (.getfield 50, 3) := by decide +kernel
theorem dX2_scanLetters_9 : decode cX2_scanLetters 9 = .ok (.aload_n 0, 1) := by decide +kernel
theorem dX2_scanLetters_10 : decode cX2_scanLetters 10 = .ok (.getfield 47, 3) := by decide +kernel
theorem dX2_scanLetters_13 : decode cX2_scanLetters 13 = .ok (.if_icmp .ge 66, 3) := by decide +kernel
theorem dX2_scanLetters_16 : decode cX2_scanLetters 16 = .ok (.aload_n 0, 1) := by decide +kernel
theorem dX2_scanLetters_17 : decode cX2_scanLetters 17 = .ok (.getfield 9, 3) := by decide +kernel
theorem dX2_scanLetters_20 : decode cX2_scanLetters 20 = .ok (.aload_n 0, 1) := by decide +kernel
theorem dX2_scanLetters_21 : decode cX2_scanLetters 21 = .ok (.getfield 50, 3) := by decide +kernel
theorem dX2_scanLetters_24 : decode cX2_scanLetters 24 = .ok (.baload, 1) := by decide +kernel
theorem dX2_scanLetters_25 : decode cX2_scanLetters 25 = .ok (.bipush 97, 2) := by decide +kernel
theorem dX2_scanLetters_27 : decode cX2_scanLetters 27 = .ok (.if_icmp .lt 52, 3) := by decide +kernel
theorem dX2_scanLetters_30 : decode cX2_scanLetters 30 = .ok (.aload_n 0, 1) := by decide +kernel
theorem dX2_scanLetters_31 : decode cX2_scanLetters 31 = .ok (.getfield 9, 3) := by decide +kernel
theorem dX2_scanLetters_34 : decode cX2_scanLetters 34 = .ok (.aload_n 0, 1) := by decide +kernel
theorem dX2_scanLetters_35 : decode cX2_scanLetters 35 = .ok (.getfield 50, 3) := by decide +kernel
theorem dX2_scanLetters_38 : decode cX2_scanLetters 38 = .ok (.baload, 1) := by decide +kernel
theorem dX2_scanLetters_39 : decode cX2_scanLetters 39 = .ok (.bipush 122, 2) := by decide +kernel
theorem dX2_scanLetters_41 : decode cX2_scanLetters 41 = .ok (.if_icmp .gt 38, 3) := by decide +kernel
theorem dX2_scanLetters_44 : decode cX2_scanLetters 44 = .ok (.aload_n 0, 1) := by decide +kernel
theorem dX2_scanLetters_45 : decode cX2_scanLetters 45 = .ok (.aload_n 0, 1) := by decide +kernel
theorem dX2_scanLetters_46 : decode cX2_scanLetters 46 = .ok (.getfield 86, 3) := by decide +kernel
theorem dX2_scanLetters_49 : decode cX2_scanLetters 49 = .ok (.bipush 8, 2) := by decide +kernel
theorem dX2_scanLetters_51 : decode cX2_scanLetters 51 = .ok (.lshl, 1) := by decide +kernel
theorem dX2_scanLetters_52 : decode cX2_scanLetters 52 = .ok (.aload_n 0, 1) := by decide +kernel
theorem dX2_scanLetters_53 : decode cX2_scanLetters 53 = .ok (.getfield 9, 3) := by decide +kernel
theorem dX2_scanLetters_56 : decode cX2_scanLetters 56 = .ok (.aload_n 0, 1) := by decide +kernel
theorem dX2_scanLetters_57 : decode cX2_scanLetters 57 = .ok (.getfield 50, 3) := by decide +kernel
theorem dX2_scanLetters_60 : decode cX2_scanLetters 60 = .ok (.baload, 1) := by decide +kernel
theorem dX2_scanLetters_61 : decode cX2_scanLetters 61 = .ok (.i2l, 1) := by decide +kernel
theorem dX2_scanLetters_62 : decode cX2_scanLetters 62 = .ok (.lor, 1) := by decide +kernel
theorem dX2_scanLetters_63 : decode cX2_scanLetters 63 = .ok (.putfield 86, 3) := by decide +kernel
theorem dX2_scanLetters_66 : decode cX2_scanLetters 66 = .ok (.aload_n 0, 1) := by decide +kernel
theorem dX2_scanLetters_67 : decode cX2_scanLetters 67 = .ok (.dup, 1) := by decide +kernel
theorem dX2_scanLetters_68 : decode cX2_scanLetters 68 = .ok (.getfield 50, 3) := by decide +kernel
theorem dX2_scanLetters_71 : decode cX2_scanLetters 71 = .ok (.iconst 1, 1) := by decide +kernel
theorem dX2_scanLetters_72 : decode cX2_scanLetters 72 = .ok (.iadd, 1) := by decide +kernel
theorem dX2_scanLetters_73 : decode cX2_scanLetters 73 = .ok (.putfield 50, 3) := by decide +kernel
theorem dX2_scanLetters_76 : decode cX2_scanLetters 76 = .ok (.goto (-71), 3) := by decide +kernel
theorem dX2_scanLetters_79 : decode cX2_scanLetters 79 = .ok (.aload_n 0, 1) := by decide +kernel
theorem dX2_scanLetters_80 : decode cX2_scanLetters 80 = .ok (.getfield 50, 3) := by decide +kernel
theorem dX2_scanLetters_83 : decode cX2_scanLetters 83 = .ok (.aload_n 0, 1) := by decide +kernel
theorem dX2_scanLetters_84 : decode cX2_scanLetters 84 = .ok (.getfield 70, 3) := by decide +kernel
theorem dX2_scanLetters_87 : decode cX2_scanLetters 87 = .ok (.if_icmp .le 26, 3) := by decide +kernel
theorem dX2_scanLetters_90 : decode cX2_scanLetters 90 = .ok (.aload_n 0, 1) := by decide +kernel
theorem dX2_scanLetters_91 : decode cX2_scanLetters 91 = .ok (.aload_n 0, 1) := by decide +kernel
theorem dX2_scanLetters_92 : decode cX2_scanLetters 92 = .ok (.getfield 50, 3) := by decide +kernel
theorem dX2_scanLetters_95 : decode cX2_scanLetters 95 = .ok (.aload_n 0, 1) := by decide +kernel
theorem dX2_scanLetters_96 : decode cX2_scanLetters 96 = .ok (.getfield 70, 3) := by decide +kernel
theorem dX2_scanLetters_99 : decode cX2_scanLetters 99 = .ok (.isub, 1) := by decide +kernel
theorem dX2_scanLetters_100 : decode cX2_scanLetters 100 = .ok (.bipush 8, 2) := by decide +kernel
theorem dX2_scanLetters_102 : decode cX2_scanLetters 102 = .ok (.if_icmp .le 7, 3) := by decide +kernel
theorem dX2_scanLetters_105 : decode cX2_scanLetters 105 = .ok (.iconst 4, 1) := by decide +kernel
theorem dX2_scanLetters_106 : decode cX2_scanLetters 106 = .ok (.goto 4, 3) := by decide +kernel
theorem dX2_scanLetters_109 : decode cX2_scanLetters 109 = .ok (.iconst 1, 1) := by decide +kernel
theorem dX2_scanLetters_110 : decode cX2_scanLetters 110 = .ok (.putfield 59, 3) := by decide +kernel
theorem dX2_scanLetters_113 : decode cX2_scanLetters 113 = .ok (.return_, 1) := by decide +kernel
theorem dX2_scanDigits_0 : decode cX2_scanDigits 0 = .ok (.aload_n 0, 1) := by decide +kernel
theorem dX2_scanDigits_1 : decode cX2_scanDigits 1 = .ok (.iconst 0, 1) := by decide +kernel
theorem dX2_scanDigits_2 : decode cX2_scanDigits 2 = .ok (.putfield 217, 3) := by decide +kernel
theorem dX2_scanDigits_5 : decode cX2_scanDigits 5 = .ok (.aload_n 0, 1) := by decide +kernel
theorem dX2_scanDigits_6 : decode cX2_scanDigits 6 = .ok (.getfield 50, 3) := by decide +kernel
theorem dX2_scanDigits_9 : decode cX2_scanDigits 9 = .ok (.aload_n 0, 1) := by decide +kernel
theorem dX2_scanDigits_10 : decode cX2_scanDigits 10 = .ok (.getfield 47, 3) := by decide +kernel
theorem dX2_scanDigits_13 : decode cX2_scanDigits 13 = .ok (.if_icmp .ge 68, 3) := by decide +kernel
theorem dX2_scanDigits_16 : decode cX2_scanDigits 16 = .ok (.aload_n 0, 1) := by decide +kernel
theorem dX2_scanDigits_17 : decode cX2_scanDigits 17 = .ok (.getfield 9, 3) := by decide +kernel
theorem dX2_scanDigits_20 : decode cX2_scanDigits 20 = .ok (.aload_n 0, 1) := by decide +kernel
theorem dX2_scanDigits_21 : decode cX2_scanDigits 21 = .ok (.getfield 50, 3) := by decide +kernel
theorem dX2_scanDigits_24 : decode cX2_scanDigits 24 = .ok (.baload, 1) := by decide +kernel
theorem dX2_scanDigits_25 : decode cX2_scanDigits 25 = .ok (.bipush 48, 2) := by decide +kernel
theorem dX2_scanDigits_27 : decode cX2_scanDigits 27 = .ok (.if_icmp .lt 54, 3) := by decide +kernel
theorem dX2_scanDigits_30 : decode cX2_scanDigits 30 = .ok (.aload_n 0, 1) := by decide +kernel
theorem dX2_scanDigits_31 : decode cX2_scanDigits 31 = .ok (.getfield 9, 3) := by decide +kernel
theorem dX2_scanDigits_34 : decode cX2_scanDigits 34 = .ok (.aload_n 0, 1) := by decide +kernel
theorem dX2_scanDigits_35 : decode cX2_scanDigits 35 = .ok (.getfield 50, 3) := by decide +kernel
theorem dX2_scanDigits_38 : decode cX2_scanDigits 38 = .ok (.baload, 1) := by decide +kernel
theorem dX2_scanDigits_39 : decode cX2_scanDigits 39 = .ok (.bipush 57, 2) := by decide +kernel
theorem dX2_scanDigits_41 : decode cX2_scanDigits 41 = .ok (.if_icmp .gt 40, 3) := by decide +kernel
theorem dX2_scanDigits_44 : decode cX2_scanDigits 44 = .ok (.aload_n 0, 1) := by decide +kernel
theorem dX2_scanDigits_45 : decode cX2_scanDigits 45 = .ok (.aload_n 0, 1) := by decide +kernel
theorem dX2_scanDigits_46 : decode cX2_scanDigits 46 = .ok (.getfield 217, 3) := by decide +kernel
theorem dX2_scanDigits_49 : decode cX2_scanDigits 49 = .ok (.bipush 10, 2) := by decide +kernel
theorem dX2_scanDigits_51 : decode cX2_scanDigits 51 = .ok (.imul, 1) := by decide +kernel
theorem dX2_scanDigits_52 : decode cX2_scanDigits 52 = .ok (.aload_n 0, 1) := by decide +kernel
theorem dX2_scanDigits_53 : decode cX2_scanDigits 53 = .ok (.getfield 9, 3) := by decide +kernel
theorem dX2_scanDigits_56 : decode cX2_scanDigits 56 = .ok (.aload_n 0, 1) := by decide +kernel
theorem dX2_scanDigits_57 : decode cX2_scanDigits 57 = .ok (.getfield 50, 3) := by decide +kernel
theorem dX2_scanDigits_60 : decode cX2_scanDigits 60 = .ok (.baload, 1) := by decide +kernel
theorem dX2_scanDigits_61 : decode cX2_scanDigits 61 = .ok (.bipush 48, 2) := by decide +kernel
theorem dX2_scanDigits_63 : decode cX2_scanDigits 63 = .ok (.isub, 1) := by decide +kernel
theorem dX2_scanDigits_64 : decode cX2_scanDigits 64 = .ok (.iadd, 1) := by decide +kernel
theorem dX2_scanDigits_65 : decode cX2_scanDigits 65 = .ok (.putfield 217, 3) := by decide +kernel
theorem dX2_scanDigits_68 : decode cX2_scanDigits 68 = .ok (.aload_n 0, 1) := by decide +kernel
theorem dX2_scanDigits_69 : decode cX2_scanDigits 69 = .ok (.dup, 1) := by decide +kernel
theorem dX2_scanDigits_70 : decode cX2_scanDigits 70 = .ok (.getfield 50, 3) := by decide +kernel
theorem dX2_scanDigits_73 : decode cX2_scanDigits 73 = .ok (.iconst 1, 1) := by decide +kernel
theorem dX2_scanDigits_74 : decode cX2_scanDigits 74 = .ok (.iadd, 1) := by decide +kernel
theorem dX2_scanDigits_75 : decode cX2_scanDigits 75 = .ok (.putfield 50, 3) := by decide +kernel
theorem dX2_scanDigits_78 : decode cX2_scanDigits 78 = .ok (.goto (-73), 3) := by decide +kernel
theorem dX2_scanDigits_81 : decode cX2_scanDigits 81 = .ok (.aload_n 0, 1) := by decide +kernel
theorem dX2_scanDigits_82 : decode cX2_scanDigits 82 = .ok (.getfield 50, 3) := by decide +kernel
theorem dX2_scanDigits_85 : decode cX2_scanDigits 85 = .ok (.aload_n 0, 1) := by decide +kernel
theorem dX2_scanDigits_86 : decode cX2_scanDigits 86 = .ok (.getfield 70, 3) := by decide +kernel
theorem dX2_scanDigits_89 : decode cX2_scanDigits 89 = .ok (.if_icmp .le 25, 3) := by decide +kernel
theorem dX2_scanDigits_92 : decode cX2_scanDigits 92 = .ok (.aload_n 0, 1) := by decide +kernel
theorem dX2_scanDigits_93 : decode cX2_scanDigits 93 = .ok (.aload_n 0, 1) := by decide +kernel
theorem dX2_scanDigits_94 : decode cX2_scanDigits 94 = .ok (.getfield 50, 3) := by decide +kernel
theorem dX2_scanDigits_97 : decode cX2_scanDigits 97 = .ok (.aload_n 0, 1) := by decide +kernel
theorem dX2_scanDigits_98 : decode cX2_scanDigits 98 = .ok (.getfield 70, 3) := by decide +kernel
theorem dX2_scanDigits_101 : decode cX2_scanDigits 101 = .ok (.isub, 1) := by decide +kernel
theorem dX2_scanDigits_102 : decode cX2_scanDigits 102 = .ok (.iconst 3, 1) := by decide +kernel
theorem dX2_scanDigits_103 : decode cX2_scanDigits 103 = .ok (.if_icmp .le 7, 3) := by decide +kernel
theorem dX2_scanDigits_106 : decode cX2_scanDigits 106 = .ok (.iconst 4, 1) := by decide +kernel
theorem dX2_scanDigits_107 : decode cX2_scanDigits 107 = .ok (.goto 4, 3) := by decide +kernel
theorem dX2_scanDigits_110 : decode cX2_scanDigits 110 = .ok (.iconst 2, 1) := by decide +kernel
theorem dX2_scanDigits_111 : decode cX2_scanDigits 111 = .ok (.putfield 59, 3) := by decide +kernel
theorem dX2_scanDigits_114 : decode cX2_scanDigits 114 = .ok (.return_, 1) := by decide +kernel
theorem dX3_init_0 : decode cX3_init 0 = .ok (.aload_n 0, 1) := by decide +kernel
theorem dX3_init_1 : decode cX3_init 1 = .ok (.invokespecial 3, 3) := by decide +kernel
theorem dX3_init_4 : decode cX3_init 4 = .ok (.aload_n 0, 1) := by decide +kernel
theorem dX3_init_5 : decode cX3_init 5 = .ok (.bipush 20, 2) := by decide +kernel
theorem dX3_init_7 : decode cX3_init 7 = .ok (.newarray .int, 2) := by decide +kernel
theorem dX3_init_9 : decode cX3_init 9 = .ok (.putfield 9, 3) := by decide +kernel
theorem dX3_init_12 : decode cX3_init 12 = .ok (.aload_n 0, 1) := by decide +kernel
theorem dX3_init_13 : decode cX3_init 13 = .ok (.bipush 20, 2) := by decide +kernel
theorem dX3_init_15 : decode cX3_init 15 = .ok (.newarray .int, 2) := by decide +kernel
theorem dX3_init_17 : decode cX3_init 17 = .ok (.putfield 15, 3) := by decide +kernel
theorem dX3_init_20 : decode cX3_init 20 = .ok (.aload_n 0, 1) := by decide +kernel
theorem dX3_init_21 : decode cX3_init 21 = .ok (.bipush 20, 2) := by decide +kernel
theorem dX3_init_23 : decode cX3_init 23 = .ok (.newarray .int, 2) := by decide +kernel
theorem dX3_init_25 : decode cX3_init 25 = .ok (.putfield 18, 3) := by decide +kernel
theorem dX3_init_28 : decode cX3_init 28 = .ok (.aload_n 0, 1) := by decide +kernel
theorem dX3_init_29 : decode cX3_init 29 = .ok (.bipush 20, 2) := by decide +kernel
theorem dX3_init_31 : decode cX3_init 31 = .ok (.newarray .int, 2) := by decide +kernel
theorem dX3_init_33 : decode cX3_init 33 = .ok (.putfield 21, 3) := by decide +kernel
theorem dX3_init_36 : decode cX3_init 36 = .ok (.aload_n 0, 1) := by decide +kernel
theorem dX3_init_37 : decode cX3_init 37 = .ok (.bipush 20, 2) := by decide +kernel
theorem dX3_init_39 : decode cX3_init 39 = .ok (.newarray .int, 2) := by decide +kernel
theorem dX3_init_41 : decode cX3_init 41 = .ok (.putfield 24, 3) := by decide +kernel
theorem dX3_init_44 : decode cX3_init 44 = .ok (.aload_n 0, 1) := by decide +kernel
theorem dX3_init_45 : decode cX3_init 45 = .ok (.bipush 20, 2) := by decide +kernel
theorem dX3_init_47 : decode cX3_init 47 = .ok (.newarray .int, 2) := by decide +kernel
theorem dX3_init_49 : decode cX3_init 49 = .ok (.putfield 27, 3) := by decide +kernel
theorem dX3_init_52 : decode cX3_init 52 = .ok (.aload_n 0, 1) := by decide +kernel
theorem dX3_init_53 : decode cX3_init 53 = .ok (.bipush 20, 2) := by decide +kernel
theorem dX3_init_55 : decode cX3_init 55 = .ok (.newarray .int, 2) := by decide +kernel
theorem dX3_init_57 : decode cX3_init 57 = .ok (.putfield 30, 3) := by decide +kernel
theorem dX3_init_60 : decode cX3_init 60 = .ok (.aload_n 0, 1) := by decide +kernel
theorem dX3_init_61 : decode cX3_init 61 = .ok (.bipush 20, 2) := by decide +kernel
theorem dX3_init_63 : decode cX3_init 63 = .ok (.newarray .int, 2) := by decide +kernel
theorem dX3_init_65 : decode cX3_init 65 = .ok (.putfield 33, 3) := by decide +kernel
theorem dX3_init_68 : decode cX3_init 68 = .ok (.aload_n 0, 1) := by decide +kernel
theorem dX3_init_69 : decode cX3_init 69 = .ok (.bipush 12, 2) := by decide +kernel
theorem dX3_init_71 : decode cX3_init 71 = .ok (.newarray .int, 2) := by decide +kernel
theorem dX3_init_73 : decode cX3_init 73 = .ok (.putfield 36, 3) := by decide +kernel
theorem dX3_init_76 : decode cX3_init 76 = .ok (.aload_n 0, 1) := by decide +kernel
theorem dX3_init_77 : decode cX3_init 77 = .ok (.iconst 5, 1) := by decide +kernel
theorem dX3_init_78 : decode cX3_init 78 = .ok (.newarray .int, 2) := by decide +kernel
theorem dX3_init_80 : decode cX3_init 80 = .ok (.putfield 39, 3) := by decide +kernel
theorem dX3_init_83 : decode cX3_init 83 = .ok (.aload_n 0, 1) := by decide +kernel
theorem dX3_init_84 : decode cX3_init 84 = .ok (.iconst 5, 1) := by decide +kernel
theorem dX3_init_85 : decode cX3_init 85 = .ok (.newarray .int, 2) := by decide +kernel
theorem dX3_init_87 : decode cX3_init 87 = .ok (.putfield 42, 3) := by decide +kernel
theorem dX3_init_90 : decode cX3_init 90 = .ok (.aload_n 0, 1) := by decide +kernel
theorem dX3_init_91 : decode cX3_init 91 = .ok (.iconst 5, 1) := by decide +kernel
theorem dX3_init_92 : decode cX3_init 92 = .ok (.newarray .int, 2) := by decide +kernel
theorem dX3_init_94 : decode cX3_init 94 = .ok (.putfield 45, 3) := by decide +kernel
theorem dX3_init_97 : decode cX3_init 97 = .ok (.aload_n 0, 1) := by decide +kernel
theorem dX3_init_98 : decode cX3_init 98 = .ok (.bipush 10, 2) := by decide +kernel
theorem dX3_init_100 : decode cX3_init 100 = .ok (.newarray .int, 2) := by decide +kernel
theorem dX3_init_102 : decode cX3_init 102 = .ok (.putfield 48, 3) := by decide +kernel
theorem dX3_init_105 : decode cX3_init 105 = .ok (.return_, 1) := by decide +kernel
theorem dX3_play_0 : decode cX3_play 0 = .ok (.aload_n 2, 1) := by decide +kernel
theorem dX3_play_1 : decode cX3_play 1 = .ok (.getfield 51, 3) := by decide +kernel
theorem dX3_play_4 : decode cX3_play 4 = .ok (.iconst 0, 1) := by decide +kernel
theorem dX3_play_5 : decode cX3_play 5 = .ok (.aload_n 0, 1) := by decide +kernel
theorem dX3_play_6 : decode cX3_play 6 = .ok (.getfield 36, 3) := by decide +kernel
theorem dX3_play_9 : decode cX3_play 9 = .ok (.iconst 0, 1) := by decide +kernel
theorem dX3_play_10 : decode cX3_play 10 = .ok (.bipush 12, 2) := by decide +kernel
theorem dX3_play_12 : decode cX3_play 12 = .ok (.invokestatic 54, 3) := by decide +kernel
theorem dX3_play_15 : decode cX3_play 15 = .ok (.aload_n 0, 1) := by decide +kernel
theorem dX3_play_16 : decode cX3_play 16 = .ok (.getfield 48, 3) := by decide +kernel
theorem dX3_play_19 : decode cX3_play 19 = .ok (.iconst 0, 1) := by decide +kernel
theorem dX3_play_20 : decode cX3_play 20 = .ok (.invokestatic 60, 3) := by decide +kernel
theorem dX3_play_23 : decode cX3_play 23 = .ok (.aload_n 0, 1) := by decide +kernel
theorem dX3_play_24 : decode cX3_play 24 = .ok (.iconst 0, 1) := by decide +kernel
theorem dX3_play_25 : decode cX3_play 25 = .ok (.putfield 66, 3) := by decide +kernel
theorem dX3_play_28 : decode cX3_play 28 = .ok (.iconst 0, 1) := by decide +kernel
theorem dX3_play_29 : decode cX3_play 29 = .ok (.istore_n 3, 1) := by decide +kernel
theorem dX3_play_30 : decode cX3_play 30 = .ok (.iload_n 3, 1) := by decide +kernel
theorem dX3_play_31 : decode cX3_play 31 = .ok (.aload_n 1, 1) := by decide +kernel
theorem dX3_play_32 : decode cX3_play 32 = .ok (.getfield 70, 3) := by decide +kernel
theorem dX3_play_35 : decode cX3_play 35 = .ok (.if_icmp .ge 17, 3) := by decide +kernel
theorem dX3_play_38 : decode cX3_play 38 = .ok (.aload_n 0, 1) := by decide +kernel
theorem dX3_play_39 : decode cX3_play 39 = .ok (.aload_n 2, 1) := by decide +kernel
theorem dX3_play_40 : decode cX3_play 40 = .ok (.iload_n 3, 1) := by decide +kernel
theorem dX3_play_41 : decode cX3_play 41 = .ok (.iconst 0, 1) := by decide +kernel
theorem dX3_play_42 : decode cX3_play 42 = .ok (.iconst 0, 1) := by decide +kernel
theorem dX3_play_43 : decode cX3_play 43 = .ok (.invokevirtual 75, 3) := by decide +kernel
theorem dX3_play_46 : decode cX3_play 46 = .ok (.iinc 3 1, 3) := by decide +kernel
theorem dX3_play_49 : decode cX3_play 49 = .ok (.goto (-19), 3) := by decide +kernel
theorem dX3_play_52 : decode cX3_play 52 = .ok (.iconst 0, 1) := by decide +kernel
theorem dX3_play_53 : decode cX3_play 53 = .ok (.istore_n 3, 1) := by decide +kernel
theorem dX3_play_54 : decode cX3_play 54 = .ok (.iload_n 3, 1) := by decide +kernel
theorem dX3_play_55 : decode cX3_play 55 = .ok (.bipush 60, 2) := by decide +kernel
theorem dX3_play_57 : decode cX3_play 57 = .ok (.if_icmp .ge 77, 3) := by decide +kernel
theorem dX3_play_60 : decode cX3_play 60 = .ok (.aload_n 0, 1) := by decide +kernel
theorem dX3_play_61 : decode cX3_play 61 = .ok (.aload_n 1, 1) := by decide +kernel
theorem dX3_play_62 : decode cX3_play 62 = .ok (.getfield 70, 3) := by decide +kernel
theorem dX3_play_65 : decode cX3_play 65 = .ok (.invokevirtual 79, 3) := by decide +kernel
theorem dX3_play_68 : decode cX3_play 68 = .ok (.istore 4, 2) := by decide +kernel
theorem dX3_play_70 : decode cX3_play 70 = .ok (.iload 4, 2) := by decide +kernel
theorem dX3_play_72 : decode cX3_play 72 = .ok (.ifCond .ge 4, 3) := by decide +kernel
theorem dX3_play_75 : decode cX3_play 75 = .ok (.return_, 1) := by decide +kernel
theorem dX3_play_76 : decode cX3_play 76 = .ok (.aload_n 0, 1) := by decide +kernel
theorem dX3_play_77 : decode cX3_play 77 = .ok (.getfield 39, 3) := by decide +kernel
theorem dX3_play_80 : decode cX3_play 80 = .ok (.iload 4, 2) := by decide +kernel
theorem dX3_play_82 : decode cX3_play 82 = .ok (.iaload, 1) := by decide +kernel
theorem dX3_play_83 : decode cX3_play 83 = .ok (.iconst 1, 1) := by decide +kernel
theorem dX3_play_84 : decode cX3_play 84 = .ok (.if_icmp .ne 14, 3) := by decide +kernel
theorem dX3_play_87 : decode cX3_play 87 = .ok (.aload_n 0, 1) := by decide +kernel
theorem dX3_play_88 : decode cX3_play 88 = .ok (.aload_n 1, 1) := by decide +kernel
theorem dX3_play_89 : decode cX3_play 89 = .ok (.aload_n 2, 1) := by decide +kernel
theorem dX3_play_90 : decode cX3_play 90 = .ok (.iload 4, 2) := by decide +kernel
theorem dX3_play_92 : decode cX3_play 92 = .ok (.invokevirtual 83, 3) := by decide +kernel
theorem dX3_play_95 : decode cX3_play 95 = .ok (.goto 33, 3) := by decide +kernel
theorem dX3_play_98 : decode cX3_play 98 = .ok (.aload_n 0, 1) := by decide +kernel
theorem dX3_play_99 : decode cX3_play 99 = .ok (.getfield 39, 3) := by decide +kernel
theorem dX3_play_102 : decode cX3_play 102 = .ok (.iload 4, 2) := by decide +kernel
theorem dX3_play_104 : decode cX3_play 104 = .ok (.iaload, 1) := by decide +kernel
theorem dX3_play_105 : decode cX3_play 105 = .ok (.iconst 2, 1) := by decide +kernel
theorem dX3_play_106 : decode cX3_play 106 = .ok (.if_icmp .ne 14, 3) := by decide +kernel
theorem dX3_play_109 : decode cX3_play 109 = .ok (.aload_n 0, 1) := by decide +kernel
theorem dX3_play_110 : decode cX3_play 110 = .ok (.aload_n 1, 1) := by decide +kernel
theorem dX3_play_111 : decode cX3_play 111 = .ok (.aload_n 2, 1) := by decide +kernel
theorem dX3_play_112 : decode cX3_play 112 = .ok (.iload 4, 2) := by decide +kernel
theorem dX3_play_114 : decode cX3_play 114 = .ok (.invokevirtual 87, 3) := by decide +kernel
theorem dX3_play_117 : decode cX3_play 117 = .ok (.goto 11, 3) := by decide +kernel
theorem dX3_play_120 : decode cX3_play 120 = .ok (.aload_n 0, 1) := by decide +kernel
theorem dX3_play_121 : decode cX3_play 121 = .ok (.aload_n 1, 1) := by decide +kernel
theorem dX3_play_122 : decode cX3_play 122 = .ok (.aload_n 2, 1) := by decide +kernel
theorem dX3_play_123 : decode cX3_play 123 = .ok (.iload 4, 2) := by decide +kernel
theorem dX3_play_125 : decode cX3_play 125 = .ok (.invokevirtual 90, 3) := by decide +kernel
theorem dX3_play_128 : decode cX3_play 128 = .ok (.iinc 3 1, 3) := by decide +kernel
theorem dX3_play_131 : decode cX3_play 131 = .ok (.goto (-77), 3) := by decide +kernel
theorem dX3_play_134 : decode cX3_play 134 = .ok (.return_, 1) := by decide +kernel
theorem dX3_awaitStart_0 : decode cX3_awaitStart 0 = .ok (.aload_n 0, 1) := by decide +kernel
theorem dX3_awaitStart_1 : decode cX3_awaitStart 1 = .ok (.getfield 45, 3) := by decide +kernel
theorem dX3_awaitStart_4 : decode cX3_awaitStart 4 = .ok (.iload_n 2, 1) := by decide +kernel
theorem dX3_awaitStart_5 : decode cX3_awaitStart 5 = .ok (.aload_n 1, 1) := by decide +kernel
theorem dX3_awaitStart_6 : decode cX3_awaitStart 6 = .ok (.iload_n 2, 1) := by decide +kernel
theorem dX3_awaitStart_7 : decode cX3_awaitStart 7 = .ok (.iload_n 3, 1) := by decide +kernel
theorem dX3_awaitStart_8 : decode cX3_awaitStart 8 = .ok (.invokevirtual 93, 3) := by decide +kernel
theorem dX3_awaitStart_11 : decode cX3_awaitStart 11 = .ok (.iastore, 1) := by decide +kernel
theorem dX3_awaitStart_12 : decode cX3_awaitStart 12 = .ok (.aload_n 0, 1) := by decide +kernel
theorem dX3_awaitStart_13 : decode cX3_awaitStart 13 = .ok (.getfield 42, 3) := by decide +kernel
theorem dX3_awaitStart_16 : decode cX3_awaitStart 16 = .ok (.iload_n 2, 1) := by decide +kernel
theorem dX3_awaitStart_17 : decode cX3_awaitStart 17 = .ok (.iload 4, 2) := by decide +kernel
theorem dX3_awaitStart_19 : decode cX3_awaitStart 19 = .ok (.iastore, 1) := by decide +kernel
theorem dX3_awaitStart_20 : decode cX3_awaitStart 20 = .ok (.aload_n 0, 1) := by decide +kernel
theorem dX3_awaitStart_21 : decode cX3_awaitStart 21 = .ok (.getfield 39, 3) := by decide +kernel
theorem dX3_awaitStart_24 : decode cX3_awaitStart 24 = .ok (.iload_n 2, 1) := by decide +kernel
theorem dX3_awaitStart_25 : decode cX3_awaitStart 25 = .ok (.aload_n 0, 1) := by decide +kernel
theorem dX3_awaitStart_26 : decode cX3_awaitStart 26 = .ok (.getfield 45, 3) := by decide +kernel
theorem dX3_awaitStart_29 : decode cX3_awaitStart 29 = .ok (.iload_n 2, 1) := by decide +kernel
theorem dX3_awaitStart_30 : decode cX3_awaitStart 30 = .ok (.iaload, 1) := by decide +kernel
theorem dX3_awaitStart_31 : decode cX3_awaitStart 31 = .ok (.ifCond .ge 7, 3) := by decide +kernel
theorem dX3_awaitStart_34 : decode cX3_awaitStart 34 = .ok (.iconst 0, 1) := by decide +kernel
theorem dX3_awaitStart_35 : decode cX3_awaitStart 35 = .ok (.goto 4, 3) := by decide +kernel
theorem dX3_awaitStart_38 : decode cX3_awaitStart 38 = .ok (.iconst 1, 1) := by decide +kernel
theorem dX3_awaitStart_39 : decode cX3_awaitStart 39 = .ok (.iastore, 1) := by decide +kernel
theorem dX3_awaitStart_40 : decode cX3_awaitStart 40 = .ok (.return_, 1) := by decide +kernel
theorem dX3_nextTrolley_0 : decode cX3_nextTrolley 0 = .ok (.iconst (-1), 1) := by decide +kernel
theorem dX3_nextTrolley_1 : decode cX3_nextTrolley 1 = .ok (.istore_n 2, 1) := by decide +kernel
theorem dX3_nextTrolley_2 : decode cX3_nextTrolley 2 = .ok (.iconst 0, 1) := by decide +kernel
theorem dX3_nextTrolley_3 : decode cX3_nextTrolley 3 = .ok (.istore_n 3, 1) := by decide +kernel
theorem dX3_nextTrolley_4 : decode cX3_nextTrolley 4 = .ok (.iconst 0, 1) := by decide +kernel
theorem dX3_nextTrolley_5 : decode cX3_nextTrolley 5 = .ok (.istore 4, 2) := by decide +kernel
theorem dX3_nextTrolley_7 : decode cX3_nextTrolley 7 = .ok (.iload 4, 2) := by decide +kernel
theorem dX3_nextTrolley_9 : decode cX3_nextTrolley 9 = .ok (.iload_n 1, 1) := by decide +kernel
theorem dX3_nextTrolley_10 : decode cX3_nextTrolley 10 = .ok (.if_icmp .ge 63, 3) := by decide +kernel
theorem dX3_nextTrolley_13 : decode cX3_nextTrolley 13 = .ok (.iconst 2, 1) := by decide +kernel
theorem dX3_nextTrolley_14 : decode cX3_nextTrolley 14 = .ok (.aload_n 0, 1) := by decide +kernel
theorem dX3_nextTrolley_15 : decode cX3_nextTrolley 15 = .ok (.getfield 42, 3) := by decide +kernel
theorem dX3_nextTrolley_18 : decode cX3_nextTrolley 18 = .ok (.iload 4, 2) := by decide +kernel
theorem dX3_nextTrolley_20 : decode cX3_nextTrolley 20 = .ok (.iaload, 1) := by decide +kernel
theorem dX3_nextTrolley_21 : decode cX3_nextTrolley 21 = .ok (.imul, 1) := by decide +kernel
theorem dX3_nextTrolley_22 : decode cX3_nextTrolley 22 = .ok (.aload_n 0, 1) := by decide +kernel
theorem dX3_nextTrolley_23 : decode cX3_nextTrolley 23 = .ok (.getfield 39, 3) := by decide +kernel
theorem dX3_nextTrolley_26 : decode cX3_nextTrolley 26 = .ok (.iload 4, 2) := by decide +kernel
theorem dX3_nextTrolley_28 : decode cX3_nextTrolley 28 = .ok (.iaload, 1) := by decide +kernel
theorem dX3_nextTrolley_29 : decode cX3_nextTrolley 29 = .ok (.iconst 3, 1) := by decide +kernel
theorem dX3_nextTrolley_30 : decode cX3_nextTrolley 30 = .ok (.if_icmp .ne 7, 3) := by decide +kernel
theorem dX3_nextTrolley_33 : decode cX3_nextTrolley 33 = .ok (.iconst 0, 1) := by decide +kernel
theorem dX3_nextTrolley_34 : decode cX3_nextTrolley 34 = .ok (.goto 4, 3) := by decide +kernel
theorem dX3_nextTrolley_37 : decode cX3_nextTrolley 37 = .ok (.iconst 1, 1) := by decide +kernel
theorem dX3_nextTrolley_38 : decode cX3_nextTrolley 38 = .ok (.iadd, 1) := by decide +kernel
theorem dX3_nextTrolley_39 : decode cX3_nextTrolley 39 = .ok (.istore 5, 2) := by decide +kernel
theorem dX3_nextTrolley_41 : decode cX3_nextTrolley 41 = .ok (.aload_n 0, 1) := by decide +kernel
theorem dX3_nextTrolley_42 : decode cX3_nextTrolley 42 = .ok (.getfield 39, 3) := by decide +kernel
theorem dX3_nextTrolley_45 : decode cX3_nextTrolley 45 = .ok (.iload 4, 2) := by decide +kernel
theorem dX3_nextTrolley_47 : decode cX3_nextTrolley 47 = .ok (.iaload, 1) := by decide +kernel
theorem dX3_nextTrolley_48 : decode cX3_nextTrolley 48 = .ok (.ifCond .eq 19, 3) := by decide +kernel
theorem dX3_nextTrolley_51 : decode cX3_nextTrolley 51 = .ok (.iload_n 2, 1) := by decide +kernel
theorem dX3_nextTrolley_52 : decode cX3_nextTrolley 52 = .ok (.ifCond .lt 9, 3) := by decide +kernel
theorem dX3_nextTrolley_55 : decode cX3_nextTrolley 55 = .ok (.iload 5, 2) := by decide +kernel
theorem dX3_nextTrolley_57 : decode cX3_nextTrolley 57 = .ok (.iload_n 3, 1) := by decide +kernel
theorem dX3_nextTrolley_58 : decode cX3_nextTrolley 58 = .ok (.if_icmp .ge 9, 3) := by decide +kernel
theorem dX3_nextTrolley_61 : decode cX3_nextTrolley 61 = .ok (.iload 4, 2) := by decide +kernel
theorem dX3_nextTrolley_63 : decode cX3_nextTrolley 63 = .ok (.istore_n 2, 1) := by decide +kernel
theorem dX3_nextTrolley_64 : decode cX3_nextTrolley 64 = .ok (.iload 5, 2) := by decide +kernel
theorem dX3_nextTrolley_66 : decode cX3_nextTrolley 66 = .ok (.istore_n 3, 1) := by decide +kernel
theorem dX3_nextTrolley_67 : decode cX3_nextTrolley 67 = .ok (.iinc 4 1, 3) := by decide +kernel
theorem dX3_nextTrolley_70 : decode cX3_nextTrolley 70 = .ok (.goto (-63), 3) := by decide +kernel
theorem dX3_nextTrolley_73 : decode cX3_nextTrolley 73 = .ok (.iload_n 2, 1) := by decide +kernel
theorem dX3_nextTrolley_74 : decode cX3_nextTrolley 74 = .ok (.ireturn, 1) := by decide +kernel
theorem dX3_startJob_0 : decode cX3_startJob 0 = .ok (.aload_n 0, 1) := by decide +kernel
theorem dX3_startJob_1 : decode cX3_startJob 1 = .ok (.getfield 45, 3) := by decide +kernel
theorem dX3_startJob_4 : decode cX3_startJob 4 = .ok (.iload_n 3, 1) := by decide +kernel
theorem dX3_startJob_5 : decode cX3_startJob 5 = .ok (.iaload, 1) := by decide +kernel
theorem dX3_startJob_6 : decode cX3_startJob 6 = .ok (.istore 4, 2) := by decide +kernel
theorem dX3_startJob_8 : decode cX3_startJob 8 = .ok (.aload_n 1, 1) := by decide +kernel
theorem dX3_startJob_9 : decode cX3_startJob 9 = .ok (.getfield 97, 3) := by decide +kernel
theorem dX3_startJob_12 : decode cX3_startJob 12 = .ok (.iload_n 3, 1) := by decide +kernel
theorem dX3_startJob_13 : decode cX3_startJob 13 = .ok (.iaload, 1) := by decide +kernel
theorem dX3_startJob_14 : decode cX3_startJob 14 = .ok (.aload_n 2, 1) := by decide +kernel
theorem dX3_startJob_15 : decode cX3_startJob 15 = .ok (.getfield 100, 3) := by decide +kernel
theorem dX3_startJob_18 : decode cX3_startJob 18 = .ok (.iload 4, 2) := by decide +kernel
theorem dX3_startJob_20 : decode cX3_startJob 20 = .ok (.iaload, 1) := by decide +kernel
theorem dX3_startJob_21 : decode cX3_startJob 21 = .ok (.invokestatic 103, 3) := by decide +kernel
theorem dX3_startJob_24 : decode cX3_startJob 24 = .ok (.istore 5, 2) := by decide +kernel
theorem dX3_startJob_26 : decode cX3_startJob 26 = .ok (.aload_n 1, 1) := by decide +kernel
theorem dX3_startJob_27 : decode cX3_startJob 27 = .ok (.iload_n 3, 1) := by decide +kernel
theorem dX3_startJob_28 : decode cX3_startJob 28 = .ok (.aload_n 2, 1) := by decide +kernel
theorem dX3_startJob_29 : decode cX3_startJob 29 = .ok (.getfield 106, 3) := by decide +kernel
theorem dX3_startJob_32 : decode cX3_startJob 32 = .ok (.iload 4, 2) := by decide +kernel
theorem dX3_startJob_34 : decode cX3_startJob 34 = .ok (.iaload, 1) := by decide +kernel
theorem dX3_startJob_35 : decode cX3_startJob 35 = .ok (.invokevirtual 109, 3) := by decide +kernel
theorem dX3_startJob_38 : decode cX3_startJob 38 = .ok (.aload_n 0, 1) := by decide +kernel
theorem dX3_startJob_39 : decode cX3_startJob 39 = .ok (.getfield 36, 3) := by decide +kernel
theorem dX3_startJob_42 : decode cX3_startJob 42 = .ok (.iload 5, 2) := by decide +kernel
theorem dX3_startJob_44 : decode cX3_startJob 44 = .ok (.iaload, 1) := by decide +kernel
theorem dX3_startJob_45 : decode cX3_startJob 45 = .ok (.invokestatic 112, 3) := by decide +kernel
theorem dX3_startJob_48 : decode cX3_startJob 48 = .ok (.istore 6, 2) := by decide +kernel
theorem dX3_startJob_50 : decode cX3_startJob 50 = .ok (.aload_n 0, 1) := by decide +kernel
theorem dX3_startJob_51 : decode cX3_startJob 51 = .ok (.getfield 9, 3) := by decide +kernel
theorem dX3_startJob_54 : decode cX3_startJob 54 = .ok (.iload 4, 2) := by decide +kernel
theorem dX3_startJob_56 : decode cX3_startJob 56 = .ok (.aload_n 0, 1) := by decide +kernel
theorem dX3_startJob_57 : decode cX3_startJob 57 = .ok (.getfield 42, 3) := by decide +kernel
theorem dX3_startJob_60 : decode cX3_startJob 60 = .ok (.iload_n 3, 1) := by decide +kernel
theorem dX3_startJob_61 : decode cX3_startJob 61 = .ok (.iaload, 1) := by decide +kernel
theorem dX3_startJob_62 : decode cX3_startJob 62 = .ok (.iastore, 1) := by decide +kernel
theorem dX3_startJob_63 : decode cX3_startJob 63 = .ok (.aload_n 0, 1) := by decide +kernel
theorem dX3_startJob_64 : decode cX3_startJob 64 = .ok (.getfield 15, 3) := by decide +kernel
theorem dX3_startJob_67 : decode cX3_startJob 67 = .ok (.iload 4, 2) := by decide +kernel
theorem dX3_startJob_69 : decode cX3_startJob 69 = .ok (.iload 6, 2) := by decide +kernel
theorem dX3_startJob_71 : decode cX3_startJob 71 = .ok (.iastore, 1) := by decide +kernel
theorem dX3_startJob_72 : decode cX3_startJob 72 = .ok (.aload_n 0, 1) := by decide +kernel
theorem dX3_startJob_73 : decode cX3_startJob 73 = .ok (.getfield 36, 3) := by decide +kernel
theorem dX3_startJob_76 : decode cX3_startJob 76 = .ok (.iload 5, 2) := by decide +kernel
theorem dX3_startJob_78 : decode cX3_startJob 78 = .ok (.dup2, 1) := by decide +kernel
theorem dX3_startJob_79 : decode cX3_startJob 79 = .ok (.iaload, 1) := by decide +kernel
theorem dX3_startJob_80 : decode cX3_startJob 80 = .ok (.iload 6, 2) := by decide +kernel
theorem dX3_startJob_82 : decode cX3_startJob 82 = .ok (.isub, 1) := by decide +kernel
theorem dX3_startJob_83 : decode cX3_startJob 83 = .ok (.iastore, 1) := by decide +kernel
theorem dX3_startJob_84 : decode cX3_startJob 84 = .ok (.aload_n 0, 1) := by decide +kernel
theorem dX3_startJob_85 : decode cX3_startJob 85 = .ok (.getfield 18, 3) := by decide +kernel
theorem dX3_startJob_88 : decode cX3_startJob 88 = .ok (.iload 4, 2) := by decide +kernel
theorem dX3_startJob_90 : decode cX3_startJob 90 = .ok (.aload_n 0, 1) := by decide +kernel
theorem dX3_startJob_91 : decode cX3_startJob 91 = .ok (.getfield 9, 3) := by decide +kernel
theorem dX3_startJob_94 : decode cX3_startJob 94 = .ok (.iload 4, 2) := by decide +kernel
theorem dX3_startJob_96 : decode cX3_startJob 96 = .ok (.iaload, 1) := by decide +kernel
theorem dX3_startJob_97 : decode cX3_startJob 97 = .ok (.iload 6, 2) := by decide +kernel
theorem dX3_startJob_99 : decode cX3_startJob 99 = .ok (.aload_n 1, 1) := by decide +kernel
theorem dX3_startJob_100 : decode cX3_startJob 100 = .ok (.getfield 117, 3) := by decide +kernel
theorem dX3_startJob_103 : decode cX3_startJob 103 = .ok (.iload_n 3, 1) := by decide +kernel
theorem dX3_startJob_104 : decode cX3_startJob 104 = .ok (.iaload, 1) := by decide +kernel
theorem dX3_startJob_105 : decode cX3_startJob 105 = .ok (.imul, 1) := by decide +kernel
theorem dX3_startJob_106 : decode cX3_startJob 106 = .ok (.iadd, 1) := by decide +kernel
theorem dX3_startJob_107 : decode cX3_startJob 107 = .ok (.iastore, 1) := by decide +kernel
theorem dX3_startJob_108 : decode cX3_startJob 108 = .ok (.iload 6, 2) := by decide +kernel
theorem dX3_startJob_110 : decode cX3_startJob 110 = .ok (.ifCond .ne 48, 3) := by decide +kernel
theorem dX3_startJob_113 : decode cX3_startJob 113 = .ok (.aload_n 0, 1) := by decide +kernel
theorem dX3_startJob_114 : decode cX3_startJob 114 = .ok (.iload 4, 2) := by decide +kernel
theorem dX3_startJob_116 : decode cX3_startJob 116 = .ok (.aload_n 0, 1) := by decide +kernel
theorem dX3_startJob_117 : decode cX3_startJob 117 = .ok (.getfield 9, 3) := by decide +kernel
theorem dX3_startJob_120 : decode cX3_startJob 120 = .ok (.iload 4, 2) := by decide +kernel
theorem dX3_startJob_122 : decode cX3_startJob 122 = .ok (.iaload, 1) := by decide +kernel
theorem dX3_startJob_123 : decode cX3_startJob 123 = .ok (.invokevirtual 120, 3) := by decide +kernel
theorem dX3_startJob_126 : decode cX3_startJob 126 = .ok (.aload_n 0, 1) := by decide +kernel
theorem dX3_startJob_127 : decode cX3_startJob 127 = .ok (.getfield 33, 3) := by decide +kernel
theorem dX3_startJob_130 : decode cX3_startJob 130 = .ok (.iload 4, 2) := by decide +kernel
theorem dX3_startJob_132 : decode cX3_startJob 132 = .ok (.aload_n 0, 1) := by decide +kernel
theorem dX3_startJob_133 : decode cX3_startJob 133 = .ok (.getfield 9, 3) := by decide +kernel
theorem dX3_startJob_136 : decode cX3_startJob 136 = .ok (.iload 4, 2) := by decide +kernel
theorem dX3_startJob_138 : decode cX3_startJob 138 = .ok (.iaload, 1) := by decide +kernel
theorem dX3_startJob_139 : decode cX3_startJob 139 = .ok (.iastore, 1) := by decide +kernel
theorem dX3_startJob_140 : decode cX3_startJob 140 = .ok (.aload_n 0, 1) := by decide +kernel
theorem dX3_startJob_141 : decode cX3_startJob 141 = .ok (.aload_n 2, 1) := by decide +kernel
theorem dX3_startJob_142 : decode cX3_startJob 142 = .ok (.iload_n 3, 1) := by decide +kernel
theorem dX3_startJob_143 : decode cX3_startJob 143 = .ok (.iload 4, 2) := by decide +kernel
theorem dX3_startJob_145 : decode cX3_startJob 145 = .ok (.iconst 1, 1) := by decide +kernel
theorem dX3_startJob_146 : decode cX3_startJob 146 = .ok (.iadd, 1) := by decide +kernel
theorem dX3_startJob_147 : decode cX3_startJob 147 = .ok (.aload_n 0, 1) := by decide +kernel
theorem dX3_startJob_148 : decode cX3_startJob 148 = .ok (.getfield 9, 3) := by decide +kernel
theorem dX3_startJob_151 : decode cX3_startJob 151 = .ok (.iload 4, 2) := by decide +kernel
theorem dX3_startJob_153 : decode cX3_startJob 153 = .ok (.iaload, 1) := by decide +kernel
theorem dX3_startJob_154 : decode cX3_startJob 154 = .ok (.invokevirtual 75, 3) := by decide +kernel
theorem dX3_startJob_157 : decode cX3_startJob 157 = .ok (.return_, 1) := by decide +kernel
theorem dX3_startJob_158 : decode cX3_startJob 158 = .ok (.aload_n 0, 1) := by decide +kernel
theorem dX3_startJob_159 : decode cX3_startJob 159 = .ok (.getfield 42, 3) := by decide +kernel
theorem dX3_startJob_162 : decode cX3_startJob 162 = .ok (.iload_n 3, 1) := by decide +kernel
theorem dX3_startJob_163 : decode cX3_startJob 163 = .ok (.aload_n 0, 1) := by decide +kernel
theorem dX3_startJob_164 : decode cX3_startJob 164 = .ok (.getfield 18, 3) := by decide +kernel
theorem dX3_startJob_167 : decode cX3_startJob 167 = .ok (.iload 4, 2) := by decide +kernel
theorem dX3_startJob_169 : decode cX3_startJob 169 = .ok (.iaload, 1) := by decide +kernel
theorem dX3_startJob_170 : decode cX3_startJob 170 = .ok (.aload_n 1, 1) := by decide +kernel
theorem dX3_startJob_171 : decode cX3_startJob 171 = .ok (.iload_n 3, 1) := by decide +kernel
theorem dX3_startJob_172 : decode cX3_startJob 172 = .ok (.aload_n 2, 1) := by decide +kernel
theorem dX3_startJob_173 : decode cX3_startJob 173 = .ok (.getfield 124, 3) := by decide +kernel
theorem dX3_startJob_176 : decode cX3_startJob 176 = .ok (.iload 4, 2) := by decide +kernel
theorem dX3_startJob_178 : decode cX3_startJob 178 = .ok (.iaload, 1) := by decide +kernel
theorem dX3_startJob_179 : decode cX3_startJob 179 = .ok (.aload_n 1, 1) := by decide +kernel
theorem dX3_startJob_180 : decode cX3_startJob 180 = .ok (.getfield 127, 3) := by decide +kernel
theorem dX3_startJob_183 : decode cX3_startJob 183 = .ok (.iload_n 3, 1) := by decide +kernel
theorem dX3_startJob_184 : decode cX3_startJob 184 = .ok (.iaload, 1) := by decide +kernel
theorem dX3_startJob_185 : decode cX3_startJob 185 = .ok (.invokevirtual 130, 3) := by decide +kernel
theorem dX3_startJob_188 : decode cX3_startJob 188 = .ok (.iadd, 1) := by decide +kernel
theorem dX3_startJob_189 : decode cX3_startJob 189 = .ok (.iastore, 1) := by decide +kernel
theorem dX3_startJob_190 : decode cX3_startJob 190 = .ok (.aload_n 0, 1) := by decide +kernel
theorem dX3_startJob_191 : decode cX3_startJob 191 = .ok (.getfield 39, 3) := by decide +kernel
theorem dX3_startJob_194 : decode cX3_startJob 194 = .ok (.iload_n 3, 1) := by decide +kernel
theorem dX3_startJob_195 : decode cX3_startJob 195 = .ok (.iconst 2, 1) := by decide +kernel
theorem dX3_startJob_196 : decode cX3_startJob 196 = .ok (.iastore, 1) := by decide +kernel
theorem dX3_startJob_197 : decode cX3_startJob 197 = .ok (.return_, 1) := by decide +kernel
theorem dX3_setNoUnloading_0 : decode cX3_setNoUnloading 0 = .ok (.aload_n 0, 1) := by decide +kernel
theorem dX3_setNoUnloading_1 : decode cX3_setNoUnloading 1 = .ok (.getfield 21, 3) := by decide +kernel
theorem dX3_setNoUnloading_4 : decode cX3_setNoUnloading 4 = .ok (.iload_n 1, 1) := by decide +kernel
theorem dX3_setNoUnloading_5 : decode cX3_setNoUnloading 5 = .ok (.iload_n 2, 1) := by decide +kernel
theorem dX3_setNoUnloading_6 : decode cX3_setNoUnloading 6 = .ok (.iastore, 1) := by decide +kernel
theorem dX3_setNoUnloading_7 : decode cX3_setNoUnloading 7 = .ok (.aload_n 0, 1) := by decide +kernel
theorem dX3_setNoUnloading_8 : decode cX3_setNoUnloading 8 = .ok (.getfield 24, 3) := by decide +kernel
theorem dX3_setNoUnloading_11 : decode cX3_setNoUnloading 11 = .ok (.iload_n 1, 1) := by decide +kernel
theorem dX3_setNoUnloading_12 : decode cX3_setNoUnloading 12 = .ok (.iload_n 2, 1) := by decide +kernel
theorem dX3_setNoUnloading_13 : decode cX3_setNoUnloading 13 = .ok (.iastore, 1) := by decide +kernel
theorem dX3_setNoUnloading_14 : decode cX3_setNoUnloading 14 = .ok (.aload_n 0, 1) := by decide +kernel
theorem dX3_setNoUnloading_15 : decode cX3_setNoUnloading 15 = .ok (.getfield 27, 3) := by decide +kernel
theorem dX3_setNoUnloading_18 : decode cX3_setNoUnloading 18 = .ok (.iload_n 1, 1) := by decide +kernel
theorem dX3_setNoUnloading_19 : decode cX3_setNoUnloading 19 = .ok (.iload_n 2, 1) := by decide +kernel
theorem dX3_setNoUnloading_20 : decode cX3_setNoUnloading 20 = .ok (.iastore, 1) := by decide +kernel
theorem dX3_setNoUnloading_21 : decode cX3_setNoUnloading 21 = .ok (.aload_n 0, 1) := by decide +kernel
theorem dX3_setNoUnloading_22 : decode cX3_setNoUnloading 22 = .ok (.getfield 30, 3) := by decide +kernel
theorem dX3_setNoUnloading_25 : decode cX3_setNoUnloading 25 = .ok (.iload_n 1, 1) := by decide +kernel
theorem dX3_setNoUnloading_26 : decode cX3_setNoUnloading 26 = .ok (.iconst 0, 1) := by decide +kernel
theorem dX3_setNoUnloading_27 : decode cX3_setNoUnloading 27 = .ok (.iastore, 1) := by decide +kernel
theorem dX3_setNoUnloading_28 : decode cX3_setNoUnloading 28 = .ok (.return_, 1) := by decide +kernel
theorem dX3_reachDoor_0 : decode cX3_reachDoor 0 = .ok (.aload_n 0, 1) := by decide +kernel
theorem dX3_reachDoor_1 : decode cX3_reachDoor 1 = .ok (.getfield 45, 3) := by decide +kernel
theorem dX3_reachDoor_4 : decode cX3_reachDoor 4 = .ok (.iload_n 3, 1) := by decide +kernel
theorem dX3_reachDoor_5 : decode cX3_reachDoor 5 = .ok (.iaload, 1) := by decide +kernel
theorem dX3_reachDoor_6 : decode cX3_reachDoor 6 = .ok (.istore 4, 2) := by decide +kernel
theorem dX3_reachDoor_8 : decode cX3_reachDoor 8 = .ok (.aload_n 0, 1) := by decide +kernel
theorem dX3_reachDoor_9 : decode cX3_reachDoor 9 = .ok (.iload 4, 2) := by decide +kernel
theorem dX3_reachDoor_11 : decode cX3_reachDoor 11 = .ok (.aload_n 0, 1) := by decide +kernel
theorem dX3_reachDoor_12 : decode cX3_reachDoor 12 = .ok (.getfield 42, 3) := by decide +kernel
theorem dX3_reachDoor_15 : decode cX3_reachDoor 15 = .ok (.iload_n 3, 1) := by decide +kernel
theorem dX3_reachDoor_16 : decode cX3_reachDoor 16 = .ok (.iaload, 1) := by decide +kernel
theorem dX3_reachDoor_17 : decode cX3_reachDoor 17 = .ok (.invokevirtual 120, 3) := by decide +kernel
theorem dX3_reachDoor_20 : decode cX3_reachDoor 20 = .ok (.aload_n 0, 1) := by decide +kernel
theorem dX3_reachDoor_21 : decode cX3_reachDoor 21 = .ok (.aload_n 1, 1) := by decide +kernel
theorem dX3_reachDoor_22 : decode cX3_reachDoor 22 = .ok (.aload_n 2, 1) := by decide +kernel
theorem dX3_reachDoor_23 : decode cX3_reachDoor 23 = .ok (.iload_n 3, 1) := by decide +kernel
theorem dX3_reachDoor_24 : decode cX3_reachDoor 24 = .ok (.invokevirtual 134, 3) := by decide +kernel
theorem dX3_reachDoor_27 : decode cX3_reachDoor 27 = .ok (.aload_n 0, 1) := by decide +kernel
theorem dX3_reachDoor_28 : decode cX3_reachDoor 28 = .ok (.getfield 33, 3) := by decide +kernel
theorem dX3_reachDoor_31 : decode cX3_reachDoor 31 = .ok (.iload 4, 2) := by decide +kernel
theorem dX3_reachDoor_33 : decode cX3_reachDoor 33 = .ok (.aload_n 0, 1) := by decide +kernel
theorem dX3_reachDoor_34 : decode cX3_reachDoor 34 = .ok (.getfield 27, 3) := by decide +kernel
theorem dX3_reachDoor_37 : decode cX3_reachDoor 37 = .ok (.iload 4, 2) := by decide +kernel
theorem dX3_reachDoor_39 : decode cX3_reachDoor 39 = .ok (.iaload, 1) := by decide +kernel
theorem dX3_reachDoor_40 : decode cX3_reachDoor 40 = .ok (.aload_n 1, 1) := by decide +kernel
theorem dX3_reachDoor_41 : decode cX3_reachDoor 41 = .ok (.iload_n 3, 1) := by decide +kernel
theorem dX3_reachDoor_42 : decode cX3_reachDoor 42 = .ok (.aload_n 2, 1) := by decide +kernel
theorem dX3_reachDoor_43 : decode cX3_reachDoor 43 = .ok (.getfield 124, 3) := by decide +kernel
theorem dX3_reachDoor_46 : decode cX3_reachDoor 46 = .ok (.iload 4, 2) := by decide +kernel
theorem dX3_reachDoor_48 : decode cX3_reachDoor 48 = .ok (.iaload, 1) := by decide +kernel
theorem dX3_reachDoor_49 : decode cX3_reachDoor 49 = .ok (.aload_n 1, 1) := by decide +kernel
theorem dX3_reachDoor_50 : decode cX3_reachDoor 50 = .ok (.getfield 127, 3) := by decide +kernel
theorem dX3_reachDoor_53 : decode cX3_reachDoor 53 = .ok (.iload_n 3, 1) := by decide +kernel
theorem dX3_reachDoor_54 : decode cX3_reachDoor 54 = .ok (.iaload, 1) := by decide +kernel
theorem dX3_reachDoor_55 : decode cX3_reachDoor 55 = .ok (.invokevirtual 130, 3) := by decide +kernel
theorem dX3_reachDoor_58 : decode cX3_reachDoor 58 = .ok (.iadd, 1) := by decide +kernel
theorem dX3_reachDoor_59 : decode cX3_reachDoor 59 = .ok (.iastore, 1) := by decide +kernel
theorem dX3_reachDoor_60 : decode cX3_reachDoor 60 = .ok (.aload_n 0, 1) := by decide +kernel
theorem dX3_reachDoor_61 : decode cX3_reachDoor 61 = .ok (.getfield 42, 3) := by decide +kernel
theorem dX3_reachDoor_64 : decode cX3_reachDoor 64 = .ok (.iload_n 3, 1) := by decide +kernel
theorem dX3_reachDoor_65 : decode cX3_reachDoor 65 = .ok (.aload_n 0, 1) := by decide +kernel
theorem dX3_reachDoor_66 : decode cX3_reachDoor 66 = .ok (.getfield 33, 3) := by decide +kernel
theorem dX3_reachDoor_69 : decode cX3_reachDoor 69 = .ok (.iload 4, 2) := by decide +kernel
theorem dX3_reachDoor_71 : decode cX3_reachDoor 71 = .ok (.iaload, 1) := by decide +kernel
theorem dX3_reachDoor_72 : decode cX3_reachDoor 72 = .ok (.iastore, 1) := by decide +kernel
theorem dX3_reachDoor_73 : decode cX3_reachDoor 73 = .ok (.aload_n 0, 1) := by decide +kernel
theorem dX3_reachDoor_74 : decode cX3_reachDoor 74 = .ok (.getfield 39, 3) := by decide +kernel
theorem dX3_reachDoor_77 : decode cX3_reachDoor 77 = .ok (.iload_n 3, 1) := by decide +kernel
theorem dX3_reachDoor_78 : decode cX3_reachDoor 78 = .ok (.iconst 3, 1) := by decide +kernel
theorem dX3_reachDoor_79 : decode cX3_reachDoor 79 = .ok (.iastore, 1) := by decide +kernel
theorem dX3_reachDoor_80 : decode cX3_reachDoor 80 = .ok (.return_, 1) := by decide +kernel
theorem dX3_unload_0 : decode cX3_unload 0 = .ok (.aload_n 0, 1) := by decide +kernel
theorem dX3_unload_1 : decode cX3_unload 1 = .ok (.getfield 45, 3) := by decide +kernel
theorem dX3_unload_4 : decode cX3_unload 4 = .ok (.iload_n 3, 1) := by decide +kernel
theorem dX3_unload_5 : decode cX3_unload 5 = .ok (.iaload, 1) := by decide +kernel
theorem dX3_unload_6 : decode cX3_unload 6 = .ok (.istore 4, 2) := by decide +kernel
theorem dX3_unload_8 : decode cX3_unload 8 = .ok (.aload_n 2, 1) := by decide +kernel
theorem dX3_unload_9 : decode cX3_unload 9 = .ok (.getfield 124, 3) := by decide +kernel
theorem dX3_unload_12 : decode cX3_unload 12 = .ok (.iload 4, 2) := by decide +kernel
theorem dX3_unload_14 : decode cX3_unload 14 = .ok (.iaload, 1) := by decide +kernel
theorem dX3_unload_15 : decode cX3_unload 15 = .ok (.istore 5, 2) := by decide +kernel
theorem dX3_unload_17 : decode cX3_unload 17 = .ok (.iload 5, 2) := by decide +kernel
theorem dX3_unload_19 : decode cX3_unload 19 = .ok (.iconst 5, 1) := by decide +kernel
theorem dX3_unload_20 : decode cX3_unload 20 = .ok (.if_icmp .ge 7, 3) := by decide +kernel
theorem dX3_unload_23 : decode cX3_unload 23 = .ok (.iconst 0, 1) := by decide +kernel
theorem dX3_unload_24 : decode cX3_unload 24 = .ok (.goto 4, 3) := by decide +kernel
theorem dX3_unload_27 : decode cX3_unload 27 = .ok (.iconst 1, 1) := by decide +kernel
theorem dX3_unload_28 : decode cX3_unload 28 = .ok (.istore 6, 2) := by decide +kernel
theorem dX3_unload_30 : decode cX3_unload 30 = .ok (.aload_n 1, 1) := by decide +kernel
theorem dX3_unload_31 : decode cX3_unload 31 = .ok (.getfield 137, 3) := by decide +kernel
theorem dX3_unload_34 : decode cX3_unload 34 = .ok (.iload_n 3, 1) := by decide +kernel
theorem dX3_unload_35 : decode cX3_unload 35 = .ok (.iaload, 1) := by decide +kernel
theorem dX3_unload_36 : decode cX3_unload 36 = .ok (.istore 7, 2) := by decide +kernel
theorem dX3_unload_38 : decode cX3_unload 38 = .ok (.aload_n 0, 1) := by decide +kernel
theorem dX3_unload_39 : decode cX3_unload 39 = .ok (.getfield 21, 3) := by decide +kernel
theorem dX3_unload_42 : decode cX3_unload 42 = .ok (.iload 4, 2) := by decide +kernel
theorem dX3_unload_44 : decode cX3_unload 44 = .ok (.iaload, 1) := by decide +kernel
theorem dX3_unload_45 : decode cX3_unload 45 = .ok (.aload_n 1, 1) := by decide +kernel
theorem dX3_unload_46 : decode cX3_unload 46 = .ok (.getfield 140, 3) := by decide +kernel
theorem dX3_unload_49 : decode cX3_unload 49 = .ok (.iload 6, 2) := by decide +kernel
theorem dX3_unload_51 : decode cX3_unload 51 = .ok (.iaload, 1) := by decide +kernel
theorem dX3_unload_52 : decode cX3_unload 52 = .ok (.aload_n 0, 1) := by decide +kernel
theorem dX3_unload_53 : decode cX3_unload 53 = .ok (.getfield 48, 3) := by decide +kernel
theorem dX3_unload_56 : decode cX3_unload 56 = .ok (.iload 5, 2) := by decide +kernel
theorem dX3_unload_58 : decode cX3_unload 58 = .ok (.iaload, 1) := by decide +kernel
theorem dX3_unload_59 : decode cX3_unload 59 = .ok (.invokestatic 143, 3) := by decide +kernel
theorem dX3_unload_62 : decode cX3_unload 62 = .ok (.invokestatic 143, 3) := by decide +kernel
theorem dX3_unload_65 : decode cX3_unload 65 = .ok (.istore 8, 2) := by decide +kernel
theorem dX3_unload_67 : decode cX3_unload 67 = .ok (.iconst 0, 1) := by decide +kernel
theorem dX3_unload_68 : decode cX3_unload 68 = .ok (.aload_n 2, 1) := by decide +kernel
theorem dX3_unload_69 : decode cX3_unload 69 = .ok (.getfield 146, 3) := by decide +kernel
theorem dX3_unload_72 : decode cX3_unload 72 = .ok (.iload 6, 2) := by decide +kernel
theorem dX3_unload_74 : decode cX3_unload 74 = .ok (.iaload, 1) := by decide +kernel
theorem dX3_unload_75 : decode cX3_unload 75 = .ok (.iload 8, 2) := by decide +kernel
theorem dX3_unload_77 : decode cX3_unload 77 = .ok (.isub, 1) := by decide +kernel
theorem dX3_unload_78 : decode cX3_unload 78 = .ok (.invokestatic 143, 3) := by decide +kernel
theorem dX3_unload_81 : decode cX3_unload 81 = .ok (.istore 9, 2) := by decide +kernel
theorem dX3_unload_83 : decode cX3_unload 83 = .ok (.aload_n 0, 1) := by decide +kernel
theorem dX3_unload_84 : decode cX3_unload 84 = .ok (.getfield 15, 3) := by decide +kernel
theorem dX3_unload_87 : decode cX3_unload 87 = .ok (.iload 4, 2) := by decide +kernel
theorem dX3_unload_89 : decode cX3_unload 89 = .ok (.iaload, 1) := by decide +kernel
theorem dX3_unload_90 : decode cX3_unload 90 = .ok (.iload 9, 2) := by decide +kernel
theorem dX3_unload_92 : decode cX3_unload 92 = .ok (.iload 7, 2) := by decide +kernel
theorem dX3_unload_94 : decode cX3_unload 94 = .ok (.invokestatic 149, 3) := by decide +kernel
theorem dX3_unload_97 : decode cX3_unload 97 = .ok (.invokestatic 112, 3) := by decide +kernel
theorem dX3_unload_100 : decode cX3_unload 100 = .ok (.istore 10, 2) := by decide +kernel
theorem dX3_unload_102 : decode cX3_unload 102 = .ok (.iload 10, 2) := by decide +kernel
theorem dX3_unload_104 : decode cX3_unload 104 = .ok (.ifCond .ne 4, 3) := by decide +kernel
theorem dX3_unload_107 : decode cX3_unload 107 = .ok (.return_, 1) := by decide +kernel
theorem dX3_unload_108 : decode cX3_unload 108 = .ok (.aload_n 0, 1) := by decide +kernel
theorem dX3_unload_109 : decode cX3_unload 109 = .ok (.getfield 24, 3) := by decide +kernel
theorem dX3_unload_112 : decode cX3_unload 112 = .ok (.iload 4, 2) := by decide +kernel
theorem dX3_unload_114 : decode cX3_unload 114 = .ok (.iload 8, 2) := by decide +kernel
theorem dX3_unload_116 : decode cX3_unload 116 = .ok (.iastore, 1) := by decide +kernel
theorem dX3_unload_117 : decode cX3_unload 117 = .ok (.aload_n 0, 1) := by decide +kernel
theorem dX3_unload_118 : decode cX3_unload 118 = .ok (.getfield 27, 3) := by decide +kernel
theorem dX3_unload_121 : decode cX3_unload 121 = .ok (.iload 4, 2) := by decide +kernel
theorem dX3_unload_123 : decode cX3_unload 123 = .ok (.iload 8, 2) := by decide +kernel
theorem dX3_unload_125 : decode cX3_unload 125 = .ok (.iload 10, 2) := by decide +kernel
theorem dX3_unload_127 : decode cX3_unload 127 = .ok (.iload 7, 2) := by decide +kernel
theorem dX3_unload_129 : decode cX3_unload 129 = .ok (.imul, 1) := by decide +kernel
theorem dX3_unload_130 : decode cX3_unload 130 = .ok (.iadd, 1) := by decide +kernel
theorem dX3_unload_131 : decode cX3_unload 131 = .ok (.iastore, 1) := by decide +kernel
theorem dX3_unload_132 : decode cX3_unload 132 = .ok (.aload_n 0, 1) := by decide +kernel
theorem dX3_unload_133 : decode cX3_unload 133 = .ok (.getfield 30, 3) := by decide +kernel
theorem dX3_unload_136 : decode cX3_unload 136 = .ok (.iload 4, 2) := by decide +kernel
theorem dX3_unload_138 : decode cX3_unload 138 = .ok (.iload 10, 2) := by decide +kernel
theorem dX3_unload_140 : decode cX3_unload 140 = .ok (.iastore, 1) := by decide +kernel
theorem dX3_unload_141 : decode cX3_unload 141 = .ok (.aload_n 0, 1) := by decide +kernel
theorem dX3_unload_142 : decode cX3_unload 142 = .ok (.getfield 48, 3) := by decide +kernel
theorem dX3_unload_145 : decode cX3_unload 145 = .ok (.iload 5, 2) := by decide +kernel
theorem dX3_unload_147 : decode cX3_unload 147 = .ok (.aload_n 0, 1) := by decide +kernel
theorem dX3_unload_148 : decode cX3_unload 148 = .ok (.getfield 27, 3) := by decide +kernel
theorem dX3_unload_151 : decode cX3_unload 151 = .ok (.iload 4, 2) := by decide +kernel
theorem dX3_unload_153 : decode cX3_unload 153 = .ok (.iaload, 1) := by decide +kernel
theorem dX3_unload_154 : decode cX3_unload 154 = .ok (.iastore, 1) := by decide +kernel
theorem dX3_unload_155 : decode cX3_unload 155 = .ok (.aload_n 0, 1) := by decide +kernel
theorem dX3_unload_156 : decode cX3_unload 156 = .ok (.dup, 1) := by decide +kernel
theorem dX3_unload_157 : decode cX3_unload 157 = .ok (.getfield 66, 3) := by decide +kernel
theorem dX3_unload_160 : decode cX3_unload 160 = .ok (.iload 10, 2) := by decide +kernel
theorem dX3_unload_162 : decode cX3_unload 162 = .ok (.iadd, 1) := by decide +kernel
theorem dX3_unload_163 : decode cX3_unload 163 = .ok (.putfield 66, 3) := by decide +kernel
theorem dX3_unload_166 : decode cX3_unload 166 = .ok (.return_, 1) := by decide +kernel
theorem dX3_bringBack_0 : decode cX3_bringBack 0 = .ok (.aload_n 0, 1) := by decide +kernel
theorem dX3_bringBack_1 : decode cX3_bringBack 1 = .ok (.getfield 45, 3) := by decide +kernel
theorem dX3_bringBack_4 : decode cX3_bringBack 4 = .ok (.iload_n 3, 1) := by decide +kernel
theorem dX3_bringBack_5 : decode cX3_bringBack 5 = .ok (.iaload, 1) := by decide +kernel
theorem dX3_bringBack_6 : decode cX3_bringBack 6 = .ok (.istore 4, 2) := by decide +kernel
theorem dX3_bringBack_8 : decode cX3_bringBack 8 = .ok (.aload_n 0, 1) := by decide +kernel
theorem dX3_bringBack_9 : decode cX3_bringBack 9 = .ok (.getfield 36, 3) := by decide +kernel
theorem dX3_bringBack_12 : decode cX3_bringBack 12 = .ok (.aload_n 1, 1) := by decide +kernel
theorem dX3_bringBack_13 : decode cX3_bringBack 13 = .ok (.getfield 97, 3) := by decide +kernel
theorem dX3_bringBack_16 : decode cX3_bringBack 16 = .ok (.iload_n 3, 1) := by decide +kernel
theorem dX3_bringBack_17 : decode cX3_bringBack 17 = .ok (.iaload, 1) := by decide +kernel
theorem dX3_bringBack_18 : decode cX3_bringBack 18 = .ok (.aload_n 2, 1) := by decide +kernel
theorem dX3_bringBack_19 : decode cX3_bringBack 19 = .ok (.getfield 100, 3) := by decide +kernel
theorem dX3_bringBack_22 : decode cX3_bringBack 22 = .ok (.iload 4, 2) := by decide +kernel
theorem dX3_bringBack_24 : decode cX3_bringBack 24 = .ok (.iaload, 1) := by decide +kernel
theorem dX3_bringBack_25 : decode cX3_bringBack 25 = .ok (.invokestatic 103, 3) := by decide +kernel
theorem dX3_bringBack_28 : decode cX3_bringBack 28 = .ok (.dup2, 1) := by decide +kernel
theorem dX3_bringBack_29 : decode cX3_bringBack 29 = .ok (.iaload, 1) := by decide +kernel
theorem dX3_bringBack_30 : decode cX3_bringBack 30 = .ok (.aload_n 0, 1) := by decide +kernel
theorem dX3_bringBack_31 : decode cX3_bringBack 31 = .ok (.getfield 15, 3) := by decide +kernel
theorem dX3_bringBack_34 : decode cX3_bringBack 34 = .ok (.iload 4, 2) := by decide +kernel
theorem dX3_bringBack_36 : decode cX3_bringBack 36 = .ok (.iaload, 1) := by decide +kernel
theorem dX3_bringBack_37 : decode cX3_bringBack 37 = .ok (.aload_n 0, 1) := by decide +kernel
theorem dX3_bringBack_38 : decode cX3_bringBack 38 = .ok (.getfield 30, 3) := by decide +kernel
theorem dX3_bringBack_41 : decode cX3_bringBack 41 = .ok (.iload 4, 2) := by decide +kernel
theorem dX3_bringBack_43 : decode cX3_bringBack 43 = .ok (.iaload, 1) := by decide +kernel
theorem dX3_bringBack_44 : decode cX3_bringBack 44 = .ok (.isub, 1) := by decide +kernel
theorem dX3_bringBack_45 : decode cX3_bringBack 45 = .ok (.iadd, 1) := by decide +kernel
theorem dX3_bringBack_46 : decode cX3_bringBack 46 = .ok (.iastore, 1) := by decide +kernel
theorem dX3_bringBack_47 : decode cX3_bringBack 47 = .ok (.aload_n 0, 1) := by decide +kernel
theorem dX3_bringBack_48 : decode cX3_bringBack 48 = .ok (.aload_n 2, 1) := by decide +kernel
theorem dX3_bringBack_49 : decode cX3_bringBack 49 = .ok (.iload_n 3, 1) := by decide +kernel
theorem dX3_bringBack_50 : decode cX3_bringBack 50 = .ok (.iload 4, 2) := by decide +kernel
theorem dX3_bringBack_52 : decode cX3_bringBack 52 = .ok (.iconst 1, 1) := by decide +kernel
theorem dX3_bringBack_53 : decode cX3_bringBack 53 = .ok (.iadd, 1) := by decide +kernel
theorem dX3_bringBack_54 : decode cX3_bringBack 54 = .ok (.aload_n 0, 1) := by decide +kernel
theorem dX3_bringBack_55 : decode cX3_bringBack 55 = .ok (.getfield 33, 3) := by decide +kernel
theorem dX3_bringBack_58 : decode cX3_bringBack 58 = .ok (.iload 4, 2) := by decide +kernel
theorem dX3_bringBack_60 : decode cX3_bringBack 60 = .ok (.iaload, 1) := by decide +kernel
theorem dX3_bringBack_61 : decode cX3_bringBack 61 = .ok (.invokevirtual 75, 3) := by decide +kernel
theorem dX3_bringBack_64 : decode cX3_bringBack 64 = .ok (.return_, 1) := by decide +kernel
theorem dX3_leavesBehind_0 : decode cX3_leavesBehind 0 = .ok (.iconst 0, 1) := by decide +kernel
theorem dX3_leavesBehind_1 : decode cX3_leavesBehind 1 = .ok (.istore_n 3, 1) := by decide +kernel
theorem dX3_leavesBehind_2 : decode cX3_leavesBehind 2 = .ok (.iload_n 3, 1) := by decide +kernel
theorem dX3_leavesBehind_3 : decode cX3_leavesBehind 3 = .ok (.aload_n 1, 1) := by decide +kernel
theorem dX3_leavesBehind_4 : decode cX3_leavesBehind 4 = .ok (.getfield 152, 3) := by decide +kernel
theorem dX3_leavesBehind_7 : decode cX3_leavesBehind 7 = .ok (.if_icmp .ge 49, 3) := by decide +kernel
theorem dX3_leavesBehind_10 : decode cX3_leavesBehind 10 = .ok (.aload_n 1, 1) := by decide +kernel
theorem dX3_leavesBehind_11 : decode cX3_leavesBehind 11 = .ok (.getfield 124, 3) := by decide +kernel
theorem dX3_leavesBehind_14 : decode cX3_leavesBehind 14 = .ok (.iload_n 3, 1) := by decide +kernel
theorem dX3_leavesBehind_15 : decode cX3_leavesBehind 15 = .ok (.iaload, 1) := by decide +kernel
theorem dX3_leavesBehind_16 : decode cX3_leavesBehind 16 = .ok (.iconst 5, 1) := by decide +kernel
theorem dX3_leavesBehind_17 : decode cX3_leavesBehind 17 = .ok (.if_icmp .ge 7, 3) := by decide +kernel
theorem dX3_leavesBehind_20 : decode cX3_leavesBehind 20 = .ok (.iconst 0, 1) := by decide +kernel
theorem dX3_leavesBehind_21 : decode cX3_leavesBehind 21 = .ok (.goto 4, 3) := by decide +kernel
theorem dX3_leavesBehind_24 : decode cX3_leavesBehind 24 = .ok (.iconst 1, 1) := by decide +kernel
theorem dX3_leavesBehind_25 : decode cX3_leavesBehind 25 = .ok (.istore 4, 2) := by decide +kernel
theorem dX3_leavesBehind_27 : decode cX3_leavesBehind 27 = .ok (.iload 4, 2) := by decide +kernel
theorem dX3_leavesBehind_29 : decode cX3_leavesBehind 29 = .ok (.iload_n 2, 1) := by decide +kernel
theorem dX3_leavesBehind_30 : decode cX3_leavesBehind 30 = .ok (.if_icmp .ne 20, 3) := by decide +kernel
theorem dX3_leavesBehind_33 : decode cX3_leavesBehind 33 = .ok (.aload_n 0, 1) := by decide +kernel
theorem dX3_leavesBehind_34 : decode cX3_leavesBehind 34 = .ok (.getfield 30, 3) := by decide +kernel
theorem dX3_leavesBehind_37 : decode cX3_leavesBehind 37 = .ok (.iload_n 3, 1) := by decide +kernel
theorem dX3_leavesBehind_38 : decode cX3_leavesBehind 38 = .ok (.iaload, 1) := by decide +kernel
theorem dX3_leavesBehind_39 : decode cX3_leavesBehind 39 = .ok (.aload_n 0, 1) := by decide +kernel
theorem dX3_leavesBehind_40 : decode cX3_leavesBehind 40 = .ok (.getfield 15, 3) := by decide +kernel
theorem dX3_leavesBehind_43 : decode cX3_leavesBehind 43 = .ok (.iload_n 3, 1) := by decide +kernel
theorem dX3_leavesBehind_44 : decode cX3_leavesBehind 44 = .ok (.iaload, 1) := by decide +kernel
theorem dX3_leavesBehind_45 : decode cX3_leavesBehind 45 = .ok (.if_icmp .ge 5, 3) := by decide +kernel
theorem dX3_leavesBehind_48 : decode cX3_leavesBehind 48 = .ok (.iconst 1, 1) := by decide +kernel
theorem dX3_leavesBehind_49 : decode cX3_leavesBehind 49 = .ok (.ireturn, 1) := by decide +kernel
theorem dX3_leavesBehind_50 : decode cX3_leavesBehind 50 = .ok (.iinc 3 1, 3) := by decide +kernel
theorem dX3_leavesBehind_53 : decode cX3_leavesBehind 53 = .ok (.goto (-51), 3) := by decide +kernel
theorem dX3_leavesBehind_56 : decode cX3_leavesBehind 56 = .ok (.iconst 0, 1) := by decide +kernel
theorem dX3_leavesBehind_57 : decode cX3_leavesBehind 57 = .ok (.ireturn, 1) := by decide +kernel
theorem dX4_init_0 : decode cX4_init 0 = .ok (.aload_n 0, 1) := by decide +kernel
theorem dX4_init_1 : decode cX4_init 1 = .ok (.invokespecial 3, 3) := by decide +kernel
theorem dX4_init_4 : decode cX4_init 4 = .ok (.aload_n 0, 1) := by decide +kernel
theorem dX4_init_5 : decode cX4_init 5 = .ok (.bipush 10, 2) := by decide +kernel
theorem dX4_init_7 : decode cX4_init 7 = .ok (.newarray .int, 2) := by decide +kernel
theorem dX4_init_9 : decode cX4_init 9 = .ok (.putfield 9, 3) := by decide +kernel
theorem dX4_init_12 : decode cX4_init 12 = .ok (.aload_n 0, 1) := by decide +kernel
theorem dX4_init_13 : decode cX4_init 13 = .ok (.bipush 10, 2) := by decide +kernel
theorem dX4_init_15 : decode cX4_init 15 = .ok (.newarray .int, 2) := by decide +kernel
theorem dX4_init_17 : decode cX4_init 17 = .ok (.putfield 15, 3) := by decide +kernel
theorem dX4_init_20 : decode cX4_init 20 = .ok (.aload_n 0, 1) := by decide +kernel
theorem dX4_init_21 : decode cX4_init 21 = .ok (.bipush 10, 2) := by decide +kernel
theorem dX4_init_23 : decode cX4_init 23 = .ok (.newarray .int, 2) := by decide +kernel
theorem dX4_init_25 : decode cX4_init 25 = .ok (.putfield 18, 3) := by decide +kernel
theorem dX4_init_28 : decode cX4_init 28 = .ok (.return_, 1) := by decide +kernel
theorem dX4_clear_0 : decode cX4_clear 0 = .ok (.aload_n 0, 1) := by decide +kernel
theorem dX4_clear_1 : decode cX4_clear 1 = .ok (.iconst 0, 1) := by decide +kernel
theorem dX4_clear_2 : decode cX4_clear 2 = .ok (.putfield 21, 3) := by decide +kernel
theorem dX4_clear_5 : decode cX4_clear 5 = .ok (.aload_n 0, 1) := by decide +kernel
theorem dX4_clear_6 : decode cX4_clear 6 = .ok (.iconst 0, 1) := by decide +kernel
theorem dX4_clear_7 : decode cX4_clear 7 = .ok (.putfield 25, 3) := by decide +kernel
theorem dX4_clear_10 : decode cX4_clear 10 = .ok (.return_, 1) := by decide +kernel
theorem dX4_addClaim_0 : decode cX4_addClaim 0 = .ok (.aload_n 0, 1) := by decide +kernel
theorem dX4_addClaim_1 : decode cX4_addClaim 1 = .ok (.getfield 21, 3) := by decide +kernel
theorem dX4_addClaim_4 : decode cX4_addClaim 4 = .ok (.bipush 10, 2) := by decide +kernel
theorem dX4_addClaim_6 : decode cX4_addClaim 6 = .ok (.if_icmp .ge 33, 3) := by decide +kernel
theorem dX4_addClaim_9 : decode cX4_addClaim 9 = .ok (.aload_n 0, 1) := by decide +kernel
theorem dX4_addClaim_10 : decode cX4_addClaim 10 = .ok (.getfield 9, 3) := by decide +kernel
theorem dX4_addClaim_13 : decode cX4_addClaim 13 = .ok (.aload_n 0, 1) := by decide +kernel
theorem dX4_addClaim_14 : decode cX4_addClaim 14 = .ok (.getfield 21, 3) := by decide +kernel
theorem dX4_addClaim_17 : decode cX4_addClaim 17 = .ok (.iload_n 1, 1) := by decide +kernel
theorem dX4_addClaim_18 : decode cX4_addClaim 18 = .ok (.iastore, 1) := by decide +kernel
theorem dX4_addClaim_19 : decode cX4_addClaim 19 = .ok (.aload_n 0, 1) := by decide +kernel
theorem dX4_addClaim_20 : decode cX4_addClaim 20 = .ok (.dup, 1) := by decide +kernel
theorem dX4_addClaim_21 : decode cX4_addClaim 21 = .ok (.getfield 25, 3) := by decide +kernel
theorem dX4_addClaim_24 : decode cX4_addClaim 24 = .ok (.iload_n 1, 1) := by decide +kernel
theorem dX4_addClaim_25 : decode cX4_addClaim 25 = .ok (.iadd, 1) := by decide +kernel
theorem dX4_addClaim_26 : decode cX4_addClaim 26 = .ok (.putfield 25, 3) := by decide +kernel
theorem dX4_addClaim_29 : decode cX4_addClaim 29 = .ok (.aload_n 0, 1) := by decide +kernel
theorem dX4_addClaim_30 : decode cX4_addClaim 30 = .ok (.dup, 1) := by decide +kernel
theorem dX4_addClaim_31 : decode cX4_addClaim 31 = .ok (.getfield 21, 3) := by decide +kernel
theorem dX4_addClaim_34 : decode cX4_addClaim 34 = .ok (.iconst 1, 1) := by decide +kernel
theorem dX4_addClaim_35 : decode cX4_addClaim 35 = .ok (.iadd, 1) := by decide +kernel
theorem dX4_addClaim_36 : decode cX4_addClaim 36 = .ok (.putfield 21, 3) := by decide +kernel
theorem dX4_addClaim_39 : decode cX4_addClaim 39 = .ok (.return_, 1) := by decide +kernel
theorem dX4_shareOut_0 : decode cX4_shareOut 0 = .ok (.iload_n 1, 1) := by decide +kernel
theorem dX4_shareOut_1 : decode cX4_shareOut 1 = .ok (.aload_n 0, 1) := by decide +kernel
theorem dX4_shareOut_2 : decode cX4_shareOut 2 = .ok (.getfield 25, 3) := by decide +kernel
theorem dX4_shareOut_5 : decode cX4_shareOut 5 = .ok (.if_icmp .lt 19, 3) := by decide +kernel
theorem dX4_shareOut_8 : decode cX4_shareOut 8 = .ok (.aload_n 0, 1) := by decide +kernel
theorem dX4_shareOut_9 : decode cX4_shareOut 9 = .ok (.getfield 9, 3) := by decide +kernel
theorem dX4_shareOut_12 : decode cX4_shareOut 12 = .ok (.iconst 0, 1) := by decide +kernel
theorem dX4_shareOut_13 : decode cX4_shareOut 13 = .ok (.aload_n 0, 1) := by decide +kernel
theorem dX4_shareOut_14 : decode cX4_shareOut 14 = .ok (.getfield 18, 3) := by decide +kernel
theorem dX4_shareOut_17 : decode cX4_shareOut 17 = .ok (.iconst 0, 1) := by decide +kernel
theorem dX4_shareOut_18 : decode cX4_shareOut 18 = .ok (.bipush 10, 2) := by decide +kernel
theorem dX4_shareOut_20 : decode cX4_shareOut 20 = .ok (.invokestatic 28, 3) := by decide +kernel
theorem dX4_shareOut_23 : decode cX4_shareOut 23 = .ok (.return_, 1) := by decide +kernel
theorem dX4_shareOut_24 : decode cX4_shareOut 24 = .ok (.iload_n 1, 1) := by decide +kernel
theorem dX4_shareOut_25 : decode cX4_shareOut 25 = .ok (.istore_n 2, 1) := by decide +kernel
theorem dX4_shareOut_26 : decode cX4_shareOut 26 = .ok (.iconst 0, 1) := by decide +kernel
theorem dX4_shareOut_27 : decode cX4_shareOut 27 = .ok (.istore_n 3, 1) := by decide +kernel
theorem dX4_shareOut_28 : decode cX4_shareOut 28 = .ok (.iload_n 3, 1) := by decide +kernel
theorem dX4_shareOut_29 : decode cX4_shareOut 29 = .ok (.aload_n 0, 1) := by decide +kernel
theorem dX4_shareOut_30 : decode cX4_shareOut 30 = .ok (.getfield 21, 3) := by decide +kernel
theorem dX4_shareOut_33 : decode cX4_shareOut 33 = .ok (.if_icmp .ge 63, 3) := by decide +kernel
theorem dX4_shareOut_36 : decode cX4_shareOut 36 = .ok (.iload_n 1, 1) := by decide +kernel
theorem dX4_shareOut_37 : decode cX4_shareOut 37 = .ok (.aload_n 0, 1) := by decide +kernel
theorem dX4_shareOut_38 : decode cX4_shareOut 38 = .ok (.getfield 9, 3) := by decide +kernel
theorem dX4_shareOut_41 : decode cX4_shareOut 41 = .ok (.iload_n 3, 1) := by decide +kernel
theorem dX4_shareOut_42 : decode cX4_shareOut 42 = .ok (.iaload, 1) := by decide +kernel
theorem dX4_shareOut_43 : decode cX4_shareOut 43 = .ok (.imul, 1) := by decide +kernel
theorem dX4_shareOut_44 : decode cX4_shareOut 44 = .ok (.istore 4, 2) := by decide +kernel
theorem dX4_shareOut_46 : decode cX4_shareOut 46 = .ok (.aload_n 0, 1) := by decide +kernel
theorem dX4_shareOut_47 : decode cX4_shareOut 47 = .ok (.getfield 18, 3) := by decide +kernel
theorem dX4_shareOut_50 : decode cX4_shareOut 50 = .ok (.iload_n 3, 1) := by decide +kernel
theorem dX4_shareOut_51 : decode cX4_shareOut 51 = .ok (.iload 4, 2) := by decide +kernel
theorem dX4_shareOut_53 : decode cX4_shareOut 53 = .ok (.aload_n 0, 1) := by decide +kernel
theorem dX4_shareOut_54 : decode cX4_shareOut 54 = .ok (.getfield 25, 3) := by decide +kernel
theorem dX4_shareOut_57 : decode cX4_shareOut 57 = .ok (.invokestatic 34, 3) := by decide +kernel
theorem dX4_shareOut_60 : decode cX4_shareOut 60 = .ok (.iastore, 1) := by decide +kernel
theorem dX4_shareOut_61 : decode cX4_shareOut 61 = .ok (.aload_n 0, 1) := by decide +kernel
theorem dX4_shareOut_62 : decode cX4_shareOut 62 = .ok (.getfield 15, 3) := by decide +kernel
theorem dX4_shareOut_65 : decode cX4_shareOut 65 = .ok (.iload_n 3, 1) := by decide +kernel
theorem dX4_shareOut_66 : decode cX4_shareOut 66 = .ok (.iload 4, 2) := by decide +kernel
theorem dX4_shareOut_68 : decode cX4_shareOut 68 = .ok (.aload_n 0, 1) := by decide +kernel
theorem dX4_shareOut_69 : decode cX4_shareOut 69 = .ok (.getfield 18, 3) := by decide +kernel
theorem dX4_shareOut_72 : decode cX4_shareOut 72 = .ok (.iload_n 3, 1) := by decide +kernel
theorem dX4_shareOut_73 : decode cX4_shareOut 73 = .ok (.iaload, 1) := by decide +kernel
theorem dX4_shareOut_74 : decode cX4_shareOut 74 = .ok (.aload_n 0, 1) := by decide +kernel
theorem dX4_shareOut_75 : decode cX4_shareOut 75 = .ok (.getfield 25, 3) := by decide +kernel
theorem dX4_shareOut_78 : decode cX4_shareOut 78 = .ok (.imul, 1) := by decide +kernel
theorem dX4_shareOut_79 : decode cX4_shareOut 79 = .ok (.isub, 1) := by decide +kernel
theorem dX4_shareOut_80 : decode cX4_shareOut 80 = .ok (.iastore, 1) := by decide +kernel
theorem dX4_shareOut_81 : decode cX4_shareOut 81 = .ok (.iload_n 2, 1) := by decide +kernel
theorem dX4_shareOut_82 : decode cX4_shareOut 82 = .ok (.aload_n 0, 1) := by decide +kernel
theorem dX4_shareOut_83 : decode cX4_shareOut 83 = .ok (.getfield 18, 3) := by decide +kernel
theorem dX4_shareOut_86 : decode cX4_shareOut 86 = .ok (.iload_n 3, 1) := by decide +kernel
theorem dX4_shareOut_87 : decode cX4_shareOut 87 = .ok (.iaload, 1) := by decide +kernel
theorem dX4_shareOut_88 : decode cX4_shareOut 88 = .ok (.isub, 1) := by decide +kernel
theorem dX4_shareOut_89 : decode cX4_shareOut 89 = .ok (.istore_n 2, 1) := by decide +kernel
theorem dX4_shareOut_90 : decode cX4_shareOut 90 = .ok (.iinc 3 1, 3) := by decide +kernel
theorem dX4_shareOut_93 : decode cX4_shareOut 93 = .ok (.goto (-65), 3) := by decide +kernel
theorem dX4_shareOut_96 : decode cX4_shareOut 96 = .ok (.iconst 0, 1) := by decide +kernel
theorem dX4_shareOut_97 : decode cX4_shareOut 97 = .ok (.istore_n 3, 1) := by decide +kernel
theorem dX4_shareOut_98 : decode cX4_shareOut 98 = .ok (.iload_n 3, 1) := by decide +kernel
theorem dX4_shareOut_99 : decode cX4_shareOut 99 = .ok (.iload_n 2, 1) := by decide +kernel
theorem dX4_shareOut_100 : decode cX4_shareOut 100 = .ok (.if_icmp .ge 34, 3) := by decide +kernel
theorem dX4_shareOut_103 : decode cX4_shareOut 103 = .ok (.aload_n 0, 1) := by decide +kernel
theorem dX4_shareOut_104 : decode cX4_shareOut 104 = .ok (.invokevirtual 38, 3) := by decide +kernel
theorem dX4_shareOut_107 : decode cX4_shareOut 107 = .ok (.istore 4, 2) := by decide +kernel
theorem dX4_shareOut_109 : decode cX4_shareOut 109 = .ok (.aload_n 0, 1) := by decide +kernel
theorem dX4_shareOut_110 : decode cX4_shareOut 110 = .ok (.getfield 18, 3) := by decide +kernel
theorem dX4_shareOut_113 : decode cX4_shareOut 113 = .ok (.iload 4, 2) := by decide +kernel
theorem dX4_shareOut_115 : decode cX4_shareOut 115 = .ok (.dup2, 1) := by decide +kernel
theorem dX4_shareOut_116 : decode cX4_shareOut 116 = .ok (.iaload, 1) := by decide +kernel
theorem dX4_shareOut_117 : decode cX4_shareOut 117 = .ok (.iconst 1, 1) := by decide +kernel
theorem dX4_shareOut_118 : decode cX4_shareOut 118 = .ok (.iadd, 1) := by decide +kernel
theorem dX4_shareOut_119 : decode cX4_shareOut 119 = .ok (.iastore, 1) := by decide +kernel
theorem dX4_shareOut_120 : decode cX4_shareOut 120 = .ok (.aload_n 0, 1) := by decide +kernel
theorem dX4_shareOut_121 : decode cX4_shareOut 121 = .ok (.getfield 15, 3) := by decide +kernel
theorem dX4_shareOut_124 : decode cX4_shareOut 124 = .ok (.iload 4, 2) := by decide +kernel
theorem dX4_shareOut_126 : decode cX4_shareOut 126 = .ok (.iconst (-1), 1) := by decide +kernel
theorem dX4_shareOut_127 : decode cX4_shareOut 127 = .ok (.iastore, 1) := by decide +kernel
theorem dX4_shareOut_128 : decode cX4_shareOut 128 = .ok (.iinc 3 1, 3) := by decide +kernel
theorem dX4_shareOut_131 : decode cX4_shareOut 131 = .ok (.goto (-33), 3) := by decide +kernel
theorem dX4_shareOut_134 : decode cX4_shareOut 134 = .ok (.return_, 1) := by decide +kernel
theorem dX4_largestRest_0 : decode cX4_largestRest 0 = .ok (.iconst 0, 1) := by decide +kernel
theorem dX4_largestRest_1 : decode cX4_largestRest 1 = .ok (.istore_n 1, 1) := by decide +kernel
theorem dX4_largestRest_2 : decode cX4_largestRest 2 = .ok (.iconst 1, 1) := by decide +kernel
theorem dX4_largestRest_3 : decode cX4_largestRest 3 = .ok (.istore_n 2, 1) := by decide +kernel
theorem dX4_largestRest_4 : decode cX4_largestRest 4 = .ok (.iload_n 2, 1) := by decide +kernel
theorem dX4_largestRest_5 : decode cX4_largestRest 5 = .ok (.aload_n 0, 1) := by decide +kernel
theorem dX4_largestRest_6 : decode cX4_largestRest 6 = .ok (.getfield 21, 3) := by decide +kernel
theorem dX4_largestRest_9 : decode cX4_largestRest 9 = .ok (.if_icmp .ge 26, 3) := by decide +kernel
theorem dX4_largestRest_12 : decode cX4_largestRest 12 = .ok (.aload_n 0, 1) := by decide +kernel
theorem dX4_largestRest_13 : decode cX4_largestRest 13 = .ok (.getfield 15, 3) := by decide +kernel
theorem dX4_largestRest_16 : decode cX4_largestRest 16 = .ok (.iload_n 2, 1) := by decide +kernel
theorem dX4_largestRest_17 : decode cX4_largestRest 17 = .ok (.iaload, 1) := by decide +kernel
theorem dX4_largestRest_18 : decode cX4_largestRest 18 = .ok (.aload_n 0, 1) := by decide +kernel
theorem dX4_largestRest_19 : decode cX4_largestRest 19 = .ok (.getfield 15, 3) := by decide +kernel
theorem dX4_largestRest_22 : decode cX4_largestRest 22 = .ok (.iload_n 1, 1) := by decide +kernel
theorem dX4_largestRest_23 : decode cX4_largestRest 23 = .ok (.iaload, 1) := by decide +kernel
theorem dX4_largestRest_24 : decode cX4_largestRest 24 = .ok (.if_icmp .le 5, 3) := by decide +kernel
theorem dX4_largestRest_27 : decode cX4_largestRest 27 = .ok (.iload_n 2, 1) := by decide +kernel
theorem dX4_largestRest_28 : decode cX4_largestRest 28 = .ok (.istore_n 1, 1) := by decide +kernel
theorem dX4_largestRest_29 : decode cX4_largestRest 29 = .ok (.iinc 2 1, 3) := by decide +kernel
theorem dX4_largestRest_32 : decode cX4_largestRest 32 = .ok (.goto (-28), 3) := by decide +kernel
theorem dX4_largestRest_35 : decode cX4_largestRest 35 = .ok (.iload_n 1, 1) := by decide +kernel
theorem dX4_largestRest_36 : decode cX4_largestRest 36 = .ok (.ireturn, 1) := by decide +kernel
theorem dX5_init_0 : decode cX5_init 0 = .ok (.aload_n 0, 1) := by decide +kernel
theorem dX5_init_1 : decode cX5_init 1 = .ok (.invokespecial 3, 3) := by decide +kernel
theorem dX5_init_4 : decode cX5_init 4 = .ok (.aload_n 0, 1) := by decide +kernel
theorem dX5_init_5 : decode cX5_init 5 = .ok (.bipush 8, 2) := by decide +kernel
theorem dX5_init_7 : decode cX5_init 7 = .ok (.newarray .int, 2) := by decide +kernel
theorem dX5_init_9 : decode cX5_init 9 = .ok (.putfield 9, 3) := by decide +kernel
theorem dX5_init_12 : decode cX5_init 12 = .ok (.aload_n 0, 1) := by decide +kernel
theorem dX5_init_13 : decode cX5_init 13 = .ok (.bipush 8, 2) := by decide +kernel
theorem dX5_init_15 : decode cX5_init 15 = .ok (.newarray .int, 2) := by decide +kernel
theorem dX5_init_17 : decode cX5_init 17 = .ok (.putfield 15, 3) := by decide +kernel
theorem dX5_init_20 : decode cX5_init 20 = .ok (.aload_n 0, 1) := by decide +kernel
theorem dX5_init_21 : decode cX5_init 21 = .ok (.bipush 8, 2) := by decide +kernel
theorem dX5_init_23 : decode cX5_init 23 = .ok (.newarray .int, 2) := by decide +kernel
theorem dX5_init_25 : decode cX5_init 25 = .ok (.putfield 18, 3) := by decide +kernel
theorem dX5_init_28 : decode cX5_init 28 = .ok (.aload_n 0, 1) := by decide +kernel
theorem dX5_init_29 : decode cX5_init 29 = .ok (.bipush 8, 2) := by decide +kernel
theorem dX5_init_31 : decode cX5_init 31 = .ok (.newarray .int, 2) := by decide +kernel
theorem dX5_init_33 : decode cX5_init 33 = .ok (.putfield 21, 3) := by decide +kernel
theorem dX5_init_36 : decode cX5_init 36 = .ok (.aload_n 0, 1) := by decide +kernel
theorem dX5_init_37 : decode cX5_init 37 = .ok (.bipush 8, 2) := by decide +kernel
theorem dX5_init_39 : decode cX5_init 39 = .ok (.newarray .int, 2) := by decide +kernel
theorem dX5_init_41 : decode cX5_init 41 = .ok (.putfield 24, 3) := by decide +kernel
theorem dX5_init_44 : decode cX5_init 44 = .ok (.aload_n 0, 1) := by decide +kernel
theorem dX5_init_45 : decode cX5_init 45 = .ok (.bipush 8, 2) := by decide +kernel
theorem dX5_init_47 : decode cX5_init 47 = .ok (.newarray .int, 2) := by decide +kernel
theorem dX5_init_49 : decode cX5_init 49 = .ok (.putfield 27, 3) := by decide +kernel
theorem dX5_init_52 : decode cX5_init 52 = .ok (.aload_n 0, 1) := by decide +kernel
theorem dX5_init_53 : decode cX5_init 53 = .ok (.bipush 8, 2) := by decide +kernel
theorem dX5_init_55 : decode cX5_init 55 = .ok (.newarray .int, 2) := by decide +kernel
theorem dX5_init_57 : decode cX5_init 57 = .ok (.putfield 30, 3) := by decide +kernel
theorem dX5_init_60 : decode cX5_init 60 = .ok (.aload_n 0, 1) := by decide +kernel
theorem dX5_init_61 : decode cX5_init 61 = .ok (.bipush 8, 2) := by decide +kernel
theorem dX5_init_63 : decode cX5_init 63 = .ok (.newarray .int, 2) := by decide +kernel
theorem dX5_init_65 : decode cX5_init 65 = .ok (.putfield 33, 3) := by decide +kernel
theorem dX5_init_68 : decode cX5_init 68 = .ok (.aload_n 0, 1) := by decide +kernel
theorem dX5_init_69 : decode cX5_init 69 = .ok (.sipush 256, 3) := by decide +kernel
theorem dX5_init_72 : decode cX5_init 72 = .ok (.newarray .int, 2) := by decide +kernel
theorem dX5_init_74 : decode cX5_init 74 = .ok (.putfield 36, 3) := by decide +kernel
theorem dX5_init_77 : decode cX5_init 77 = .ok (.return_, 1) := by decide +kernel
theorem dX5_study_0 : decode cX5_study 0 = .ok (.aload_n 0, 1) := by decide +kernel
theorem dX5_study_1 : decode cX5_study 1 = .ok (.iconst 0, 1) := by decide +kernel
theorem dX5_study_2 : decode cX5_study 2 = .ok (.putfield 39, 3) := by decide +kernel
theorem dX5_study_5 : decode cX5_study 5 = .ok (.iconst 0, 1) := by decide +kernel
theorem dX5_study_6 : decode cX5_study 6 = .ok (.istore 5, 2) := by decide +kernel
theorem dX5_study_8 : decode cX5_study 8 = .ok (.iload 5, 2) := by decide +kernel
theorem dX5_study_10 : decode cX5_study 10 = .ok (.aload_n 2, 1) := by decide +kernel
theorem dX5_study_11 : decode cX5_study 11 = .ok (.getfield 43, 3) := by decide +kernel
theorem dX5_study_14 : decode cX5_study 14 = .ok (.if_icmp .ge 39, 3) := by decide +kernel
theorem dX5_study_17 : decode cX5_study 17 = .ok (.aload_n 0, 1) := by decide +kernel
theorem dX5_study_18 : decode cX5_study 18 = .ok (.getfield 39, 3) := by decide +kernel
theorem dX5_study_21 : decode cX5_study 21 = .ok (.bipush 8, 2) := by decide +kernel
theorem dX5_study_23 : decode cX5_study 23 = .ok (.if_icmp .ge 30, 3) := by decide +kernel
theorem dX5_study_26 : decode cX5_study 26 = .ok (.aload_n 2, 1) := by decide +kernel
theorem dX5_study_27 : decode cX5_study 27 = .ok (.getfield 48, 3) := by decide +kernel
theorem dX5_study_30 : decode cX5_study 30 = .ok (.iload 5, 2) := by decide +kernel
theorem dX5_study_32 : decode cX5_study 32 = .ok (.iaload, 1) := by decide +kernel
theorem dX5_study_33 : decode cX5_study 33 = .ok (.iload_n 3, 1) := by decide +kernel
theorem dX5_study_34 : decode cX5_study 34 = .ok (.if_icmp .ne 13, 3) := by decide +kernel
theorem dX5_study_37 : decode cX5_study 37 = .ok (.aload_n 0, 1) := by decide +kernel
theorem dX5_study_38 : decode cX5_study 38 = .ok (.aload_n 1, 1) := by decide +kernel
theorem dX5_study_39 : decode cX5_study 39 = .ok (.aload_n 2, 1) := by decide +kernel
theorem dX5_study_40 : decode cX5_study 40 = .ok (.iload 5, 2) := by decide +kernel
theorem dX5_study_42 : decode cX5_study 42 = .ok (.iload 4, 2) := by decide +kernel
theorem dX5_study_44 : decode cX5_study 44 = .ok (.invokevirtual 51, 3) := by decide +kernel
theorem dX5_study_47 : decode cX5_study 47 = .ok (.iinc 5 1, 3) := by decide +kernel
theorem dX5_study_50 : decode cX5_study 50 = .ok (.goto (-42), 3) := by decide +kernel
theorem dX5_study_53 : decode cX5_study 53 = .ok (.aload_n 0, 1) := by decide +kernel
theorem dX5_study_54 : decode cX5_study 54 = .ok (.getfield 36, 3) := by decide +kernel
theorem dX5_study_57 : decode cX5_study 57 = .ok (.iconst 0, 1) := by decide +kernel
theorem dX5_study_58 : decode cX5_study 58 = .ok (.ldc 55, 2) := by decide +kernel
theorem dX5_study_60 : decode cX5_study 60 = .ok (.iastore, 1) := by decide +kernel
theorem dX5_study_61 : decode cX5_study 61 = .ok (.iconst 1, 1) := by decide +kernel
theorem dX5_study_62 : decode cX5_study 62 = .ok (.istore 5, 2) := by decide +kernel
theorem dX5_study_64 : decode cX5_study 64 = .ok (.iload 5, 2) := by decide +kernel
theorem dX5_study_66 : decode cX5_study 66 = .ok (.aload_n 0, 1) := by decide +kernel
theorem dX5_study_67 : decode cX5_study 67 = .ok (.invokevirtual 56, 3) := by decide +kernel
theorem dX5_study_70 : decode cX5_study 70 = .ok (.if_icmp .gt 22, 3) := by decide +kernel
theorem dX5_study_73 : decode cX5_study 73 = .ok (.aload_n 0, 1) := by decide +kernel
theorem dX5_study_74 : decode cX5_study 74 = .ok (.getfield 36, 3) := by decide +kernel
theorem dX5_study_77 : decode cX5_study 77 = .ok (.iload 5, 2) := by decide +kernel
theorem dX5_study_79 : decode cX5_study 79 = .ok (.aload_n 0, 1) := by decide +kernel
theorem dX5_study_80 : decode cX5_study 80 = .ok (.iload 5, 2) := by decide +kernel
theorem dX5_study_82 : decode cX5_study 82 = .ok (.invokevirtual 60, 3) := by decide +kernel
theorem dX5_study_85 : decode cX5_study 85 = .ok (.iastore, 1) := by decide +kernel
theorem dX5_study_86 : decode cX5_study 86 = .ok (.iinc 5 1, 3) := by decide +kernel
theorem dX5_study_89 : decode cX5_study 89 = .ok (.goto (-25), 3) := by decide +kernel
theorem dX5_study_92 : decode cX5_study 92 = .ok (.return_, 1) := by decide +kernel
theorem dX5_studyJob_0 : decode cX5_studyJob 0 = .ok (.aload_n 2, 1) := by decide +kernel
theorem dX5_studyJob_1 : decode cX5_studyJob 1 = .ok (.getfield 48, 3) := by decide +kernel
theorem dX5_studyJob_4 : decode cX5_studyJob 4 = .ok (.iload_n 3, 1) := by decide +kernel
theorem dX5_studyJob_5 : decode cX5_studyJob 5 = .ok (.iaload, 1) := by decide +kernel
theorem dX5_studyJob_6 : decode cX5_studyJob 6 = .ok (.istore 5, 2) := by decide +kernel
theorem dX5_studyJob_8 : decode cX5_studyJob 8 = .ok (.aload_n 2, 1) := by decide +kernel
theorem dX5_studyJob_9 : decode cX5_studyJob 9 = .ok (.getfield 64, 3) := by decide +kernel
theorem dX5_studyJob_12 : decode cX5_studyJob 12 = .ok (.iload_n 3, 1) := by decide +kernel
theorem dX5_studyJob_13 : decode cX5_studyJob 13 = .ok (.iaload, 1) := by decide +kernel
theorem dX5_studyJob_14 : decode cX5_studyJob 14 = .ok (.istore 6, 2) := by decide +kernel
theorem dX5_studyJob_16 : decode cX5_studyJob 16 = .ok (.iload 6, 2) := by decide +kernel
theorem dX5_studyJob_18 : decode cX5_studyJob 18 = .ok (.iconst 5, 1) := by decide +kernel
theorem dX5_studyJob_19 : decode cX5_studyJob 19 = .ok (.if_icmp .ge 7, 3) := by decide +kernel
theorem dX5_studyJob_22 : decode cX5_studyJob 22 = .ok (.iconst 0, 1) := by decide +kernel
theorem dX5_studyJob_23 : decode cX5_studyJob 23 = .ok (.goto 4, 3) := by decide +kernel
theorem dX5_studyJob_26 : decode cX5_studyJob 26 = .ok (.iconst 1, 1) := by decide +kernel
theorem dX5_studyJob_27 : decode cX5_studyJob 27 = .ok (.istore 7, 2) := by decide +kernel
theorem dX5_studyJob_29 : decode cX5_studyJob 29 = .ok (.aload_n 0, 1) := by decide +kernel
theorem dX5_studyJob_30 : decode cX5_studyJob 30 = .ok (.getfield 9, 3) := by decide +kernel
theorem dX5_studyJob_33 : decode cX5_studyJob 33 = .ok (.aload_n 0, 1) := by decide +kernel
theorem dX5_studyJob_34 : decode cX5_studyJob 34 = .ok (.getfield 39, 3) := by decide +kernel
theorem dX5_studyJob_37 : decode cX5_studyJob 37 = .ok (.iload_n 3, 1) := by decide +kernel
theorem dX5_studyJob_38 : decode cX5_studyJob 38 = .ok (.iastore, 1) := by decide +kernel
theorem dX5_studyJob_39 : decode cX5_studyJob 39 = .ok (.aload_n 0, 1) := by decide +kernel
theorem dX5_studyJob_40 : decode cX5_studyJob 40 = .ok (.getfield 18, 3) := by decide +kernel
theorem dX5_studyJob_43 : decode cX5_studyJob 43 = .ok (.aload_n 0, 1) := by decide +kernel
theorem dX5_studyJob_44 : decode cX5_studyJob 44 = .ok (.getfield 39, 3) := by decide +kernel
theorem dX5_studyJob_47 : decode cX5_studyJob 47 = .ok (.aload_n 1, 1) := by decide +kernel
theorem dX5_studyJob_48 : decode cX5_studyJob 48 = .ok (.iload 5, 2) := by decide +kernel
theorem dX5_studyJob_50 : decode cX5_studyJob 50 = .ok (.aload_n 2, 1) := by decide +kernel
theorem dX5_studyJob_51 : decode cX5_studyJob 51 = .ok (.getfield 67, 3) := by decide +kernel
theorem dX5_studyJob_54 : decode cX5_studyJob 54 = .ok (.iload_n 3, 1) := by decide +kernel
theorem dX5_studyJob_55 : decode cX5_studyJob 55 = .ok (.iaload, 1) := by decide +kernel
theorem dX5_studyJob_56 : decode cX5_studyJob 56 = .ok (.invokevirtual 70, 3) := by decide +kernel
theorem dX5_studyJob_59 : decode cX5_studyJob 59 = .ok (.iastore, 1) := by decide +kernel
theorem dX5_studyJob_60 : decode cX5_studyJob 60 = .ok (.aload_n 0, 1) := by decide +kernel
theorem dX5_studyJob_61 : decode cX5_studyJob 61 = .ok (.getfield 27, 3) := by decide +kernel
theorem dX5_studyJob_64 : decode cX5_studyJob 64 = .ok (.aload_n 0, 1) := by decide +kernel
theorem dX5_studyJob_65 : decode cX5_studyJob 65 = .ok (.getfield 39, 3) := by decide +kernel
theorem dX5_studyJob_68 : decode cX5_studyJob 68 = .ok (.aload_n 1, 1) := by decide +kernel
theorem dX5_studyJob_69 : decode cX5_studyJob 69 = .ok (.iload 5, 2) := by decide +kernel
theorem dX5_studyJob_71 : decode cX5_studyJob 71 = .ok (.iload 6, 2) := by decide +kernel
theorem dX5_studyJob_73 : decode cX5_studyJob 73 = .ok (.iload 4, 2) := by decide +kernel
theorem dX5_studyJob_75 : decode cX5_studyJob 75 = .ok (.invokevirtual 76, 3) := by decide +kernel
theorem dX5_studyJob_78 : decode cX5_studyJob 78 = .ok (.iastore, 1) := by decide +kernel
theorem dX5_studyJob_79 : decode cX5_studyJob 79 = .ok (.aload_n 0, 1) := by decide +kernel
theorem dX5_studyJob_80 : decode cX5_studyJob 80 = .ok (.getfield 21, 3) := by decide +kernel
theorem dX5_studyJob_83 : decode cX5_studyJob 83 = .ok (.aload_n 0, 1) := by decide +kernel
theorem dX5_studyJob_84 : decode cX5_studyJob 84 = .ok (.getfield 39, 3) := by decide +kernel
theorem dX5_studyJob_87 : decode cX5_studyJob 87 = .ok (.aload_n 0, 1) := by decide +kernel
theorem dX5_studyJob_88 : decode cX5_studyJob 88 = .ok (.getfield 18, 3) := by decide +kernel
theorem dX5_studyJob_91 : decode cX5_studyJob 91 = .ok (.aload_n 0, 1) := by decide +kernel
theorem dX5_studyJob_92 : decode cX5_studyJob 92 = .ok (.getfield 39, 3) := by decide +kernel
theorem dX5_studyJob_95 : decode cX5_studyJob 95 = .ok (.iaload, 1) := by decide +kernel
theorem dX5_studyJob_96 : decode cX5_studyJob 96 = .ok (.aload_n 1, 1) := by decide +kernel
theorem dX5_studyJob_97 : decode cX5_studyJob 97 = .ok (.getfield 80, 3) := by decide +kernel
theorem dX5_studyJob_100 : decode cX5_studyJob 100 = .ok (.iload 5, 2) := by decide +kernel
theorem dX5_studyJob_102 : decode cX5_studyJob 102 = .ok (.iaload, 1) := by decide +kernel
theorem dX5_studyJob_103 : decode cX5_studyJob 103 = .ok (.imul, 1) := by decide +kernel
theorem dX5_studyJob_104 : decode cX5_studyJob 104 = .ok (.aload_n 0, 1) := by decide +kernel
theorem dX5_studyJob_105 : decode cX5_studyJob 105 = .ok (.getfield 27, 3) := by decide +kernel
theorem dX5_studyJob_108 : decode cX5_studyJob 108 = .ok (.aload_n 0, 1) := by decide +kernel
theorem dX5_studyJob_109 : decode cX5_studyJob 109 = .ok (.getfield 39, 3) := by decide +kernel
theorem dX5_studyJob_112 : decode cX5_studyJob 112 = .ok (.iaload, 1) := by decide +kernel
theorem dX5_studyJob_113 : decode cX5_studyJob 113 = .ok (.iadd, 1) := by decide +kernel
theorem dX5_studyJob_114 : decode cX5_studyJob 114 = .ok (.iastore, 1) := by decide +kernel
theorem dX5_studyJob_115 : decode cX5_studyJob 115 = .ok (.aload_n 0, 1) := by decide +kernel
theorem dX5_studyJob_116 : decode cX5_studyJob 116 = .ok (.getfield 24, 3) := by decide +kernel
theorem dX5_studyJob_119 : decode cX5_studyJob 119 = .ok (.aload_n 0, 1) := by decide +kernel
theorem dX5_studyJob_120 : decode cX5_studyJob 120 = .ok (.getfield 39, 3) := by decide +kernel
theorem dX5_studyJob_123 : decode cX5_studyJob 123 = .ok (.aload_n 0, 1) := by decide +kernel
theorem dX5_studyJob_124 : decode cX5_studyJob 124 = .ok (.getfield 18, 3) := by decide +kernel
theorem dX5_studyJob_127 : decode cX5_studyJob 127 = .ok (.aload_n 0, 1) := by decide +kernel
theorem dX5_studyJob_128 : decode cX5_studyJob 128 = .ok (.getfield 39, 3) := by decide +kernel
theorem dX5_studyJob_131 : decode cX5_studyJob 131 = .ok (.iaload, 1) := by decide +kernel
theorem dX5_studyJob_132 : decode cX5_studyJob 132 = .ok (.aload_n 1, 1) := by decide +kernel
theorem dX5_studyJob_133 : decode cX5_studyJob 133 = .ok (.getfield 83, 3) := by decide +kernel
theorem dX5_studyJob_136 : decode cX5_studyJob 136 = .ok (.iload 5, 2) := by decide +kernel
theorem dX5_studyJob_138 : decode cX5_studyJob 138 = .ok (.iaload, 1) := by decide +kernel
theorem dX5_studyJob_139 : decode cX5_studyJob 139 = .ok (.imul, 1) := by decide +kernel
theorem dX5_studyJob_140 : decode cX5_studyJob 140 = .ok (.iastore, 1) := by decide +kernel
theorem dX5_studyJob_141 : decode cX5_studyJob 141 = .ok (.aload_n 0, 1) := by decide +kernel
theorem dX5_studyJob_142 : decode cX5_studyJob 142 = .ok (.getfield 30, 3) := by decide +kernel
theorem dX5_studyJob_145 : decode cX5_studyJob 145 = .ok (.aload_n 0, 1) := by decide +kernel
theorem dX5_studyJob_146 : decode cX5_studyJob 146 = .ok (.getfield 39, 3) := by decide +kernel
theorem dX5_studyJob_149 : decode cX5_studyJob 149 = .ok (.aload_n 1, 1) := by decide +kernel
theorem dX5_studyJob_150 : decode cX5_studyJob 150 = .ok (.getfield 86, 3) := by decide +kernel
theorem dX5_studyJob_153 : decode cX5_studyJob 153 = .ok (.iload 7, 2) := by decide +kernel
theorem dX5_studyJob_155 : decode cX5_studyJob 155 = .ok (.iaload, 1) := by decide +kernel
theorem dX5_studyJob_156 : decode cX5_studyJob 156 = .ok (.iastore, 1) := by decide +kernel
theorem dX5_studyJob_157 : decode cX5_studyJob 157 = .ok (.aload_n 0, 1) := by decide +kernel
theorem dX5_studyJob_158 : decode cX5_studyJob 158 = .ok (.getfield 33, 3) := by decide +kernel
theorem dX5_studyJob_161 : decode cX5_studyJob 161 = .ok (.aload_n 0, 1) := by decide +kernel
theorem dX5_studyJob_162 : decode cX5_studyJob 162 = .ok (.getfield 39, 3) := by decide +kernel
theorem dX5_studyJob_165 : decode cX5_studyJob 165 = .ok (.aload_n 2, 1) := by decide +kernel
theorem dX5_studyJob_166 : decode cX5_studyJob 166 = .ok (.getfield 87, 3) := by decide +kernel
theorem dX5_studyJob_169 : decode cX5_studyJob 169 = .ok (.iload 7, 2) := by decide +kernel
theorem dX5_studyJob_171 : decode cX5_studyJob 171 = .ok (.iaload, 1) := by decide +kernel
theorem dX5_studyJob_172 : decode cX5_studyJob 172 = .ok (.iastore, 1) := by decide +kernel
theorem dX5_studyJob_173 : decode cX5_studyJob 173 = .ok (.aload_n 0, 1) := by decide +kernel
theorem dX5_studyJob_174 : decode cX5_studyJob 174 = .ok (.dup, 1) := by decide +kernel
theorem dX5_studyJob_175 : decode cX5_studyJob 175 = .ok (.getfield 39, 3) := by decide +kernel
theorem dX5_studyJob_178 : decode cX5_studyJob 178 = .ok (.iconst 1, 1) := by decide +kernel
theorem dX5_studyJob_179 : decode cX5_studyJob 179 = .ok (.iadd, 1) := by decide +kernel
theorem dX5_studyJob_180 : decode cX5_studyJob 180 = .ok (.putfield 39, 3) := by decide +kernel
theorem dX5_studyJob_183 : decode cX5_studyJob 183 = .ok (.return_, 1) := by decide +kernel
theorem dX5_wholeSet_0 : decode cX5_wholeSet 0 = .ok (.iconst 1, 1) := by decide +kernel
theorem dX5_wholeSet_1 : decode cX5_wholeSet 1 = .ok (.aload_n 0, 1) := by decide +kernel
theorem dX5_wholeSet_2 : decode cX5_wholeSet 2 = .ok (.getfield 39, 3) := by decide +kernel
theorem dX5_wholeSet_5 : decode cX5_wholeSet 5 = .ok (.ishl, 1) := by decide +kernel
theorem dX5_wholeSet_6 : decode cX5_wholeSet 6 = .ok (.iconst 1, 1) := by decide +kernel
theorem dX5_wholeSet_7 : decode cX5_wholeSet 7 = .ok (.isub, 1) := by decide +kernel
theorem dX5_wholeSet_8 : decode cX5_wholeSet 8 = .ok (.ireturn, 1) := by decide +kernel
theorem dX5_canDo_0 : decode cX5_canDo 0 = .ok (.aload_n 0, 1) := by decide +kernel
theorem dX5_canDo_1 : decode cX5_canDo 1 = .ok (.getfield 36, 3) := by decide +kernel
theorem dX5_canDo_4 : decode cX5_canDo 4 = .ok (.iload_n 1, 1) := by decide +kernel
theorem dX5_canDo_5 : decode cX5_canDo 5 = .ok (.iaload, 1) := by decide +kernel
theorem dX5_canDo_6 : decode cX5_canDo 6 = .ok (.ifCond .lt 7, 3) := by decide +kernel
theorem dX5_canDo_9 : decode cX5_canDo 9 = .ok (.iconst 1, 1) := by decide +kernel
theorem dX5_canDo_10 : decode cX5_canDo 10 = .ok (.goto 4, 3) := by decide +kernel
theorem dX5_canDo_13 : decode cX5_canDo 13 = .ok (.iconst 0, 1) := by decide +kernel
theorem dX5_canDo_14 : decode cX5_canDo 14 = .ok (.ireturn, 1) := by decide +kernel
theorem dX5_mealsOf_0 : decode cX5_mealsOf 0 = .ok (.iconst 0, 1) := by decide +kernel
theorem dX5_mealsOf_1 : decode cX5_mealsOf 1 = .ok (.istore_n 2, 1) := by decide +kernel
theorem dX5_mealsOf_2 : decode cX5_mealsOf 2 = .ok (.iconst 0, 1) := by decide +kernel
theorem dX5_mealsOf_3 : decode cX5_mealsOf 3 = .ok (.istore_n 3, 1) := by decide +kernel
theorem dX5_mealsOf_4 : decode cX5_mealsOf 4 = .ok (.iload_n 3, 1) := by decide +kernel
theorem dX5_mealsOf_5 : decode cX5_mealsOf 5 = .ok (.aload_n 0, 1) := by decide +kernel
theorem dX5_mealsOf_6 : decode cX5_mealsOf 6 = .ok (.getfield 39, 3) := by decide +kernel
theorem dX5_mealsOf_9 : decode cX5_mealsOf 9 = .ok (.if_icmp .ge 27, 3) := by decide +kernel
theorem dX5_mealsOf_12 : decode cX5_mealsOf 12 = .ok (.iload_n 1, 1) := by decide +kernel
theorem dX5_mealsOf_13 : decode cX5_mealsOf 13 = .ok (.iload_n 3, 1) := by decide +kernel
theorem dX5_mealsOf_14 : decode cX5_mealsOf 14 = .ok (.ishr, 1) := by decide +kernel
theorem dX5_mealsOf_15 : decode cX5_mealsOf 15 = .ok (.iconst 1, 1) := by decide +kernel
theorem dX5_mealsOf_16 : decode cX5_mealsOf 16 = .ok (.iand, 1) := by decide +kernel
theorem dX5_mealsOf_17 : decode cX5_mealsOf 17 = .ok (.iconst 1, 1) := by decide +kernel
theorem dX5_mealsOf_18 : decode cX5_mealsOf 18 = .ok (.if_icmp .ne 12, 3) := by decide +kernel
theorem dX5_mealsOf_21 : decode cX5_mealsOf 21 = .ok (.iload_n 2, 1) := by decide +kernel
theorem dX5_mealsOf_22 : decode cX5_mealsOf 22 = .ok (.aload_n 0, 1) := by decide +kernel
theorem dX5_mealsOf_23 : decode cX5_mealsOf 23 = .ok (.getfield 18, 3) := by decide +kernel
theorem dX5_mealsOf_26 : decode cX5_mealsOf 26 = .ok (.iload_n 3, 1) := by decide +kernel
theorem dX5_mealsOf_27 : decode cX5_mealsOf 27 = .ok (.iaload, 1) := by decide +kernel
theorem dX5_mealsOf_28 : decode cX5_mealsOf 28 = .ok (.iadd, 1) := by decide +kernel
theorem dX5_mealsOf_29 : decode cX5_mealsOf 29 = .ok (.istore_n 2, 1) := by decide +kernel
theorem dX5_mealsOf_30 : decode cX5_mealsOf 30 = .ok (.iinc 3 1, 3) := by decide +kernel
theorem dX5_mealsOf_33 : decode cX5_mealsOf 33 = .ok (.goto (-29), 3) := by decide +kernel
theorem dX5_mealsOf_36 : decode cX5_mealsOf 36 = .ok (.iload_n 2, 1) := by decide +kernel
theorem dX5_mealsOf_37 : decode cX5_mealsOf 37 = .ok (.ireturn, 1) := by decide +kernel
theorem dX5_latestBegin_0 : decode cX5_latestBegin 0 = .ok (.iconst (-1), 1) := by decide +kernel
theorem dX5_latestBegin_1 : decode cX5_latestBegin 1 = .ok (.istore_n 2, 1) := by decide +kernel
theorem dX5_latestBegin_2 : decode cX5_latestBegin 2 = .ok (.iconst 0, 1) := by decide +kernel
theorem dX5_latestBegin_3 : decode cX5_latestBegin 3 = .ok (.istore_n 3, 1) := by decide +kernel
theorem dX5_latestBegin_4 : decode cX5_latestBegin 4 = .ok (.iload_n 3, 1) := by decide +kernel
theorem dX5_latestBegin_5 : decode cX5_latestBegin 5 = .ok (.aload_n 0, 1) := by decide +kernel
theorem dX5_latestBegin_6 : decode cX5_latestBegin 6 = .ok (.getfield 39, 3) := by decide +kernel
theorem dX5_latestBegin_9 : decode cX5_latestBegin 9 = .ok (.if_icmp .ge 29, 3) := by decide +kernel
theorem dX5_latestBegin_12 : decode cX5_latestBegin 12 = .ok (.iload_n 1, 1) := by decide +kernel
theorem dX5_latestBegin_13 : decode cX5_latestBegin 13 = .ok (.iload_n 3, 1) := by decide +kernel
theorem dX5_latestBegin_14 : decode cX5_latestBegin 14 = .ok (.ishr, 1) := by decide +kernel
theorem dX5_latestBegin_15 : decode cX5_latestBegin 15 = .ok (.iconst 1, 1) := by decide +kernel
theorem dX5_latestBegin_16 : decode cX5_latestBegin 16 = .ok (.iand, 1) := by decide +kernel
theorem dX5_latestBegin_17 : decode cX5_latestBegin 17 = .ok (.iconst 1, 1) := by decide +kernel
theorem dX5_latestBegin_18 : decode cX5_latestBegin 18 = .ok (.if_icmp .ne 14, 3) := by decide +kernel
theorem dX5_latestBegin_21 : decode cX5_latestBegin 21 = .ok (.iload_n 2, 1) := by decide +kernel
theorem dX5_latestBegin_22 : decode cX5_latestBegin 22 = .ok (.aload_n 0, 1) := by decide +kernel
theorem dX5_latestBegin_23 : decode cX5_latestBegin 23 = .ok (.iload_n 3, 1) := by decide +kernel
theorem dX5_latestBegin_24 : decode cX5_latestBegin 24 = .ok (.iload_n 1, 1) := by decide +kernel
theorem dX5_latestBegin_25 : decode cX5_latestBegin 25 = .ok (.invokevirtual 88, 3) := by decide +kernel
theorem dX5_latestBegin_28 : decode cX5_latestBegin 28 = .ok (.invokestatic 91, 3) := by decide +kernel
theorem dX5_latestBegin_31 : decode cX5_latestBegin 31 = .ok (.istore_n 2, 1) := by decide +kernel
theorem dX5_latestBegin_32 : decode cX5_latestBegin 32 = .ok (.iinc 3 1, 3) := by decide +kernel
theorem dX5_latestBegin_35 : decode cX5_latestBegin 35 = .ok (.goto (-31), 3) := by decide +kernel
theorem dX5_latestBegin_38 : decode cX5_latestBegin 38 = .ok (.iload_n 2, 1) := by decide +kernel
theorem dX5_latestBegin_39 : decode cX5_latestBegin 39 = .ok (.ireturn, 1) := by decide +kernel
theorem dX5_latestBeginWith_0 : decode cX5_latestBeginWith 0 = .ok (.aload_n 0, 1) := by decide +kernel
theorem dX5_latestBeginWith_1 : decode cX5_latestBeginWith 1 = .ok (.getfield 36, 3) := by decide +kernel
theorem dX5_latestBeginWith_4 : decode cX5_latestBeginWith 4 = .ok (.iload_n 2, 1) := by decide +kernel
theorem dX5_latestBeginWith_5 : decode cX5_latestBeginWith 5 = .ok (.iconst 1, 1) := by decide +kernel
theorem dX5_latestBeginWith_6 : decode cX5_latestBeginWith 6 = .ok (.iload_n 1, 1) := by decide +kernel
theorem dX5_latestBeginWith_7 : decode cX5_latestBeginWith 7 = .ok (.ishl, 1) := by decide +kernel
theorem dX5_latestBeginWith_8 : decode cX5_latestBeginWith 8 = .ok (.iconst (-1), 1) := by decide +kernel
theorem dX5_latestBeginWith_9 : decode cX5_latestBeginWith 9 = .ok (.ixor, 1) := by decide +kernel
theorem dX5_latestBeginWith_10 : decode cX5_latestBeginWith 10 = .ok (.iand, 1) := by decide +kernel
theorem dX5_latestBeginWith_11 : decode cX5_latestBeginWith 11 = .ok (.iaload, 1) := by decide +kernel
theorem dX5_latestBeginWith_12 : decode cX5_latestBeginWith 12 = .ok (.istore_n 3, 1) := by decide +kernel
theorem dX5_latestBeginWith_13 : decode cX5_latestBeginWith 13 = .ok (.aload_n 0, 1) := by decide +kernel
theorem dX5_latestBeginWith_14 : decode cX5_latestBeginWith 14 = .ok (.getfield 33, 3) := by decide +kernel
theorem dX5_latestBeginWith_17 : decode cX5_latestBeginWith 17 = .ok (.iload_n 1, 1) := by decide +kernel
theorem dX5_latestBeginWith_18 : decode cX5_latestBeginWith 18 = .ok (.iaload, 1) := by decide +kernel
theorem dX5_latestBeginWith_19 : decode cX5_latestBeginWith 19 = .ok (.iload_n 3, 1) := by decide +kernel
theorem dX5_latestBeginWith_20 : decode cX5_latestBeginWith 20 = .ok (.aload_n 0, 1) := by decide +kernel
theorem dX5_latestBeginWith_21 : decode cX5_latestBeginWith 21 = .ok (.getfield 27, 3) := by decide +kernel
theorem dX5_latestBeginWith_24 : decode cX5_latestBeginWith 24 = .ok (.iload_n 1, 1) := by decide +kernel
theorem dX5_latestBeginWith_25 : decode cX5_latestBeginWith 25 = .ok (.iaload, 1) := by decide +kernel
theorem dX5_latestBeginWith_26 : decode cX5_latestBeginWith 26 = .ok (.isub, 1) := by decide +kernel
theorem dX5_latestBeginWith_27 : decode cX5_latestBeginWith 27 = .ok (.invokestatic 96, 3) := by decide +kernel
theorem dX5_latestBeginWith_30 : decode cX5_latestBeginWith 30 = .ok (.aload_n 0, 1) := by decide +kernel
theorem dX5_latestBeginWith_31 : decode cX5_latestBeginWith 31 = .ok (.getfield 24, 3) := by decide +kernel
theorem dX5_latestBeginWith_34 : decode cX5_latestBeginWith 34 = .ok (.iload_n 1, 1) := by decide +kernel
theorem dX5_latestBeginWith_35 : decode cX5_latestBeginWith 35 = .ok (.iaload, 1) := by decide +kernel
theorem dX5_latestBeginWith_36 : decode cX5_latestBeginWith 36 = .ok (.isub, 1) := by decide +kernel
theorem dX5_latestBeginWith_37 : decode cX5_latestBeginWith 37 = .ok (.istore 4, 2) := by decide +kernel
theorem dX5_latestBeginWith_39 : decode cX5_latestBeginWith 39 = .ok (.iload 4, 2) := by decide +kernel
theorem dX5_latestBeginWith_41 : decode cX5_latestBeginWith 41 = .ok (.aload_n 0, 1) := by decide +kernel
theorem dX5_latestBeginWith_42 : decode cX5_latestBeginWith 42 = .ok (.getfield 30, 3) := by decide +kernel
theorem dX5_latestBeginWith_45 : decode cX5_latestBeginWith 45 = .ok (.iload_n 1, 1) := by decide +kernel
theorem dX5_latestBeginWith_46 : decode cX5_latestBeginWith 46 = .ok (.iaload, 1) := by decide +kernel
theorem dX5_latestBeginWith_47 : decode cX5_latestBeginWith 47 = .ok (.if_icmp .ge 7, 3) := by decide +kernel
theorem dX5_latestBeginWith_50 : decode cX5_latestBeginWith 50 = .ok (.iconst (-1), 1) := by decide +kernel
theorem dX5_latestBeginWith_51 : decode cX5_latestBeginWith 51 = .ok (.goto 12, 3) := by decide +kernel
theorem dX5_latestBeginWith_54 : decode cX5_latestBeginWith 54 = .ok (.iload 4, 2) := by decide +kernel
theorem dX5_latestBeginWith_56 : decode cX5_latestBeginWith 56 = .ok (.aload_n 0, 1) := by decide +kernel
theorem dX5_latestBeginWith_57 : decode cX5_latestBeginWith 57 = .ok (.getfield 21, 3) := by decide +kernel
theorem dX5_latestBeginWith_60 : decode cX5_latestBeginWith 60 = .ok (.iload_n 1, 1) := by decide +kernel
theorem dX5_latestBeginWith_61 : decode cX5_latestBeginWith 61 = .ok (.iaload, 1) := by decide +kernel
theorem dX5_latestBeginWith_62 : decode cX5_latestBeginWith 62 = .ok (.isub, 1) := by decide +kernel
theorem dX5_latestBeginWith_63 : decode cX5_latestBeginWith 63 = .ok (.ireturn, 1) := by decide +kernel
theorem dX5_chooseBest_0 : decode cX5_chooseBest 0 = .ok (.aload_n 0, 1) := by decide +kernel
theorem dX5_chooseBest_1 : decode cX5_chooseBest 1 = .ok (.aload_n 1, 1) := by decide +kernel
theorem dX5_chooseBest_2 : decode cX5_chooseBest 2 = .ok (.aload_n 2, 1) := by decide +kernel
theorem dX5_chooseBest_3 : decode cX5_chooseBest 3 = .ok (.iload_n 3, 1) := by decide +kernel
theorem dX5_chooseBest_4 : decode cX5_chooseBest 4 = .ok (.aload_n 1, 1) := by decide +kernel
theorem dX5_chooseBest_5 : decode cX5_chooseBest 5 = .ok (.getfield 99, 3) := by decide +kernel
theorem dX5_chooseBest_8 : decode cX5_chooseBest 8 = .ok (.iload_n 3, 1) := by decide +kernel
theorem dX5_chooseBest_9 : decode cX5_chooseBest 9 = .ok (.iaload, 1) := by decide +kernel
theorem dX5_chooseBest_10 : decode cX5_chooseBest 10 = .ok (.invokevirtual 102, 3) := by decide +kernel
theorem dX5_chooseBest_13 : decode cX5_chooseBest 13 = .ok (.aload_n 0, 1) := by decide +kernel
theorem dX5_chooseBest_14 : decode cX5_chooseBest 14 = .ok (.iconst 0, 1) := by decide +kernel
theorem dX5_chooseBest_15 : decode cX5_chooseBest 15 = .ok (.putfield 105, 3) := by decide +kernel
theorem dX5_chooseBest_18 : decode cX5_chooseBest 18 = .ok (.iconst 0, 1) := by decide +kernel
theorem dX5_chooseBest_19 : decode cX5_chooseBest 19 = .ok (.istore 4, 2) := by decide +kernel
theorem dX5_chooseBest_21 : decode cX5_chooseBest 21 = .ok (.iconst 1, 1) := by decide +kernel
theorem dX5_chooseBest_22 : decode cX5_chooseBest 22 = .ok (.istore 5, 2) := by decide +kernel
theorem dX5_chooseBest_24 : decode cX5_chooseBest 24 = .ok (.iload 5, 2) := by decide +kernel
theorem dX5_chooseBest_26 : decode cX5_chooseBest 26 = .ok (.aload_n 0, 1) := by decide +kernel
theorem dX5_chooseBest_27 : decode cX5_chooseBest 27 = .ok (.invokevirtual 56, 3) := by decide +kernel
theorem dX5_chooseBest_30 : decode cX5_chooseBest 30 = .ok (.if_icmp .gt 43, 3) := by decide +kernel
theorem dX5_chooseBest_33 : decode cX5_chooseBest 33 = .ok (.aload_n 0, 1) := by decide +kernel
theorem dX5_chooseBest_34 : decode cX5_chooseBest 34 = .ok (.iload 5, 2) := by decide +kernel
theorem dX5_chooseBest_36 : decode cX5_chooseBest 36 = .ok (.invokevirtual 108, 3) := by decide +kernel
theorem dX5_chooseBest_39 : decode cX5_chooseBest 39 = .ok (.ifCond .eq 28, 3) := by decide +kernel
theorem dX5_chooseBest_42 : decode cX5_chooseBest 42 = .ok (.aload_n 0, 1) := by decide +kernel
theorem dX5_chooseBest_43 : decode cX5_chooseBest 43 = .ok (.iload 5, 2) := by decide +kernel
theorem dX5_chooseBest_45 : decode cX5_chooseBest 45 = .ok (.invokevirtual 112, 3) := by decide +kernel
theorem dX5_chooseBest_48 : decode cX5_chooseBest 48 = .ok (.iload 4, 2) := by decide +kernel
theorem dX5_chooseBest_50 : decode cX5_chooseBest 50 = .ok (.if_icmp .le 17, 3) := by decide +kernel
theorem dX5_chooseBest_53 : decode cX5_chooseBest 53 = .ok (.aload_n 0, 1) := by decide +kernel
theorem dX5_chooseBest_54 : decode cX5_chooseBest 54 = .ok (.iload 5, 2) := by decide +kernel
theorem dX5_chooseBest_56 : decode cX5_chooseBest 56 = .ok (.invokevirtual 112, 3) := by decide +kernel
theorem dX5_chooseBest_59 : decode cX5_chooseBest 59 = .ok (.istore 4, 2) := by decide +kernel
theorem dX5_chooseBest_61 : decode cX5_chooseBest 61 = .ok (.aload_n 0, 1) := by decide +kernel
theorem dX5_chooseBest_62 : decode cX5_chooseBest 62 = .ok (.iload 5, 2) := by decide +kernel
theorem dX5_chooseBest_64 : decode cX5_chooseBest 64 = .ok (.putfield 105, 3) := by decide +kernel
theorem dX5_chooseBest_67 : decode cX5_chooseBest 67 = .ok (.iinc 5 1, 3) := by decide +kernel
theorem dX5_chooseBest_70 : decode cX5_chooseBest 70 = .ok (.goto (-46), 3) := by decide +kernel
theorem dX5_chooseBest_73 : decode cX5_chooseBest 73 = .ok (.aload_n 0, 1) := by decide +kernel
theorem dX5_chooseBest_74 : decode cX5_chooseBest 74 = .ok (.invokevirtual 115, 3) := by decide +kernel
theorem dX5_chooseBest_77 : decode cX5_chooseBest 77 = .ok (.return_, 1) := by decide +kernel
theorem dX5_layOrder_0 : decode cX5_layOrder 0 = .ok (.aload_n 0, 1) := by decide +kernel
theorem dX5_layOrder_1 : decode cX5_layOrder 1 = .ok (.iconst 0, 1) := by decide +kernel
theorem dX5_layOrder_2 : decode cX5_layOrder 2 = .ok (.putfield 118, 3) := by decide +kernel
theorem dX5_layOrder_5 : decode cX5_layOrder 5 = .ok (.aload_n 0, 1) := by decide +kernel
theorem dX5_layOrder_6 : decode cX5_layOrder 6 = .ok (.getfield 105, 3) := by decide +kernel
theorem dX5_layOrder_9 : decode cX5_layOrder 9 = .ok (.istore_n 1, 1) := by decide +kernel
theorem dX5_layOrder_10 : decode cX5_layOrder 10 = .ok (.iconst 0, 1) := by decide +kernel
theorem dX5_layOrder_11 : decode cX5_layOrder 11 = .ok (.istore_n 2, 1) := by decide +kernel
theorem dX5_layOrder_12 : decode cX5_layOrder 12 = .ok (.iconst 0, 1) := by decide +kernel
theorem dX5_layOrder_13 : decode cX5_layOrder 13 = .ok (.istore_n 3, 1) := by decide +kernel
theorem dX5_layOrder_14 : decode cX5_layOrder 14 = .ok (.iload_n 3, 1) := by decide +kernel
theorem dX5_layOrder_15 : decode cX5_layOrder 15 = .ok (.aload_n 0, 1) := by decide +kernel
theorem dX5_layOrder_16 : decode cX5_layOrder 16 = .ok (.getfield 39, 3) := by decide +kernel
theorem dX5_layOrder_19 : decode cX5_layOrder 19 = .ok (.if_icmp .ge 89, 3) := by decide +kernel
theorem dX5_layOrder_22 : decode cX5_layOrder 22 = .ok (.iload_n 1, 1) := by decide +kernel
theorem dX5_layOrder_23 : decode cX5_layOrder 23 = .ok (.ifCond .eq 85, 3) := by decide +kernel
theorem dX5_layOrder_26 : decode cX5_layOrder 26 = .ok (.aload_n 0, 1) := by decide +kernel
theorem dX5_layOrder_27 : decode cX5_layOrder 27 = .ok (.iload_n 1, 1) := by decide +kernel
theorem dX5_layOrder_28 : decode cX5_layOrder 28 = .ok (.iload_n 2, 1) := by decide +kernel
theorem dX5_layOrder_29 : decode cX5_layOrder 29 = .ok (.invokevirtual 121, 3) := by decide +kernel
theorem dX5_layOrder_32 : decode cX5_layOrder 32 = .ok (.istore 4, 2) := by decide +kernel
theorem dX5_layOrder_34 : decode cX5_layOrder 34 = .ok (.aload_n 0, 1) := by decide +kernel
theorem dX5_layOrder_35 : decode cX5_layOrder 35 = .ok (.getfield 15, 3) := by decide +kernel
theorem dX5_layOrder_38 : decode cX5_layOrder 38 = .ok (.iload_n 3, 1) := by decide +kernel
theorem dX5_layOrder_39 : decode cX5_layOrder 39 = .ok (.aload_n 0, 1) := by decide +kernel
theorem dX5_layOrder_40 : decode cX5_layOrder 40 = .ok (.getfield 9, 3) := by decide +kernel
theorem dX5_layOrder_43 : decode cX5_layOrder 43 = .ok (.iload 4, 2) := by decide +kernel
theorem dX5_layOrder_45 : decode cX5_layOrder 45 = .ok (.iaload, 1) := by decide +kernel
theorem dX5_layOrder_46 : decode cX5_layOrder 46 = .ok (.iastore, 1) := by decide +kernel
theorem dX5_layOrder_47 : decode cX5_layOrder 47 = .ok (.aload_n 0, 1) := by decide +kernel
theorem dX5_layOrder_48 : decode cX5_layOrder 48 = .ok (.dup, 1) := by decide +kernel
theorem dX5_layOrder_49 : decode cX5_layOrder 49 = .ok (.getfield 118, 3) := by decide +kernel
theorem dX5_layOrder_52 : decode cX5_layOrder 52 = .ok (.iconst 1, 1) := by decide +kernel
theorem dX5_layOrder_53 : decode cX5_layOrder 53 = .ok (.iadd, 1) := by decide +kernel
theorem dX5_layOrder_54 : decode cX5_layOrder 54 = .ok (.putfield 118, 3) := by decide +kernel
theorem dX5_layOrder_57 : decode cX5_layOrder 57 = .ok (.iload_n 2, 1) := by decide +kernel
theorem dX5_layOrder_58 : decode cX5_layOrder 58 = .ok (.aload_n 0, 1) := by decide +kernel
theorem dX5_layOrder_59 : decode cX5_layOrder 59 = .ok (.getfield 21, 3) := by decide +kernel
theorem dX5_layOrder_62 : decode cX5_layOrder 62 = .ok (.iload 4, 2) := by decide +kernel
theorem dX5_layOrder_64 : decode cX5_layOrder 64 = .ok (.iaload, 1) := by decide +kernel
theorem dX5_layOrder_65 : decode cX5_layOrder 65 = .ok (.iadd, 1) := by decide +kernel
theorem dX5_layOrder_66 : decode cX5_layOrder 66 = .ok (.aload_n 0, 1) := by decide +kernel
theorem dX5_layOrder_67 : decode cX5_layOrder 67 = .ok (.getfield 30, 3) := by decide +kernel
theorem dX5_layOrder_70 : decode cX5_layOrder 70 = .ok (.iload 4, 2) := by decide +kernel
theorem dX5_layOrder_72 : decode cX5_layOrder 72 = .ok (.iaload, 1) := by decide +kernel
theorem dX5_layOrder_73 : decode cX5_layOrder 73 = .ok (.invokestatic 91, 3) := by decide +kernel
theorem dX5_layOrder_76 : decode cX5_layOrder 76 = .ok (.aload_n 0, 1) := by decide +kernel
theorem dX5_layOrder_77 : decode cX5_layOrder 77 = .ok (.getfield 24, 3) := by decide +kernel
theorem dX5_layOrder_80 : decode cX5_layOrder 80 = .ok (.iload 4, 2) := by decide +kernel
theorem dX5_layOrder_82 : decode cX5_layOrder 82 = .ok (.iaload, 1) := by decide +kernel
theorem dX5_layOrder_83 : decode cX5_layOrder 83 = .ok (.iadd, 1) := by decide +kernel
theorem dX5_layOrder_84 : decode cX5_layOrder 84 = .ok (.aload_n 0, 1) := by decide +kernel
theorem dX5_layOrder_85 : decode cX5_layOrder 85 = .ok (.getfield 27, 3) := by decide +kernel
theorem dX5_layOrder_88 : decode cX5_layOrder 88 = .ok (.iload 4, 2) := by decide +kernel
theorem dX5_layOrder_90 : decode cX5_layOrder 90 = .ok (.iaload, 1) := by decide +kernel
theorem dX5_layOrder_91 : decode cX5_layOrder 91 = .ok (.iadd, 1) := by decide +kernel
theorem dX5_layOrder_92 : decode cX5_layOrder 92 = .ok (.istore_n 2, 1) := by decide +kernel
theorem dX5_layOrder_93 : decode cX5_layOrder 93 = .ok (.iload_n 1, 1) := by decide +kernel
theorem dX5_layOrder_94 : decode cX5_layOrder 94 = .ok (.iconst 1, 1) := by decide +kernel
theorem dX5_layOrder_95 : decode cX5_layOrder 95 = .ok (.iload 4, 2) := by decide +kernel
theorem dX5_layOrder_97 : decode cX5_layOrder 97 = .ok (.ishl, 1) := by decide +kernel
theorem dX5_layOrder_98 : decode cX5_layOrder 98 = .ok (.iconst (-1), 1) := by decide +kernel
theorem dX5_layOrder_99 : decode cX5_layOrder 99 = .ok (.ixor, 1) := by decide +kernel
theorem dX5_layOrder_100 : decode cX5_layOrder 100 = .ok (.iand, 1) := by decide +kernel
theorem dX5_layOrder_101 : decode cX5_layOrder 101 = .ok (.istore_n 1, 1) := by decide +kernel
theorem dX5_layOrder_102 : decode cX5_layOrder 102 = .ok (.iinc 3 1, 3) := by decide +kernel
theorem dX5_layOrder_105 : decode cX5_layOrder 105 = .ok (.goto (-91), 3) := by decide +kernel
theorem dX5_layOrder_108 : decode cX5_layOrder 108 = .ok (.return_, 1) := by decide +kernel
theorem dX5_firstThatFits_0 : decode cX5_firstThatFits 0 = .ok (.iconst 0, 1) := by decide +kernel
theorem dX5_firstThatFits_1 : decode cX5_firstThatFits 1 = .ok (.istore_n 3, 1) := by decide +kernel
theorem dX5_firstThatFits_2 : decode cX5_firstThatFits 2 = .ok (.iload_n 3, 1) := by decide +kernel
theorem dX5_firstThatFits_3 : decode cX5_firstThatFits 3 = .ok (.aload_n 0, 1) := by decide +kernel
theorem dX5_firstThatFits_4 : decode cX5_firstThatFits 4 = .ok (.getfield 39, 3) := by decide +kernel
theorem dX5_firstThatFits_7 : decode cX5_firstThatFits 7 = .ok (.if_icmp .ge 30, 3) := by decide +kernel
theorem dX5_firstThatFits_10 : decode cX5_firstThatFits 10 = .ok (.iload_n 1, 1) := by decide +kernel
theorem dX5_firstThatFits_11 : decode cX5_firstThatFits 11 = .ok (.iload_n 3, 1) := by decide +kernel
theorem dX5_firstThatFits_12 : decode cX5_firstThatFits 12 = .ok (.ishr, 1) := by decide +kernel
theorem dX5_firstThatFits_13 : decode cX5_firstThatFits 13 = .ok (.iconst 1, 1) := by decide +kernel
theorem dX5_firstThatFits_14 : decode cX5_firstThatFits 14 = .ok (.iand, 1) := by decide +kernel
theorem dX5_firstThatFits_15 : decode cX5_firstThatFits 15 = .ok (.iconst 1, 1) := by decide +kernel
theorem dX5_firstThatFits_16 : decode cX5_firstThatFits 16 = .ok (.if_icmp .ne 15, 3) := by decide +kernel
theorem dX5_firstThatFits_19 : decode cX5_firstThatFits 19 = .ok (.aload_n 0, 1) := by decide +kernel
theorem dX5_firstThatFits_20 : decode cX5_firstThatFits 20 = .ok (.iload_n 3, 1) := by decide +kernel
theorem dX5_firstThatFits_21 : decode cX5_firstThatFits 21 = .ok (.iload_n 1, 1) := by decide +kernel
theorem dX5_firstThatFits_22 : decode cX5_firstThatFits 22 = .ok (.invokevirtual 88, 3) := by decide +kernel
theorem dX5_firstThatFits_25 : decode cX5_firstThatFits 25 = .ok (.iload_n 2, 1) := by decide +kernel
theorem dX5_firstThatFits_26 : decode cX5_firstThatFits 26 = .ok (.if_icmp .lt 5, 3) := by decide +kernel
theorem dX5_firstThatFits_29 : decode cX5_firstThatFits 29 = .ok (.iload_n 3, 1) := by decide +kernel
theorem dX5_firstThatFits_30 : decode cX5_firstThatFits 30 = .ok (.ireturn, 1) := by decide +kernel
theorem dX5_firstThatFits_31 : decode cX5_firstThatFits 31 = .ok (.iinc 3 1, 3) := by decide +kernel
theorem dX5_firstThatFits_34 : decode cX5_firstThatFits 34 = .ok (.goto (-32), 3) := by decide +kernel
theorem dX5_firstThatFits_37 : decode cX5_firstThatFits 37 = .ok (.iconst 0, 1) := by decide +kernel
theorem dX5_firstThatFits_38 : decode cX5_firstThatFits 38 = .ok (.ireturn, 1) := by decide +kernel
theorem dX6_init_0 : decode cX6_init 0 = .ok (.aload_n 0, 1) := by decide +kernel
theorem dX6_init_1 : decode cX6_init 1 = .ok (.invokespecial 3, 3) := by decide +kernel
theorem dX6_init_4 : decode cX6_init 4 = .ok (.aload_n 0, 1) := by decide +kernel
theorem dX6_init_5 : decode cX6_init 5 = .ok (.bipush 20, 2) := by decide +kernel
theorem dX6_init_7 : decode cX6_init 7 = .ok (.newarray .int, 2) := by decide +kernel
theorem dX6_init_9 : decode cX6_init 9 = .ok (.putfield 9, 3) := by decide +kernel
theorem dX6_init_12 : decode cX6_init 12 = .ok (.aload_n 0, 1) := by decide +kernel
theorem dX6_init_13 : decode cX6_init 13 = .ok (.bipush 20, 2) := by decide +kernel
theorem dX6_init_15 : decode cX6_init 15 = .ok (.newarray .int, 2) := by decide +kernel
theorem dX6_init_17 : decode cX6_init 17 = .ok (.putfield 15, 3) := by decide +kernel
theorem dX6_init_20 : decode cX6_init 20 = .ok (.aload_n 0, 1) := by decide +kernel
theorem dX6_init_21 : decode cX6_init 21 = .ok (.bipush 20, 2) := by decide +kernel
theorem dX6_init_23 : decode cX6_init 23 = .ok (.newarray .int, 2) := by decide +kernel
theorem dX6_init_25 : decode cX6_init 25 = .ok (.putfield 18, 3) := by decide +kernel
theorem dX6_init_28 : decode cX6_init 28 = .ok (.aload_n 0, 1) := by decide +kernel
theorem dX6_init_29 : decode cX6_init 29 = .ok (.bipush 20, 2) := by decide +kernel
theorem dX6_init_31 : decode cX6_init 31 = .ok (.newarray .int, 2) := by decide +kernel
theorem dX6_init_33 : decode cX6_init 33 = .ok (.putfield 21, 3) := by decide +kernel
theorem dX6_init_36 : decode cX6_init 36 = .ok (.aload_n 0, 1) := by decide +kernel
theorem dX6_init_37 : decode cX6_init 37 = .ok (.iconst 2, 1) := by decide +kernel
theorem dX6_init_38 : decode cX6_init 38 = .ok (.newarray .int, 2) := by decide +kernel
theorem dX6_init_40 : decode cX6_init 40 = .ok (.putfield 24, 3) := by decide +kernel
theorem dX6_init_43 : decode cX6_init 43 = .ok (.aload_n 0, 1) := by decide +kernel
theorem dX6_init_44 : decode cX6_init 44 = .ok (.bipush 12, 2) := by decide +kernel
theorem dX6_init_46 : decode cX6_init 46 = .ok (.newarray .int, 2) := by decide +kernel
theorem dX6_init_48 : decode cX6_init 48 = .ok (.putfield 27, 3) := by decide +kernel
theorem dX6_init_51 : decode cX6_init 51 = .ok (.return_, 1) := by decide +kernel
theorem dX6_clear_0 : decode cX6_clear 0 = .ok (.aload_n 0, 1) := by decide +kernel
theorem dX6_clear_1 : decode cX6_clear 1 = .ok (.iconst 0, 1) := by decide +kernel
theorem dX6_clear_2 : decode cX6_clear 2 = .ok (.putfield 30, 3) := by decide +kernel
theorem dX6_clear_5 : decode cX6_clear 5 = .ok (.aload_n 0, 1) := by decide +kernel
theorem dX6_clear_6 : decode cX6_clear 6 = .ok (.getfield 27, 3) := by decide +kernel
theorem dX6_clear_9 : decode cX6_clear 9 = .ok (.iconst 0, 1) := by decide +kernel
theorem dX6_clear_10 : decode cX6_clear 10 = .ok (.invokestatic 34, 3) := by decide +kernel
theorem dX6_clear_13 : decode cX6_clear 13 = .ok (.return_, 1) := by decide +kernel
theorem dX6_copyFrom_0 : decode cX6_copyFrom 0 = .ok (.aload_n 1, 1) := by decide +kernel
theorem dX6_copyFrom_1 : decode cX6_copyFrom 1 = .ok (.getfield 9, 3) := by decide +kernel
theorem dX6_copyFrom_4 : decode cX6_copyFrom 4 = .ok (.iconst 0, 1) := by decide +kernel
theorem dX6_copyFrom_5 : decode cX6_copyFrom 5 = .ok (.aload_n 0, 1) := by decide +kernel
theorem dX6_copyFrom_6 : decode cX6_copyFrom 6 = .ok (.getfield 9, 3) := by decide +kernel
theorem dX6_copyFrom_9 : decode cX6_copyFrom 9 = .ok (.iconst 0, 1) := by decide +kernel
theorem dX6_copyFrom_10 : decode cX6_copyFrom 10 = .ok (.bipush 20, 2) := by decide +kernel
theorem dX6_copyFrom_12 : decode cX6_copyFrom 12 = .ok (.invokestatic 40, 3) := by decide +kernel
theorem dX6_copyFrom_15 : decode cX6_copyFrom 15 = .ok (.aload_n 1, 1) := by decide +kernel
theorem dX6_copyFrom_16 : decode cX6_copyFrom 16 = .ok (.getfield 15, 3) := by decide +kernel
theorem dX6_copyFrom_19 : decode cX6_copyFrom 19 = .ok (.iconst 0, 1) := by decide +kernel
theorem dX6_copyFrom_20 : decode cX6_copyFrom 20 = .ok (.aload_n 0, 1) := by decide +kernel
theorem dX6_copyFrom_21 : decode cX6_copyFrom 21 = .ok (.getfield 15, 3) := by decide +kernel
theorem dX6_copyFrom_24 : decode cX6_copyFrom 24 = .ok (.iconst 0, 1) := by decide +kernel
theorem dX6_copyFrom_25 : decode cX6_copyFrom 25 = .ok (.bipush 20, 2) := by decide +kernel
theorem dX6_copyFrom_27 : decode cX6_copyFrom 27 = .ok (.invokestatic 40, 3) := by decide +kernel
theorem dX6_copyFrom_30 : decode cX6_copyFrom 30 = .ok (.aload_n 1, 1) := by decide +kernel
theorem dX6_copyFrom_31 : decode cX6_copyFrom 31 = .ok (.getfield 18, 3) := by decide +kernel
theorem dX6_copyFrom_34 : decode cX6_copyFrom 34 = .ok (.iconst 0, 1) := by decide +kernel
theorem dX6_copyFrom_35 : decode cX6_copyFrom 35 = .ok (.aload_n 0, 1) := by decide +kernel
theorem dX6_copyFrom_36 : decode cX6_copyFrom 36 = .ok (.getfield 18, 3) := by decide +kernel
theorem dX6_copyFrom_39 : decode cX6_copyFrom 39 = .ok (.iconst 0, 1) := by decide +kernel
theorem dX6_copyFrom_40 : decode cX6_copyFrom 40 = .ok (.bipush 20, 2) := by decide +kernel
theorem dX6_copyFrom_42 : decode cX6_copyFrom 42 = .ok (.invokestatic 40, 3) := by decide +kernel
theorem dX6_copyFrom_45 : decode cX6_copyFrom 45 = .ok (.aload_n 1, 1) := by decide +kernel
theorem dX6_copyFrom_46 : decode cX6_copyFrom 46 = .ok (.getfield 21, 3) := by decide +kernel
theorem dX6_copyFrom_49 : decode cX6_copyFrom 49 = .ok (.iconst 0, 1) := by decide +kernel
theorem dX6_copyFrom_50 : decode cX6_copyFrom 50 = .ok (.aload_n 0, 1) := by decide +kernel
theorem dX6_copyFrom_51 : decode cX6_copyFrom 51 = .ok (.getfield 21, 3) := by decide +kernel
theorem dX6_copyFrom_54 : decode cX6_copyFrom 54 = .ok (.iconst 0, 1) := by decide +kernel
theorem dX6_copyFrom_55 : decode cX6_copyFrom 55 = .ok (.bipush 20, 2) := by decide +kernel
theorem dX6_copyFrom_57 : decode cX6_copyFrom 57 = .ok (.invokestatic 40, 3) := by decide +kernel
theorem dX6_copyFrom_60 : decode cX6_copyFrom 60 = .ok (.aload_n 1, 1) := by decide +kernel
theorem dX6_copyFrom_61 : decode cX6_copyFrom 61 = .ok (.getfield 24, 3) := by decide +kernel
theorem dX6_copyFrom_64 : decode cX6_copyFrom 64 = .ok (.iconst 0, 1) := by decide +kernel
theorem dX6_copyFrom_65 : decode cX6_copyFrom 65 = .ok (.aload_n 0, 1) := by decide +kernel
theorem dX6_copyFrom_66 : decode cX6_copyFrom 66 = .ok (.getfield 24, 3) := by decide +kernel
theorem dX6_copyFrom_69 : decode cX6_copyFrom 69 = .ok (.iconst 0, 1) := by decide +kernel
theorem dX6_copyFrom_70 : decode cX6_copyFrom 70 = .ok (.iconst 2, 1) := by decide +kernel
theorem dX6_copyFrom_71 : decode cX6_copyFrom 71 = .ok (.invokestatic 40, 3) := by decide +kernel
theorem dX6_copyFrom_74 : decode cX6_copyFrom 74 = .ok (.aload_n 1, 1) := by decide +kernel
theorem dX6_copyFrom_75 : decode cX6_copyFrom 75 = .ok (.getfield 27, 3) := by decide +kernel
theorem dX6_copyFrom_78 : decode cX6_copyFrom 78 = .ok (.iconst 0, 1) := by decide +kernel
theorem dX6_copyFrom_79 : decode cX6_copyFrom 79 = .ok (.aload_n 0, 1) := by decide +kernel
theorem dX6_copyFrom_80 : decode cX6_copyFrom 80 = .ok (.getfield 27, 3) := by decide +kernel
theorem dX6_copyFrom_83 : decode cX6_copyFrom 83 = .ok (.iconst 0, 1) := by decide +kernel
theorem dX6_copyFrom_84 : decode cX6_copyFrom 84 = .ok (.bipush 12, 2) := by decide +kernel
theorem dX6_copyFrom_86 : decode cX6_copyFrom 86 = .ok (.invokestatic 40, 3) := by decide +kernel
theorem dX6_copyFrom_89 : decode cX6_copyFrom 89 = .ok (.aload_n 0, 1) := by decide +kernel
theorem dX6_copyFrom_90 : decode cX6_copyFrom 90 = .ok (.aload_n 1, 1) := by decide +kernel
theorem dX6_copyFrom_91 : decode cX6_copyFrom 91 = .ok (.getfield 30, 3) := by decide +kernel
theorem dX6_copyFrom_94 : decode cX6_copyFrom 94 = .ok (.putfield 30, 3) := by decide +kernel
theorem dX6_copyFrom_97 : decode cX6_copyFrom 97 = .ok (.return_, 1) := by decide +kernel
theorem dX6_addLast_0 : decode cX6_addLast 0 = .ok (.aload_n 0, 1) := by decide +kernel
theorem dX6_addLast_1 : decode cX6_addLast 1 = .ok (.getfield 30, 3) := by decide +kernel
theorem dX6_addLast_4 : decode cX6_addLast 4 = .ok (.bipush 20, 2) := by decide +kernel
theorem dX6_addLast_6 : decode cX6_addLast 6 = .ok (.if_icmp .lt 4, 3) := by decide +kernel
theorem dX6_addLast_9 : decode cX6_addLast 9 = .ok (.return_, 1) := by decide +kernel
theorem dX6_addLast_10 : decode cX6_addLast 10 = .ok (.aload_n 0, 1) := by decide +kernel
theorem dX6_addLast_11 : decode cX6_addLast 11 = .ok (.getfield 9, 3) := by decide +kernel
theorem dX6_addLast_14 : decode cX6_addLast 14 = .ok (.aload_n 0, 1) := by decide +kernel
theorem dX6_addLast_15 : decode cX6_addLast 15 = .ok (.getfield 30, 3) := by decide +kernel
theorem dX6_addLast_18 : decode cX6_addLast 18 = .ok (.iload_n 1, 1) := by decide +kernel
theorem dX6_addLast_19 : decode cX6_addLast 19 = .ok (.iastore, 1) := by decide +kernel
theorem dX6_addLast_20 : decode cX6_addLast 20 = .ok (.aload_n 0, 1) := by decide +kernel
theorem dX6_addLast_21 : decode cX6_addLast 21 = .ok (.getfield 15, 3) := by decide +kernel
theorem dX6_addLast_24 : decode cX6_addLast 24 = .ok (.aload_n 0, 1) := by decide +kernel
theorem dX6_addLast_25 : decode cX6_addLast 25 = .ok (.getfield 30, 3) := by decide +kernel
theorem dX6_addLast_28 : decode cX6_addLast 28 = .ok (.iload_n 2, 1) := by decide +kernel
theorem dX6_addLast_29 : decode cX6_addLast 29 = .ok (.iastore, 1) := by decide +kernel
theorem dX6_addLast_30 : decode cX6_addLast 30 = .ok (.aload_n 0, 1) := by decide +kernel
theorem dX6_addLast_31 : decode cX6_addLast 31 = .ok (.getfield 18, 3) := by decide +kernel
theorem dX6_addLast_34 : decode cX6_addLast 34 = .ok (.aload_n 0, 1) := by decide +kernel
theorem dX6_addLast_35 : decode cX6_addLast 35 = .ok (.getfield 30, 3) := by decide +kernel
theorem dX6_addLast_38 : decode cX6_addLast 38 = .ok (.iload_n 3, 1) := by decide +kernel
theorem dX6_addLast_39 : decode cX6_addLast 39 = .ok (.iastore, 1) := by decide +kernel
theorem dX6_addLast_40 : decode cX6_addLast 40 = .ok (.aload_n 0, 1) := by decide +kernel
theorem dX6_addLast_41 : decode cX6_addLast 41 = .ok (.getfield 21, 3) := by decide +kernel
theorem dX6_addLast_44 : decode cX6_addLast 44 = .ok (.aload_n 0, 1) := by decide +kernel
theorem dX6_addLast_45 : decode cX6_addLast 45 = .ok (.getfield 30, 3) := by decide +kernel
theorem dX6_addLast_48 : decode cX6_addLast 48 = .ok (.iload 4, 2) := by decide +kernel
theorem dX6_addLast_50 : decode cX6_addLast 50 = .ok (.iastore, 1) := by decide +kernel
theorem dX6_addLast_51 : decode cX6_addLast 51 = .ok (.aload_n 0, 1) := by decide +kernel
theorem dX6_addLast_52 : decode cX6_addLast 52 = .ok (.dup, 1) := by decide +kernel
theorem dX6_addLast_53 : decode cX6_addLast 53 = .ok (.getfield 30, 3) := by decide +kernel
theorem dX6_addLast_56 : decode cX6_addLast 56 = .ok (.iconst 1, 1) := by decide +kernel
theorem dX6_addLast_57 : decode cX6_addLast 57 = .ok (.iadd, 1) := by decide +kernel
theorem dX6_addLast_58 : decode cX6_addLast 58 = .ok (.putfield 30, 3) := by decide +kernel
theorem dX6_addLast_61 : decode cX6_addLast 61 = .ok (.return_, 1) := by decide +kernel
theorem dX6_takeJob_0 : decode cX6_takeJob 0 = .ok (.aload_n 0, 1) := by decide +kernel
theorem dX6_takeJob_1 : decode cX6_takeJob 1 = .ok (.getfield 9, 3) := by decide +kernel
theorem dX6_takeJob_4 : decode cX6_takeJob 4 = .ok (.iload_n 3, 1) := by decide +kernel
theorem dX6_takeJob_5 : decode cX6_takeJob 5 = .ok (.aload_n 1, 1) := by decide +kernel
theorem dX6_takeJob_6 : decode cX6_takeJob 6 = .ok (.getfield 9, 3) := by decide +kernel
theorem dX6_takeJob_9 : decode cX6_takeJob 9 = .ok (.iload_n 2, 1) := by decide +kernel
theorem dX6_takeJob_10 : decode cX6_takeJob 10 = .ok (.iaload, 1) := by decide +kernel
theorem dX6_takeJob_11 : decode cX6_takeJob 11 = .ok (.iastore, 1) := by decide +kernel
theorem dX6_takeJob_12 : decode cX6_takeJob 12 = .ok (.aload_n 0, 1) := by decide +kernel
theorem dX6_takeJob_13 : decode cX6_takeJob 13 = .ok (.getfield 15, 3) := by decide +kernel
theorem dX6_takeJob_16 : decode cX6_takeJob 16 = .ok (.iload_n 3, 1) := by decide +kernel
theorem dX6_takeJob_17 : decode cX6_takeJob 17 = .ok (.aload_n 1, 1) := by decide +kernel
theorem dX6_takeJob_18 : decode cX6_takeJob 18 = .ok (.getfield 15, 3) := by decide +kernel
theorem dX6_takeJob_21 : decode cX6_takeJob 21 = .ok (.iload_n 2, 1) := by decide +kernel
theorem dX6_takeJob_22 : decode cX6_takeJob 22 = .ok (.iaload, 1) := by decide +kernel
theorem dX6_takeJob_23 : decode cX6_takeJob 23 = .ok (.iastore, 1) := by decide +kernel
theorem dX6_takeJob_24 : decode cX6_takeJob 24 = .ok (.aload_n 0, 1) := by decide +kernel
theorem dX6_takeJob_25 : decode cX6_takeJob 25 = .ok (.getfield 18, 3) := by decide +kernel
theorem dX6_takeJob_28 : decode cX6_takeJob 28 = .ok (.iload_n 3, 1) := by decide +kernel
theorem dX6_takeJob_29 : decode cX6_takeJob 29 = .ok (.aload_n 1, 1) := by decide +kernel
theorem dX6_takeJob_30 : decode cX6_takeJob 30 = .ok (.getfield 18, 3) := by decide +kernel
theorem dX6_takeJob_33 : decode cX6_takeJob 33 = .ok (.iload_n 2, 1) := by decide +kernel
theorem dX6_takeJob_34 : decode cX6_takeJob 34 = .ok (.iaload, 1) := by decide +kernel
theorem dX6_takeJob_35 : decode cX6_takeJob 35 = .ok (.iastore, 1) := by decide +kernel
theorem dX6_takeJob_36 : decode cX6_takeJob 36 = .ok (.aload_n 0, 1) := by decide +kernel
theorem dX6_takeJob_37 : decode cX6_takeJob 37 = .ok (.getfield 21, 3) := by decide +kernel
theorem dX6_takeJob_40 : decode cX6_takeJob 40 = .ok (.iload_n 3, 1) := by decide +kernel
theorem dX6_takeJob_41 : decode cX6_takeJob 41 = .ok (.aload_n 1, 1) := by decide +kernel
theorem dX6_takeJob_42 : decode cX6_takeJob 42 = .ok (.getfield 21, 3) := by decide +kernel
theorem dX6_takeJob_45 : decode cX6_takeJob 45 = .ok (.iload_n 2, 1) := by decide +kernel
theorem dX6_takeJob_46 : decode cX6_takeJob 46 = .ok (.iaload, 1) := by decide +kernel
theorem dX6_takeJob_47 : decode cX6_takeJob 47 = .ok (.iastore, 1) := by decide +kernel
theorem dX6_takeJob_48 : decode cX6_takeJob 48 = .ok (.return_, 1) := by decide +kernel
theorem dX6_removeAt_0 : decode cX6_removeAt 0 = .ok (.iload_n 1, 1) := by decide +kernel
theorem dX6_removeAt_1 : decode cX6_removeAt 1 = .ok (.iconst 1, 1) := by decide +kernel
theorem dX6_removeAt_2 : decode cX6_removeAt 2 = .ok (.iadd, 1) := by decide +kernel
theorem dX6_removeAt_3 : decode cX6_removeAt 3 = .ok (.istore_n 2, 1) := by decide +kernel
theorem dX6_removeAt_4 : decode cX6_removeAt 4 = .ok (.iload_n 2, 1) := by decide +kernel
theorem dX6_removeAt_5 : decode cX6_removeAt 5 = .ok (.aload_n 0, 1) := by decide +kernel
theorem dX6_removeAt_6 : decode cX6_removeAt 6 = .ok (.getfield 30, 3) := by decide +kernel
theorem dX6_removeAt_9 : decode cX6_removeAt 9 = .ok (.if_icmp .ge 18, 3) := by decide +kernel
theorem dX6_removeAt_12 : decode cX6_removeAt 12 = .ok (.aload_n 0, 1) := by decide +kernel
theorem dX6_removeAt_13 : decode cX6_removeAt 13 = .ok (.aload_n 0, 1) := by decide +kernel
theorem dX6_removeAt_14 : decode cX6_removeAt 14 = .ok (.iload_n 2, 1) := by decide +kernel
theorem dX6_removeAt_15 : decode cX6_removeAt 15 = .ok (.iload_n 2, 1) := by decide +kernel
theorem dX6_removeAt_16 : decode cX6_removeAt 16 = .ok (.iconst 1, 1) := by decide +kernel
theorem dX6_removeAt_17 : decode cX6_removeAt 17 = .ok (.isub, 1) := by decide +kernel
theorem dX6_removeAt_18 : decode cX6_removeAt 18 = .ok (.invokevirtual 46, 3) := by decide +kernel
theorem dX6_removeAt_21 : decode cX6_removeAt 21 = .ok (.iinc 2 1, 3) := by decide +kernel
theorem dX6_removeAt_24 : decode cX6_removeAt 24 = .ok (.goto (-20), 3) := by decide +kernel
theorem dX6_removeAt_27 : decode cX6_removeAt 27 = .ok (.aload_n 0, 1) := by decide +kernel
theorem dX6_removeAt_28 : decode cX6_removeAt 28 = .ok (.dup, 1) := by decide +kernel
theorem dX6_removeAt_29 : decode cX6_removeAt 29 = .ok (.getfield 30, 3) := by decide +kernel
theorem dX6_removeAt_32 : decode cX6_removeAt 32 = .ok (.iconst 1, 1) := by decide +kernel
theorem dX6_removeAt_33 : decode cX6_removeAt 33 = .ok (.isub, 1) := by decide +kernel
theorem dX6_removeAt_34 : decode cX6_removeAt 34 = .ok (.putfield 30, 3) := by decide +kernel
theorem dX6_removeAt_37 : decode cX6_removeAt 37 = .ok (.return_, 1) := by decide +kernel
theorem dX6_exchange_0 : decode cX6_exchange 0 = .ok (.aload_n 0, 1) := by decide +kernel
theorem dX6_exchange_1 : decode cX6_exchange 1 = .ok (.getfield 9, 3) := by decide +kernel
theorem dX6_exchange_4 : decode cX6_exchange 4 = .ok (.iload_n 1, 1) := by decide +kernel
theorem dX6_exchange_5 : decode cX6_exchange 5 = .ok (.iload_n 2, 1) := by decide +kernel
theorem dX6_exchange_6 : decode cX6_exchange 6 = .ok (.invokestatic 50, 3) := by decide +kernel
theorem dX6_exchange_9 : decode cX6_exchange 9 = .ok (.aload_n 0, 1) := by decide +kernel
theorem dX6_exchange_10 : decode cX6_exchange 10 = .ok (.getfield 15, 3) := by decide +kernel
theorem dX6_exchange_13 : decode cX6_exchange 13 = .ok (.iload_n 1, 1) := by decide +kernel
theorem dX6_exchange_14 : decode cX6_exchange 14 = .ok (.iload_n 2, 1) := by decide +kernel
theorem dX6_exchange_15 : decode cX6_exchange 15 = .ok (.invokestatic 50, 3) := by decide +kernel
theorem dX6_exchange_18 : decode cX6_exchange 18 = .ok (.aload_n 0, 1) := by decide +kernel
theorem dX6_exchange_19 : decode cX6_exchange 19 = .ok (.getfield 18, 3) := by decide +kernel
theorem dX6_exchange_22 : decode cX6_exchange 22 = .ok (.iload_n 1, 1) := by decide +kernel
theorem dX6_exchange_23 : decode cX6_exchange 23 = .ok (.iload_n 2, 1) := by decide +kernel
theorem dX6_exchange_24 : decode cX6_exchange 24 = .ok (.invokestatic 50, 3) := by decide +kernel
theorem dX6_exchange_27 : decode cX6_exchange 27 = .ok (.aload_n 0, 1) := by decide +kernel
theorem dX6_exchange_28 : decode cX6_exchange 28 = .ok (.getfield 21, 3) := by decide +kernel
theorem dX6_exchange_31 : decode cX6_exchange 31 = .ok (.iload_n 1, 1) := by decide +kernel
theorem dX6_exchange_32 : decode cX6_exchange 32 = .ok (.iload_n 2, 1) := by decide +kernel
theorem dX6_exchange_33 : decode cX6_exchange 33 = .ok (.invokestatic 50, 3) := by decide +kernel
theorem dX6_exchange_36 : decode cX6_exchange 36 = .ok (.return_, 1) := by decide +kernel
theorem dX6_exchangeIn_0 : decode cX6_exchangeIn 0 = .ok (.aload_n 0, 1) := by decide +kernel
theorem dX6_exchangeIn_1 : decode cX6_exchangeIn 1 = .ok (.iload_n 1, 1) := by decide +kernel
theorem dX6_exchangeIn_2 : decode cX6_exchangeIn 2 = .ok (.iaload, 1) := by decide +kernel
theorem dX6_exchangeIn_3 : decode cX6_exchangeIn 3 = .ok (.istore_n 3, 1) := by decide +kernel
theorem dX6_exchangeIn_4 : decode cX6_exchangeIn 4 = .ok (.aload_n 0, 1) := by decide +kernel
theorem dX6_exchangeIn_5 : decode cX6_exchangeIn 5 = .ok (.iload_n 1, 1) := by decide +kernel
theorem dX6_exchangeIn_6 : decode cX6_exchangeIn 6 = .ok (.aload_n 0, 1) := by decide +kernel
theorem dX6_exchangeIn_7 : decode cX6_exchangeIn 7 = .ok (.iload_n 2, 1) := by decide +kernel
theorem dX6_exchangeIn_8 : decode cX6_exchangeIn 8 = .ok (.iaload, 1) := by decide +kernel
theorem dX6_exchangeIn_9 : decode cX6_exchangeIn 9 = .ok (.iastore, 1) := by decide +kernel
theorem dX6_exchangeIn_10 : decode cX6_exchangeIn 10 = .ok (.aload_n 0, 1) := by decide +kernel
theorem dX6_exchangeIn_11 : decode cX6_exchangeIn 11 = .ok (.iload_n 2, 1) := by decide +kernel
theorem dX6_exchangeIn_12 : decode cX6_exchangeIn 12 = .ok (.iload_n 3, 1) := by decide +kernel
theorem dX6_exchangeIn_13 : decode cX6_exchangeIn 13 = .ok (.iastore, 1) := by decide +kernel
theorem dX6_exchangeIn_14 : decode cX6_exchangeIn 14 = .ok (.return_, 1) := by decide +kernel
theorem dX6_jobsOf_0 : decode cX6_jobsOf 0 = .ok (.iconst 0, 1) := by decide +kernel
theorem dX6_jobsOf_1 : decode cX6_jobsOf 1 = .ok (.istore_n 2, 1) := by decide +kernel
theorem dX6_jobsOf_2 : decode cX6_jobsOf 2 = .ok (.iconst 0, 1) := by decide +kernel
theorem dX6_jobsOf_3 : decode cX6_jobsOf 3 = .ok (.istore_n 3, 1) := by decide +kernel
theorem dX6_jobsOf_4 : decode cX6_jobsOf 4 = .ok (.iload_n 3, 1) := by decide +kernel
theorem dX6_jobsOf_5 : decode cX6_jobsOf 5 = .ok (.aload_n 0, 1) := by decide +kernel
theorem dX6_jobsOf_6 : decode cX6_jobsOf 6 = .ok (.getfield 30, 3) := by decide +kernel
theorem dX6_jobsOf_9 : decode cX6_jobsOf 9 = .ok (.if_icmp .ge 22, 3) := by decide +kernel
theorem dX6_jobsOf_12 : decode cX6_jobsOf 12 = .ok (.aload_n 0, 1) := by decide +kernel
theorem dX6_jobsOf_13 : decode cX6_jobsOf 13 = .ok (.getfield 9, 3) := by decide +kernel
theorem dX6_jobsOf_16 : decode cX6_jobsOf 16 = .ok (.iload_n 3, 1) := by decide +kernel
theorem dX6_jobsOf_17 : decode cX6_jobsOf 17 = .ok (.iaload, 1) := by decide +kernel
theorem dX6_jobsOf_18 : decode cX6_jobsOf 18 = .ok (.iload_n 1, 1) := by decide +kernel
theorem dX6_jobsOf_19 : decode cX6_jobsOf 19 = .ok (.if_icmp .ne 6, 3) := by decide +kernel
theorem dX6_jobsOf_22 : decode cX6_jobsOf 22 = .ok (.iinc 2 1, 3) := by decide +kernel
theorem dX6_jobsOf_25 : decode cX6_jobsOf 25 = .ok (.iinc 3 1, 3) := by decide +kernel
theorem dX6_jobsOf_28 : decode cX6_jobsOf 28 = .ok (.goto (-24), 3) := by decide +kernel
theorem dX6_jobsOf_31 : decode cX6_jobsOf 31 = .ok (.iload_n 2, 1) := by decide +kernel
theorem dX6_jobsOf_32 : decode cX6_jobsOf 32 = .ok (.ireturn, 1) := by decide +kernel
theorem dX6_jobFrom_0 : decode cX6_jobFrom 0 = .ok (.iload_n 2, 1) := by decide +kernel
theorem dX6_jobFrom_1 : decode cX6_jobFrom 1 = .ok (.istore_n 3, 1) := by decide +kernel
theorem dX6_jobFrom_2 : decode cX6_jobFrom 2 = .ok (.iload_n 3, 1) := by decide +kernel
theorem dX6_jobFrom_3 : decode cX6_jobFrom 3 = .ok (.aload_n 0, 1) := by decide +kernel
theorem dX6_jobFrom_4 : decode cX6_jobFrom 4 = .ok (.getfield 30, 3) := by decide +kernel
theorem dX6_jobFrom_7 : decode cX6_jobFrom 7 = .ok (.if_icmp .ge 21, 3) := by decide +kernel
theorem dX6_jobFrom_10 : decode cX6_jobFrom 10 = .ok (.aload_n 0, 1) := by decide +kernel
theorem dX6_jobFrom_11 : decode cX6_jobFrom 11 = .ok (.getfield 9, 3) := by decide +kernel
theorem dX6_jobFrom_14 : decode cX6_jobFrom 14 = .ok (.iload_n 3, 1) := by decide +kernel
theorem dX6_jobFrom_15 : decode cX6_jobFrom 15 = .ok (.iaload, 1) := by decide +kernel
theorem dX6_jobFrom_16 : decode cX6_jobFrom 16 = .ok (.iload_n 1, 1) := by decide +kernel
theorem dX6_jobFrom_17 : decode cX6_jobFrom 17 = .ok (.if_icmp .ne 5, 3) := by decide +kernel
theorem dX6_jobFrom_20 : decode cX6_jobFrom 20 = .ok (.iload_n 3, 1) := by decide +kernel
theorem dX6_jobFrom_21 : decode cX6_jobFrom 21 = .ok (.ireturn, 1) := by decide +kernel
theorem dX6_jobFrom_22 : decode cX6_jobFrom 22 = .ok (.iinc 3 1, 3) := by decide +kernel
theorem dX6_jobFrom_25 : decode cX6_jobFrom 25 = .ok (.goto (-23), 3) := by decide +kernel
theorem dX6_jobFrom_28 : decode cX6_jobFrom 28 = .ok (.iconst (-1), 1) := by decide +kernel
theorem dX6_jobFrom_29 : decode cX6_jobFrom 29 = .ok (.ireturn, 1) := by decide +kernel
theorem dX7_init_0 : decode cX7_init 0 = .ok (.aload_n 0, 1) := by decide +kernel
theorem dX7_init_1 : decode cX7_init 1 = .ok (.invokespecial 3, 3) := by decide +kernel
theorem dX7_init_4 : decode cX7_init 4 = .ok (.aload_n 0, 1) := by decide +kernel
theorem dX7_init_5 : decode cX7_init 5 = .ok (.new 9, 3) := by decide +kernel
theorem dX7_init_8 : decode cX7_init 8 = .ok (.dup, 1) := by decide +kernel
theorem dX7_init_9 : decode cX7_init 9 = .ok (.invokespecial 11, 3) := by decide +kernel
theorem dX7_init_12 : decode cX7_init 12 = .ok (.putfield 12, 3) := by decide +kernel
theorem dX7_init_15 : decode cX7_init 15 = .ok (.aload_n 0, 1) := by decide +kernel
theorem dX7_init_16 : decode cX7_init 16 = .ok (.new 16, 3) := by decide +kernel
theorem dX7_init_19 : decode cX7_init 19 = .ok (.dup, 1) := by decide +kernel
theorem dX7_init_20 : decode cX7_init 20 = .ok (.invokespecial 18, 3) := by decide +kernel
theorem dX7_init_23 : decode cX7_init 23 = .ok (.putfield 19, 3) := by decide +kernel
theorem dX7_init_26 : decode cX7_init 26 = .ok (.aload_n 0, 1) := by decide +kernel
theorem dX7_init_27 : decode cX7_init 27 = .ok (.new 16, 3) := by decide +kernel
theorem dX7_init_30 : decode cX7_init 30 = .ok (.dup, 1) := by decide +kernel
theorem dX7_init_31 : decode cX7_init 31 = .ok (.invokespecial 18, 3) := by decide +kernel
theorem dX7_init_34 : decode cX7_init 34 = .ok (.putfield 23, 3) := by decide +kernel
theorem dX7_init_37 : decode cX7_init 37 = .ok (.aload_n 0, 1) := by decide +kernel
theorem dX7_init_38 : decode cX7_init 38 = .ok (.new 26, 3) := by decide +kernel
theorem dX7_init_41 : decode cX7_init 41 = .ok (.dup, 1) := by decide +kernel
theorem dX7_init_42 : decode cX7_init 42 = .ok (.invokespecial 28, 3) := by decide +kernel
theorem dX7_init_45 : decode cX7_init 45 = .ok (.putfield 29, 3) := by decide +kernel
theorem dX7_init_48 : decode cX7_init 48 = .ok (.aload_n 0, 1) := by decide +kernel
theorem dX7_init_49 : decode cX7_init 49 = .ok (.new 26, 3) := by decide +kernel
theorem dX7_init_52 : decode cX7_init 52 = .ok (.dup, 1) := by decide +kernel
theorem dX7_init_53 : decode cX7_init 53 = .ok (.invokespecial 28, 3) := by decide +kernel
theorem dX7_init_56 : decode cX7_init 56 = .ok (.putfield 33, 3) := by decide +kernel
theorem dX7_init_59 : decode cX7_init 59 = .ok (.aload_n 0, 1) := by decide +kernel
theorem dX7_init_60 : decode cX7_init 60 = .ok (.new 36, 3) := by decide +kernel
theorem dX7_init_63 : decode cX7_init 63 = .ok (.dup, 1) := by decide +kernel
theorem dX7_init_64 : decode cX7_init 64 = .ok (.invokespecial 38, 3) := by decide +kernel
theorem dX7_init_67 : decode cX7_init 67 = .ok (.putfield 39, 3) := by decide +kernel
theorem dX7_init_70 : decode cX7_init 70 = .ok (.aload_n 0, 1) := by decide +kernel
theorem dX7_init_71 : decode cX7_init 71 = .ok (.new 43, 3) := by decide +kernel
theorem dX7_init_74 : decode cX7_init 74 = .ok (.dup, 1) := by decide +kernel
theorem dX7_init_75 : decode cX7_init 75 = .ok (.invokespecial 45, 3) := by decide +kernel
theorem dX7_init_78 : decode cX7_init 78 = .ok (.putfield 46, 3) := by decide +kernel
theorem dX7_init_81 : decode cX7_init 81 = .ok (.aload_n 0, 1) := by decide +kernel
theorem dX7_init_82 : decode cX7_init 82 = .ok (.new 50, 3) := by decide +kernel
theorem dX7_init_85 : decode cX7_init 85 = .ok (.dup, 1) := by decide +kernel
theorem dX7_init_86 : decode cX7_init 86 = .ok (.invokespecial 52, 3) := by decide +kernel
theorem dX7_init_89 : decode cX7_init 89 = .ok (.putfield 53, 3) := by decide +kernel
theorem dX7_init_92 : decode cX7_init 92 = .ok (.aload_n 0, 1) := by decide +kernel
theorem dX7_init_93 : decode cX7_init 93 = .ok (.new 57, 3) := by decide +kernel
theorem dX7_init_96 : decode cX7_init 96 = .ok (.dup, 1) := by decide +kernel
theorem dX7_init_97 : decode cX7_init 97 = .ok (.invokespecial 59, 3) := by decide +kernel
theorem dX7_init_100 : decode cX7_init 100 = .ok (.putfield 60, 3) := by decide +kernel
theorem dX7_init_103 : decode cX7_init 103 = .ok (.aload_n 0, 1) := by decide +kernel
theorem dX7_init_104 : decode cX7_init 104 = .ok (.new 26, 3) := by decide +kernel
theorem dX7_init_107 : decode cX7_init 107 = .ok (.dup, 1) := by decide +kernel
theorem dX7_init_108 : decode cX7_init 108 = .ok (.invokespecial 28, 3) := by decide +kernel
theorem dX7_init_111 : decode cX7_init 111 = .ok (.putfield 64, 3) := by decide +kernel
theorem dX7_init_114 : decode cX7_init 114 = .ok (.return_, 1) := by decide +kernel
theorem dX7_append_0 : decode cX7_append 0 = .ok (.aload_n 0, 1) := by decide +kernel
theorem dX7_append_1 : decode cX7_append 1 = .ok (.getfield 12, 3) := by decide +kernel
theorem dX7_append_4 : decode cX7_append 4 = .ok (.getfield 67, 3) := by decide +kernel
theorem dX7_append_7 : decode cX7_append 7 = .ok (.bipush 20, 2) := by decide +kernel
theorem dX7_append_9 : decode cX7_append 9 = .ok (.iadd, 1) := by decide +kernel
theorem dX7_append_10 : decode cX7_append 10 = .ok (.sipush 900, 3) := by decide +kernel
theorem dX7_append_13 : decode cX7_append 13 = .ok (.if_icmp .le 6, 3) := by decide +kernel
theorem dX7_append_16 : decode cX7_append 16 = .ok (.ldc 71, 2) := by decide +kernel
theorem dX7_append_18 : decode cX7_append 18 = .ok (.ireturn, 1) := by decide +kernel
theorem dX7_append_19 : decode cX7_append 19 = .ok (.aload_n 0, 1) := by decide +kernel
theorem dX7_append_20 : decode cX7_append 20 = .ok (.getfield 12, 3) := by decide +kernel
theorem dX7_append_23 : decode cX7_append 23 = .ok (.iload_n 1, 1) := by decide +kernel
theorem dX7_append_24 : decode cX7_append 24 = .ok (.invokevirtual 72, 3) := by decide +kernel
theorem dX7_append_27 : decode cX7_append 27 = .ok (.aload_n 0, 1) := by decide +kernel
theorem dX7_append_28 : decode cX7_append 28 = .ok (.getfield 12, 3) := by decide +kernel
theorem dX7_append_31 : decode cX7_append 31 = .ok (.iload_n 2, 1) := by decide +kernel
theorem dX7_append_32 : decode cX7_append 32 = .ok (.invokevirtual 72, 3) := by decide +kernel
theorem dX7_append_35 : decode cX7_append 35 = .ok (.aload_n 0, 1) := by decide +kernel
theorem dX7_append_36 : decode cX7_append 36 = .ok (.getfield 12, 3) := by decide +kernel
theorem dX7_append_39 : decode cX7_append 39 = .ok (.iload_n 3, 1) := by decide +kernel
theorem dX7_append_40 : decode cX7_append 40 = .ok (.invokevirtual 72, 3) := by decide +kernel
theorem dX7_append_43 : decode cX7_append 43 = .ok (.aload_n 0, 1) := by decide +kernel
theorem dX7_append_44 : decode cX7_append 44 = .ok (.getfield 12, 3) := by decide +kernel
theorem dX7_append_47 : decode cX7_append 47 = .ok (.iload 4, 2) := by decide +kernel
theorem dX7_append_49 : decode cX7_append 49 = .ok (.invokevirtual 72, 3) := by decide +kernel
theorem dX7_append_52 : decode cX7_append 52 = .ok (.aload_n 0, 1) := by decide +kernel
theorem dX7_append_53 : decode cX7_append 53 = .ok (.getfield 12, 3) := by decide +kernel
theorem dX7_append_56 : decode cX7_append 56 = .ok (.iload 5, 2) := by decide +kernel
theorem dX7_append_58 : decode cX7_append 58 = .ok (.invokevirtual 72, 3) := by decide +kernel
theorem dX7_append_61 : decode cX7_append 61 = .ok (.aload_n 0, 1) := by decide +kernel
theorem dX7_append_62 : decode cX7_append 62 = .ok (.getfield 12, 3) := by decide +kernel
theorem dX7_append_65 : decode cX7_append 65 = .ok (.getfield 67, 3) := by decide +kernel
theorem dX7_append_68 : decode cX7_append 68 = .ok (.ireturn, 1) := by decide +kernel
theorem dX7_load_0 : decode cX7_load 0 = .ok (.iload_n 1, 1) := by decide +kernel
theorem dX7_load_1 : decode cX7_load 1 = .ok (.ifCond .lt 14, 3) := by decide +kernel
theorem dX7_load_4 : decode cX7_load 4 = .ok (.iload_n 1, 1) := by decide +kernel
theorem dX7_load_5 : decode cX7_load 5 = .ok (.aload_n 0, 1) := by decide +kernel
theorem dX7_load_6 : decode cX7_load 6 = .ok (.getfield 12, 3) := by decide +kernel
theorem dX7_load_9 : decode cX7_load 9 = .ok (.getfield 67, 3) := by decide +kernel
theorem dX7_load_12 : decode cX7_load 12 = .ok (.if_icmp .le 9, 3) := by decide +kernel
theorem dX7_load_15 : decode cX7_load 15 = .ok (.aload_n 0, 1) := by decide +kernel
theorem dX7_load_16 : decode cX7_load 16 = .ok (.iconst 2, 1) := by decide +kernel
theorem dX7_load_17 : decode cX7_load 17 = .ok (.invokevirtual 76, 3) := by decide +kernel
theorem dX7_load_20 : decode cX7_load 20 = .ok (.ireturn, 1) := by decide +kernel
theorem dX7_load_21 : decode cX7_load 21 = .ok (.aload_n 0, 1) := by decide +kernel
theorem dX7_load_22 : decode cX7_load 22 = .ok (.getfield 12, 3) := by decide +kernel
theorem dX7_load_25 : decode cX7_load 25 = .ok (.iload_n 1, 1) := by decide +kernel
theorem dX7_load_26 : decode cX7_load 26 = .ok (.invokevirtual 80, 3) := by decide +kernel
theorem dX7_load_29 : decode cX7_load 29 = .ok (.aload_n 0, 1) := by decide +kernel
theorem dX7_load_30 : decode cX7_load 30 = .ok (.getfield 12, 3) := by decide +kernel
theorem dX7_load_33 : decode cX7_load 33 = .ok (.iconst 0, 1) := by decide +kernel
theorem dX7_load_34 : decode cX7_load 34 = .ok (.putfield 67, 3) := by decide +kernel
theorem dX7_load_37 : decode cX7_load 37 = .ok (.aload_n 0, 1) := by decide +kernel
theorem dX7_load_38 : decode cX7_load 38 = .ok (.getfield 12, 3) := by decide +kernel
theorem dX7_load_41 : decode cX7_load 41 = .ok (.getfield 83, 3) := by decide +kernel
theorem dX7_load_44 : decode cX7_load 44 = .ok (.ifCond .eq 9, 3) := by decide +kernel
theorem dX7_load_47 : decode cX7_load 47 = .ok (.aload_n 0, 1) := by decide +kernel
theorem dX7_load_48 : decode cX7_load 48 = .ok (.iconst 4, 1) := by decide +kernel
theorem dX7_load_49 : decode cX7_load 49 = .ok (.invokevirtual 76, 3) := by decide +kernel
theorem dX7_load_52 : decode cX7_load 52 = .ok (.ireturn, 1) := by decide +kernel
theorem dX7_load_53 : decode cX7_load 53 = .ok (.aload_n 0, 1) := by decide +kernel
theorem dX7_load_54 : decode cX7_load 54 = .ok (.invokevirtual 86, 3) := by decide +kernel
theorem dX7_load_57 : decode cX7_load 57 = .ok (.aload_n 0, 1) := by decide +kernel
theorem dX7_load_58 : decode cX7_load 58 = .ok (.aload_n 0, 1) := by decide +kernel
theorem dX7_load_59 : decode cX7_load 59 = .ok (.getfield 64, 3) := by decide +kernel
theorem dX7_load_62 : decode cX7_load 62 = .ok (.getfield 89, 3) := by decide +kernel
theorem dX7_load_65 : decode cX7_load 65 = .ok (.invokevirtual 92, 3) := by decide +kernel
theorem dX7_load_68 : decode cX7_load 68 = .ok (.ireturn, 1) := by decide +kernel
theorem dX7_jobCount_0 : decode cX7_jobCount 0 = .ok (.aload_n 0, 1) := by decide +kernel
theorem dX7_jobCount_1 : decode cX7_jobCount 1 = .ok (.getfield 106, 3) := by decide +kernel
theorem dX7_jobCount_4 : decode cX7_jobCount 4 = .ok (.ifCond .ne 9, 3) := by decide +kernel
theorem dX7_jobCount_7 : decode cX7_jobCount 7 = .ok (.aload_n 0, 1) := by decide +kernel
theorem dX7_jobCount_8 : decode cX7_jobCount 8 = .ok (.iconst 1, 1) := by decide +kernel
theorem dX7_jobCount_9 : decode cX7_jobCount 9 = .ok (.invokevirtual 76, 3) := by decide +kernel
theorem dX7_jobCount_12 : decode cX7_jobCount 12 = .ok (.ireturn, 1) := by decide +kernel
theorem dX7_jobCount_13 : decode cX7_jobCount 13 = .ok (.aload_n 0, 1) := by decide +kernel
theorem dX7_jobCount_14 : decode cX7_jobCount 14 = .ok (.aload_n 0, 1) := by decide +kernel
theorem dX7_jobCount_15 : decode cX7_jobCount 15 = .ok (.getfield 64, 3) := by decide +kernel
theorem dX7_jobCount_18 : decode cX7_jobCount 18 = .ok (.getfield 89, 3) := by decide +kernel
theorem dX7_jobCount_21 : decode cX7_jobCount 21 = .ok (.invokevirtual 92, 3) := by decide +kernel
theorem dX7_jobCount_24 : decode cX7_jobCount 24 = .ok (.ireturn, 1) := by decide +kernel
theorem dX7_departure_0 : decode cX7_departure 0 = .ok (.aload_n 0, 1) := by decide +kernel
theorem dX7_departure_1 : decode cX7_departure 1 = .ok (.iload_n 1, 1) := by decide +kernel
theorem dX7_departure_2 : decode cX7_departure 2 = .ok (.invokevirtual 98, 3) := by decide +kernel
theorem dX7_departure_5 : decode cX7_departure 5 = .ok (.ifCond .ne 9, 3) := by decide +kernel
theorem dX7_departure_8 : decode cX7_departure 8 = .ok (.aload_n 0, 1) := by decide +kernel
theorem dX7_departure_9 : decode cX7_departure 9 = .ok (.iconst 1, 1) := by decide +kernel
theorem dX7_departure_10 : decode cX7_departure 10 = .ok (.invokevirtual 76, 3) := by decide +kernel
theorem dX7_departure_13 : decode cX7_departure 13 = .ok (.ireturn, 1) := by decide +kernel
theorem dX7_departure_14 : decode cX7_departure 14 = .ok (.aload_n 0, 1) := by decide +kernel
theorem dX7_departure_15 : decode cX7_departure 15 = .ok (.aload_n 0, 1) := by decide +kernel
theorem dX7_departure_16 : decode cX7_departure 16 = .ok (.getfield 64, 3) := by decide +kernel
theorem dX7_departure_19 : decode cX7_departure 19 = .ok (.getfield 116, 3) := by decide +kernel
theorem dX7_departure_22 : decode cX7_departure 22 = .ok (.iload_n 1, 1) := by decide +kernel
theorem dX7_departure_23 : decode cX7_departure 23 = .ok (.iaload, 1) := by decide +kernel
theorem dX7_departure_24 : decode cX7_departure 24 = .ok (.invokevirtual 92, 3) := by decide +kernel
theorem dX7_departure_27 : decode cX7_departure 27 = .ok (.ireturn, 1) := by decide +kernel
theorem dX7_stock_0 : decode cX7_stock 0 = .ok (.aload_n 0, 1) := by decide +kernel
theorem dX7_stock_1 : decode cX7_stock 1 = .ok (.iload_n 1, 1) := by decide +kernel
theorem dX7_stock_2 : decode cX7_stock 2 = .ok (.iload_n 2, 1) := by decide +kernel
theorem dX7_stock_3 : decode cX7_stock 3 = .ok (.invokevirtual 119, 3) := by decide +kernel
theorem dX7_stock_6 : decode cX7_stock 6 = .ok (.ifCond .ne 9, 3) := by decide +kernel
theorem dX7_stock_9 : decode cX7_stock 9 = .ok (.aload_n 0, 1) := by decide +kernel
theorem dX7_stock_10 : decode cX7_stock 10 = .ok (.iconst 1, 1) := by decide +kernel
theorem dX7_stock_11 : decode cX7_stock 11 = .ok (.invokevirtual 76, 3) := by decide +kernel
theorem dX7_stock_14 : decode cX7_stock 14 = .ok (.ireturn, 1) := by decide +kernel
theorem dX7_stock_15 : decode cX7_stock 15 = .ok (.aload_n 0, 1) := by decide +kernel
theorem dX7_stock_16 : decode cX7_stock 16 = .ok (.aload_n 0, 1) := by decide +kernel
theorem dX7_stock_17 : decode cX7_stock 17 = .ok (.getfield 64, 3) := by decide +kernel
theorem dX7_stock_20 : decode cX7_stock 20 = .ok (.getfield 123, 3) := by decide +kernel
theorem dX7_stock_23 : decode cX7_stock 23 = .ok (.iload_n 1, 1) := by decide +kernel
theorem dX7_stock_24 : decode cX7_stock 24 = .ok (.iload_n 2, 1) := by decide +kernel
theorem dX7_stock_25 : decode cX7_stock 25 = .ok (.invokestatic 126, 3) := by decide +kernel
theorem dX7_stock_28 : decode cX7_stock 28 = .ok (.iaload, 1) := by decide +kernel
theorem dX7_stock_29 : decode cX7_stock 29 = .ok (.invokevirtual 92, 3) := by decide +kernel
theorem dX7_stock_32 : decode cX7_stock 32 = .ok (.ireturn, 1) := by decide +kernel
theorem dX7_demand_0 : decode cX7_demand 0 = .ok (.aload_n 0, 1) := by decide +kernel
theorem dX7_demand_1 : decode cX7_demand 1 = .ok (.iload_n 1, 1) := by decide +kernel
theorem dX7_demand_2 : decode cX7_demand 2 = .ok (.iload_n 2, 1) := by decide +kernel
theorem dX7_demand_3 : decode cX7_demand 3 = .ok (.iload_n 3, 1) := by decide +kernel
theorem dX7_demand_4 : decode cX7_demand 4 = .ok (.invokevirtual 130, 3) := by decide +kernel
theorem dX7_demand_7 : decode cX7_demand 7 = .ok (.ifCond .ne 9, 3) := by decide +kernel
theorem dX7_demand_10 : decode cX7_demand 10 = .ok (.aload_n 0, 1) := by decide +kernel
theorem dX7_demand_11 : decode cX7_demand 11 = .ok (.iconst 1, 1) := by decide +kernel
theorem dX7_demand_12 : decode cX7_demand 12 = .ok (.invokevirtual 76, 3) := by decide +kernel
theorem dX7_demand_15 : decode cX7_demand 15 = .ok (.ireturn, 1) := by decide +kernel
theorem dX7_demand_16 : decode cX7_demand 16 = .ok (.aload_n 0, 1) := by decide +kernel
theorem dX7_demand_17 : decode cX7_demand 17 = .ok (.aload_n 0, 1) := by decide +kernel
theorem dX7_demand_18 : decode cX7_demand 18 = .ok (.getfield 60, 3) := by decide +kernel
theorem dX7_demand_21 : decode cX7_demand 21 = .ok (.iload_n 1, 1) := by decide +kernel
theorem dX7_demand_22 : decode cX7_demand 22 = .ok (.iload_n 2, 1) := by decide +kernel
theorem dX7_demand_23 : decode cX7_demand 23 = .ok (.invokestatic 134, 3) := by decide +kernel
theorem dX7_demand_26 : decode cX7_demand 26 = .ok (.iload_n 3, 1) := by decide +kernel
theorem dX7_demand_27 : decode cX7_demand 27 = .ok (.invokevirtual 137, 3) := by decide +kernel
theorem dX7_demand_30 : decode cX7_demand 30 = .ok (.invokevirtual 92, 3) := by decide +kernel
theorem dX7_demand_33 : decode cX7_demand 33 = .ok (.ireturn, 1) := by decide +kernel
theorem dX7_jobTrolley_0 : decode cX7_jobTrolley 0 = .ok (.aload_n 0, 1) := by decide +kernel
theorem dX7_jobTrolley_1 : decode cX7_jobTrolley 1 = .ok (.iload_n 1, 1) := by decide +kernel
theorem dX7_jobTrolley_2 : decode cX7_jobTrolley 2 = .ok (.invokevirtual 140, 3) := by decide +kernel
theorem dX7_jobTrolley_5 : decode cX7_jobTrolley 5 = .ok (.ifCond .ne 9, 3) := by decide +kernel
theorem dX7_jobTrolley_8 : decode cX7_jobTrolley 8 = .ok (.aload_n 0, 1) := by decide +kernel
theorem dX7_jobTrolley_9 : decode cX7_jobTrolley 9 = .ok (.iconst 1, 1) := by decide +kernel
theorem dX7_jobTrolley_10 : decode cX7_jobTrolley 10 = .ok (.invokevirtual 76, 3) := by decide +kernel
theorem dX7_jobTrolley_13 : decode cX7_jobTrolley 13 = .ok (.ireturn, 1) := by decide +kernel
theorem dX7_jobTrolley_14 : decode cX7_jobTrolley 14 = .ok (.aload_n 0, 1) := by decide +kernel
theorem dX7_jobTrolley_15 : decode cX7_jobTrolley 15 = .ok (.aload_n 0, 1) := by decide +kernel
theorem dX7_jobTrolley_16 : decode cX7_jobTrolley 16 = .ok (.getfield 64, 3) := by decide +kernel
theorem dX7_jobTrolley_19 : decode cX7_jobTrolley 19 = .ok (.getfield 143, 3) := by decide +kernel
theorem dX7_jobTrolley_22 : decode cX7_jobTrolley 22 = .ok (.iload_n 1, 1) := by decide +kernel
theorem dX7_jobTrolley_23 : decode cX7_jobTrolley 23 = .ok (.iaload, 1) := by decide +kernel
theorem dX7_jobTrolley_24 : decode cX7_jobTrolley 24 = .ok (.invokevirtual 92, 3) := by decide +kernel
theorem dX7_jobTrolley_27 : decode cX7_jobTrolley 27 = .ok (.ireturn, 1) := by decide +kernel
theorem dX7_jobQuantity_0 : decode cX7_jobQuantity 0 = .ok (.aload_n 0, 1) := by decide +kernel
theorem dX7_jobQuantity_1 : decode cX7_jobQuantity 1 = .ok (.iload_n 1, 1) := by decide +kernel
theorem dX7_jobQuantity_2 : decode cX7_jobQuantity 2 = .ok (.invokevirtual 140, 3) := by decide +kernel
theorem dX7_jobQuantity_5 : decode cX7_jobQuantity 5 = .ok (.ifCond .ne 9, 3) := by decide +kernel
theorem dX7_jobQuantity_8 : decode cX7_jobQuantity 8 = .ok (.aload_n 0, 1) := by decide +kernel
theorem dX7_jobQuantity_9 : decode cX7_jobQuantity 9 = .ok (.iconst 1, 1) := by decide +kernel
theorem dX7_jobQuantity_10 : decode cX7_jobQuantity 10 = .ok (.invokevirtual 76, 3) := by decide +kernel
theorem dX7_jobQuantity_13 : decode cX7_jobQuantity 13 = .ok (.ireturn, 1) := by decide +kernel
theorem dX7_jobQuantity_14 : decode cX7_jobQuantity 14 = .ok (.aload_n 0, 1) := by decide +kernel
theorem dX7_jobQuantity_15 : decode cX7_jobQuantity 15 = .ok (.aload_n 0, 1) := by decide +kernel
theorem dX7_jobQuantity_16 : decode cX7_jobQuantity 16 = .ok (.getfield 64, 3) := by decide +kernel
theorem dX7_jobQuantity_19 : decode cX7_jobQuantity 19 = .ok (.getfield 146, 3) := by decide +kernel
theorem dX7_jobQuantity_22 : decode cX7_jobQuantity 22 = .ok (.iload_n 1, 1) := by decide +kernel
theorem dX7_jobQuantity_23 : decode cX7_jobQuantity 23 = .ok (.iaload, 1) := by decide +kernel
theorem dX7_jobQuantity_24 : decode cX7_jobQuantity 24 = .ok (.invokevirtual 92, 3) := by decide +kernel
theorem dX7_jobQuantity_27 : decode cX7_jobQuantity 27 = .ok (.ireturn, 1) := by decide +kernel
theorem dX7_startTime_0 : decode cX7_startTime 0 = .ok (.aload_n 0, 1) := by decide +kernel
theorem dX7_startTime_1 : decode cX7_startTime 1 = .ok (.iload_n 1, 1) := by decide +kernel
theorem dX7_startTime_2 : decode cX7_startTime 2 = .ok (.invokevirtual 140, 3) := by decide +kernel
theorem dX7_startTime_5 : decode cX7_startTime 5 = .ok (.ifCond .ne 9, 3) := by decide +kernel
theorem dX7_startTime_8 : decode cX7_startTime 8 = .ok (.aload_n 0, 1) := by decide +kernel
theorem dX7_startTime_9 : decode cX7_startTime 9 = .ok (.iconst 1, 1) := by decide +kernel
theorem dX7_startTime_10 : decode cX7_startTime 10 = .ok (.invokevirtual 76, 3) := by decide +kernel
theorem dX7_startTime_13 : decode cX7_startTime 13 = .ok (.ireturn, 1) := by decide +kernel
theorem dX7_startTime_14 : decode cX7_startTime 14 = .ok (.aload_n 0, 1) := by decide +kernel
theorem dX7_startTime_15 : decode cX7_startTime 15 = .ok (.aload_n 0, 1) := by decide +kernel
theorem dX7_startTime_16 : decode cX7_startTime 16 = .ok (.getfield 19, 3) := by decide +kernel
theorem dX7_startTime_19 : decode cX7_startTime 19 = .ok (.getfield 149, 3) := by decide +kernel
theorem dX7_startTime_22 : decode cX7_startTime 22 = .ok (.iload_n 1, 1) := by decide +kernel
theorem dX7_startTime_23 : decode cX7_startTime 23 = .ok (.iaload, 1) := by decide +kernel
theorem dX7_startTime_24 : decode cX7_startTime 24 = .ok (.invokevirtual 92, 3) := by decide +kernel
theorem dX7_startTime_27 : decode cX7_startTime 27 = .ok (.ireturn, 1) := by decide +kernel
theorem dX7_loaded_0 : decode cX7_loaded 0 = .ok (.aload_n 0, 1) := by decide +kernel
theorem dX7_loaded_1 : decode cX7_loaded 1 = .ok (.iload_n 1, 1) := by decide +kernel
theorem dX7_loaded_2 : decode cX7_loaded 2 = .ok (.invokevirtual 140, 3) := by decide +kernel
theorem dX7_loaded_5 : decode cX7_loaded 5 = .ok (.ifCond .ne 9, 3) := by decide +kernel
theorem dX7_loaded_8 : decode cX7_loaded 8 = .ok (.aload_n 0, 1) := by decide +kernel
theorem dX7_loaded_9 : decode cX7_loaded 9 = .ok (.iconst 1, 1) := by decide +kernel
theorem dX7_loaded_10 : decode cX7_loaded 10 = .ok (.invokevirtual 76, 3) := by decide +kernel
theorem dX7_loaded_13 : decode cX7_loaded 13 = .ok (.ireturn, 1) := by decide +kernel
theorem dX7_loaded_14 : decode cX7_loaded 14 = .ok (.aload_n 0, 1) := by decide +kernel
theorem dX7_loaded_15 : decode cX7_loaded 15 = .ok (.aload_n 0, 1) := by decide +kernel
theorem dX7_loaded_16 : decode cX7_loaded 16 = .ok (.getfield 19, 3) := by decide +kernel
theorem dX7_loaded_19 : decode cX7_loaded 19 = .ok (.getfield 152, 3) := by decide +kernel
theorem dX7_loaded_22 : decode cX7_loaded 22 = .ok (.iload_n 1, 1) := by decide +kernel
theorem dX7_loaded_23 : decode cX7_loaded 23 = .ok (.iaload, 1) := by decide +kernel
theorem dX7_loaded_24 : decode cX7_loaded 24 = .ok (.invokevirtual 92, 3) := by decide +kernel
theorem dX7_loaded_27 : decode cX7_loaded 27 = .ok (.ireturn, 1) := by decide +kernel
theorem dX7_unloaded_0 : decode cX7_unloaded 0 = .ok (.aload_n 0, 1) := by decide +kernel
theorem dX7_unloaded_1 : decode cX7_unloaded 1 = .ok (.iload_n 1, 1) := by decide +kernel
theorem dX7_unloaded_2 : decode cX7_unloaded 2 = .ok (.invokevirtual 140, 3) := by decide +kernel
theorem dX7_unloaded_5 : decode cX7_unloaded 5 = .ok (.ifCond .ne 9, 3) := by decide +kernel
theorem dX7_unloaded_8 : decode cX7_unloaded 8 = .ok (.aload_n 0, 1) := by decide +kernel
theorem dX7_unloaded_9 : decode cX7_unloaded 9 = .ok (.iconst 1, 1) := by decide +kernel
theorem dX7_unloaded_10 : decode cX7_unloaded 10 = .ok (.invokevirtual 76, 3) := by decide +kernel
theorem dX7_unloaded_13 : decode cX7_unloaded 13 = .ok (.ireturn, 1) := by decide +kernel
theorem dX7_unloaded_14 : decode cX7_unloaded 14 = .ok (.aload_n 0, 1) := by decide +kernel
theorem dX7_unloaded_15 : decode cX7_unloaded 15 = .ok (.aload_n 0, 1) := by decide +kernel
theorem dX7_unloaded_16 : decode cX7_unloaded 16 = .ok (.getfield 19, 3) := by decide +kernel
theorem dX7_unloaded_19 : decode cX7_unloaded 19 = .ok (.getfield 155, 3) := by decide +kernel
theorem dX7_unloaded_22 : decode cX7_unloaded 22 = .ok (.iload_n 1, 1) := by decide +kernel
theorem dX7_unloaded_23 : decode cX7_unloaded 23 = .ok (.iaload, 1) := by decide +kernel
theorem dX7_unloaded_24 : decode cX7_unloaded 24 = .ok (.invokevirtual 92, 3) := by decide +kernel
theorem dX7_unloaded_27 : decode cX7_unloaded 27 = .ok (.ireturn, 1) := by decide +kernel
theorem dX7_unloadTime_0 : decode cX7_unloadTime 0 = .ok (.aload_n 0, 1) := by decide +kernel
theorem dX7_unloadTime_1 : decode cX7_unloadTime 1 = .ok (.iload_n 1, 1) := by decide +kernel
theorem dX7_unloadTime_2 : decode cX7_unloadTime 2 = .ok (.invokevirtual 140, 3) := by decide +kernel
theorem dX7_unloadTime_5 : decode cX7_unloadTime 5 = .ok (.ifCond .ne 9, 3) := by decide +kernel
theorem dX7_unloadTime_8 : decode cX7_unloadTime 8 = .ok (.aload_n 0, 1) := by decide +kernel
theorem dX7_unloadTime_9 : decode cX7_unloadTime 9 = .ok (.iconst 1, 1) := by decide +kernel
theorem dX7_unloadTime_10 : decode cX7_unloadTime 10 = .ok (.invokevirtual 76, 3) := by decide +kernel
theorem dX7_unloadTime_13 : decode cX7_unloadTime 13 = .ok (.ireturn, 1) := by decide +kernel
theorem dX7_unloadTime_14 : decode cX7_unloadTime 14 = .ok (.aload_n 0, 1) := by decide +kernel
theorem dX7_unloadTime_15 : decode cX7_unloadTime 15 = .ok (.getfield 19, 3) := by decide +kernel
theorem dX7_unloadTime_18 : decode cX7_unloadTime 18 = .ok (.getfield 155, 3) := by decide +kernel
theorem dX7_unloadTime_21 : decode cX7_unloadTime 21 = .ok (.iload_n 1, 1) := by decide +kernel
theorem dX7_unloadTime_22 : decode cX7_unloadTime 22 = .ok (.iaload, 1) := by decide +kernel
theorem dX7_unloadTime_23 : decode cX7_unloadTime 23 = .ok (.ifCond .ne 10, 3) := by decide +kernel
theorem dX7_unloadTime_26 : decode cX7_unloadTime 26 = .ok (.aload_n 0, 1) := by decide +kernel
theorem dX7_unloadTime_27 : decode cX7_unloadTime 27 = .ok (.bipush 6, 2) := by decide +kernel
theorem dX7_unloadTime_29 : decode cX7_unloadTime 29 = .ok (.invokevirtual 76, 3) := by decide +kernel
theorem dX7_unloadTime_32 : decode cX7_unloadTime 32 = .ok (.ireturn, 1) := by decide +kernel
theorem dX7_unloadTime_33 : decode cX7_unloadTime 33 = .ok (.aload_n 0, 1) := by decide +kernel
theorem dX7_unloadTime_34 : decode cX7_unloadTime 34 = .ok (.aload_n 0, 1) := by decide +kernel
theorem dX7_unloadTime_35 : decode cX7_unloadTime 35 = .ok (.getfield 19, 3) := by decide +kernel
theorem dX7_unloadTime_38 : decode cX7_unloadTime 38 = .ok (.getfield 158, 3) := by decide +kernel
theorem dX7_unloadTime_41 : decode cX7_unloadTime 41 = .ok (.iload_n 1, 1) := by decide +kernel
theorem dX7_unloadTime_42 : decode cX7_unloadTime 42 = .ok (.iaload, 1) := by decide +kernel
theorem dX7_unloadTime_43 : decode cX7_unloadTime 43 = .ok (.invokevirtual 92, 3) := by decide +kernel
theorem dX7_unloadTime_46 : decode cX7_unloadTime 46 = .ok (.ireturn, 1) := by decide +kernel
theorem dX7_finishTime_0 : decode cX7_finishTime 0 = .ok (.aload_n 0, 1) := by decide +kernel
theorem dX7_finishTime_1 : decode cX7_finishTime 1 = .ok (.iload_n 1, 1) := by decide +kernel
theorem dX7_finishTime_2 : decode cX7_finishTime 2 = .ok (.invokevirtual 140, 3) := by decide +kernel
theorem dX7_finishTime_5 : decode cX7_finishTime 5 = .ok (.ifCond .ne 9, 3) := by decide +kernel
theorem dX7_finishTime_8 : decode cX7_finishTime 8 = .ok (.aload_n 0, 1) := by decide +kernel
theorem dX7_finishTime_9 : decode cX7_finishTime 9 = .ok (.iconst 1, 1) := by decide +kernel
theorem dX7_finishTime_10 : decode cX7_finishTime 10 = .ok (.invokevirtual 76, 3) := by decide +kernel
theorem dX7_finishTime_13 : decode cX7_finishTime 13 = .ok (.ireturn, 1) := by decide +kernel
theorem dX7_finishTime_14 : decode cX7_finishTime 14 = .ok (.aload_n 0, 1) := by decide +kernel
theorem dX7_finishTime_15 : decode cX7_finishTime 15 = .ok (.aload_n 0, 1) := by decide +kernel
theorem dX7_finishTime_16 : decode cX7_finishTime 16 = .ok (.getfield 19, 3) := by decide +kernel
theorem dX7_finishTime_19 : decode cX7_finishTime 19 = .ok (.getfield 161, 3) := by decide +kernel
theorem dX7_finishTime_22 : decode cX7_finishTime 22 = .ok (.iload_n 1, 1) := by decide +kernel
theorem dX7_finishTime_23 : decode cX7_finishTime 23 = .ok (.iaload, 1) := by decide +kernel
theorem dX7_finishTime_24 : decode cX7_finishTime 24 = .ok (.invokevirtual 92, 3) := by decide +kernel
theorem dX7_finishTime_27 : decode cX7_finishTime 27 = .ok (.ireturn, 1) := by decide +kernel
theorem dX7_delivered_0 : decode cX7_delivered 0 = .ok (.aload_n 0, 1) := by decide +kernel
theorem dX7_delivered_1 : decode cX7_delivered 1 = .ok (.iload_n 1, 1) := by decide +kernel
theorem dX7_delivered_2 : decode cX7_delivered 2 = .ok (.iload_n 2, 1) := by decide +kernel
theorem dX7_delivered_3 : decode cX7_delivered 3 = .ok (.iload_n 3, 1) := by decide +kernel
theorem dX7_delivered_4 : decode cX7_delivered 4 = .ok (.invokevirtual 130, 3) := by decide +kernel
theorem dX7_delivered_7 : decode cX7_delivered 7 = .ok (.ifCond .ne 9, 3) := by decide +kernel
theorem dX7_delivered_10 : decode cX7_delivered 10 = .ok (.aload_n 0, 1) := by decide +kernel
theorem dX7_delivered_11 : decode cX7_delivered 11 = .ok (.iconst 1, 1) := by decide +kernel
theorem dX7_delivered_12 : decode cX7_delivered 12 = .ok (.invokevirtual 76, 3) := by decide +kernel
theorem dX7_delivered_15 : decode cX7_delivered 15 = .ok (.ireturn, 1) := by decide +kernel
theorem dX7_delivered_16 : decode cX7_delivered 16 = .ok (.aload_n 0, 1) := by decide +kernel
theorem dX7_delivered_17 : decode cX7_delivered 17 = .ok (.aload_n 0, 1) := by decide +kernel
theorem dX7_delivered_18 : decode cX7_delivered 18 = .ok (.iload_n 1, 1) := by decide +kernel
theorem dX7_delivered_19 : decode cX7_delivered 19 = .ok (.iload_n 2, 1) := by decide +kernel
theorem dX7_delivered_20 : decode cX7_delivered 20 = .ok (.invokestatic 134, 3) := by decide +kernel
theorem dX7_delivered_23 : decode cX7_delivered 23 = .ok (.iload_n 3, 1) := by decide +kernel
theorem dX7_delivered_24 : decode cX7_delivered 24 = .ok (.invokevirtual 164, 3) := by decide +kernel
theorem dX7_delivered_27 : decode cX7_delivered 27 = .ok (.invokevirtual 92, 3) := by decide +kernel
theorem dX7_delivered_30 : decode cX7_delivered 30 = .ok (.ireturn, 1) := by decide +kernel
theorem dX7_deliveredTotal_0 : decode cX7_deliveredTotal 0 = .ok (.aload_n 0, 1) := by decide +kernel
theorem dX7_deliveredTotal_1 : decode cX7_deliveredTotal 1 = .ok (.getfield 106, 3) := by decide +kernel
theorem dX7_deliveredTotal_4 : decode cX7_deliveredTotal 4 = .ok (.ifCond .ne 9, 3) := by decide +kernel
theorem dX7_deliveredTotal_7 : decode cX7_deliveredTotal 7 = .ok (.aload_n 0, 1) := by decide +kernel
theorem dX7_deliveredTotal_8 : decode cX7_deliveredTotal 8 = .ok (.iconst 1, 1) := by decide +kernel
theorem dX7_deliveredTotal_9 : decode cX7_deliveredTotal 9 = .ok (.invokevirtual 76, 3) := by decide +kernel
theorem dX7_deliveredTotal_12 : decode cX7_deliveredTotal 12 = .ok (.ireturn, 1) := by decide +kernel
theorem dX7_deliveredTotal_13 : decode cX7_deliveredTotal 13 = .ok (.aload_n 0, 1) := by decide +kernel
theorem dX7_deliveredTotal_14 : decode cX7_deliveredTotal 14 = .ok (.aload_n 0, 1) := by decide +kernel
theorem dX7_deliveredTotal_15 : decode cX7_deliveredTotal 15 = .ok (.getfield 19, 3) := by decide +kernel
theorem dX7_deliveredTotal_18 : decode cX7_deliveredTotal 18 = .ok (.getfield 167, 3) := by decide +kernel
theorem dX7_deliveredTotal_21 : decode cX7_deliveredTotal 21 = .ok (.invokevirtual 92, 3) := by decide +kernel
theorem dX7_deliveredTotal_24 : decode cX7_deliveredTotal 24 = .ok (.ireturn, 1) := by decide +kernel
theorem dX7_leftBehind_0 : decode cX7_leftBehind 0 = .ok (.aload_n 0, 1) := by decide +kernel
theorem dX7_leftBehind_1 : decode cX7_leftBehind 1 = .ok (.iload_n 1, 1) := by decide +kernel
theorem dX7_leftBehind_2 : decode cX7_leftBehind 2 = .ok (.invokevirtual 170, 3) := by decide +kernel
theorem dX7_leftBehind_5 : decode cX7_leftBehind 5 = .ok (.ifCond .ne 9, 3) := by decide +kernel
theorem dX7_leftBehind_8 : decode cX7_leftBehind 8 = .ok (.aload_n 0, 1) := by decide +kernel
theorem dX7_leftBehind_9 : decode cX7_leftBehind 9 = .ok (.iconst 1, 1) := by decide +kernel
theorem dX7_leftBehind_10 : decode cX7_leftBehind 10 = .ok (.invokevirtual 76, 3) := by decide +kernel
theorem dX7_leftBehind_13 : decode cX7_leftBehind 13 = .ok (.ireturn, 1) := by decide +kernel
theorem dX7_leftBehind_14 : decode cX7_leftBehind 14 = .ok (.iconst 0, 1) := by decide +kernel
theorem dX7_leftBehind_15 : decode cX7_leftBehind 15 = .ok (.istore_n 2, 1) := by decide +kernel
theorem dX7_leftBehind_16 : decode cX7_leftBehind 16 = .ok (.iconst 0, 1) := by decide +kernel
theorem dX7_leftBehind_17 : decode cX7_leftBehind 17 = .ok (.istore_n 3, 1) := by decide +kernel
theorem dX7_leftBehind_18 : decode cX7_leftBehind 18 = .ok (.iload_n 3, 1) := by decide +kernel
theorem dX7_leftBehind_19 : decode cX7_leftBehind 19 = .ok (.aload_n 0, 1) := by decide +kernel
theorem dX7_leftBehind_20 : decode cX7_leftBehind 20 = .ok (.getfield 64, 3) := by decide +kernel
theorem dX7_leftBehind_23 : decode cX7_leftBehind 23 = .ok (.getfield 89, 3) := by decide +kernel
theorem dX7_leftBehind_26 : decode cX7_leftBehind 26 = .ok (.if_icmp .ge 44, 3) := by decide +kernel
theorem dX7_leftBehind_29 : decode cX7_leftBehind 29 = .ok (.aload_n 0, 1) := by decide +kernel
theorem dX7_leftBehind_30 : decode cX7_leftBehind 30 = .ok (.getfield 64, 3) := by decide +kernel
theorem dX7_leftBehind_33 : decode cX7_leftBehind 33 = .ok (.getfield 143, 3) := by decide +kernel
theorem dX7_leftBehind_36 : decode cX7_leftBehind 36 = .ok (.iload_n 3, 1) := by decide +kernel
theorem dX7_leftBehind_37 : decode cX7_leftBehind 37 = .ok (.iaload, 1) := by decide +kernel
theorem dX7_leftBehind_38 : decode cX7_leftBehind 38 = .ok (.iload_n 1, 1) := by decide +kernel
theorem dX7_leftBehind_39 : decode cX7_leftBehind 39 = .ok (.if_icmp .ne 25, 3) := by decide +kernel
theorem dX7_leftBehind_42 : decode cX7_leftBehind 42 = .ok (.iload_n 2, 1) := by decide +kernel
theorem dX7_leftBehind_43 : decode cX7_leftBehind 43 = .ok (.aload_n 0, 1) := by decide +kernel
theorem dX7_leftBehind_44 : decode cX7_leftBehind 44 = .ok (.getfield 19, 3) := by decide +kernel
theorem dX7_leftBehind_47 : decode cX7_leftBehind 47 = .ok (.getfield 152, 3) := by decide +kernel
theorem dX7_leftBehind_50 : decode cX7_leftBehind 50 = .ok (.iload_n 3, 1) := by decide +kernel
theorem dX7_leftBehind_51 : decode cX7_leftBehind 51 = .ok (.iaload, 1) := by decide +kernel
theorem dX7_leftBehind_52 : decode cX7_leftBehind 52 = .ok (.aload_n 0, 1) := by decide +kernel
theorem dX7_leftBehind_53 : decode cX7_leftBehind 53 = .ok (.getfield 19, 3) := by decide +kernel
theorem dX7_leftBehind_56 : decode cX7_leftBehind 56 = .ok (.getfield 155, 3) := by decide +kernel
theorem dX7_leftBehind_59 : decode cX7_leftBehind 59 = .ok (.iload_n 3, 1) := by decide +kernel
theorem dX7_leftBehind_60 : decode cX7_leftBehind 60 = .ok (.iaload, 1) := by decide +kernel
theorem dX7_leftBehind_61 : decode cX7_leftBehind 61 = .ok (.isub, 1) := by decide +kernel
theorem dX7_leftBehind_62 : decode cX7_leftBehind 62 = .ok (.iadd, 1) := by decide +kernel
theorem dX7_leftBehind_63 : decode cX7_leftBehind 63 = .ok (.istore_n 2, 1) := by decide +kernel
theorem dX7_leftBehind_64 : decode cX7_leftBehind 64 = .ok (.iinc 3 1, 3) := by decide +kernel
theorem dX7_leftBehind_67 : decode cX7_leftBehind 67 = .ok (.goto (-49), 3) := by decide +kernel
theorem dX7_leftBehind_70 : decode cX7_leftBehind 70 = .ok (.aload_n 0, 1) := by decide +kernel
theorem dX7_leftBehind_71 : decode cX7_leftBehind 71 = .ok (.iload_n 2, 1) := by decide +kernel
theorem dX7_leftBehind_72 : decode cX7_leftBehind 72 = .ok (.invokevirtual 92, 3) := by decide +kernel
theorem dX7_leftBehind_75 : decode cX7_leftBehind 75 = .ok (.ireturn, 1) := by decide +kernel
theorem dX7_finalStock_0 : decode cX7_finalStock 0 = .ok (.aload_n 0, 1) := by decide +kernel
theorem dX7_finalStock_1 : decode cX7_finalStock 1 = .ok (.iload_n 1, 1) := by decide +kernel
theorem dX7_finalStock_2 : decode cX7_finalStock 2 = .ok (.iload_n 2, 1) := by decide +kernel
theorem dX7_finalStock_3 : decode cX7_finalStock 3 = .ok (.invokevirtual 119, 3) := by decide +kernel
theorem dX7_finalStock_6 : decode cX7_finalStock 6 = .ok (.ifCond .ne 9, 3) := by decide +kernel
theorem dX7_finalStock_9 : decode cX7_finalStock 9 = .ok (.aload_n 0, 1) := by decide +kernel
theorem dX7_finalStock_10 : decode cX7_finalStock 10 = .ok (.iconst 1, 1) := by decide +kernel
theorem dX7_finalStock_11 : decode cX7_finalStock 11 = .ok (.invokevirtual 76, 3) := by decide +kernel
theorem dX7_finalStock_14 : decode cX7_finalStock 14 = .ok (.ireturn, 1) := by decide +kernel
theorem dX7_finalStock_15 : decode cX7_finalStock 15 = .ok (.aload_n 0, 1) := by decide +kernel
theorem dX7_finalStock_16 : decode cX7_finalStock 16 = .ok (.aload_n 0, 1) := by decide +kernel
theorem dX7_finalStock_17 : decode cX7_finalStock 17 = .ok (.getfield 19, 3) := by decide +kernel
theorem dX7_finalStock_20 : decode cX7_finalStock 20 = .ok (.getfield 173, 3) := by decide +kernel
theorem dX7_finalStock_23 : decode cX7_finalStock 23 = .ok (.iload_n 1, 1) := by decide +kernel
theorem dX7_finalStock_24 : decode cX7_finalStock 24 = .ok (.iload_n 2, 1) := by decide +kernel
theorem dX7_finalStock_25 : decode cX7_finalStock 25 = .ok (.invokestatic 126, 3) := by decide +kernel
theorem dX7_finalStock_28 : decode cX7_finalStock 28 = .ok (.iaload, 1) := by decide +kernel
theorem dX7_finalStock_29 : decode cX7_finalStock 29 = .ok (.invokevirtual 92, 3) := by decide +kernel
theorem dX7_finalStock_32 : decode cX7_finalStock 32 = .ok (.ireturn, 1) := by decide +kernel
theorem dX7_shortage_0 : decode cX7_shortage 0 = .ok (.aload_n 0, 1) := by decide +kernel
theorem dX7_shortage_1 : decode cX7_shortage 1 = .ok (.iload_n 1, 1) := by decide +kernel
theorem dX7_shortage_2 : decode cX7_shortage 2 = .ok (.iload_n 2, 1) := by decide +kernel
theorem dX7_shortage_3 : decode cX7_shortage 3 = .ok (.iload_n 3, 1) := by decide +kernel
theorem dX7_shortage_4 : decode cX7_shortage 4 = .ok (.invokevirtual 130, 3) := by decide +kernel
theorem dX7_shortage_7 : decode cX7_shortage 7 = .ok (.ifCond .ne 9, 3) := by decide +kernel
theorem dX7_shortage_10 : decode cX7_shortage 10 = .ok (.aload_n 0, 1) := by decide +kernel
theorem dX7_shortage_11 : decode cX7_shortage 11 = .ok (.iconst 1, 1) := by decide +kernel
theorem dX7_shortage_12 : decode cX7_shortage 12 = .ok (.invokevirtual 76, 3) := by decide +kernel
theorem dX7_shortage_15 : decode cX7_shortage 15 = .ok (.ireturn, 1) := by decide +kernel
theorem dX7_shortage_16 : decode cX7_shortage 16 = .ok (.iload_n 1, 1) := by decide +kernel
theorem dX7_shortage_17 : decode cX7_shortage 17 = .ok (.iload_n 2, 1) := by decide +kernel
theorem dX7_shortage_18 : decode cX7_shortage 18 = .ok (.invokestatic 134, 3) := by decide +kernel
theorem dX7_shortage_21 : decode cX7_shortage 21 = .ok (.istore 4, 2) := by decide +kernel
theorem dX7_shortage_23 : decode cX7_shortage 23 = .ok (.aload_n 0, 1) := by decide +kernel
theorem dX7_shortage_24 : decode cX7_shortage 24 = .ok (.iconst 0, 1) := by decide +kernel
theorem dX7_shortage_25 : decode cX7_shortage 25 = .ok (.aload_n 0, 1) := by decide +kernel
theorem dX7_shortage_26 : decode cX7_shortage 26 = .ok (.getfield 60, 3) := by decide +kernel
theorem dX7_shortage_29 : decode cX7_shortage 29 = .ok (.iload 4, 2) := by decide +kernel
theorem dX7_shortage_31 : decode cX7_shortage 31 = .ok (.iload_n 3, 1) := by decide +kernel
theorem dX7_shortage_32 : decode cX7_shortage 32 = .ok (.invokevirtual 137, 3) := by decide +kernel
theorem dX7_shortage_35 : decode cX7_shortage 35 = .ok (.aload_n 0, 1) := by decide +kernel
theorem dX7_shortage_36 : decode cX7_shortage 36 = .ok (.iload 4, 2) := by decide +kernel
theorem dX7_shortage_38 : decode cX7_shortage 38 = .ok (.iload_n 3, 1) := by decide +kernel
theorem dX7_shortage_39 : decode cX7_shortage 39 = .ok (.invokevirtual 164, 3) := by decide +kernel
theorem dX7_shortage_42 : decode cX7_shortage 42 = .ok (.isub, 1) := by decide +kernel
theorem dX7_shortage_43 : decode cX7_shortage 43 = .ok (.invokestatic 174, 3) := by decide +kernel
theorem dX7_shortage_46 : decode cX7_shortage 46 = .ok (.invokevirtual 92, 3) := by decide +kernel
theorem dX7_shortage_49 : decode cX7_shortage 49 = .ok (.ireturn, 1) := by decide +kernel
theorem dX7_share_0 : decode cX7_share 0 = .ok (.aload_n 0, 1) := by decide +kernel
theorem dX7_share_1 : decode cX7_share 1 = .ok (.iload_n 1, 1) := by decide +kernel
theorem dX7_share_2 : decode cX7_share 2 = .ok (.iload_n 2, 1) := by decide +kernel
theorem dX7_share_3 : decode cX7_share 3 = .ok (.iload_n 3, 1) := by decide +kernel
theorem dX7_share_4 : decode cX7_share 4 = .ok (.invokevirtual 130, 3) := by decide +kernel
theorem dX7_share_7 : decode cX7_share 7 = .ok (.ifCond .ne 9, 3) := by decide +kernel
theorem dX7_share_10 : decode cX7_share 10 = .ok (.aload_n 0, 1) := by decide +kernel
theorem dX7_share_11 : decode cX7_share 11 = .ok (.iconst 1, 1) := by decide +kernel
theorem dX7_share_12 : decode cX7_share 12 = .ok (.invokevirtual 76, 3) := by decide +kernel
theorem dX7_share_15 : decode cX7_share 15 = .ok (.ireturn, 1) := by decide +kernel
theorem dX7_share_16 : decode cX7_share 16 = .ok (.aload_n 0, 1) := by decide +kernel
theorem dX7_share_17 : decode cX7_share 17 = .ok (.iload_n 1, 1) := by decide +kernel
theorem dX7_share_18 : decode cX7_share 18 = .ok (.iload_n 3, 1) := by decide +kernel
theorem dX7_share_19 : decode cX7_share 19 = .ok (.invokevirtual 202, 3) := by decide +kernel
theorem dX7_share_22 : decode cX7_share 22 = .ok (.aload_n 0, 1) := by decide +kernel
theorem dX7_share_23 : decode cX7_share 23 = .ok (.aload_n 0, 1) := by decide +kernel
theorem dX7_share_24 : decode cX7_share 24 = .ok (.getfield 53, 3) := by decide +kernel
theorem dX7_share_27 : decode cX7_share 27 = .ok (.getfield 206, 3) := by decide +kernel
theorem dX7_share_30 : decode cX7_share 30 = .ok (.iload_n 2, 1) := by decide +kernel
theorem dX7_share_31 : decode cX7_share 31 = .ok (.iaload, 1) := by decide +kernel
theorem dX7_share_32 : decode cX7_share 32 = .ok (.invokevirtual 92, 3) := by decide +kernel
theorem dX7_share_35 : decode cX7_share 35 = .ok (.ireturn, 1) := by decide +kernel
theorem dX7_coverage_0 : decode cX7_coverage 0 = .ok (.aload_n 0, 1) := by decide +kernel
theorem dX7_coverage_1 : decode cX7_coverage 1 = .ok (.iload_n 1, 1) := by decide +kernel
theorem dX7_coverage_2 : decode cX7_coverage 2 = .ok (.invokevirtual 98, 3) := by decide +kernel
theorem dX7_coverage_5 : decode cX7_coverage 5 = .ok (.ifCond .eq 11, 3) := by decide +kernel
theorem dX7_coverage_8 : decode cX7_coverage 8 = .ok (.aload_n 0, 1) := by decide +kernel
theorem dX7_coverage_9 : decode cX7_coverage 9 = .ok (.iload_n 2, 1) := by decide +kernel
theorem dX7_coverage_10 : decode cX7_coverage 10 = .ok (.invokevirtual 209, 3) := by decide +kernel
theorem dX7_coverage_13 : decode cX7_coverage 13 = .ok (.ifCond .ne 9, 3) := by decide +kernel
theorem dX7_coverage_16 : decode cX7_coverage 16 = .ok (.aload_n 0, 1) := by decide +kernel
theorem dX7_coverage_17 : decode cX7_coverage 17 = .ok (.iconst 1, 1) := by decide +kernel
theorem dX7_coverage_18 : decode cX7_coverage 18 = .ok (.invokevirtual 224, 3) := by decide +kernel
theorem dX7_coverage_21 : decode cX7_coverage 21 = .ok (.lreturn, 1) := by decide +kernel
theorem dX7_coverage_22 : decode cX7_coverage 22 = .ok (.aload_n 0, 1) := by decide +kernel
theorem dX7_coverage_23 : decode cX7_coverage 23 = .ok (.aload_n 0, 1) := by decide +kernel
theorem dX7_coverage_24 : decode cX7_coverage 24 = .ok (.iload_n 1, 1) := by decide +kernel
theorem dX7_coverage_25 : decode cX7_coverage 25 = .ok (.iload_n 2, 1) := by decide +kernel
theorem dX7_coverage_26 : decode cX7_coverage 26 = .ok (.iload_n 3, 1) := by decide +kernel
theorem dX7_coverage_27 : decode cX7_coverage 27 = .ok (.invokevirtual 228, 3) := by decide +kernel
theorem dX7_coverage_30 : decode cX7_coverage 30 = .ok (.i2l, 1) := by decide +kernel
theorem dX7_coverage_31 : decode cX7_coverage 31 = .ok (.invokevirtual 232, 3) := by decide +kernel
theorem dX7_coverage_34 : decode cX7_coverage 34 = .ok (.lreturn, 1) := by decide +kernel
theorem dX7_leastCoverage_0 : decode cX7_leastCoverage 0 = .ok (.aload_n 0, 1) := by decide +kernel
theorem dX7_leastCoverage_1 : decode cX7_leastCoverage 1 = .ok (.iload_n 1, 1) := by decide +kernel
theorem dX7_leastCoverage_2 : decode cX7_leastCoverage 2 = .ok (.invokevirtual 98, 3) := by decide +kernel
theorem dX7_leastCoverage_5 : decode cX7_leastCoverage 5 = .ok (.ifCond .ne 9, 3) := by decide +kernel
theorem dX7_leastCoverage_8 : decode cX7_leastCoverage 8 = .ok (.aload_n 0, 1) := by decide +kernel
theorem dX7_leastCoverage_9 : decode cX7_leastCoverage 9 = .ok (.iconst 1, 1) := by decide +kernel
theorem dX7_leastCoverage_10 : decode cX7_leastCoverage 10 = .ok (.invokevirtual 224, 3) := by decide +kernel
theorem dX7_leastCoverage_13 : decode cX7_leastCoverage 13 = .ok (.lreturn, 1) := by decide +kernel
theorem dX7_leastCoverage_14 : decode cX7_leastCoverage 14 = .ok (.iconst 0, 1) := by decide +kernel
theorem dX7_leastCoverage_15 : decode cX7_leastCoverage 15 = .ok (.istore_n 3, 1) := by decide +kernel
theorem dX7_leastCoverage_16 : decode cX7_leastCoverage 16 = .ok (.iconst 1, 1) := by decide +kernel
theorem dX7_leastCoverage_17 : decode cX7_leastCoverage 17 = .ok (.istore 4, 2) := by decide +kernel
theorem dX7_leastCoverage_19 : decode cX7_leastCoverage 19 = .ok (.iload 4, 2) := by decide +kernel
theorem dX7_leastCoverage_21 : decode cX7_leastCoverage 21 = .ok (.aload_n 0, 1) := by decide +kernel
theorem dX7_leastCoverage_22 : decode cX7_leastCoverage 22 = .ok (.getfield 60, 3) := by decide +kernel
theorem dX7_leastCoverage_25 : decode cX7_leastCoverage 25 = .ok (.getfield 110, 3) := by decide +kernel
theorem dX7_leastCoverage_28 : decode cX7_leastCoverage 28 = .ok (.if_icmp .ge 24, 3) := by decide +kernel
theorem dX7_leastCoverage_31 : decode cX7_leastCoverage 31 = .ok (.aload_n 0, 1) := by decide +kernel
theorem dX7_leastCoverage_32 : decode cX7_leastCoverage 32 = .ok (.iload_n 1, 1) := by decide +kernel
theorem dX7_leastCoverage_33 : decode cX7_leastCoverage 33 = .ok (.iload 4, 2) := by decide +kernel
theorem dX7_leastCoverage_35 : decode cX7_leastCoverage 35 = .ok (.iload_n 1, 1) := by decide +kernel
theorem dX7_leastCoverage_36 : decode cX7_leastCoverage 36 = .ok (.iload_n 3, 1) := by decide +kernel
theorem dX7_leastCoverage_37 : decode cX7_leastCoverage 37 = .ok (.invokevirtual 236, 3) := by decide +kernel
theorem dX7_leastCoverage_40 : decode cX7_leastCoverage 40 = .ok (.ifCond .ge 6, 3) := by decide +kernel
theorem dX7_leastCoverage_43 : decode cX7_leastCoverage 43 = .ok (.iload 4, 2) := by decide +kernel
theorem dX7_leastCoverage_45 : decode cX7_leastCoverage 45 = .ok (.istore_n 3, 1) := by decide +kernel
theorem dX7_leastCoverage_46 : decode cX7_leastCoverage 46 = .ok (.iinc 4 1, 3) := by decide +kernel
theorem dX7_leastCoverage_49 : decode cX7_leastCoverage 49 = .ok (.goto (-30), 3) := by decide +kernel
theorem dX7_leastCoverage_52 : decode cX7_leastCoverage 52 = .ok (.aload_n 0, 1) := by decide +kernel
theorem dX7_leastCoverage_53 : decode cX7_leastCoverage 53 = .ok (.aload_n 0, 1) := by decide +kernel
theorem dX7_leastCoverage_54 : decode cX7_leastCoverage 54 = .ok (.iload_n 1, 1) := by decide +kernel
theorem dX7_leastCoverage_55 : decode cX7_leastCoverage 55 = .ok (.iload_n 3, 1) := by decide +kernel
theorem dX7_leastCoverage_56 : decode cX7_leastCoverage 56 = .ok (.iload_n 2, 1) := by decide +kernel
theorem dX7_leastCoverage_57 : decode cX7_leastCoverage 57 = .ok (.invokevirtual 228, 3) := by decide +kernel
theorem dX7_leastCoverage_60 : decode cX7_leastCoverage 60 = .ok (.i2l, 1) := by decide +kernel
theorem dX7_leastCoverage_61 : decode cX7_leastCoverage 61 = .ok (.invokevirtual 232, 3) := by decide +kernel
theorem dX7_leastCoverage_64 : decode cX7_leastCoverage 64 = .ok (.lreturn, 1) := by decide +kernel
theorem dX7_bestSet_0 : decode cX7_bestSet 0 = .ok (.aload_n 0, 1) := by decide +kernel
theorem dX7_bestSet_1 : decode cX7_bestSet 1 = .ok (.iload_n 1, 1) := by decide +kernel
theorem dX7_bestSet_2 : decode cX7_bestSet 2 = .ok (.invokevirtual 170, 3) := by decide +kernel
theorem dX7_bestSet_5 : decode cX7_bestSet 5 = .ok (.ifCond .ne 9, 3) := by decide +kernel
theorem dX7_bestSet_8 : decode cX7_bestSet 8 = .ok (.aload_n 0, 1) := by decide +kernel
theorem dX7_bestSet_9 : decode cX7_bestSet 9 = .ok (.iconst 1, 1) := by decide +kernel
theorem dX7_bestSet_10 : decode cX7_bestSet 10 = .ok (.invokevirtual 76, 3) := by decide +kernel
theorem dX7_bestSet_13 : decode cX7_bestSet 13 = .ok (.ireturn, 1) := by decide +kernel
theorem dX7_bestSet_14 : decode cX7_bestSet 14 = .ok (.aload_n 0, 1) := by decide +kernel
theorem dX7_bestSet_15 : decode cX7_bestSet 15 = .ok (.getfield 46, 3) := by decide +kernel
theorem dX7_bestSet_18 : decode cX7_bestSet 18 = .ok (.aload_n 0, 1) := by decide +kernel
theorem dX7_bestSet_19 : decode cX7_bestSet 19 = .ok (.getfield 60, 3) := by decide +kernel
theorem dX7_bestSet_22 : decode cX7_bestSet 22 = .ok (.aload_n 0, 1) := by decide +kernel
theorem dX7_bestSet_23 : decode cX7_bestSet 23 = .ok (.getfield 64, 3) := by decide +kernel
theorem dX7_bestSet_26 : decode cX7_bestSet 26 = .ok (.iload_n 1, 1) := by decide +kernel
theorem dX7_bestSet_27 : decode cX7_bestSet 27 = .ok (.invokevirtual 240, 3) := by decide +kernel
theorem dX7_bestSet_30 : decode cX7_bestSet 30 = .ok (.aload_n 0, 1) := by decide +kernel
theorem dX7_bestSet_31 : decode cX7_bestSet 31 = .ok (.aload_n 0, 1) := by decide +kernel
theorem dX7_bestSet_32 : decode cX7_bestSet 32 = .ok (.getfield 46, 3) := by decide +kernel
theorem dX7_bestSet_35 : decode cX7_bestSet 35 = .ok (.getfield 244, 3) := by decide +kernel
theorem dX7_bestSet_38 : decode cX7_bestSet 38 = .ok (.invokevirtual 92, 3) := by decide +kernel
theorem dX7_bestSet_41 : decode cX7_bestSet 41 = .ok (.ireturn, 1) := by decide +kernel
theorem dX7_bestMeals_0 : decode cX7_bestMeals 0 = .ok (.aload_n 0, 1) := by decide +kernel
theorem dX7_bestMeals_1 : decode cX7_bestMeals 1 = .ok (.iload_n 1, 1) := by decide +kernel
theorem dX7_bestMeals_2 : decode cX7_bestMeals 2 = .ok (.invokevirtual 170, 3) := by decide +kernel
theorem dX7_bestMeals_5 : decode cX7_bestMeals 5 = .ok (.ifCond .ne 9, 3) := by decide +kernel
theorem dX7_bestMeals_8 : decode cX7_bestMeals 8 = .ok (.aload_n 0, 1) := by decide +kernel
theorem dX7_bestMeals_9 : decode cX7_bestMeals 9 = .ok (.iconst 1, 1) := by decide +kernel
theorem dX7_bestMeals_10 : decode cX7_bestMeals 10 = .ok (.invokevirtual 76, 3) := by decide +kernel
theorem dX7_bestMeals_13 : decode cX7_bestMeals 13 = .ok (.ireturn, 1) := by decide +kernel
theorem dX7_bestMeals_14 : decode cX7_bestMeals 14 = .ok (.aload_n 0, 1) := by decide +kernel
theorem dX7_bestMeals_15 : decode cX7_bestMeals 15 = .ok (.getfield 46, 3) := by decide +kernel
theorem dX7_bestMeals_18 : decode cX7_bestMeals 18 = .ok (.aload_n 0, 1) := by decide +kernel
theorem dX7_bestMeals_19 : decode cX7_bestMeals 19 = .ok (.getfield 60, 3) := by decide +kernel
theorem dX7_bestMeals_22 : decode cX7_bestMeals 22 = .ok (.aload_n 0, 1) := by decide +kernel
theorem dX7_bestMeals_23 : decode cX7_bestMeals 23 = .ok (.getfield 64, 3) := by decide +kernel
theorem dX7_bestMeals_26 : decode cX7_bestMeals 26 = .ok (.iload_n 1, 1) := by decide +kernel
theorem dX7_bestMeals_27 : decode cX7_bestMeals 27 = .ok (.invokevirtual 240, 3) := by decide +kernel
theorem dX7_bestMeals_30 : decode cX7_bestMeals 30 = .ok (.aload_n 0, 1) := by decide +kernel
theorem dX7_bestMeals_31 : decode cX7_bestMeals 31 = .ok (.aload_n 0, 1) := by decide +kernel
theorem dX7_bestMeals_32 : decode cX7_bestMeals 32 = .ok (.getfield 46, 3) := by decide +kernel
theorem dX7_bestMeals_35 : decode cX7_bestMeals 35 = .ok (.aload_n 0, 1) := by decide +kernel
theorem dX7_bestMeals_36 : decode cX7_bestMeals 36 = .ok (.getfield 46, 3) := by decide +kernel
theorem dX7_bestMeals_39 : decode cX7_bestMeals 39 = .ok (.getfield 244, 3) := by decide +kernel
theorem dX7_bestMeals_42 : decode cX7_bestMeals 42 = .ok (.invokevirtual 247, 3) := by decide +kernel
theorem dX7_bestMeals_45 : decode cX7_bestMeals 45 = .ok (.invokevirtual 92, 3) := by decide +kernel
theorem dX7_bestMeals_48 : decode cX7_bestMeals 48 = .ok (.ireturn, 1) := by decide +kernel
theorem dX7_bestOrder_0 : decode cX7_bestOrder 0 = .ok (.aload_n 0, 1) := by decide +kernel
theorem dX7_bestOrder_1 : decode cX7_bestOrder 1 = .ok (.iload_n 1, 1) := by decide +kernel
theorem dX7_bestOrder_2 : decode cX7_bestOrder 2 = .ok (.invokevirtual 170, 3) := by decide +kernel
theorem dX7_bestOrder_5 : decode cX7_bestOrder 5 = .ok (.ifCond .ne 9, 3) := by decide +kernel
theorem dX7_bestOrder_8 : decode cX7_bestOrder 8 = .ok (.aload_n 0, 1) := by decide +kernel
theorem dX7_bestOrder_9 : decode cX7_bestOrder 9 = .ok (.iconst 1, 1) := by decide +kernel
theorem dX7_bestOrder_10 : decode cX7_bestOrder 10 = .ok (.invokevirtual 76, 3) := by decide +kernel
theorem dX7_bestOrder_13 : decode cX7_bestOrder 13 = .ok (.ireturn, 1) := by decide +kernel
theorem dX7_bestOrder_14 : decode cX7_bestOrder 14 = .ok (.aload_n 0, 1) := by decide +kernel
theorem dX7_bestOrder_15 : decode cX7_bestOrder 15 = .ok (.getfield 46, 3) := by decide +kernel
theorem dX7_bestOrder_18 : decode cX7_bestOrder 18 = .ok (.aload_n 0, 1) := by decide +kernel
theorem dX7_bestOrder_19 : decode cX7_bestOrder 19 = .ok (.getfield 60, 3) := by decide +kernel
theorem dX7_bestOrder_22 : decode cX7_bestOrder 22 = .ok (.aload_n 0, 1) := by decide +kernel
theorem dX7_bestOrder_23 : decode cX7_bestOrder 23 = .ok (.getfield 64, 3) := by decide +kernel
theorem dX7_bestOrder_26 : decode cX7_bestOrder 26 = .ok (.iload_n 1, 1) := by decide +kernel
theorem dX7_bestOrder_27 : decode cX7_bestOrder 27 = .ok (.invokevirtual 240, 3) := by decide +kernel
theorem dX7_bestOrder_30 : decode cX7_bestOrder 30 = .ok (.iload_n 2, 1) := by decide +kernel
theorem dX7_bestOrder_31 : decode cX7_bestOrder 31 = .ok (.ifCond .lt 14, 3) := by decide +kernel
theorem dX7_bestOrder_34 : decode cX7_bestOrder 34 = .ok (.iload_n 2, 1) := by decide +kernel
theorem dX7_bestOrder_35 : decode cX7_bestOrder 35 = .ok (.aload_n 0, 1) := by decide +kernel
theorem dX7_bestOrder_36 : decode cX7_bestOrder 36 = .ok (.getfield 46, 3) := by decide +kernel
theorem dX7_bestOrder_39 : decode cX7_bestOrder 39 = .ok (.getfield 250, 3) := by decide +kernel
theorem dX7_bestOrder_42 : decode cX7_bestOrder 42 = .ok (.if_icmp .lt 10, 3) := by decide +kernel
theorem dX7_bestOrder_45 : decode cX7_bestOrder 45 = .ok (.aload_n 0, 1) := by decide +kernel
theorem dX7_bestOrder_46 : decode cX7_bestOrder 46 = .ok (.bipush 6, 2) := by decide +kernel
theorem dX7_bestOrder_48 : decode cX7_bestOrder 48 = .ok (.invokevirtual 76, 3) := by decide +kernel
theorem dX7_bestOrder_51 : decode cX7_bestOrder 51 = .ok (.ireturn, 1) := by decide +kernel
theorem dX7_bestOrder_52 : decode cX7_bestOrder 52 = .ok (.aload_n 0, 1) := by decide +kernel
theorem dX7_bestOrder_53 : decode cX7_bestOrder 53 = .ok (.aload_n 0, 1) := by decide +kernel
theorem dX7_bestOrder_54 : decode cX7_bestOrder 54 = .ok (.getfield 46, 3) := by decide +kernel
theorem dX7_bestOrder_57 : decode cX7_bestOrder 57 = .ok (.getfield 253, 3) := by decide +kernel
theorem dX7_bestOrder_60 : decode cX7_bestOrder 60 = .ok (.iload_n 2, 1) := by decide +kernel
theorem dX7_bestOrder_61 : decode cX7_bestOrder 61 = .ok (.iaload, 1) := by decide +kernel
theorem dX7_bestOrder_62 : decode cX7_bestOrder 62 = .ok (.invokevirtual 92, 3) := by decide +kernel
theorem dX7_bestOrder_65 : decode cX7_bestOrder 65 = .ok (.ireturn, 1) := by decide +kernel
theorem dX7_neededDelay_0 : decode cX7_neededDelay 0 = .ok (.aload_n 0, 1) := by decide +kernel
theorem dX7_neededDelay_1 : decode cX7_neededDelay 1 = .ok (.iload_n 1, 1) := by decide +kernel
theorem dX7_neededDelay_2 : decode cX7_neededDelay 2 = .ok (.invokevirtual 98, 3) := by decide +kernel
theorem dX7_neededDelay_5 : decode cX7_neededDelay 5 = .ok (.ifCond .ne 9, 3) := by decide +kernel
theorem dX7_neededDelay_8 : decode cX7_neededDelay 8 = .ok (.aload_n 0, 1) := by decide +kernel
theorem dX7_neededDelay_9 : decode cX7_neededDelay 9 = .ok (.iconst 1, 1) := by decide +kernel
theorem dX7_neededDelay_10 : decode cX7_neededDelay 10 = .ok (.invokevirtual 76, 3) := by decide +kernel
theorem dX7_neededDelay_13 : decode cX7_neededDelay 13 = .ok (.ireturn, 1) := by decide +kernel
theorem dX7_neededDelay_14 : decode cX7_neededDelay 14 = .ok (.aload_n 0, 1) := by decide +kernel
theorem dX7_neededDelay_15 : decode cX7_neededDelay 15 = .ok (.getfield 29, 3) := by decide +kernel
theorem dX7_neededDelay_18 : decode cX7_neededDelay 18 = .ok (.aload_n 0, 1) := by decide +kernel
theorem dX7_neededDelay_19 : decode cX7_neededDelay 19 = .ok (.getfield 64, 3) := by decide +kernel
theorem dX7_neededDelay_22 : decode cX7_neededDelay 22 = .ok (.invokevirtual 267, 3) := by decide +kernel
theorem dX7_neededDelay_25 : decode cX7_neededDelay 25 = .ok (.iconst 0, 1) := by decide +kernel
theorem dX7_neededDelay_26 : decode cX7_neededDelay 26 = .ok (.istore_n 2, 1) := by decide +kernel
theorem dX7_neededDelay_27 : decode cX7_neededDelay 27 = .ok (.iload_n 2, 1) := by decide +kernel
theorem dX7_neededDelay_28 : decode cX7_neededDelay 28 = .ok (.bipush 60, 2) := by decide +kernel
theorem dX7_neededDelay_30 : decode cX7_neededDelay 30 = .ok (.if_icmp .gt 65, 3) := by decide +kernel
theorem dX7_neededDelay_33 : decode cX7_neededDelay 33 = .ok (.aload_n 0, 1) := by decide +kernel
theorem dX7_neededDelay_34 : decode cX7_neededDelay 34 = .ok (.getfield 29, 3) := by decide +kernel
theorem dX7_neededDelay_37 : decode cX7_neededDelay 37 = .ok (.getfield 116, 3) := by decide +kernel
theorem dX7_neededDelay_40 : decode cX7_neededDelay 40 = .ok (.iload_n 1, 1) := by decide +kernel
theorem dX7_neededDelay_41 : decode cX7_neededDelay 41 = .ok (.aload_n 0, 1) := by decide +kernel
theorem dX7_neededDelay_42 : decode cX7_neededDelay 42 = .ok (.getfield 64, 3) := by decide +kernel
theorem dX7_neededDelay_45 : decode cX7_neededDelay 45 = .ok (.getfield 116, 3) := by decide +kernel
theorem dX7_neededDelay_48 : decode cX7_neededDelay 48 = .ok (.iload_n 1, 1) := by decide +kernel
theorem dX7_neededDelay_49 : decode cX7_neededDelay 49 = .ok (.iaload, 1) := by decide +kernel
theorem dX7_neededDelay_50 : decode cX7_neededDelay 50 = .ok (.iload_n 2, 1) := by decide +kernel
theorem dX7_neededDelay_51 : decode cX7_neededDelay 51 = .ok (.iadd, 1) := by decide +kernel
theorem dX7_neededDelay_52 : decode cX7_neededDelay 52 = .ok (.iastore, 1) := by decide +kernel
theorem dX7_neededDelay_53 : decode cX7_neededDelay 53 = .ok (.aload_n 0, 1) := by decide +kernel
theorem dX7_neededDelay_54 : decode cX7_neededDelay 54 = .ok (.getfield 23, 3) := by decide +kernel
theorem dX7_neededDelay_57 : decode cX7_neededDelay 57 = .ok (.aload_n 0, 1) := by decide +kernel
theorem dX7_neededDelay_58 : decode cX7_neededDelay 58 = .ok (.getfield 60, 3) := by decide +kernel
theorem dX7_neededDelay_61 : decode cX7_neededDelay 61 = .ok (.aload_n 0, 1) := by decide +kernel
theorem dX7_neededDelay_62 : decode cX7_neededDelay 62 = .ok (.getfield 29, 3) := by decide +kernel
theorem dX7_neededDelay_65 : decode cX7_neededDelay 65 = .ok (.invokevirtual 271, 3) := by decide +kernel
theorem dX7_neededDelay_68 : decode cX7_neededDelay 68 = .ok (.aload_n 0, 1) := by decide +kernel
theorem dX7_neededDelay_69 : decode cX7_neededDelay 69 = .ok (.getfield 23, 3) := by decide +kernel
theorem dX7_neededDelay_72 : decode cX7_neededDelay 72 = .ok (.aload_n 0, 1) := by decide +kernel
theorem dX7_neededDelay_73 : decode cX7_neededDelay 73 = .ok (.getfield 29, 3) := by decide +kernel
theorem dX7_neededDelay_76 : decode cX7_neededDelay 76 = .ok (.iload_n 1, 1) := by decide +kernel
theorem dX7_neededDelay_77 : decode cX7_neededDelay 77 = .ok (.invokevirtual 275, 3) := by decide +kernel
theorem dX7_neededDelay_80 : decode cX7_neededDelay 80 = .ok (.ifCond .ne 9, 3) := by decide +kernel
theorem dX7_neededDelay_83 : decode cX7_neededDelay 83 = .ok (.aload_n 0, 1) := by decide +kernel
theorem dX7_neededDelay_84 : decode cX7_neededDelay 84 = .ok (.iload_n 2, 1) := by decide +kernel
theorem dX7_neededDelay_85 : decode cX7_neededDelay 85 = .ok (.invokevirtual 92, 3) := by decide +kernel
theorem dX7_neededDelay_88 : decode cX7_neededDelay 88 = .ok (.ireturn, 1) := by decide +kernel
theorem dX7_neededDelay_89 : decode cX7_neededDelay 89 = .ok (.iinc 2 1, 3) := by decide +kernel
theorem dX7_neededDelay_92 : decode cX7_neededDelay 92 = .ok (.goto (-65), 3) := by decide +kernel
theorem dX7_neededDelay_95 : decode cX7_neededDelay 95 = .ok (.aload_n 0, 1) := by decide +kernel
theorem dX7_neededDelay_96 : decode cX7_neededDelay 96 = .ok (.bipush 6, 2) := by decide +kernel
theorem dX7_neededDelay_98 : decode cX7_neededDelay 98 = .ok (.invokevirtual 76, 3) := by decide +kernel
theorem dX7_neededDelay_101 : decode cX7_neededDelay 101 = .ok (.ireturn, 1) := by decide +kernel
theorem dX7_deliveredWithout_0 : decode cX7_deliveredWithout 0 = .ok (.aload_n 0, 1) := by decide +kernel
theorem dX7_deliveredWithout_1 : decode cX7_deliveredWithout 1 = .ok (.iload_n 1, 1) := by decide +kernel
theorem dX7_deliveredWithout_2 : decode cX7_deliveredWithout 2 = .ok (.invokevirtual 170, 3) := by decide +kernel
theorem dX7_deliveredWithout_5 : decode cX7_deliveredWithout 5 = .ok (.ifCond .ne 9, 3) := by decide +kernel
theorem dX7_deliveredWithout_8 : decode cX7_deliveredWithout 8 = .ok (.aload_n 0, 1) := by decide +kernel
theorem dX7_deliveredWithout_9 : decode cX7_deliveredWithout 9 = .ok (.iconst 1, 1) := by decide +kernel
theorem dX7_deliveredWithout_10 : decode cX7_deliveredWithout 10 = .ok (.invokevirtual 76, 3) := by decide +kernel
theorem dX7_deliveredWithout_13 : decode cX7_deliveredWithout 13 = .ok (.ireturn, 1) := by decide +kernel
theorem dX7_deliveredWithout_14 : decode cX7_deliveredWithout 14 = .ok (.aload_n 0, 1) := by decide +kernel
theorem dX7_deliveredWithout_15 : decode cX7_deliveredWithout 15 = .ok (.getfield 29, 3) := by decide +kernel
theorem dX7_deliveredWithout_18 : decode cX7_deliveredWithout 18 = .ok (.aload_n 0, 1) := by decide +kernel
theorem dX7_deliveredWithout_19 : decode cX7_deliveredWithout 19 = .ok (.getfield 64, 3) := by decide +kernel
theorem dX7_deliveredWithout_22 : decode cX7_deliveredWithout 22 = .ok (.invokevirtual 267, 3) := by decide +kernel
theorem dX7_deliveredWithout_25 : decode cX7_deliveredWithout 25 = .ok (.aload_n 0, 1) := by decide +kernel
theorem dX7_deliveredWithout_26 : decode cX7_deliveredWithout 26 = .ok (.getfield 64, 3) := by decide +kernel
theorem dX7_deliveredWithout_29 : decode cX7_deliveredWithout 29 = .ok (.getfield 89, 3) := by decide +kernel
theorem dX7_deliveredWithout_32 : decode cX7_deliveredWithout 32 = .ok (.iconst 1, 1) := by decide +kernel
theorem dX7_deliveredWithout_33 : decode cX7_deliveredWithout 33 = .ok (.isub, 1) := by decide +kernel
theorem dX7_deliveredWithout_34 : decode cX7_deliveredWithout 34 = .ok (.istore_n 2, 1) := by decide +kernel
theorem dX7_deliveredWithout_35 : decode cX7_deliveredWithout 35 = .ok (.iload_n 2, 1) := by decide +kernel
theorem dX7_deliveredWithout_36 : decode cX7_deliveredWithout 36 = .ok (.ifCond .lt 30, 3) := by decide +kernel
theorem dX7_deliveredWithout_39 : decode cX7_deliveredWithout 39 = .ok (.aload_n 0, 1) := by decide +kernel
theorem dX7_deliveredWithout_40 : decode cX7_deliveredWithout 40 = .ok (.getfield 64, 3) := by decide +kernel
theorem dX7_deliveredWithout_43 : decode cX7_deliveredWithout 43 = .ok (.getfield 143, 3) := by decide +kernel
theorem dX7_deliveredWithout_46 : decode cX7_deliveredWithout 46 = .ok (.iload_n 2, 1) := by decide +kernel
theorem dX7_deliveredWithout_47 : decode cX7_deliveredWithout 47 = .ok (.iaload, 1) := by decide +kernel
theorem dX7_deliveredWithout_48 : decode cX7_deliveredWithout 48 = .ok (.iload_n 1, 1) := by decide +kernel
theorem dX7_deliveredWithout_49 : decode cX7_deliveredWithout 49 = .ok (.if_icmp .ne 11, 3) := by decide +kernel
theorem dX7_deliveredWithout_52 : decode cX7_deliveredWithout 52 = .ok (.aload_n 0, 1) := by decide +kernel
theorem dX7_deliveredWithout_53 : decode cX7_deliveredWithout 53 = .ok (.getfield 29, 3) := by decide +kernel
theorem dX7_deliveredWithout_56 : decode cX7_deliveredWithout 56 = .ok (.iload_n 2, 1) := by decide +kernel
theorem dX7_deliveredWithout_57 : decode cX7_deliveredWithout 57 = .ok (.invokevirtual 279, 3) := by decide +kernel
theorem dX7_deliveredWithout_60 : decode cX7_deliveredWithout 60 = .ok (.iinc 2 (-1), 3) := by decide +kernel
theorem dX7_deliveredWithout_63 : decode cX7_deliveredWithout 63 = .ok (.goto (-28), 3) := by decide +kernel
theorem dX7_deliveredWithout_66 : decode cX7_deliveredWithout 66 = .ok (.aload_n 0, 1) := by decide +kernel
theorem dX7_deliveredWithout_67 : decode cX7_deliveredWithout 67 = .ok (.aload_n 0, 1) := by decide +kernel
theorem dX7_deliveredWithout_68 : decode cX7_deliveredWithout 68 = .ok (.invokevirtual 282, 3) := by decide +kernel
theorem dX7_deliveredWithout_71 : decode cX7_deliveredWithout 71 = .ok (.invokevirtual 92, 3) := by decide +kernel
theorem dX7_deliveredWithout_74 : decode cX7_deliveredWithout 74 = .ok (.ireturn, 1) := by decide +kernel
theorem dX7_worstJob_0 : decode cX7_worstJob 0 = .ok (.aload_n 0, 1) := by decide +kernel
theorem dX7_worstJob_1 : decode cX7_worstJob 1 = .ok (.getfield 106, 3) := by decide +kernel
theorem dX7_worstJob_4 : decode cX7_worstJob 4 = .ok (.ifCond .ne 9, 3) := by decide +kernel
theorem dX7_worstJob_7 : decode cX7_worstJob 7 = .ok (.aload_n 0, 1) := by decide +kernel
theorem dX7_worstJob_8 : decode cX7_worstJob 8 = .ok (.iconst 1, 1) := by decide +kernel
theorem dX7_worstJob_9 : decode cX7_worstJob 9 = .ok (.invokevirtual 76, 3) := by decide +kernel
theorem dX7_worstJob_12 : decode cX7_worstJob 12 = .ok (.ireturn, 1) := by decide +kernel
theorem dX7_worstJob_13 : decode cX7_worstJob 13 = .ok (.iconst (-1), 1) := by decide +kernel
theorem dX7_worstJob_14 : decode cX7_worstJob 14 = .ok (.istore_n 1, 1) := by decide +kernel
theorem dX7_worstJob_15 : decode cX7_worstJob 15 = .ok (.aload_n 0, 1) := by decide +kernel
theorem dX7_worstJob_16 : decode cX7_worstJob 16 = .ok (.getfield 19, 3) := by decide +kernel
theorem dX7_worstJob_19 : decode cX7_worstJob 19 = .ok (.getfield 167, 3) := by decide +kernel
theorem dX7_worstJob_22 : decode cX7_worstJob 22 = .ok (.istore_n 2, 1) := by decide +kernel
theorem dX7_worstJob_23 : decode cX7_worstJob 23 = .ok (.iconst 0, 1) := by decide +kernel
theorem dX7_worstJob_24 : decode cX7_worstJob 24 = .ok (.istore_n 3, 1) := by decide +kernel
theorem dX7_worstJob_25 : decode cX7_worstJob 25 = .ok (.iload_n 3, 1) := by decide +kernel
theorem dX7_worstJob_26 : decode cX7_worstJob 26 = .ok (.aload_n 0, 1) := by decide +kernel
theorem dX7_worstJob_27 : decode cX7_worstJob 27 = .ok (.getfield 64, 3) := by decide +kernel
theorem dX7_worstJob_30 : decode cX7_worstJob 30 = .ok (.getfield 89, 3) := by decide +kernel
theorem dX7_worstJob_33 : decode cX7_worstJob 33 = .ok (.if_icmp .ge 45, 3) := by decide +kernel
theorem dX7_worstJob_36 : decode cX7_worstJob 36 = .ok (.aload_n 0, 1) := by decide +kernel
theorem dX7_worstJob_37 : decode cX7_worstJob 37 = .ok (.getfield 29, 3) := by decide +kernel
theorem dX7_worstJob_40 : decode cX7_worstJob 40 = .ok (.aload_n 0, 1) := by decide +kernel
theorem dX7_worstJob_41 : decode cX7_worstJob 41 = .ok (.getfield 64, 3) := by decide +kernel
theorem dX7_worstJob_44 : decode cX7_worstJob 44 = .ok (.invokevirtual 267, 3) := by decide +kernel
theorem dX7_worstJob_47 : decode cX7_worstJob 47 = .ok (.aload_n 0, 1) := by decide +kernel
theorem dX7_worstJob_48 : decode cX7_worstJob 48 = .ok (.getfield 29, 3) := by decide +kernel
theorem dX7_worstJob_51 : decode cX7_worstJob 51 = .ok (.iload_n 3, 1) := by decide +kernel
theorem dX7_worstJob_52 : decode cX7_worstJob 52 = .ok (.invokevirtual 279, 3) := by decide +kernel
theorem dX7_worstJob_55 : decode cX7_worstJob 55 = .ok (.aload_n 0, 1) := by decide +kernel
theorem dX7_worstJob_56 : decode cX7_worstJob 56 = .ok (.invokevirtual 282, 3) := by decide +kernel
theorem dX7_worstJob_59 : decode cX7_worstJob 59 = .ok (.istore 4, 2) := by decide +kernel
theorem dX7_worstJob_61 : decode cX7_worstJob 61 = .ok (.iload 4, 2) := by decide +kernel
theorem dX7_worstJob_63 : decode cX7_worstJob 63 = .ok (.iload_n 2, 1) := by decide +kernel
theorem dX7_worstJob_64 : decode cX7_worstJob 64 = .ok (.if_icmp .le 8, 3) := by decide +kernel
theorem dX7_worstJob_67 : decode cX7_worstJob 67 = .ok (.iload 4, 2) := by decide +kernel
theorem dX7_worstJob_69 : decode cX7_worstJob 69 = .ok (.istore_n 2, 1) := by decide +kernel
theorem dX7_worstJob_70 : decode cX7_worstJob 70 = .ok (.iload_n 3, 1) := by decide +kernel
theorem dX7_worstJob_71 : decode cX7_worstJob 71 = .ok (.istore_n 1, 1) := by decide +kernel
theorem dX7_worstJob_72 : decode cX7_worstJob 72 = .ok (.iinc 3 1, 3) := by decide +kernel
theorem dX7_worstJob_75 : decode cX7_worstJob 75 = .ok (.goto (-50), 3) := by decide +kernel
theorem dX7_worstJob_78 : decode cX7_worstJob 78 = .ok (.iload_n 1, 1) := by decide +kernel
theorem dX7_worstJob_79 : decode cX7_worstJob 79 = .ok (.ifCond .ge 12, 3) := by decide +kernel
theorem dX7_worstJob_82 : decode cX7_worstJob 82 = .ok (.aload_n 0, 1) := by decide +kernel
theorem dX7_worstJob_83 : decode cX7_worstJob 83 = .ok (.bipush 6, 2) := by decide +kernel
theorem dX7_worstJob_85 : decode cX7_worstJob 85 = .ok (.invokevirtual 76, 3) := by decide +kernel
theorem dX7_worstJob_88 : decode cX7_worstJob 88 = .ok (.goto 8, 3) := by decide +kernel
theorem dX7_worstJob_91 : decode cX7_worstJob 91 = .ok (.aload_n 0, 1) := by decide +kernel
theorem dX7_worstJob_92 : decode cX7_worstJob 92 = .ok (.iload_n 1, 1) := by decide +kernel
theorem dX7_worstJob_93 : decode cX7_worstJob 93 = .ok (.invokevirtual 92, 3) := by decide +kernel
theorem dX7_worstJob_96 : decode cX7_worstJob 96 = .ok (.ireturn, 1) := by decide +kernel
theorem dX7_addJob_0 : decode cX7_addJob 0 = .ok (.aload_n 0, 1) := by decide +kernel
theorem dX7_addJob_1 : decode cX7_addJob 1 = .ok (.iload_n 1, 1) := by decide +kernel
theorem dX7_addJob_2 : decode cX7_addJob 2 = .ok (.invokevirtual 170, 3) := by decide +kernel
theorem dX7_addJob_5 : decode cX7_addJob 5 = .ok (.ifCond .eq 14, 3) := by decide +kernel
theorem dX7_addJob_8 : decode cX7_addJob 8 = .ok (.aload_n 0, 1) := by decide +kernel
theorem dX7_addJob_9 : decode cX7_addJob 9 = .ok (.iload_n 2, 1) := by decide +kernel
theorem dX7_addJob_10 : decode cX7_addJob 10 = .ok (.iload_n 3, 1) := by decide +kernel
theorem dX7_addJob_11 : decode cX7_addJob 11 = .ok (.iload 4, 2) := by decide +kernel
theorem dX7_addJob_13 : decode cX7_addJob 13 = .ok (.invokevirtual 130, 3) := by decide +kernel
theorem dX7_addJob_16 : decode cX7_addJob 16 = .ok (.ifCond .ne 9, 3) := by decide +kernel
theorem dX7_addJob_19 : decode cX7_addJob 19 = .ok (.aload_n 0, 1) := by decide +kernel
theorem dX7_addJob_20 : decode cX7_addJob 20 = .ok (.iconst 1, 1) := by decide +kernel
theorem dX7_addJob_21 : decode cX7_addJob 21 = .ok (.invokevirtual 76, 3) := by decide +kernel
theorem dX7_addJob_24 : decode cX7_addJob 24 = .ok (.ireturn, 1) := by decide +kernel
theorem dX7_addJob_25 : decode cX7_addJob 25 = .ok (.iload 5, 2) := by decide +kernel
theorem dX7_addJob_27 : decode cX7_addJob 27 = .ok (.invokestatic 291, 3) := by decide +kernel
theorem dX7_addJob_30 : decode cX7_addJob 30 = .ok (.ifCond .ne 9, 3) := by decide +kernel
theorem dX7_addJob_33 : decode cX7_addJob 33 = .ok (.aload_n 0, 1) := by decide +kernel
theorem dX7_addJob_34 : decode cX7_addJob 34 = .ok (.iconst 2, 1) := by decide +kernel
theorem dX7_addJob_35 : decode cX7_addJob 35 = .ok (.invokevirtual 76, 3) := by decide +kernel
theorem dX7_addJob_38 : decode cX7_addJob 38 = .ok (.ireturn, 1) := by decide +kernel
theorem dX7_addJob_39 : decode cX7_addJob 39 = .ok (.aload_n 0, 1) := by decide +kernel
theorem dX7_addJob_40 : decode cX7_addJob 40 = .ok (.getfield 64, 3) := by decide +kernel
theorem dX7_addJob_43 : decode cX7_addJob 43 = .ok (.getfield 89, 3) := by decide +kernel
theorem dX7_addJob_46 : decode cX7_addJob 46 = .ok (.bipush 20, 2) := by decide +kernel
theorem dX7_addJob_48 : decode cX7_addJob 48 = .ok (.if_icmp .ge 16, 3) := by decide +kernel
theorem dX7_addJob_51 : decode cX7_addJob 51 = .ok (.aload_n 0, 1) := by decide +kernel
theorem dX7_addJob_52 : decode cX7_addJob 52 = .ok (.getfield 64, 3) := by decide +kernel
theorem dX7_addJob_55 : decode cX7_addJob 55 = .ok (.iload_n 1, 1) := by decide +kernel
theorem dX7_addJob_56 : decode cX7_addJob 56 = .ok (.invokevirtual 285, 3) := by decide +kernel
theorem dX7_addJob_59 : decode cX7_addJob 59 = .ok (.bipush 8, 2) := by decide +kernel
theorem dX7_addJob_61 : decode cX7_addJob 61 = .ok (.if_icmp .lt 9, 3) := by decide +kernel
theorem dX7_addJob_64 : decode cX7_addJob 64 = .ok (.aload_n 0, 1) := by decide +kernel
theorem dX7_addJob_65 : decode cX7_addJob 65 = .ok (.iconst 3, 1) := by decide +kernel
theorem dX7_addJob_66 : decode cX7_addJob 66 = .ok (.invokevirtual 76, 3) := by decide +kernel
theorem dX7_addJob_69 : decode cX7_addJob 69 = .ok (.ireturn, 1) := by decide +kernel
theorem dX7_addJob_70 : decode cX7_addJob 70 = .ok (.aload_n 0, 1) := by decide +kernel
theorem dX7_addJob_71 : decode cX7_addJob 71 = .ok (.getfield 39, 3) := by decide +kernel
theorem dX7_addJob_74 : decode cX7_addJob 74 = .ok (.aload_n 0, 1) := by decide +kernel
theorem dX7_addJob_75 : decode cX7_addJob 75 = .ok (.getfield 64, 3) := by decide +kernel
theorem dX7_addJob_78 : decode cX7_addJob 78 = .ok (.invokevirtual 294, 3) := by decide +kernel
theorem dX7_addJob_81 : decode cX7_addJob 81 = .ok (.aload_n 0, 1) := by decide +kernel
theorem dX7_addJob_82 : decode cX7_addJob 82 = .ok (.getfield 64, 3) := by decide +kernel
theorem dX7_addJob_85 : decode cX7_addJob 85 = .ok (.iload_n 1, 1) := by decide +kernel
theorem dX7_addJob_86 : decode cX7_addJob 86 = .ok (.iload_n 2, 1) := by decide +kernel
theorem dX7_addJob_87 : decode cX7_addJob 87 = .ok (.iload_n 3, 1) := by decide +kernel
theorem dX7_addJob_88 : decode cX7_addJob 88 = .ok (.invokestatic 134, 3) := by decide +kernel
theorem dX7_addJob_91 : decode cX7_addJob 91 = .ok (.iload 4, 2) := by decide +kernel
theorem dX7_addJob_93 : decode cX7_addJob 93 = .ok (.iload 5, 2) := by decide +kernel
theorem dX7_addJob_95 : decode cX7_addJob 95 = .ok (.invokevirtual 297, 3) := by decide +kernel
theorem dX7_addJob_98 : decode cX7_addJob 98 = .ok (.aload_n 0, 1) := by decide +kernel
theorem dX7_addJob_99 : decode cX7_addJob 99 = .ok (.aload_n 0, 1) := by decide +kernel
theorem dX7_addJob_100 : decode cX7_addJob 100 = .ok (.getfield 64, 3) := by decide +kernel
theorem dX7_addJob_103 : decode cX7_addJob 103 = .ok (.getfield 89, 3) := by decide +kernel
theorem dX7_addJob_106 : decode cX7_addJob 106 = .ok (.invokevirtual 301, 3) := by decide +kernel
theorem dX7_addJob_109 : decode cX7_addJob 109 = .ok (.ireturn, 1) := by decide +kernel
theorem dX7_removeJob_0 : decode cX7_removeJob 0 = .ok (.aload_n 0, 1) := by decide +kernel
theorem dX7_removeJob_1 : decode cX7_removeJob 1 = .ok (.iload_n 1, 1) := by decide +kernel
theorem dX7_removeJob_2 : decode cX7_removeJob 2 = .ok (.invokevirtual 140, 3) := by decide +kernel
theorem dX7_removeJob_5 : decode cX7_removeJob 5 = .ok (.ifCond .ne 9, 3) := by decide +kernel
theorem dX7_removeJob_8 : decode cX7_removeJob 8 = .ok (.aload_n 0, 1) := by decide +kernel
theorem dX7_removeJob_9 : decode cX7_removeJob 9 = .ok (.iconst 1, 1) := by decide +kernel
theorem dX7_removeJob_10 : decode cX7_removeJob 10 = .ok (.invokevirtual 76, 3) := by decide +kernel
theorem dX7_removeJob_13 : decode cX7_removeJob 13 = .ok (.ireturn, 1) := by decide +kernel
theorem dX7_removeJob_14 : decode cX7_removeJob 14 = .ok (.aload_n 0, 1) := by decide +kernel
theorem dX7_removeJob_15 : decode cX7_removeJob 15 = .ok (.getfield 39, 3) := by decide +kernel
theorem dX7_removeJob_18 : decode cX7_removeJob 18 = .ok (.aload_n 0, 1) := by decide +kernel
theorem dX7_removeJob_19 : decode cX7_removeJob 19 = .ok (.getfield 64, 3) := by decide +kernel
theorem dX7_removeJob_22 : decode cX7_removeJob 22 = .ok (.invokevirtual 294, 3) := by decide +kernel
theorem dX7_removeJob_25 : decode cX7_removeJob 25 = .ok (.aload_n 0, 1) := by decide +kernel
theorem dX7_removeJob_26 : decode cX7_removeJob 26 = .ok (.getfield 64, 3) := by decide +kernel
theorem dX7_removeJob_29 : decode cX7_removeJob 29 = .ok (.iload_n 1, 1) := by decide +kernel
theorem dX7_removeJob_30 : decode cX7_removeJob 30 = .ok (.invokevirtual 279, 3) := by decide +kernel
theorem dX7_removeJob_33 : decode cX7_removeJob 33 = .ok (.aload_n 0, 1) := by decide +kernel
theorem dX7_removeJob_34 : decode cX7_removeJob 34 = .ok (.aload_n 0, 1) := by decide +kernel
theorem dX7_removeJob_35 : decode cX7_removeJob 35 = .ok (.getfield 64, 3) := by decide +kernel
theorem dX7_removeJob_38 : decode cX7_removeJob 38 = .ok (.getfield 89, 3) := by decide +kernel
theorem dX7_removeJob_41 : decode cX7_removeJob 41 = .ok (.invokevirtual 301, 3) := by decide +kernel
theorem dX7_removeJob_44 : decode cX7_removeJob 44 = .ok (.ireturn, 1) := by decide +kernel
theorem dX7_moveJob_0 : decode cX7_moveJob 0 = .ok (.aload_n 0, 1) := by decide +kernel
theorem dX7_moveJob_1 : decode cX7_moveJob 1 = .ok (.iload_n 1, 1) := by decide +kernel
theorem dX7_moveJob_2 : decode cX7_moveJob 2 = .ok (.invokevirtual 140, 3) := by decide +kernel
theorem dX7_moveJob_5 : decode cX7_moveJob 5 = .ok (.ifCond .eq 11, 3) := by decide +kernel
theorem dX7_moveJob_8 : decode cX7_moveJob 8 = .ok (.aload_n 0, 1) := by decide +kernel
theorem dX7_moveJob_9 : decode cX7_moveJob 9 = .ok (.iload_n 2, 1) := by decide +kernel
theorem dX7_moveJob_10 : decode cX7_moveJob 10 = .ok (.invokevirtual 140, 3) := by decide +kernel
theorem dX7_moveJob_13 : decode cX7_moveJob 13 = .ok (.ifCond .ne 9, 3) := by decide +kernel
theorem dX7_moveJob_16 : decode cX7_moveJob 16 = .ok (.aload_n 0, 1) := by decide +kernel
theorem dX7_moveJob_17 : decode cX7_moveJob 17 = .ok (.iconst 1, 1) := by decide +kernel
theorem dX7_moveJob_18 : decode cX7_moveJob 18 = .ok (.invokevirtual 76, 3) := by decide +kernel
theorem dX7_moveJob_21 : decode cX7_moveJob 21 = .ok (.ireturn, 1) := by decide +kernel
theorem dX7_moveJob_22 : decode cX7_moveJob 22 = .ok (.aload_n 0, 1) := by decide +kernel
theorem dX7_moveJob_23 : decode cX7_moveJob 23 = .ok (.getfield 39, 3) := by decide +kernel
theorem dX7_moveJob_26 : decode cX7_moveJob 26 = .ok (.aload_n 0, 1) := by decide +kernel
theorem dX7_moveJob_27 : decode cX7_moveJob 27 = .ok (.getfield 64, 3) := by decide +kernel
theorem dX7_moveJob_30 : decode cX7_moveJob 30 = .ok (.invokevirtual 294, 3) := by decide +kernel
theorem dX7_moveJob_33 : decode cX7_moveJob 33 = .ok (.iload_n 1, 1) := by decide +kernel
theorem dX7_moveJob_34 : decode cX7_moveJob 34 = .ok (.istore_n 3, 1) := by decide +kernel
theorem dX7_moveJob_35 : decode cX7_moveJob 35 = .ok (.iload_n 3, 1) := by decide +kernel
theorem dX7_moveJob_36 : decode cX7_moveJob 36 = .ok (.iload_n 2, 1) := by decide +kernel
theorem dX7_moveJob_37 : decode cX7_moveJob 37 = .ok (.if_icmp .ge 20, 3) := by decide +kernel
theorem dX7_moveJob_40 : decode cX7_moveJob 40 = .ok (.aload_n 0, 1) := by decide +kernel
theorem dX7_moveJob_41 : decode cX7_moveJob 41 = .ok (.getfield 64, 3) := by decide +kernel
theorem dX7_moveJob_44 : decode cX7_moveJob 44 = .ok (.iload_n 3, 1) := by decide +kernel
theorem dX7_moveJob_45 : decode cX7_moveJob 45 = .ok (.iload_n 3, 1) := by decide +kernel
theorem dX7_moveJob_46 : decode cX7_moveJob 46 = .ok (.iconst 1, 1) := by decide +kernel
theorem dX7_moveJob_47 : decode cX7_moveJob 47 = .ok (.iadd, 1) := by decide +kernel
theorem dX7_moveJob_48 : decode cX7_moveJob 48 = .ok (.invokevirtual 288, 3) := by decide +kernel
theorem dX7_moveJob_51 : decode cX7_moveJob 51 = .ok (.iinc 3 1, 3) := by decide +kernel
theorem dX7_moveJob_54 : decode cX7_moveJob 54 = .ok (.goto (-19), 3) := by decide +kernel
theorem dX7_moveJob_57 : decode cX7_moveJob 57 = .ok (.iload_n 1, 1) := by decide +kernel
theorem dX7_moveJob_58 : decode cX7_moveJob 58 = .ok (.istore_n 3, 1) := by decide +kernel
theorem dX7_moveJob_59 : decode cX7_moveJob 59 = .ok (.iload_n 3, 1) := by decide +kernel
theorem dX7_moveJob_60 : decode cX7_moveJob 60 = .ok (.iload_n 2, 1) := by decide +kernel
theorem dX7_moveJob_61 : decode cX7_moveJob 61 = .ok (.if_icmp .le 20, 3) := by decide +kernel
theorem dX7_moveJob_64 : decode cX7_moveJob 64 = .ok (.aload_n 0, 1) := by decide +kernel
theorem dX7_moveJob_65 : decode cX7_moveJob 65 = .ok (.getfield 64, 3) := by decide +kernel
theorem dX7_moveJob_68 : decode cX7_moveJob 68 = .ok (.iload_n 3, 1) := by decide +kernel
theorem dX7_moveJob_69 : decode cX7_moveJob 69 = .ok (.iload_n 3, 1) := by decide +kernel
theorem dX7_moveJob_70 : decode cX7_moveJob 70 = .ok (.iconst 1, 1) := by decide +kernel
theorem dX7_moveJob_71 : decode cX7_moveJob 71 = .ok (.isub, 1) := by decide +kernel
theorem dX7_moveJob_72 : decode cX7_moveJob 72 = .ok (.invokevirtual 288, 3) := by decide +kernel
theorem dX7_moveJob_75 : decode cX7_moveJob 75 = .ok (.iinc 3 (-1), 3) := by decide +kernel
theorem dX7_moveJob_78 : decode cX7_moveJob 78 = .ok (.goto (-19), 3) := by decide +kernel
theorem dX7_moveJob_81 : decode cX7_moveJob 81 = .ok (.aload_n 0, 1) := by decide +kernel
theorem dX7_moveJob_82 : decode cX7_moveJob 82 = .ok (.iconst 0, 1) := by decide +kernel
theorem dX7_moveJob_83 : decode cX7_moveJob 83 = .ok (.invokevirtual 301, 3) := by decide +kernel
theorem dX7_moveJob_86 : decode cX7_moveJob 86 = .ok (.ireturn, 1) := by decide +kernel
theorem dX7_setDeparture_0 : decode cX7_setDeparture 0 = .ok (.aload_n 0, 1) := by decide +kernel
theorem dX7_setDeparture_1 : decode cX7_setDeparture 1 = .ok (.iload_n 1, 1) := by decide +kernel
theorem dX7_setDeparture_2 : decode cX7_setDeparture 2 = .ok (.invokevirtual 98, 3) := by decide +kernel
theorem dX7_setDeparture_5 : decode cX7_setDeparture 5 = .ok (.ifCond .ne 9, 3) := by decide +kernel
theorem dX7_setDeparture_8 : decode cX7_setDeparture 8 = .ok (.aload_n 0, 1) := by decide +kernel
theorem dX7_setDeparture_9 : decode cX7_setDeparture 9 = .ok (.iconst 1, 1) := by decide +kernel
theorem dX7_setDeparture_10 : decode cX7_setDeparture 10 = .ok (.invokevirtual 76, 3) := by decide +kernel
theorem dX7_setDeparture_13 : decode cX7_setDeparture 13 = .ok (.ireturn, 1) := by decide +kernel
theorem dX7_setDeparture_14 : decode cX7_setDeparture 14 = .ok (.iload_n 2, 1) := by decide +kernel
theorem dX7_setDeparture_15 : decode cX7_setDeparture 15 = .ok (.aload_n 0, 1) := by decide +kernel
theorem dX7_setDeparture_16 : decode cX7_setDeparture 16 = .ok (.getfield 60, 3) := by decide +kernel
theorem dX7_setDeparture_19 : decode cX7_setDeparture 19 = .ok (.getfield 304, 3) := by decide +kernel
theorem dX7_setDeparture_22 : decode cX7_setDeparture 22 = .ok (.iload_n 1, 1) := by decide +kernel
theorem dX7_setDeparture_23 : decode cX7_setDeparture 23 = .ok (.iaload, 1) := by decide +kernel
theorem dX7_setDeparture_24 : decode cX7_setDeparture 24 = .ok (.if_icmp .lt 10, 3) := by decide +kernel
theorem dX7_setDeparture_27 : decode cX7_setDeparture 27 = .ok (.iload_n 2, 1) := by decide +kernel
theorem dX7_setDeparture_28 : decode cX7_setDeparture 28 = .ok (.sipush 999, 3) := by decide +kernel
theorem dX7_setDeparture_31 : decode cX7_setDeparture 31 = .ok (.if_icmp .le 9, 3) := by decide +kernel
theorem dX7_setDeparture_34 : decode cX7_setDeparture 34 = .ok (.aload_n 0, 1) := by decide +kernel
theorem dX7_setDeparture_35 : decode cX7_setDeparture 35 = .ok (.iconst 2, 1) := by decide +kernel
theorem dX7_setDeparture_36 : decode cX7_setDeparture 36 = .ok (.invokevirtual 76, 3) := by decide +kernel
theorem dX7_setDeparture_39 : decode cX7_setDeparture 39 = .ok (.ireturn, 1) := by decide +kernel
theorem dX7_setDeparture_40 : decode cX7_setDeparture 40 = .ok (.aload_n 0, 1) := by decide +kernel
theorem dX7_setDeparture_41 : decode cX7_setDeparture 41 = .ok (.getfield 39, 3) := by decide +kernel
theorem dX7_setDeparture_44 : decode cX7_setDeparture 44 = .ok (.aload_n 0, 1) := by decide +kernel
theorem dX7_setDeparture_45 : decode cX7_setDeparture 45 = .ok (.getfield 64, 3) := by decide +kernel
theorem dX7_setDeparture_48 : decode cX7_setDeparture 48 = .ok (.invokevirtual 294, 3) := by decide +kernel
theorem dX7_setDeparture_51 : decode cX7_setDeparture 51 = .ok (.aload_n 0, 1) := by decide +kernel
theorem dX7_setDeparture_52 : decode cX7_setDeparture 52 = .ok (.getfield 64, 3) := by decide +kernel
theorem dX7_setDeparture_55 : decode cX7_setDeparture 55 = .ok (.getfield 116, 3) := by decide +kernel
theorem dX7_setDeparture_58 : decode cX7_setDeparture 58 = .ok (.iload_n 1, 1) := by decide +kernel
theorem dX7_setDeparture_59 : decode cX7_setDeparture 59 = .ok (.iaload, 1) := by decide +kernel
theorem dX7_setDeparture_60 : decode cX7_setDeparture 60 = .ok (.istore_n 3, 1) := by decide +kernel
theorem dX7_setDeparture_61 : decode cX7_setDeparture 61 = .ok (.aload_n 0, 1) := by decide +kernel
theorem dX7_setDeparture_62 : decode cX7_setDeparture 62 = .ok (.getfield 64, 3) := by decide +kernel
theorem dX7_setDeparture_65 : decode cX7_setDeparture 65 = .ok (.getfield 116, 3) := by decide +kernel
theorem dX7_setDeparture_68 : decode cX7_setDeparture 68 = .ok (.iload_n 1, 1) := by decide +kernel
theorem dX7_setDeparture_69 : decode cX7_setDeparture 69 = .ok (.iload_n 2, 1) := by decide +kernel
theorem dX7_setDeparture_70 : decode cX7_setDeparture 70 = .ok (.iastore, 1) := by decide +kernel
theorem dX7_setDeparture_71 : decode cX7_setDeparture 71 = .ok (.aload_n 0, 1) := by decide +kernel
theorem dX7_setDeparture_72 : decode cX7_setDeparture 72 = .ok (.iload_n 3, 1) := by decide +kernel
theorem dX7_setDeparture_73 : decode cX7_setDeparture 73 = .ok (.invokevirtual 301, 3) := by decide +kernel
theorem dX7_setDeparture_76 : decode cX7_setDeparture 76 = .ok (.ireturn, 1) := by decide +kernel
theorem dX7_setStock_0 : decode cX7_setStock 0 = .ok (.aload_n 0, 1) := by decide +kernel
theorem dX7_setStock_1 : decode cX7_setStock 1 = .ok (.iload_n 1, 1) := by decide +kernel
theorem dX7_setStock_2 : decode cX7_setStock 2 = .ok (.iload_n 2, 1) := by decide +kernel
theorem dX7_setStock_3 : decode cX7_setStock 3 = .ok (.invokevirtual 119, 3) := by decide +kernel
theorem dX7_setStock_6 : decode cX7_setStock 6 = .ok (.ifCond .ne 9, 3) := by decide +kernel
theorem dX7_setStock_9 : decode cX7_setStock 9 = .ok (.aload_n 0, 1) := by decide +kernel
theorem dX7_setStock_10 : decode cX7_setStock 10 = .ok (.iconst 1, 1) := by decide +kernel
theorem dX7_setStock_11 : decode cX7_setStock 11 = .ok (.invokevirtual 76, 3) := by decide +kernel
theorem dX7_setStock_14 : decode cX7_setStock 14 = .ok (.ireturn, 1) := by decide +kernel
theorem dX7_setStock_15 : decode cX7_setStock 15 = .ok (.iload_n 3, 1) := by decide +kernel
theorem dX7_setStock_16 : decode cX7_setStock 16 = .ok (.ifCond .lt 10, 3) := by decide +kernel
theorem dX7_setStock_19 : decode cX7_setStock 19 = .ok (.iload_n 3, 1) := by decide +kernel
theorem dX7_setStock_20 : decode cX7_setStock 20 = .ok (.sipush 999, 3) := by decide +kernel
theorem dX7_setStock_23 : decode cX7_setStock 23 = .ok (.if_icmp .le 9, 3) := by decide +kernel
theorem dX7_setStock_26 : decode cX7_setStock 26 = .ok (.aload_n 0, 1) := by decide +kernel
theorem dX7_setStock_27 : decode cX7_setStock 27 = .ok (.iconst 2, 1) := by decide +kernel
theorem dX7_setStock_28 : decode cX7_setStock 28 = .ok (.invokevirtual 76, 3) := by decide +kernel
theorem dX7_setStock_31 : decode cX7_setStock 31 = .ok (.ireturn, 1) := by decide +kernel
theorem dX7_setStock_32 : decode cX7_setStock 32 = .ok (.aload_n 0, 1) := by decide +kernel
theorem dX7_setStock_33 : decode cX7_setStock 33 = .ok (.getfield 39, 3) := by decide +kernel
theorem dX7_setStock_36 : decode cX7_setStock 36 = .ok (.aload_n 0, 1) := by decide +kernel
theorem dX7_setStock_37 : decode cX7_setStock 37 = .ok (.getfield 64, 3) := by decide +kernel
theorem dX7_setStock_40 : decode cX7_setStock 40 = .ok (.invokevirtual 294, 3) := by decide +kernel
theorem dX7_setStock_43 : decode cX7_setStock 43 = .ok (.iload_n 1, 1) := by decide +kernel
theorem dX7_setStock_44 : decode cX7_setStock 44 = .ok (.iload_n 2, 1) := by decide +kernel
theorem dX7_setStock_45 : decode cX7_setStock 45 = .ok (.invokestatic 126, 3) := by decide +kernel
theorem dX7_setStock_48 : decode cX7_setStock 48 = .ok (.istore 4, 2) := by decide +kernel
theorem dX7_setStock_50 : decode cX7_setStock 50 = .ok (.aload_n 0, 1) := by decide +kernel
theorem dX7_setStock_51 : decode cX7_setStock 51 = .ok (.getfield 64, 3) := by decide +kernel
theorem dX7_setStock_54 : decode cX7_setStock 54 = .ok (.getfield 123, 3) := by decide +kernel
theorem dX7_setStock_57 : decode cX7_setStock 57 = .ok (.iload 4, 2) := by decide +kernel
theorem dX7_setStock_59 : decode cX7_setStock 59 = .ok (.iaload, 1) := by decide +kernel
theorem dX7_setStock_60 : decode cX7_setStock 60 = .ok (.istore 5, 2) := by decide +kernel
theorem dX7_setStock_62 : decode cX7_setStock 62 = .ok (.aload_n 0, 1) := by decide +kernel
theorem dX7_setStock_63 : decode cX7_setStock 63 = .ok (.getfield 64, 3) := by decide +kernel
theorem dX7_setStock_66 : decode cX7_setStock 66 = .ok (.getfield 123, 3) := by decide +kernel
theorem dX7_setStock_69 : decode cX7_setStock 69 = .ok (.iload 4, 2) := by decide +kernel
theorem dX7_setStock_71 : decode cX7_setStock 71 = .ok (.iload_n 3, 1) := by decide +kernel
theorem dX7_setStock_72 : decode cX7_setStock 72 = .ok (.iastore, 1) := by decide +kernel
theorem dX7_setStock_73 : decode cX7_setStock 73 = .ok (.aload_n 0, 1) := by decide +kernel
theorem dX7_setStock_74 : decode cX7_setStock 74 = .ok (.iload 5, 2) := by decide +kernel
theorem dX7_setStock_76 : decode cX7_setStock 76 = .ok (.invokevirtual 301, 3) := by decide +kernel
theorem dX7_setStock_79 : decode cX7_setStock 79 = .ok (.ireturn, 1) := by decide +kernel
theorem dX7_applyBest_0 : decode cX7_applyBest 0 = .ok (.aload_n 0, 1) := by decide +kernel
theorem dX7_applyBest_1 : decode cX7_applyBest 1 = .ok (.iload_n 1, 1) := by decide +kernel
theorem dX7_applyBest_2 : decode cX7_applyBest 2 = .ok (.invokevirtual 170, 3) := by decide +kernel
theorem dX7_applyBest_5 : decode cX7_applyBest 5 = .ok (.ifCond .ne 9, 3) := by decide +kernel
theorem dX7_applyBest_8 : decode cX7_applyBest 8 = .ok (.aload_n 0, 1) := by decide +kernel
theorem dX7_applyBest_9 : decode cX7_applyBest 9 = .ok (.iconst 1, 1) := by decide +kernel
theorem dX7_applyBest_10 : decode cX7_applyBest 10 = .ok (.invokevirtual 76, 3) := by decide +kernel
theorem dX7_applyBest_13 : decode cX7_applyBest 13 = .ok (.ireturn, 1) := by decide +kernel
theorem dX7_applyBest_14 : decode cX7_applyBest 14 = .ok (.aload_n 0, 1) := by decide +kernel
theorem dX7_applyBest_15 : decode cX7_applyBest 15 = .ok (.getfield 46, 3) := by decide +kernel
theorem dX7_applyBest_18 : decode cX7_applyBest 18 = .ok (.aload_n 0, 1) := by decide +kernel
theorem dX7_applyBest_19 : decode cX7_applyBest 19 = .ok (.getfield 60, 3) := by decide +kernel
theorem dX7_applyBest_22 : decode cX7_applyBest 22 = .ok (.aload_n 0, 1) := by decide +kernel
theorem dX7_applyBest_23 : decode cX7_applyBest 23 = .ok (.getfield 64, 3) := by decide +kernel
theorem dX7_applyBest_26 : decode cX7_applyBest 26 = .ok (.iload_n 1, 1) := by decide +kernel
theorem dX7_applyBest_27 : decode cX7_applyBest 27 = .ok (.invokevirtual 240, 3) := by decide +kernel
theorem dX7_applyBest_30 : decode cX7_applyBest 30 = .ok (.aload_n 0, 1) := by decide +kernel
theorem dX7_applyBest_31 : decode cX7_applyBest 31 = .ok (.getfield 39, 3) := by decide +kernel
theorem dX7_applyBest_34 : decode cX7_applyBest 34 = .ok (.aload_n 0, 1) := by decide +kernel
theorem dX7_applyBest_35 : decode cX7_applyBest 35 = .ok (.getfield 64, 3) := by decide +kernel
theorem dX7_applyBest_38 : decode cX7_applyBest 38 = .ok (.invokevirtual 294, 3) := by decide +kernel
theorem dX7_applyBest_41 : decode cX7_applyBest 41 = .ok (.aload_n 0, 1) := by decide +kernel
theorem dX7_applyBest_42 : decode cX7_applyBest 42 = .ok (.getfield 29, 3) := by decide +kernel
theorem dX7_applyBest_45 : decode cX7_applyBest 45 = .ok (.aload_n 0, 1) := by decide +kernel
theorem dX7_applyBest_46 : decode cX7_applyBest 46 = .ok (.getfield 64, 3) := by decide +kernel
theorem dX7_applyBest_49 : decode cX7_applyBest 49 = .ok (.invokevirtual 267, 3) := by decide +kernel
theorem dX7_applyBest_52 : decode cX7_applyBest 52 = .ok (.iconst 0, 1) := by decide +kernel
theorem dX7_applyBest_53 : decode cX7_applyBest 53 = .ok (.istore_n 2, 1) := by decide +kernel
theorem dX7_applyBest_54 : decode cX7_applyBest 54 = .ok (.iload_n 2, 1) := by decide +kernel
theorem dX7_applyBest_55 : decode cX7_applyBest 55 = .ok (.aload_n 0, 1) := by decide +kernel
theorem dX7_applyBest_56 : decode cX7_applyBest 56 = .ok (.getfield 46, 3) := by decide +kernel
theorem dX7_applyBest_59 : decode cX7_applyBest 59 = .ok (.getfield 250, 3) := by decide +kernel
theorem dX7_applyBest_62 : decode cX7_applyBest 62 = .ok (.if_icmp .ge 38, 3) := by decide +kernel
theorem dX7_applyBest_65 : decode cX7_applyBest 65 = .ok (.aload_n 0, 1) := by decide +kernel
theorem dX7_applyBest_66 : decode cX7_applyBest 66 = .ok (.getfield 64, 3) := by decide +kernel
theorem dX7_applyBest_69 : decode cX7_applyBest 69 = .ok (.aload_n 0, 1) := by decide +kernel
theorem dX7_applyBest_70 : decode cX7_applyBest 70 = .ok (.getfield 29, 3) := by decide +kernel
theorem dX7_applyBest_73 : decode cX7_applyBest 73 = .ok (.aload_n 0, 1) := by decide +kernel
theorem dX7_applyBest_74 : decode cX7_applyBest 74 = .ok (.getfield 46, 3) := by decide +kernel
theorem dX7_applyBest_77 : decode cX7_applyBest 77 = .ok (.getfield 253, 3) := by decide +kernel
theorem dX7_applyBest_80 : decode cX7_applyBest 80 = .ok (.iload_n 2, 1) := by decide +kernel
theorem dX7_applyBest_81 : decode cX7_applyBest 81 = .ok (.iaload, 1) := by decide +kernel
theorem dX7_applyBest_82 : decode cX7_applyBest 82 = .ok (.aload_n 0, 1) := by decide +kernel
theorem dX7_applyBest_83 : decode cX7_applyBest 83 = .ok (.getfield 46, 3) := by decide +kernel
theorem dX7_applyBest_86 : decode cX7_applyBest 86 = .ok (.getfield 307, 3) := by decide +kernel
theorem dX7_applyBest_89 : decode cX7_applyBest 89 = .ok (.iload_n 2, 1) := by decide +kernel
theorem dX7_applyBest_90 : decode cX7_applyBest 90 = .ok (.iaload, 1) := by decide +kernel
theorem dX7_applyBest_91 : decode cX7_applyBest 91 = .ok (.invokevirtual 310, 3) := by decide +kernel
theorem dX7_applyBest_94 : decode cX7_applyBest 94 = .ok (.iinc 2 1, 3) := by decide +kernel
theorem dX7_applyBest_97 : decode cX7_applyBest 97 = .ok (.goto (-43), 3) := by decide +kernel
theorem dX7_applyBest_100 : decode cX7_applyBest 100 = .ok (.aload_n 0, 1) := by decide +kernel
theorem dX7_applyBest_101 : decode cX7_applyBest 101 = .ok (.getfield 46, 3) := by decide +kernel
theorem dX7_applyBest_104 : decode cX7_applyBest 104 = .ok (.getfield 314, 3) := by decide +kernel
theorem dX7_applyBest_107 : decode cX7_applyBest 107 = .ok (.iconst 1, 1) := by decide +kernel
theorem dX7_applyBest_108 : decode cX7_applyBest 108 = .ok (.isub, 1) := by decide +kernel
theorem dX7_applyBest_109 : decode cX7_applyBest 109 = .ok (.istore_n 2, 1) := by decide +kernel
theorem dX7_applyBest_110 : decode cX7_applyBest 110 = .ok (.iload_n 2, 1) := by decide +kernel
theorem dX7_applyBest_111 : decode cX7_applyBest 111 = .ok (.aload_n 0, 1) := by decide +kernel
theorem dX7_applyBest_112 : decode cX7_applyBest 112 = .ok (.getfield 46, 3) := by decide +kernel
theorem dX7_applyBest_115 : decode cX7_applyBest 115 = .ok (.getfield 250, 3) := by decide +kernel
theorem dX7_applyBest_118 : decode cX7_applyBest 118 = .ok (.if_icmp .lt 25, 3) := by decide +kernel
theorem dX7_applyBest_121 : decode cX7_applyBest 121 = .ok (.aload_n 0, 1) := by decide +kernel
theorem dX7_applyBest_122 : decode cX7_applyBest 122 = .ok (.getfield 64, 3) := by decide +kernel
theorem dX7_applyBest_125 : decode cX7_applyBest 125 = .ok (.aload_n 0, 1) := by decide +kernel
theorem dX7_applyBest_126 : decode cX7_applyBest 126 = .ok (.getfield 46, 3) := by decide +kernel
theorem dX7_applyBest_129 : decode cX7_applyBest 129 = .ok (.getfield 307, 3) := by decide +kernel
theorem dX7_applyBest_132 : decode cX7_applyBest 132 = .ok (.iload_n 2, 1) := by decide +kernel
theorem dX7_applyBest_133 : decode cX7_applyBest 133 = .ok (.iaload, 1) := by decide +kernel
theorem dX7_applyBest_134 : decode cX7_applyBest 134 = .ok (.invokevirtual 279, 3) := by decide +kernel
theorem dX7_applyBest_137 : decode cX7_applyBest 137 = .ok (.iinc 2 (-1), 3) := by decide +kernel
theorem dX7_applyBest_140 : decode cX7_applyBest 140 = .ok (.goto (-30), 3) := by decide +kernel
theorem dX7_applyBest_143 : decode cX7_applyBest 143 = .ok (.aload_n 0, 1) := by decide +kernel
theorem dX7_applyBest_144 : decode cX7_applyBest 144 = .ok (.aload_n 0, 1) := by decide +kernel
theorem dX7_applyBest_145 : decode cX7_applyBest 145 = .ok (.getfield 46, 3) := by decide +kernel
theorem dX7_applyBest_148 : decode cX7_applyBest 148 = .ok (.getfield 314, 3) := by decide +kernel
theorem dX7_applyBest_151 : decode cX7_applyBest 151 = .ok (.aload_n 0, 1) := by decide +kernel
theorem dX7_applyBest_152 : decode cX7_applyBest 152 = .ok (.getfield 46, 3) := by decide +kernel
theorem dX7_applyBest_155 : decode cX7_applyBest 155 = .ok (.getfield 250, 3) := by decide +kernel
theorem dX7_applyBest_158 : decode cX7_applyBest 158 = .ok (.isub, 1) := by decide +kernel
theorem dX7_applyBest_159 : decode cX7_applyBest 159 = .ok (.invokevirtual 301, 3) := by decide +kernel
theorem dX7_applyBest_162 : decode cX7_applyBest 162 = .ok (.ireturn, 1) := by decide +kernel
theorem dX7_undo_0 : decode cX7_undo 0 = .ok (.aload_n 0, 1) := by decide +kernel
theorem dX7_undo_1 : decode cX7_undo 1 = .ok (.getfield 106, 3) := by decide +kernel
theorem dX7_undo_4 : decode cX7_undo 4 = .ok (.ifCond .ne 9, 3) := by decide +kernel
theorem dX7_undo_7 : decode cX7_undo 7 = .ok (.aload_n 0, 1) := by decide +kernel
theorem dX7_undo_8 : decode cX7_undo 8 = .ok (.iconst 1, 1) := by decide +kernel
theorem dX7_undo_9 : decode cX7_undo 9 = .ok (.invokevirtual 76, 3) := by decide +kernel
theorem dX7_undo_12 : decode cX7_undo 12 = .ok (.ireturn, 1) := by decide +kernel
theorem dX7_undo_13 : decode cX7_undo 13 = .ok (.aload_n 0, 1) := by decide +kernel
theorem dX7_undo_14 : decode cX7_undo 14 = .ok (.getfield 39, 3) := by decide +kernel
theorem dX7_undo_17 : decode cX7_undo 17 = .ok (.getfield 317, 3) := by decide +kernel
theorem dX7_undo_20 : decode cX7_undo 20 = .ok (.ifCond .ne 10, 3) := by decide +kernel
theorem dX7_undo_23 : decode cX7_undo 23 = .ok (.aload_n 0, 1) := by decide +kernel
theorem dX7_undo_24 : decode cX7_undo 24 = .ok (.bipush 6, 2) := by decide +kernel
theorem dX7_undo_26 : decode cX7_undo 26 = .ok (.invokevirtual 76, 3) := by decide +kernel
theorem dX7_undo_29 : decode cX7_undo 29 = .ok (.ireturn, 1) := by decide +kernel
theorem dX7_undo_30 : decode cX7_undo 30 = .ok (.aload_n 0, 1) := by decide +kernel
theorem dX7_undo_31 : decode cX7_undo 31 = .ok (.getfield 39, 3) := by decide +kernel
theorem dX7_undo_34 : decode cX7_undo 34 = .ok (.aload_n 0, 1) := by decide +kernel
theorem dX7_undo_35 : decode cX7_undo 35 = .ok (.getfield 64, 3) := by decide +kernel
theorem dX7_undo_38 : decode cX7_undo 38 = .ok (.invokevirtual 318, 3) := by decide +kernel
theorem dX7_undo_41 : decode cX7_undo 41 = .ok (.aload_n 0, 1) := by decide +kernel
theorem dX7_undo_42 : decode cX7_undo 42 = .ok (.aload_n 0, 1) := by decide +kernel
theorem dX7_undo_43 : decode cX7_undo 43 = .ok (.getfield 39, 3) := by decide +kernel
theorem dX7_undo_46 : decode cX7_undo 46 = .ok (.getfield 317, 3) := by decide +kernel
theorem dX7_undo_49 : decode cX7_undo 49 = .ok (.invokevirtual 301, 3) := by decide +kernel
theorem dX7_undo_52 : decode cX7_undo 52 = .ok (.ireturn, 1) := by decide +kernel
theorem dX7_save_0 : decode cX7_save 0 = .ok (.aload_n 0, 1) := by decide +kernel
theorem dX7_save_1 : decode cX7_save 1 = .ok (.getfield 106, 3) := by decide +kernel
theorem dX7_save_4 : decode cX7_save 4 = .ok (.ifCond .ne 9, 3) := by decide +kernel
theorem dX7_save_7 : decode cX7_save 7 = .ok (.aload_n 0, 1) := by decide +kernel
theorem dX7_save_8 : decode cX7_save 8 = .ok (.iconst 1, 1) := by decide +kernel
theorem dX7_save_9 : decode cX7_save 9 = .ok (.invokevirtual 76, 3) := by decide +kernel
theorem dX7_save_12 : decode cX7_save 12 = .ok (.ireturn, 1) := by decide +kernel
theorem dX7_save_13 : decode cX7_save 13 = .ok (.aload_n 0, 1) := by decide +kernel
theorem dX7_save_14 : decode cX7_save 14 = .ok (.getfield 33, 3) := by decide +kernel
theorem dX7_save_17 : decode cX7_save 17 = .ok (.aload_n 0, 1) := by decide +kernel
theorem dX7_save_18 : decode cX7_save 18 = .ok (.getfield 64, 3) := by decide +kernel
theorem dX7_save_21 : decode cX7_save 21 = .ok (.invokevirtual 267, 3) := by decide +kernel
theorem dX7_save_24 : decode cX7_save 24 = .ok (.aload_n 0, 1) := by decide +kernel
theorem dX7_save_25 : decode cX7_save 25 = .ok (.iconst 1, 1) := by decide +kernel
theorem dX7_save_26 : decode cX7_save 26 = .ok (.putfield 321, 3) := by decide +kernel
theorem dX7_save_29 : decode cX7_save 29 = .ok (.aload_n 0, 1) := by decide +kernel
theorem dX7_save_30 : decode cX7_save 30 = .ok (.iconst 0, 1) := by decide +kernel
theorem dX7_save_31 : decode cX7_save 31 = .ok (.invokevirtual 92, 3) := by decide +kernel
theorem dX7_save_34 : decode cX7_save 34 = .ok (.ireturn, 1) := by decide +kernel
theorem dX7_restore_0 : decode cX7_restore 0 = .ok (.aload_n 0, 1) := by decide +kernel
theorem dX7_restore_1 : decode cX7_restore 1 = .ok (.getfield 106, 3) := by decide +kernel
theorem dX7_restore_4 : decode cX7_restore 4 = .ok (.ifCond .ne 9, 3) := by decide +kernel
theorem dX7_restore_7 : decode cX7_restore 7 = .ok (.aload_n 0, 1) := by decide +kernel
theorem dX7_restore_8 : decode cX7_restore 8 = .ok (.iconst 1, 1) := by decide +kernel
theorem dX7_restore_9 : decode cX7_restore 9 = .ok (.invokevirtual 76, 3) := by decide +kernel
theorem dX7_restore_12 : decode cX7_restore 12 = .ok (.ireturn, 1) := by decide +kernel
theorem dX7_restore_13 : decode cX7_restore 13 = .ok (.aload_n 0, 1) := by decide +kernel
theorem dX7_restore_14 : decode cX7_restore 14 = .ok (.getfield 321, 3) := by decide +kernel
theorem dX7_restore_17 : decode cX7_restore 17 = .ok (.ifCond .ne 10, 3) := by decide +kernel
theorem dX7_restore_20 : decode cX7_restore 20 = .ok (.aload_n 0, 1) := by decide +kernel
theorem dX7_restore_21 : decode cX7_restore 21 = .ok (.bipush 6, 2) := by decide +kernel
theorem dX7_restore_23 : decode cX7_restore 23 = .ok (.invokevirtual 76, 3) := by decide +kernel
theorem dX7_restore_26 : decode cX7_restore 26 = .ok (.ireturn, 1) := by decide +kernel
theorem dX7_restore_27 : decode cX7_restore 27 = .ok (.aload_n 0, 1) := by decide +kernel
theorem dX7_restore_28 : decode cX7_restore 28 = .ok (.getfield 64, 3) := by decide +kernel
theorem dX7_restore_31 : decode cX7_restore 31 = .ok (.aload_n 0, 1) := by decide +kernel
theorem dX7_restore_32 : decode cX7_restore 32 = .ok (.getfield 33, 3) := by decide +kernel
theorem dX7_restore_35 : decode cX7_restore 35 = .ok (.invokevirtual 267, 3) := by decide +kernel
theorem dX7_restore_38 : decode cX7_restore 38 = .ok (.aload_n 0, 1) := by decide +kernel
theorem dX7_restore_39 : decode cX7_restore 39 = .ok (.getfield 39, 3) := by decide +kernel
theorem dX7_restore_42 : decode cX7_restore 42 = .ok (.iconst 0, 1) := by decide +kernel
theorem dX7_restore_43 : decode cX7_restore 43 = .ok (.putfield 317, 3) := by decide +kernel
theorem dX7_restore_46 : decode cX7_restore 46 = .ok (.aload_n 0, 1) := by decide +kernel
theorem dX7_restore_47 : decode cX7_restore 47 = .ok (.aload_n 0, 1) := by decide +kernel
theorem dX7_restore_48 : decode cX7_restore 48 = .ok (.getfield 64, 3) := by decide +kernel
theorem dX7_restore_51 : decode cX7_restore 51 = .ok (.getfield 89, 3) := by decide +kernel
theorem dX7_restore_54 : decode cX7_restore 54 = .ok (.invokevirtual 301, 3) := by decide +kernel
theorem dX7_restore_57 : decode cX7_restore 57 = .ok (.ireturn, 1) := by decide +kernel
theorem dX7_error_0 : decode cX7_error 0 = .ok (.aload_n 0, 1) := by decide +kernel
theorem dX7_error_1 : decode cX7_error 1 = .ok (.getfield 331, 3) := by decide +kernel
theorem dX7_error_4 : decode cX7_error 4 = .ok (.ireturn, 1) := by decide +kernel
theorem dX7_answer_0 : decode cX7_answer 0 = .ok (.aload_n 0, 1) := by decide +kernel
theorem dX7_answer_1 : decode cX7_answer 1 = .ok (.iconst 0, 1) := by decide +kernel
theorem dX7_answer_2 : decode cX7_answer 2 = .ok (.putfield 331, 3) := by decide +kernel
theorem dX7_answer_5 : decode cX7_answer 5 = .ok (.iload_n 1, 1) := by decide +kernel
theorem dX7_answer_6 : decode cX7_answer 6 = .ok (.ireturn, 1) := by decide +kernel
theorem dX7_answerLong_0 : decode cX7_answerLong 0 = .ok (.aload_n 0, 1) := by decide +kernel
theorem dX7_answerLong_1 : decode cX7_answerLong 1 = .ok (.iconst 0, 1) := by decide +kernel
theorem dX7_answerLong_2 : decode cX7_answerLong 2 = .ok (.putfield 331, 3) := by decide +kernel
theorem dX7_answerLong_5 : decode cX7_answerLong 5 = .ok (.lload_n 1, 1) := by decide +kernel
theorem dX7_answerLong_6 : decode cX7_answerLong 6 = .ok (.lreturn, 1) := by decide +kernel
theorem dX7_fail_0 : decode cX7_fail 0 = .ok (.aload_n 0, 1) := by decide +kernel
theorem dX7_fail_1 : decode cX7_fail 1 = .ok (.iload_n 1, 1) := by decide +kernel
theorem dX7_fail_2 : decode cX7_fail 2 = .ok (.putfield 331, 3) := by decide +kernel
theorem dX7_fail_5 : decode cX7_fail 5 = .ok (.ldc 71, 2) := by decide +kernel
theorem dX7_fail_7 : decode cX7_fail 7 = .ok (.ireturn, 1) := by decide +kernel
theorem dX7_failLong_0 : decode cX7_failLong 0 = .ok (.aload_n 0, 1) := by decide +kernel
theorem dX7_failLong_1 : decode cX7_failLong 1 = .ok (.iload_n 1, 1) := by decide +kernel
theorem dX7_failLong_2 : decode cX7_failLong 2 = .ok (.putfield 331, 3) := by decide +kernel
theorem dX7_failLong_5 : decode cX7_failLong 5 = .ok (.ldc2_w 334, 3) := by decide +kernel
theorem dX7_failLong_8 : decode cX7_failLong 8 = .ok (.lreturn, 1) := by decide +kernel
theorem dX7_changed_0 : decode cX7_changed 0 = .ok (.aload_n 0, 1) := by decide +kernel
theorem dX7_changed_1 : decode cX7_changed 1 = .ok (.getfield 19, 3) := by decide +kernel
theorem dX7_changed_4 : decode cX7_changed 4 = .ok (.aload_n 0, 1) := by decide +kernel
theorem dX7_changed_5 : decode cX7_changed 5 = .ok (.getfield 60, 3) := by decide +kernel
theorem dX7_changed_8 : decode cX7_changed 8 = .ok (.aload_n 0, 1) := by decide +kernel
theorem dX7_changed_9 : decode cX7_changed 9 = .ok (.getfield 64, 3) := by decide +kernel
theorem dX7_changed_12 : decode cX7_changed 12 = .ok (.invokevirtual 271, 3) := by decide +kernel
theorem dX7_changed_15 : decode cX7_changed 15 = .ok (.aload_n 0, 1) := by decide +kernel
theorem dX7_changed_16 : decode cX7_changed 16 = .ok (.iload_n 1, 1) := by decide +kernel
theorem dX7_changed_17 : decode cX7_changed 17 = .ok (.invokevirtual 92, 3) := by decide +kernel
theorem dX7_changed_20 : decode cX7_changed 20 = .ok (.ireturn, 1) := by decide +kernel
theorem dX7_rehearse_0 : decode cX7_rehearse 0 = .ok (.aload_n 0, 1) := by decide +kernel
theorem dX7_rehearse_1 : decode cX7_rehearse 1 = .ok (.getfield 23, 3) := by decide +kernel
theorem dX7_rehearse_4 : decode cX7_rehearse 4 = .ok (.aload_n 0, 1) := by decide +kernel
theorem dX7_rehearse_5 : decode cX7_rehearse 5 = .ok (.getfield 60, 3) := by decide +kernel
theorem dX7_rehearse_8 : decode cX7_rehearse 8 = .ok (.aload_n 0, 1) := by decide +kernel
theorem dX7_rehearse_9 : decode cX7_rehearse 9 = .ok (.getfield 29, 3) := by decide +kernel
theorem dX7_rehearse_12 : decode cX7_rehearse 12 = .ok (.invokevirtual 271, 3) := by decide +kernel
theorem dX7_rehearse_15 : decode cX7_rehearse 15 = .ok (.aload_n 0, 1) := by decide +kernel
theorem dX7_rehearse_16 : decode cX7_rehearse 16 = .ok (.getfield 23, 3) := by decide +kernel
theorem dX7_rehearse_19 : decode cX7_rehearse 19 = .ok (.getfield 167, 3) := by decide +kernel
theorem dX7_rehearse_22 : decode cX7_rehearse 22 = .ok (.ireturn, 1) := by decide +kernel
theorem dX7_takeParsedPlan_0 : decode cX7_takeParsedPlan 0 = .ok (.aload_n 0, 1) := by decide +kernel
theorem dX7_takeParsedPlan_1 : decode cX7_takeParsedPlan 1 = .ok (.getfield 60, 3) := by decide +kernel
theorem dX7_takeParsedPlan_4 : decode cX7_takeParsedPlan 4 = .ok (.astore_n 1, 1) := by decide +kernel
theorem dX7_takeParsedPlan_5 : decode cX7_takeParsedPlan 5 = .ok (.aload_n 0, 1) := by decide +kernel
theorem dX7_takeParsedPlan_6 : decode cX7_takeParsedPlan 6 = .ok (.getfield 64, 3) := by decide +kernel
theorem dX7_takeParsedPlan_9 : decode cX7_takeParsedPlan 9 = .ok (.astore_n 2, 1) := by decide +kernel
theorem dX7_takeParsedPlan_10 : decode cX7_takeParsedPlan 10 = .ok (.aload_n 0, 1) := by decide +kernel
theorem dX7_takeParsedPlan_11 : decode cX7_takeParsedPlan 11 = .ok (.aload_n 0, 1) := by decide +kernel
theorem dX7_takeParsedPlan_12 : decode cX7_takeParsedPlan 12 = .ok (.getfield 12, 3) := by decide +kernel
theorem dX7_takeParsedPlan_15 : decode cX7_takeParsedPlan 15 = .ok (.getfield 336, 3) := by decide +kernel
theorem dX7_takeParsedPlan_18 : decode cX7_takeParsedPlan 18 = .ok (.putfield 60, 3) := by decide +kernel
theorem dX7_takeParsedPlan_21 : decode cX7_takeParsedPlan 21 = .ok (.aload_n 0, 1) := by decide +kernel
theorem dX7_takeParsedPlan_22 : decode cX7_takeParsedPlan 22 = .ok (.aload_n 0, 1) := by decide +kernel
theorem dX7_takeParsedPlan_23 : decode cX7_takeParsedPlan 23 = .ok (.getfield 12, 3) := by decide +kernel
theorem dX7_takeParsedPlan_26 : decode cX7_takeParsedPlan 26 = .ok (.getfield 337, 3) := by decide +kernel
theorem dX7_takeParsedPlan_29 : decode cX7_takeParsedPlan 29 = .ok (.putfield 64, 3) := by decide +kernel
theorem dX7_takeParsedPlan_32 : decode cX7_takeParsedPlan 32 = .ok (.aload_n 0, 1) := by decide +kernel
theorem dX7_takeParsedPlan_33 : decode cX7_takeParsedPlan 33 = .ok (.getfield 12, 3) := by decide +kernel
theorem dX7_takeParsedPlan_36 : decode cX7_takeParsedPlan 36 = .ok (.aload_n 1, 1) := by decide +kernel
theorem dX7_takeParsedPlan_37 : decode cX7_takeParsedPlan 37 = .ok (.putfield 336, 3) := by decide +kernel
theorem dX7_takeParsedPlan_40 : decode cX7_takeParsedPlan 40 = .ok (.aload_n 0, 1) := by decide +kernel
theorem dX7_takeParsedPlan_41 : decode cX7_takeParsedPlan 41 = .ok (.getfield 12, 3) := by decide +kernel
theorem dX7_takeParsedPlan_44 : decode cX7_takeParsedPlan 44 = .ok (.aload_n 2, 1) := by decide +kernel
theorem dX7_takeParsedPlan_45 : decode cX7_takeParsedPlan 45 = .ok (.putfield 337, 3) := by decide +kernel
theorem dX7_takeParsedPlan_48 : decode cX7_takeParsedPlan 48 = .ok (.aload_n 0, 1) := by decide +kernel
theorem dX7_takeParsedPlan_49 : decode cX7_takeParsedPlan 49 = .ok (.iconst 1, 1) := by decide +kernel
theorem dX7_takeParsedPlan_50 : decode cX7_takeParsedPlan 50 = .ok (.putfield 106, 3) := by decide +kernel
theorem dX7_takeParsedPlan_53 : decode cX7_takeParsedPlan 53 = .ok (.aload_n 0, 1) := by decide +kernel
theorem dX7_takeParsedPlan_54 : decode cX7_takeParsedPlan 54 = .ok (.iconst 0, 1) := by decide +kernel
theorem dX7_takeParsedPlan_55 : decode cX7_takeParsedPlan 55 = .ok (.putfield 321, 3) := by decide +kernel
theorem dX7_takeParsedPlan_58 : decode cX7_takeParsedPlan 58 = .ok (.aload_n 0, 1) := by decide +kernel
theorem dX7_takeParsedPlan_59 : decode cX7_takeParsedPlan 59 = .ok (.getfield 39, 3) := by decide +kernel
theorem dX7_takeParsedPlan_62 : decode cX7_takeParsedPlan 62 = .ok (.iconst 0, 1) := by decide +kernel
theorem dX7_takeParsedPlan_63 : decode cX7_takeParsedPlan 63 = .ok (.putfield 317, 3) := by decide +kernel
theorem dX7_takeParsedPlan_66 : decode cX7_takeParsedPlan 66 = .ok (.aload_n 0, 1) := by decide +kernel
theorem dX7_takeParsedPlan_67 : decode cX7_takeParsedPlan 67 = .ok (.getfield 19, 3) := by decide +kernel
theorem dX7_takeParsedPlan_70 : decode cX7_takeParsedPlan 70 = .ok (.aload_n 0, 1) := by decide +kernel
theorem dX7_takeParsedPlan_71 : decode cX7_takeParsedPlan 71 = .ok (.getfield 60, 3) := by decide +kernel
theorem dX7_takeParsedPlan_74 : decode cX7_takeParsedPlan 74 = .ok (.aload_n 0, 1) := by decide +kernel
theorem dX7_takeParsedPlan_75 : decode cX7_takeParsedPlan 75 = .ok (.getfield 64, 3) := by decide +kernel
theorem dX7_takeParsedPlan_78 : decode cX7_takeParsedPlan 78 = .ok (.invokevirtual 271, 3) := by decide +kernel
theorem dX7_takeParsedPlan_81 : decode cX7_takeParsedPlan 81 = .ok (.return_, 1) := by decide +kernel
theorem dX7_isTrain_0 : decode cX7_isTrain 0 = .ok (.aload_n 0, 1) := by decide +kernel
theorem dX7_isTrain_1 : decode cX7_isTrain 1 = .ok (.getfield 106, 3) := by decide +kernel
theorem dX7_isTrain_4 : decode cX7_isTrain 4 = .ok (.ifCond .eq 16, 3) := by decide +kernel
theorem dX7_isTrain_7 : decode cX7_isTrain 7 = .ok (.iload_n 1, 1) := by decide +kernel
theorem dX7_isTrain_8 : decode cX7_isTrain 8 = .ok (.ifCond .lt 12, 3) := by decide +kernel
theorem dX7_isTrain_11 : decode cX7_isTrain 11 = .ok (.iload_n 1, 1) := by decide +kernel
theorem dX7_isTrain_12 : decode cX7_isTrain 12 = .ok (.iconst 2, 1) := by decide +kernel
theorem dX7_isTrain_13 : decode cX7_isTrain 13 = .ok (.if_icmp .ge 7, 3) := by decide +kernel
theorem dX7_isTrain_16 : decode cX7_isTrain 16 = .ok (.iconst 1, 1) := by decide +kernel
theorem dX7_isTrain_17 : decode cX7_isTrain 17 = .ok (.goto 4, 3) := by decide +kernel
theorem dX7_isTrain_20 : decode cX7_isTrain 20 = .ok (.iconst 0, 1) := by decide +kernel
theorem dX7_isTrain_21 : decode cX7_isTrain 21 = .ok (.ireturn, 1) := by decide +kernel
theorem dX7_isCar_0 : decode cX7_isCar 0 = .ok (.aload_n 0, 1) := by decide +kernel
theorem dX7_isCar_1 : decode cX7_isCar 1 = .ok (.iload_n 1, 1) := by decide +kernel
theorem dX7_isCar_2 : decode cX7_isCar 2 = .ok (.invokevirtual 98, 3) := by decide +kernel
theorem dX7_isCar_5 : decode cX7_isCar 5 = .ok (.ifCond .eq 24, 3) := by decide +kernel
theorem dX7_isCar_8 : decode cX7_isCar 8 = .ok (.iload_n 2, 1) := by decide +kernel
theorem dX7_isCar_9 : decode cX7_isCar 9 = .ok (.ifCond .lt 20, 3) := by decide +kernel
theorem dX7_isCar_12 : decode cX7_isCar 12 = .ok (.iload_n 2, 1) := by decide +kernel
theorem dX7_isCar_13 : decode cX7_isCar 13 = .ok (.aload_n 0, 1) := by decide +kernel
theorem dX7_isCar_14 : decode cX7_isCar 14 = .ok (.getfield 60, 3) := by decide +kernel
theorem dX7_isCar_17 : decode cX7_isCar 17 = .ok (.getfield 102, 3) := by decide +kernel
theorem dX7_isCar_20 : decode cX7_isCar 20 = .ok (.iload_n 1, 1) := by decide +kernel
theorem dX7_isCar_21 : decode cX7_isCar 21 = .ok (.iaload, 1) := by decide +kernel
theorem dX7_isCar_22 : decode cX7_isCar 22 = .ok (.if_icmp .ge 7, 3) := by decide +kernel
theorem dX7_isCar_25 : decode cX7_isCar 25 = .ok (.iconst 1, 1) := by decide +kernel
theorem dX7_isCar_26 : decode cX7_isCar 26 = .ok (.goto 4, 3) := by decide +kernel
theorem dX7_isCar_29 : decode cX7_isCar 29 = .ok (.iconst 0, 1) := by decide +kernel
theorem dX7_isCar_30 : decode cX7_isCar 30 = .ok (.ireturn, 1) := by decide +kernel
theorem dX7_isMeal_0 : decode cX7_isMeal 0 = .ok (.aload_n 0, 1) := by decide +kernel
theorem dX7_isMeal_1 : decode cX7_isMeal 1 = .ok (.getfield 106, 3) := by decide +kernel
theorem dX7_isMeal_4 : decode cX7_isMeal 4 = .ok (.ifCond .eq 22, 3) := by decide +kernel
theorem dX7_isMeal_7 : decode cX7_isMeal 7 = .ok (.iload_n 1, 1) := by decide +kernel
theorem dX7_isMeal_8 : decode cX7_isMeal 8 = .ok (.ifCond .lt 18, 3) := by decide +kernel
theorem dX7_isMeal_11 : decode cX7_isMeal 11 = .ok (.iload_n 1, 1) := by decide +kernel
theorem dX7_isMeal_12 : decode cX7_isMeal 12 = .ok (.aload_n 0, 1) := by decide +kernel
theorem dX7_isMeal_13 : decode cX7_isMeal 13 = .ok (.getfield 60, 3) := by decide +kernel
theorem dX7_isMeal_16 : decode cX7_isMeal 16 = .ok (.getfield 110, 3) := by decide +kernel
theorem dX7_isMeal_19 : decode cX7_isMeal 19 = .ok (.if_icmp .ge 7, 3) := by decide +kernel
theorem dX7_isMeal_22 : decode cX7_isMeal 22 = .ok (.iconst 1, 1) := by decide +kernel
theorem dX7_isMeal_23 : decode cX7_isMeal 23 = .ok (.goto 4, 3) := by decide +kernel
theorem dX7_isMeal_26 : decode cX7_isMeal 26 = .ok (.iconst 0, 1) := by decide +kernel
theorem dX7_isMeal_27 : decode cX7_isMeal 27 = .ok (.ireturn, 1) := by decide +kernel
theorem dX7_isCarMeal_0 : decode cX7_isCarMeal 0 = .ok (.aload_n 0, 1) := by decide +kernel
theorem dX7_isCarMeal_1 : decode cX7_isCarMeal 1 = .ok (.iload_n 1, 1) := by decide +kernel
theorem dX7_isCarMeal_2 : decode cX7_isCarMeal 2 = .ok (.iload_n 2, 1) := by decide +kernel
theorem dX7_isCarMeal_3 : decode cX7_isCarMeal 3 = .ok (.invokevirtual 182, 3) := by decide +kernel
theorem dX7_isCarMeal_6 : decode cX7_isCarMeal 6 = .ok (.ifCond .eq 15, 3) := by decide +kernel
theorem dX7_isCarMeal_9 : decode cX7_isCarMeal 9 = .ok (.aload_n 0, 1) := by decide +kernel
theorem dX7_isCarMeal_10 : decode cX7_isCarMeal 10 = .ok (.iload_n 3, 1) := by decide +kernel
theorem dX7_isCarMeal_11 : decode cX7_isCarMeal 11 = .ok (.invokevirtual 209, 3) := by decide +kernel
theorem dX7_isCarMeal_14 : decode cX7_isCarMeal 14 = .ok (.ifCond .eq 7, 3) := by decide +kernel
theorem dX7_isCarMeal_17 : decode cX7_isCarMeal 17 = .ok (.iconst 1, 1) := by decide +kernel
theorem dX7_isCarMeal_18 : decode cX7_isCarMeal 18 = .ok (.goto 4, 3) := by decide +kernel
theorem dX7_isCarMeal_21 : decode cX7_isCarMeal 21 = .ok (.iconst 0, 1) := by decide +kernel
theorem dX7_isCarMeal_22 : decode cX7_isCarMeal 22 = .ok (.ireturn, 1) := by decide +kernel
theorem dX7_isStock_0 : decode cX7_isStock 0 = .ok (.aload_n 0, 1) := by decide +kernel
theorem dX7_isStock_1 : decode cX7_isStock 1 = .ok (.iload_n 2, 1) := by decide +kernel
theorem dX7_isStock_2 : decode cX7_isStock 2 = .ok (.invokevirtual 209, 3) := by decide +kernel
theorem dX7_isStock_5 : decode cX7_isStock 5 = .ok (.ifCond .eq 22, 3) := by decide +kernel
theorem dX7_isStock_8 : decode cX7_isStock 8 = .ok (.iload_n 1, 1) := by decide +kernel
theorem dX7_isStock_9 : decode cX7_isStock 9 = .ok (.ifCond .lt 18, 3) := by decide +kernel
theorem dX7_isStock_12 : decode cX7_isStock 12 = .ok (.iload_n 1, 1) := by decide +kernel
theorem dX7_isStock_13 : decode cX7_isStock 13 = .ok (.aload_n 0, 1) := by decide +kernel
theorem dX7_isStock_14 : decode cX7_isStock 14 = .ok (.getfield 60, 3) := by decide +kernel
theorem dX7_isStock_17 : decode cX7_isStock 17 = .ok (.getfield 338, 3) := by decide +kernel
theorem dX7_isStock_20 : decode cX7_isStock 20 = .ok (.if_icmp .ge 7, 3) := by decide +kernel
theorem dX7_isStock_23 : decode cX7_isStock 23 = .ok (.iconst 1, 1) := by decide +kernel
theorem dX7_isStock_24 : decode cX7_isStock 24 = .ok (.goto 4, 3) := by decide +kernel
theorem dX7_isStock_27 : decode cX7_isStock 27 = .ok (.iconst 0, 1) := by decide +kernel
theorem dX7_isStock_28 : decode cX7_isStock 28 = .ok (.ireturn, 1) := by decide +kernel
theorem dX7_isTrolley_0 : decode cX7_isTrolley 0 = .ok (.aload_n 0, 1) := by decide +kernel
theorem dX7_isTrolley_1 : decode cX7_isTrolley 1 = .ok (.getfield 106, 3) := by decide +kernel
theorem dX7_isTrolley_4 : decode cX7_isTrolley 4 = .ok (.ifCond .eq 22, 3) := by decide +kernel
theorem dX7_isTrolley_7 : decode cX7_isTrolley 7 = .ok (.iload_n 1, 1) := by decide +kernel
theorem dX7_isTrolley_8 : decode cX7_isTrolley 8 = .ok (.ifCond .lt 18, 3) := by decide +kernel
theorem dX7_isTrolley_11 : decode cX7_isTrolley 11 = .ok (.iload_n 1, 1) := by decide +kernel
theorem dX7_isTrolley_12 : decode cX7_isTrolley 12 = .ok (.aload_n 0, 1) := by decide +kernel
theorem dX7_isTrolley_13 : decode cX7_isTrolley 13 = .ok (.getfield 60, 3) := by decide +kernel
theorem dX7_isTrolley_16 : decode cX7_isTrolley 16 = .ok (.getfield 113, 3) := by decide +kernel
theorem dX7_isTrolley_19 : decode cX7_isTrolley 19 = .ok (.if_icmp .ge 7, 3) := by decide +kernel
theorem dX7_isTrolley_22 : decode cX7_isTrolley 22 = .ok (.iconst 1, 1) := by decide +kernel
theorem dX7_isTrolley_23 : decode cX7_isTrolley 23 = .ok (.goto 4, 3) := by decide +kernel
theorem dX7_isTrolley_26 : decode cX7_isTrolley 26 = .ok (.iconst 0, 1) := by decide +kernel
theorem dX7_isTrolley_27 : decode cX7_isTrolley 27 = .ok (.ireturn, 1) := by decide +kernel
theorem dX7_isJob_0 : decode cX7_isJob 0 = .ok (.aload_n 0, 1) := by decide +kernel
theorem dX7_isJob_1 : decode cX7_isJob 1 = .ok (.getfield 106, 3) := by decide +kernel
theorem dX7_isJob_4 : decode cX7_isJob 4 = .ok (.ifCond .eq 22, 3) := by decide +kernel
theorem dX7_isJob_7 : decode cX7_isJob 7 = .ok (.iload_n 1, 1) := by decide +kernel
theorem dX7_isJob_8 : decode cX7_isJob 8 = .ok (.ifCond .lt 18, 3) := by decide +kernel
theorem dX7_isJob_11 : decode cX7_isJob 11 = .ok (.iload_n 1, 1) := by decide +kernel
theorem dX7_isJob_12 : decode cX7_isJob 12 = .ok (.aload_n 0, 1) := by decide +kernel
theorem dX7_isJob_13 : decode cX7_isJob 13 = .ok (.getfield 64, 3) := by decide +kernel
theorem dX7_isJob_16 : decode cX7_isJob 16 = .ok (.getfield 89, 3) := by decide +kernel
theorem dX7_isJob_19 : decode cX7_isJob 19 = .ok (.if_icmp .ge 7, 3) := by decide +kernel
theorem dX7_isJob_22 : decode cX7_isJob 22 = .ok (.iconst 1, 1) := by decide +kernel
theorem dX7_isJob_23 : decode cX7_isJob 23 = .ok (.goto 4, 3) := by decide +kernel
theorem dX7_isJob_26 : decode cX7_isJob 26 = .ok (.iconst 0, 1) := by decide +kernel
theorem dX7_isJob_27 : decode cX7_isJob 27 = .ok (.ireturn, 1) := by decide +kernel
theorem dX7_isJobQuantity_0 : decode cX7_isJobQuantity 0 = .ok (.iload_n 0, 1) := by decide +kernel
theorem dX7_isJobQuantity_1 : decode cX7_isJobQuantity 1 = .ok (.iconst 1, 1) := by decide +kernel
theorem dX7_isJobQuantity_2 : decode cX7_isJobQuantity 2 = .ok (.if_icmp .lt 13, 3) := by decide +kernel
theorem dX7_isJobQuantity_5 : decode cX7_isJobQuantity 5 = .ok (.iload_n 0, 1) := by decide +kernel
theorem dX7_isJobQuantity_6 : decode cX7_isJobQuantity 6 = .ok (.bipush 99, 2) := by decide +kernel
theorem dX7_isJobQuantity_8 : decode cX7_isJobQuantity 8 = .ok (.if_icmp .gt 7, 3) := by decide +kernel
theorem dX7_isJobQuantity_11 : decode cX7_isJobQuantity 11 = .ok (.iconst 1, 1) := by decide +kernel
theorem dX7_isJobQuantity_12 : decode cX7_isJobQuantity 12 = .ok (.goto 4, 3) := by decide +kernel
theorem dX7_isJobQuantity_15 : decode cX7_isJobQuantity 15 = .ok (.iconst 0, 1) := by decide +kernel
theorem dX7_isJobQuantity_16 : decode cX7_isJobQuantity 16 = .ok (.ireturn, 1) := by decide +kernel
theorem dX7_doorIndex_0 : decode cX7_doorIndex 0 = .ok (.iload_n 0, 1) := by decide +kernel
theorem dX7_doorIndex_1 : decode cX7_doorIndex 1 = .ok (.iconst 5, 1) := by decide +kernel
theorem dX7_doorIndex_2 : decode cX7_doorIndex 2 = .ok (.imul, 1) := by decide +kernel
theorem dX7_doorIndex_3 : decode cX7_doorIndex 3 = .ok (.iload_n 1, 1) := by decide +kernel
theorem dX7_doorIndex_4 : decode cX7_doorIndex 4 = .ok (.iadd, 1) := by decide +kernel
theorem dX7_doorIndex_5 : decode cX7_doorIndex 5 = .ok (.ireturn, 1) := by decide +kernel
theorem dX7_stockIndex_0 : decode cX7_stockIndex 0 = .ok (.iload_n 0, 1) := by decide +kernel
theorem dX7_stockIndex_1 : decode cX7_stockIndex 1 = .ok (.iconst 4, 1) := by decide +kernel
theorem dX7_stockIndex_2 : decode cX7_stockIndex 2 = .ok (.imul, 1) := by decide +kernel
theorem dX7_stockIndex_3 : decode cX7_stockIndex 3 = .ok (.iload_n 1, 1) := by decide +kernel
theorem dX7_stockIndex_4 : decode cX7_stockIndex 4 = .ok (.iadd, 1) := by decide +kernel
theorem dX7_stockIndex_5 : decode cX7_stockIndex 5 = .ok (.ireturn, 1) := by decide +kernel
theorem dX7_handedAt_0 : decode cX7_handedAt 0 = .ok (.iconst 0, 1) := by decide +kernel
theorem dX7_handedAt_1 : decode cX7_handedAt 1 = .ok (.istore_n 3, 1) := by decide +kernel
theorem dX7_handedAt_2 : decode cX7_handedAt 2 = .ok (.iconst 0, 1) := by decide +kernel
theorem dX7_handedAt_3 : decode cX7_handedAt 3 = .ok (.istore 4, 2) := by decide +kernel
theorem dX7_handedAt_5 : decode cX7_handedAt 5 = .ok (.iload 4, 2) := by decide +kernel
theorem dX7_handedAt_7 : decode cX7_handedAt 7 = .ok (.aload_n 0, 1) := by decide +kernel
theorem dX7_handedAt_8 : decode cX7_handedAt 8 = .ok (.getfield 64, 3) := by decide +kernel
theorem dX7_handedAt_11 : decode cX7_handedAt 11 = .ok (.getfield 89, 3) := by decide +kernel
theorem dX7_handedAt_14 : decode cX7_handedAt 14 = .ok (.if_icmp .ge 50, 3) := by decide +kernel
theorem dX7_handedAt_17 : decode cX7_handedAt 17 = .ok (.aload_n 0, 1) := by decide +kernel
theorem dX7_handedAt_18 : decode cX7_handedAt 18 = .ok (.getfield 64, 3) := by decide +kernel
theorem dX7_handedAt_21 : decode cX7_handedAt 21 = .ok (.getfield 185, 3) := by decide +kernel
theorem dX7_handedAt_24 : decode cX7_handedAt 24 = .ok (.iload 4, 2) := by decide +kernel
theorem dX7_handedAt_26 : decode cX7_handedAt 26 = .ok (.iaload, 1) := by decide +kernel
theorem dX7_handedAt_27 : decode cX7_handedAt 27 = .ok (.iload_n 1, 1) := by decide +kernel
theorem dX7_handedAt_28 : decode cX7_handedAt 28 = .ok (.if_icmp .ne 30, 3) := by decide +kernel
theorem dX7_handedAt_31 : decode cX7_handedAt 31 = .ok (.aload_n 0, 1) := by decide +kernel
theorem dX7_handedAt_32 : decode cX7_handedAt 32 = .ok (.getfield 64, 3) := by decide +kernel
theorem dX7_handedAt_35 : decode cX7_handedAt 35 = .ok (.getfield 341, 3) := by decide +kernel
theorem dX7_handedAt_38 : decode cX7_handedAt 38 = .ok (.iload 4, 2) := by decide +kernel
theorem dX7_handedAt_40 : decode cX7_handedAt 40 = .ok (.iaload, 1) := by decide +kernel
theorem dX7_handedAt_41 : decode cX7_handedAt 41 = .ok (.iload_n 2, 1) := by decide +kernel
theorem dX7_handedAt_42 : decode cX7_handedAt 42 = .ok (.if_icmp .ne 16, 3) := by decide +kernel
theorem dX7_handedAt_45 : decode cX7_handedAt 45 = .ok (.iload_n 3, 1) := by decide +kernel
theorem dX7_handedAt_46 : decode cX7_handedAt 46 = .ok (.aload_n 0, 1) := by decide +kernel
theorem dX7_handedAt_47 : decode cX7_handedAt 47 = .ok (.getfield 19, 3) := by decide +kernel
theorem dX7_handedAt_50 : decode cX7_handedAt 50 = .ok (.getfield 155, 3) := by decide +kernel
theorem dX7_handedAt_53 : decode cX7_handedAt 53 = .ok (.iload 4, 2) := by decide +kernel
theorem dX7_handedAt_55 : decode cX7_handedAt 55 = .ok (.iaload, 1) := by decide +kernel
theorem dX7_handedAt_56 : decode cX7_handedAt 56 = .ok (.iadd, 1) := by decide +kernel
theorem dX7_handedAt_57 : decode cX7_handedAt 57 = .ok (.istore_n 3, 1) := by decide +kernel
theorem dX7_handedAt_58 : decode cX7_handedAt 58 = .ok (.iinc 4 1, 3) := by decide +kernel
theorem dX7_handedAt_61 : decode cX7_handedAt 61 = .ok (.goto (-56), 3) := by decide +kernel
theorem dX7_handedAt_64 : decode cX7_handedAt 64 = .ok (.iload_n 3, 1) := by decide +kernel
theorem dX7_handedAt_65 : decode cX7_handedAt 65 = .ok (.ireturn, 1) := by decide +kernel
theorem dX7_handedToTrain_0 : decode cX7_handedToTrain 0 = .ok (.iconst 0, 1) := by decide +kernel
theorem dX7_handedToTrain_1 : decode cX7_handedToTrain 1 = .ok (.istore_n 3, 1) := by decide +kernel
theorem dX7_handedToTrain_2 : decode cX7_handedToTrain 2 = .ok (.iconst 0, 1) := by decide +kernel
theorem dX7_handedToTrain_3 : decode cX7_handedToTrain 3 = .ok (.istore 4, 2) := by decide +kernel
theorem dX7_handedToTrain_5 : decode cX7_handedToTrain 5 = .ok (.iload 4, 2) := by decide +kernel
theorem dX7_handedToTrain_7 : decode cX7_handedToTrain 7 = .ok (.aload_n 0, 1) := by decide +kernel
theorem dX7_handedToTrain_8 : decode cX7_handedToTrain 8 = .ok (.getfield 60, 3) := by decide +kernel
theorem dX7_handedToTrain_11 : decode cX7_handedToTrain 11 = .ok (.getfield 102, 3) := by decide +kernel
theorem dX7_handedToTrain_14 : decode cX7_handedToTrain 14 = .ok (.iload_n 1, 1) := by decide +kernel
theorem dX7_handedToTrain_15 : decode cX7_handedToTrain 15 = .ok (.iaload, 1) := by decide +kernel
theorem dX7_handedToTrain_16 : decode cX7_handedToTrain 16 = .ok (.if_icmp .ge 23, 3) := by decide +kernel
theorem dX7_handedToTrain_19 : decode cX7_handedToTrain 19 = .ok (.iload_n 3, 1) := by decide +kernel
theorem dX7_handedToTrain_20 : decode cX7_handedToTrain 20 = .ok (.aload_n 0, 1) := by decide +kernel
theorem dX7_handedToTrain_21 : decode cX7_handedToTrain 21 = .ok (.iload_n 1, 1) := by decide +kernel
theorem dX7_handedToTrain_22 : decode cX7_handedToTrain 22 = .ok (.iload 4, 2) := by decide +kernel
theorem dX7_handedToTrain_24 : decode cX7_handedToTrain 24 = .ok (.invokestatic 134, 3) := by decide +kernel
theorem dX7_handedToTrain_27 : decode cX7_handedToTrain 27 = .ok (.iload_n 2, 1) := by decide +kernel
theorem dX7_handedToTrain_28 : decode cX7_handedToTrain 28 = .ok (.invokevirtual 164, 3) := by decide +kernel
theorem dX7_handedToTrain_31 : decode cX7_handedToTrain 31 = .ok (.iadd, 1) := by decide +kernel
theorem dX7_handedToTrain_32 : decode cX7_handedToTrain 32 = .ok (.istore_n 3, 1) := by decide +kernel
theorem dX7_handedToTrain_33 : decode cX7_handedToTrain 33 = .ok (.iinc 4 1, 3) := by decide +kernel
theorem dX7_handedToTrain_36 : decode cX7_handedToTrain 36 = .ok (.goto (-31), 3) := by decide +kernel
theorem dX7_handedToTrain_39 : decode cX7_handedToTrain 39 = .ok (.iload_n 3, 1) := by decide +kernel
theorem dX7_handedToTrain_40 : decode cX7_handedToTrain 40 = .ok (.ireturn, 1) := by decide +kernel
theorem dX7_wantedByTrain_0 : decode cX7_wantedByTrain 0 = .ok (.iconst 0, 1) := by decide +kernel
theorem dX7_wantedByTrain_1 : decode cX7_wantedByTrain 1 = .ok (.istore_n 3, 1) := by decide +kernel
theorem dX7_wantedByTrain_2 : decode cX7_wantedByTrain 2 = .ok (.iconst 0, 1) := by decide +kernel
theorem dX7_wantedByTrain_3 : decode cX7_wantedByTrain 3 = .ok (.istore 4, 2) := by decide +kernel
theorem dX7_wantedByTrain_5 : decode cX7_wantedByTrain 5 = .ok (.iload 4, 2) := by decide +kernel
theorem dX7_wantedByTrain_7 : decode cX7_wantedByTrain 7 = .ok (.aload_n 0, 1) := by decide +kernel
theorem dX7_wantedByTrain_8 : decode cX7_wantedByTrain 8 = .ok (.getfield 60, 3) := by decide +kernel
theorem dX7_wantedByTrain_11 : decode cX7_wantedByTrain 11 = .ok (.getfield 102, 3) := by decide +kernel
theorem dX7_wantedByTrain_14 : decode cX7_wantedByTrain 14 = .ok (.iload_n 1, 1) := by decide +kernel
theorem dX7_wantedByTrain_15 : decode cX7_wantedByTrain 15 = .ok (.iaload, 1) := by decide +kernel
theorem dX7_wantedByTrain_16 : decode cX7_wantedByTrain 16 = .ok (.if_icmp .ge 26, 3) := by decide +kernel
theorem dX7_wantedByTrain_19 : decode cX7_wantedByTrain 19 = .ok (.iload_n 3, 1) := by decide +kernel
theorem dX7_wantedByTrain_20 : decode cX7_wantedByTrain 20 = .ok (.aload_n 0, 1) := by decide +kernel
theorem dX7_wantedByTrain_21 : decode cX7_wantedByTrain 21 = .ok (.getfield 60, 3) := by decide +kernel
theorem dX7_wantedByTrain_24 : decode cX7_wantedByTrain 24 = .ok (.iload_n 1, 1) := by decide +kernel
theorem dX7_wantedByTrain_25 : decode cX7_wantedByTrain 25 = .ok (.iload 4, 2) := by decide +kernel
theorem dX7_wantedByTrain_27 : decode cX7_wantedByTrain 27 = .ok (.invokestatic 134, 3) := by decide +kernel
theorem dX7_wantedByTrain_30 : decode cX7_wantedByTrain 30 = .ok (.iload_n 2, 1) := by decide +kernel
theorem dX7_wantedByTrain_31 : decode cX7_wantedByTrain 31 = .ok (.invokevirtual 137, 3) := by decide +kernel
theorem dX7_wantedByTrain_34 : decode cX7_wantedByTrain 34 = .ok (.iadd, 1) := by decide +kernel
theorem dX7_wantedByTrain_35 : decode cX7_wantedByTrain 35 = .ok (.istore_n 3, 1) := by decide +kernel
theorem dX7_wantedByTrain_36 : decode cX7_wantedByTrain 36 = .ok (.iinc 4 1, 3) := by decide +kernel
theorem dX7_wantedByTrain_39 : decode cX7_wantedByTrain 39 = .ok (.goto (-34), 3) := by decide +kernel
theorem dX7_wantedByTrain_42 : decode cX7_wantedByTrain 42 = .ok (.iload_n 3, 1) := by decide +kernel
theorem dX7_wantedByTrain_43 : decode cX7_wantedByTrain 43 = .ok (.ireturn, 1) := by decide +kernel
theorem dX7_addClaims_0 : decode cX7_addClaims 0 = .ok (.iconst 0, 1) := by decide +kernel
theorem dX7_addClaims_1 : decode cX7_addClaims 1 = .ok (.istore_n 3, 1) := by decide +kernel
theorem dX7_addClaims_2 : decode cX7_addClaims 2 = .ok (.iload_n 3, 1) := by decide +kernel
theorem dX7_addClaims_3 : decode cX7_addClaims 3 = .ok (.aload_n 0, 1) := by decide +kernel
theorem dX7_addClaims_4 : decode cX7_addClaims 4 = .ok (.getfield 60, 3) := by decide +kernel
theorem dX7_addClaims_7 : decode cX7_addClaims 7 = .ok (.getfield 102, 3) := by decide +kernel
theorem dX7_addClaims_10 : decode cX7_addClaims 10 = .ok (.iload_n 1, 1) := by decide +kernel
theorem dX7_addClaims_11 : decode cX7_addClaims 11 = .ok (.iaload, 1) := by decide +kernel
theorem dX7_addClaims_12 : decode cX7_addClaims 12 = .ok (.if_icmp .ge 29, 3) := by decide +kernel
theorem dX7_addClaims_15 : decode cX7_addClaims 15 = .ok (.aload_n 0, 1) := by decide +kernel
theorem dX7_addClaims_16 : decode cX7_addClaims 16 = .ok (.getfield 53, 3) := by decide +kernel
theorem dX7_addClaims_19 : decode cX7_addClaims 19 = .ok (.aload_n 0, 1) := by decide +kernel
theorem dX7_addClaims_20 : decode cX7_addClaims 20 = .ok (.getfield 60, 3) := by decide +kernel
theorem dX7_addClaims_23 : decode cX7_addClaims 23 = .ok (.iload_n 1, 1) := by decide +kernel
theorem dX7_addClaims_24 : decode cX7_addClaims 24 = .ok (.iload_n 3, 1) := by decide +kernel
theorem dX7_addClaims_25 : decode cX7_addClaims 25 = .ok (.invokestatic 134, 3) := by decide +kernel
theorem dX7_addClaims_28 : decode cX7_addClaims 28 = .ok (.iload_n 2, 1) := by decide +kernel
theorem dX7_addClaims_29 : decode cX7_addClaims 29 = .ok (.invokevirtual 137, 3) := by decide +kernel
theorem dX7_addClaims_32 : decode cX7_addClaims 32 = .ok (.invokevirtual 344, 3) := by decide +kernel
theorem dX7_addClaims_35 : decode cX7_addClaims 35 = .ok (.iinc 3 1, 3) := by decide +kernel
theorem dX7_addClaims_38 : decode cX7_addClaims 38 = .ok (.goto (-36), 3) := by decide +kernel
theorem dX7_addClaims_41 : decode cX7_addClaims 41 = .ok (.return_, 1) := by decide +kernel
theorem dX7_shareInTrain_0 : decode cX7_shareInTrain 0 = .ok (.aload_n 0, 1) := by decide +kernel
theorem dX7_shareInTrain_1 : decode cX7_shareInTrain 1 = .ok (.getfield 53, 3) := by decide +kernel
theorem dX7_shareInTrain_4 : decode cX7_shareInTrain 4 = .ok (.invokevirtual 212, 3) := by decide +kernel
theorem dX7_shareInTrain_7 : decode cX7_shareInTrain 7 = .ok (.aload_n 0, 1) := by decide +kernel
theorem dX7_shareInTrain_8 : decode cX7_shareInTrain 8 = .ok (.iload_n 1, 1) := by decide +kernel
theorem dX7_shareInTrain_9 : decode cX7_shareInTrain 9 = .ok (.iload_n 2, 1) := by decide +kernel
theorem dX7_shareInTrain_10 : decode cX7_shareInTrain 10 = .ok (.invokevirtual 215, 3) := by decide +kernel
theorem dX7_shareInTrain_13 : decode cX7_shareInTrain 13 = .ok (.aload_n 0, 1) := by decide +kernel
theorem dX7_shareInTrain_14 : decode cX7_shareInTrain 14 = .ok (.getfield 53, 3) := by decide +kernel
theorem dX7_shareInTrain_17 : decode cX7_shareInTrain 17 = .ok (.aload_n 0, 1) := by decide +kernel
theorem dX7_shareInTrain_18 : decode cX7_shareInTrain 18 = .ok (.iload_n 1, 1) := by decide +kernel
theorem dX7_shareInTrain_19 : decode cX7_shareInTrain 19 = .ok (.iload_n 2, 1) := by decide +kernel
theorem dX7_shareInTrain_20 : decode cX7_shareInTrain 20 = .ok (.invokevirtual 218, 3) := by decide +kernel
theorem dX7_shareInTrain_23 : decode cX7_shareInTrain 23 = .ok (.invokevirtual 221, 3) := by decide +kernel
theorem dX7_shareInTrain_26 : decode cX7_shareInTrain 26 = .ok (.return_, 1) := by decide +kernel
theorem dX7_coverageAbove_0 : decode cX7_coverageAbove 0 = .ok (.aload_n 0, 1) := by decide +kernel
theorem dX7_coverageAbove_1 : decode cX7_coverageAbove 1 = .ok (.iload_n 1, 1) := by decide +kernel
theorem dX7_coverageAbove_2 : decode cX7_coverageAbove 2 = .ok (.iload_n 2, 1) := by decide +kernel
theorem dX7_coverageAbove_3 : decode cX7_coverageAbove 3 = .ok (.invokevirtual 347, 3) := by decide +kernel
theorem dX7_coverageAbove_6 : decode cX7_coverageAbove 6 = .ok (.istore_n 3, 1) := by decide +kernel
theorem dX7_coverageAbove_7 : decode cX7_coverageAbove 7 = .ok (.iload_n 3, 1) := by decide +kernel
theorem dX7_coverageAbove_8 : decode cX7_coverageAbove 8 = .ok (.ifCond .ne 7, 3) := by decide +kernel
theorem dX7_coverageAbove_11 : decode cX7_coverageAbove 11 = .ok (.iconst 1, 1) := by decide +kernel
theorem dX7_coverageAbove_12 : decode cX7_coverageAbove 12 = .ok (.goto 13, 3) := by decide +kernel
theorem dX7_coverageAbove_15 : decode cX7_coverageAbove 15 = .ok (.iload_n 3, 1) := by decide +kernel
theorem dX7_coverageAbove_16 : decode cX7_coverageAbove 16 = .ok (.aload_n 0, 1) := by decide +kernel
theorem dX7_coverageAbove_17 : decode cX7_coverageAbove 17 = .ok (.iload_n 1, 1) := by decide +kernel
theorem dX7_coverageAbove_18 : decode cX7_coverageAbove 18 = .ok (.iload_n 2, 1) := by decide +kernel
theorem dX7_coverageAbove_19 : decode cX7_coverageAbove 19 = .ok (.invokevirtual 218, 3) := by decide +kernel
theorem dX7_coverageAbove_22 : decode cX7_coverageAbove 22 = .ok (.invokestatic 350, 3) := by decide +kernel
theorem dX7_coverageAbove_25 : decode cX7_coverageAbove 25 = .ok (.ireturn, 1) := by decide +kernel
theorem dX7_coverageBelow_0 : decode cX7_coverageBelow 0 = .ok (.iconst 1, 1) := by decide +kernel
theorem dX7_coverageBelow_1 : decode cX7_coverageBelow 1 = .ok (.aload_n 0, 1) := by decide +kernel
theorem dX7_coverageBelow_2 : decode cX7_coverageBelow 2 = .ok (.iload_n 1, 1) := by decide +kernel
theorem dX7_coverageBelow_3 : decode cX7_coverageBelow 3 = .ok (.iload_n 2, 1) := by decide +kernel
theorem dX7_coverageBelow_4 : decode cX7_coverageBelow 4 = .ok (.invokevirtual 347, 3) := by decide +kernel
theorem dX7_coverageBelow_7 : decode cX7_coverageBelow 7 = .ok (.invokestatic 174, 3) := by decide +kernel
theorem dX7_coverageBelow_10 : decode cX7_coverageBelow 10 = .ok (.ireturn, 1) := by decide +kernel
theorem dX7_lowestTerm_0 : decode cX7_lowestTerm 0 = .ok (.aload_n 0, 1) := by decide +kernel
theorem dX7_lowestTerm_1 : decode cX7_lowestTerm 1 = .ok (.iload_n 1, 1) := by decide +kernel
theorem dX7_lowestTerm_2 : decode cX7_lowestTerm 2 = .ok (.iload_n 2, 1) := by decide +kernel
theorem dX7_lowestTerm_3 : decode cX7_lowestTerm 3 = .ok (.invokevirtual 353, 3) := by decide +kernel
theorem dX7_lowestTerm_6 : decode cX7_lowestTerm 6 = .ok (.istore 4, 2) := by decide +kernel
theorem dX7_lowestTerm_8 : decode cX7_lowestTerm 8 = .ok (.aload_n 0, 1) := by decide +kernel
theorem dX7_lowestTerm_9 : decode cX7_lowestTerm 9 = .ok (.iload_n 1, 1) := by decide +kernel
theorem dX7_lowestTerm_10 : decode cX7_lowestTerm 10 = .ok (.iload_n 2, 1) := by decide +kernel
theorem dX7_lowestTerm_11 : decode cX7_lowestTerm 11 = .ok (.invokevirtual 356, 3) := by decide +kernel
theorem dX7_lowestTerm_14 : decode cX7_lowestTerm 14 = .ok (.istore 5, 2) := by decide +kernel
theorem dX7_lowestTerm_16 : decode cX7_lowestTerm 16 = .ok (.iload_n 3, 1) := by decide +kernel
theorem dX7_lowestTerm_17 : decode cX7_lowestTerm 17 = .ok (.ifCond .eq 8, 3) := by decide +kernel
theorem dX7_lowestTerm_20 : decode cX7_lowestTerm 20 = .ok (.iload 5, 2) := by decide +kernel
theorem dX7_lowestTerm_22 : decode cX7_lowestTerm 22 = .ok (.goto 5, 3) := by decide +kernel
theorem dX7_lowestTerm_25 : decode cX7_lowestTerm 25 = .ok (.iload 4, 2) := by decide +kernel
theorem dX7_lowestTerm_27 : decode cX7_lowestTerm 27 = .ok (.iload 4, 2) := by decide +kernel
theorem dX7_lowestTerm_29 : decode cX7_lowestTerm 29 = .ok (.iload 5, 2) := by decide +kernel
theorem dX7_lowestTerm_31 : decode cX7_lowestTerm 31 = .ok (.invokestatic 359, 3) := by decide +kernel
theorem dX7_lowestTerm_34 : decode cX7_lowestTerm 34 = .ok (.invokestatic 362, 3) := by decide +kernel
theorem dX7_lowestTerm_37 : decode cX7_lowestTerm 37 = .ok (.ireturn, 1) := by decide +kernel
theorem dX7_compareCoverage_0 : decode cX7_compareCoverage 0 = .ok (.aload_n 0, 1) := by decide +kernel
theorem dX7_compareCoverage_1 : decode cX7_compareCoverage 1 = .ok (.iload_n 1, 1) := by decide +kernel
theorem dX7_compareCoverage_2 : decode cX7_compareCoverage 2 = .ok (.iload_n 2, 1) := by decide +kernel
theorem dX7_compareCoverage_3 : decode cX7_compareCoverage 3 = .ok (.invokevirtual 353, 3) := by decide +kernel
theorem dX7_compareCoverage_6 : decode cX7_compareCoverage 6 = .ok (.aload_n 0, 1) := by decide +kernel
theorem dX7_compareCoverage_7 : decode cX7_compareCoverage 7 = .ok (.iload_n 3, 1) := by decide +kernel
theorem dX7_compareCoverage_8 : decode cX7_compareCoverage 8 = .ok (.iload 4, 2) := by decide +kernel
theorem dX7_compareCoverage_10 : decode cX7_compareCoverage 10 = .ok (.invokevirtual 356, 3) := by decide +kernel
theorem dX7_compareCoverage_13 : decode cX7_compareCoverage 13 = .ok (.imul, 1) := by decide +kernel
theorem dX7_compareCoverage_14 : decode cX7_compareCoverage 14 = .ok (.istore 5, 2) := by decide +kernel
theorem dX7_compareCoverage_16 : decode cX7_compareCoverage 16 = .ok (.aload_n 0, 1) := by decide +kernel
theorem dX7_compareCoverage_17 : decode cX7_compareCoverage 17 = .ok (.iload_n 3, 1) := by decide +kernel
theorem dX7_compareCoverage_18 : decode cX7_compareCoverage 18 = .ok (.iload 4, 2) := by decide +kernel
theorem dX7_compareCoverage_20 : decode cX7_compareCoverage 20 = .ok (.invokevirtual 353, 3) := by decide +kernel
theorem dX7_compareCoverage_23 : decode cX7_compareCoverage 23 = .ok (.aload_n 0, 1) := by decide +kernel
theorem dX7_compareCoverage_24 : decode cX7_compareCoverage 24 = .ok (.iload_n 1, 1) := by decide +kernel
theorem dX7_compareCoverage_25 : decode cX7_compareCoverage 25 = .ok (.iload_n 2, 1) := by decide +kernel
theorem dX7_compareCoverage_26 : decode cX7_compareCoverage 26 = .ok (.invokevirtual 356, 3) := by decide +kernel
theorem dX7_compareCoverage_29 : decode cX7_compareCoverage 29 = .ok (.imul, 1) := by decide +kernel
theorem dX7_compareCoverage_30 : decode cX7_compareCoverage 30 = .ok (.istore 6, 2) := by decide +kernel
theorem dX7_compareCoverage_32 : decode cX7_compareCoverage 32 = .ok (.iload 5, 2) := by decide +kernel
theorem dX7_compareCoverage_34 : decode cX7_compareCoverage 34 = .ok (.iload 6, 2) := by decide +kernel
theorem dX7_compareCoverage_36 : decode cX7_compareCoverage 36 = .ok (.invokestatic 365, 3) := by decide +kernel
theorem dX7_compareCoverage_39 : decode cX7_compareCoverage 39 = .ok (.ireturn, 1) := by decide +kernel
theorem dX7_commonDivisor_0 : decode cX7_commonDivisor 0 = .ok (.iload_n 0, 1) := by decide +kernel
theorem dX7_commonDivisor_1 : decode cX7_commonDivisor 1 = .ok (.istore_n 2, 1) := by decide +kernel
theorem dX7_commonDivisor_2 : decode cX7_commonDivisor 2 = .ok (.iload_n 1, 1) := by decide +kernel
theorem dX7_commonDivisor_3 : decode cX7_commonDivisor 3 = .ok (.istore_n 3, 1) := by decide +kernel
theorem dX7_commonDivisor_4 : decode cX7_commonDivisor 4 = .ok (.iconst 0, 1) := by decide +kernel
theorem dX7_commonDivisor_5 : decode cX7_commonDivisor 5 = .ok (.istore 4, 2) := by decide +kernel
theorem dX7_commonDivisor_7 : decode cX7_commonDivisor 7 = .ok (.iload 4, 2) := by decide +kernel
theorem dX7_commonDivisor_9 : decode cX7_commonDivisor 9 = .ok (.bipush 64, 2) := by decide +kernel
theorem dX7_commonDivisor_11 : decode cX7_commonDivisor 11 = .ok (.if_icmp .ge 23, 3) := by decide +kernel
theorem dX7_commonDivisor_14 : decode cX7_commonDivisor 14 = .ok (.iload_n 3, 1) := by decide +kernel
theorem dX7_commonDivisor_15 : decode cX7_commonDivisor 15 = .ok (.ifCond .eq 19, 3) := by decide +kernel
theorem dX7_commonDivisor_18 : decode cX7_commonDivisor 18 = .ok (.iload_n 2, 1) := by decide +kernel
theorem dX7_commonDivisor_19 : decode cX7_commonDivisor 19 = .ok (.iload_n 3, 1) := by decide +kernel
theorem dX7_commonDivisor_20 : decode cX7_commonDivisor 20 = .ok (.irem, 1) := by decide +kernel
theorem dX7_commonDivisor_21 : decode cX7_commonDivisor 21 = .ok (.istore 5, 2) := by decide +kernel
theorem dX7_commonDivisor_23 : decode cX7_commonDivisor 23 = .ok (.iload_n 3, 1) := by decide +kernel
theorem dX7_commonDivisor_24 : decode cX7_commonDivisor 24 = .ok (.istore_n 2, 1) := by decide +kernel
theorem dX7_commonDivisor_25 : decode cX7_commonDivisor 25 = .ok (.iload 5, 2) := by decide +kernel
theorem dX7_commonDivisor_27 : decode cX7_commonDivisor 27 = .ok (.istore_n 3, 1) := by decide +kernel
theorem dX7_commonDivisor_28 : decode cX7_commonDivisor 28 = .ok (.iinc 4 1, 3) := by decide +kernel
theorem dX7_commonDivisor_31 : decode cX7_commonDivisor 31 = .ok (.goto (-24), 3) := by decide +kernel
theorem dX7_commonDivisor_34 : decode cX7_commonDivisor 34 = .ok (.iload_n 2, 1) := by decide +kernel
theorem dX7_commonDivisor_35 : decode cX7_commonDivisor 35 = .ok (.ireturn, 1) := by decide +kernel
theorem dX7_wholeParts_0 : decode cX7_wholeParts 0 = .ok (.iload_n 1, 1) := by decide +kernel
theorem dX7_wholeParts_1 : decode cX7_wholeParts 1 = .ok (.iconst 1, 1) := by decide +kernel
theorem dX7_wholeParts_2 : decode cX7_wholeParts 2 = .ok (.if_icmp .ge 7, 3) := by decide +kernel
theorem dX7_wholeParts_5 : decode cX7_wholeParts 5 = .ok (.iconst 0, 1) := by decide +kernel
theorem dX7_wholeParts_6 : decode cX7_wholeParts 6 = .ok (.goto 6, 3) := by decide +kernel
theorem dX7_wholeParts_9 : decode cX7_wholeParts 9 = .ok (.iload_n 0, 1) := by decide +kernel
theorem dX7_wholeParts_10 : decode cX7_wholeParts 10 = .ok (.iload_n 1, 1) := by decide +kernel
theorem dX7_wholeParts_11 : decode cX7_wholeParts 11 = .ok (.idiv, 1) := by decide +kernel
theorem dX7_wholeParts_12 : decode cX7_wholeParts 12 = .ok (.ireturn, 1) := by decide +kernel
theorem dX7_partsRoundedUp_0 : decode cX7_partsRoundedUp 0 = .ok (.iload_n 0, 1) := by decide +kernel
theorem dX7_partsRoundedUp_1 : decode cX7_partsRoundedUp 1 = .ok (.iload_n 1, 1) := by decide +kernel
theorem dX7_partsRoundedUp_2 : decode cX7_partsRoundedUp 2 = .ok (.iadd, 1) := by decide +kernel
theorem dX7_partsRoundedUp_3 : decode cX7_partsRoundedUp 3 = .ok (.iconst 1, 1) := by decide +kernel
theorem dX7_partsRoundedUp_4 : decode cX7_partsRoundedUp 4 = .ok (.isub, 1) := by decide +kernel
theorem dX7_partsRoundedUp_5 : decode cX7_partsRoundedUp 5 = .ok (.iload_n 1, 1) := by decide +kernel
theorem dX7_partsRoundedUp_6 : decode cX7_partsRoundedUp 6 = .ok (.invokestatic 362, 3) := by decide +kernel
theorem dX7_partsRoundedUp_9 : decode cX7_partsRoundedUp 9 = .ok (.ireturn, 1) := by decide +kernel
theorem dJ6_compare_7cf53_0 : decode cJ6_compare_7cf53 0 = .ok (.iload_n 0, 1) := by decide +kernel
theorem dJ6_compare_7cf53_1 : decode cJ6_compare_7cf53 1 = .ok (.iload_n 1, 1) := by decide +kernel
theorem dJ6_compare_7cf53_2 : decode cJ6_compare_7cf53 2 = .ok (.if_icmp .ge 7, 3) := by decide +kernel
theorem dJ6_compare_7cf53_5 : decode cJ6_compare_7cf53 5 = .ok (.iconst (-1), 1) := by decide +kernel
theorem dJ6_compare_7cf53_6 : decode cJ6_compare_7cf53 6 = .ok (.goto 13, 3) := by decide +kernel
theorem dJ6_compare_7cf53_9 : decode cJ6_compare_7cf53 9 = .ok (.iload_n 0, 1) := by decide +kernel
theorem dJ6_compare_7cf53_10 : decode cJ6_compare_7cf53 10 = .ok (.iload_n 1, 1) := by decide +kernel
theorem dJ6_compare_7cf53_11 : decode cJ6_compare_7cf53 11 = .ok (.if_icmp .ne 7, 3) := by decide +kernel
theorem dJ6_compare_7cf53_14 : decode cJ6_compare_7cf53 14 = .ok (.iconst 0, 1) := by decide +kernel
theorem dJ6_compare_7cf53_15 : decode cJ6_compare_7cf53 15 = .ok (.goto 4, 3) := by decide +kernel
theorem dJ6_compare_7cf53_18 : decode cJ6_compare_7cf53 18 = .ok (.iconst 1, 1) := by decide +kernel
theorem dJ6_compare_7cf53_19 : decode cJ6_compare_7cf53 19 = .ok (.ireturn, 1) := by decide +kernel
theorem dJ6_numberOfLeadingZeros_0f7a4_0 : decode cJ6_numberOfLeadingZeros_0f7a4 0 = .ok (.iload_n 0, 1) := by decide +kernel
theorem dJ6_numberOfLeadingZeros_0f7a4_1 : decode cJ6_numberOfLeadingZeros_0f7a4 1 = .ok (.ifCond .gt 14, 3) := by decide +kernel
theorem dJ6_numberOfLeadingZeros_0f7a4_4 : decode cJ6_numberOfLeadingZeros_0f7a4 4 = .ok (.iload_n 0, 1) := by decide +kernel
theorem dJ6_numberOfLeadingZeros_0f7a4_5 : decode cJ6_numberOfLeadingZeros_0f7a4 5 = .ok (.ifCond .ne 8, 3) := by decide +kernel
theorem dJ6_numberOfLeadingZeros_0f7a4_8 : decode cJ6_numberOfLeadingZeros_0f7a4 8 = .ok (.bipush 32, 2) := by decide +kernel
theorem dJ6_numberOfLeadingZeros_0f7a4_10 : decode cJ6_numberOfLeadingZeros_0f7a4 10 = .ok (.goto 4, 3) := by decide +kernel
theorem dJ6_numberOfLeadingZeros_0f7a4_13 : decode cJ6_numberOfLeadingZeros_0f7a4 13 = .ok (.iconst 0, 1) := by decide +kernel
theorem dJ6_numberOfLeadingZeros_0f7a4_14 : decode cJ6_numberOfLeadingZeros_0f7a4 14 = .ok (.ireturn, 1) := by decide +kernel
theorem dJ6_numberOfLeadingZeros_0f7a4_15 : decode cJ6_numberOfLeadingZeros_0f7a4 15 = .ok (.bipush 31, 2) := by decide +kernel
theorem dJ6_numberOfLeadingZeros_0f7a4_17 : decode cJ6_numberOfLeadingZeros_0f7a4 17 = .ok (.istore_n 1, 1) := by decide +kernel
theorem dJ6_numberOfLeadingZeros_0f7a4_18 : decode cJ6_numberOfLeadingZeros_0f7a4 18 = .ok (.iload_n 0, 1) := by decide +kernel
theorem dJ6_numberOfLeadingZeros_0f7a4_19 : decode cJ6_numberOfLeadingZeros_0f7a4 19 = .ok (.ldc_w 264, 3) := by decide +kernel
theorem dJ6_numberOfLeadingZeros_0f7a4_22 : decode cJ6_numberOfLeadingZeros_0f7a4 22 = .ok (.if_icmp .lt 11, 3) := by decide +kernel
theorem dJ6_numberOfLeadingZeros_0f7a4_25 : decode cJ6_numberOfLeadingZeros_0f7a4 25 = .ok (.iinc 1 (-16), 3) := by decide +kernel
theorem dJ6_numberOfLeadingZeros_0f7a4_28 : decode cJ6_numberOfLeadingZeros_0f7a4 28 = .ok (.iload_n 0, 1) := by decide +kernel
theorem dJ6_numberOfLeadingZeros_0f7a4_29 : decode cJ6_numberOfLeadingZeros_0f7a4 29 = .ok (.bipush 16, 2) := by decide +kernel
theorem dJ6_numberOfLeadingZeros_0f7a4_31 : decode cJ6_numberOfLeadingZeros_0f7a4 31 = .ok (.iushr, 1) := by decide +kernel
theorem dJ6_numberOfLeadingZeros_0f7a4_32 : decode cJ6_numberOfLeadingZeros_0f7a4 32 = .ok (.istore_n 0, 1) := by decide +kernel
theorem dJ6_numberOfLeadingZeros_0f7a4_33 : decode cJ6_numberOfLeadingZeros_0f7a4 33 = .ok (.iload_n 0, 1) := by decide +kernel
theorem dJ6_numberOfLeadingZeros_0f7a4_34 : decode cJ6_numberOfLeadingZeros_0f7a4 34 = .ok (.sipush 256, 3) := by decide +kernel
theorem dJ6_numberOfLeadingZeros_0f7a4_37 : decode cJ6_numberOfLeadingZeros_0f7a4 37 = .ok (.if_icmp .lt 11, 3) := by decide +kernel
theorem dJ6_numberOfLeadingZeros_0f7a4_40 : decode cJ6_numberOfLeadingZeros_0f7a4 40 = .ok (.iinc 1 (-8), 3) := by decide +kernel
theorem dJ6_numberOfLeadingZeros_0f7a4_43 : decode cJ6_numberOfLeadingZeros_0f7a4 43 = .ok (.iload_n 0, 1) := by decide +kernel
theorem dJ6_numberOfLeadingZeros_0f7a4_44 : decode cJ6_numberOfLeadingZeros_0f7a4 44 = .ok (.bipush 8, 2) := by decide +kernel
theorem dJ6_numberOfLeadingZeros_0f7a4_46 : decode cJ6_numberOfLeadingZeros_0f7a4 46 = .ok (.iushr, 1) := by decide +kernel
theorem dJ6_numberOfLeadingZeros_0f7a4_47 : decode cJ6_numberOfLeadingZeros_0f7a4 47 = .ok (.istore_n 0, 1) := by decide +kernel
theorem dJ6_numberOfLeadingZeros_0f7a4_48 : decode cJ6_numberOfLeadingZeros_0f7a4 48 = .ok (.iload_n 0, 1) := by decide +kernel
theorem dJ6_numberOfLeadingZeros_0f7a4_49 : decode cJ6_numberOfLeadingZeros_0f7a4 49 = .ok (.bipush 16, 2) := by decide +kernel
theorem dJ6_numberOfLeadingZeros_0f7a4_51 : decode cJ6_numberOfLeadingZeros_0f7a4 51 = .ok (.if_icmp .lt 10, 3) := by decide +kernel
theorem dJ6_numberOfLeadingZeros_0f7a4_54 : decode cJ6_numberOfLeadingZeros_0f7a4 54 = .ok (.iinc 1 (-4), 3) := by decide +kernel
theorem dJ6_numberOfLeadingZeros_0f7a4_57 : decode cJ6_numberOfLeadingZeros_0f7a4 57 = .ok (.iload_n 0, 1) := by decide +kernel
theorem dJ6_numberOfLeadingZeros_0f7a4_58 : decode cJ6_numberOfLeadingZeros_0f7a4 58 = .ok (.iconst 4, 1) := by decide +kernel
theorem dJ6_numberOfLeadingZeros_0f7a4_59 : decode cJ6_numberOfLeadingZeros_0f7a4 59 = .ok (.iushr, 1) := by decide +kernel
theorem dJ6_numberOfLeadingZeros_0f7a4_60 : decode cJ6_numberOfLeadingZeros_0f7a4 60 = .ok (.istore_n 0, 1) := by decide +kernel
theorem dJ6_numberOfLeadingZeros_0f7a4_61 : decode cJ6_numberOfLeadingZeros_0f7a4 61 = .ok (.iload_n 0, 1) := by decide +kernel
theorem dJ6_numberOfLeadingZeros_0f7a4_62 : decode cJ6_numberOfLeadingZeros_0f7a4 62 = .ok (.iconst 4, 1) := by decide +kernel
theorem dJ6_numberOfLeadingZeros_0f7a4_63 : decode cJ6_numberOfLeadingZeros_0f7a4 63 = .ok (.if_icmp .lt 10, 3) := by decide +kernel
theorem dJ6_numberOfLeadingZeros_0f7a4_66 : decode cJ6_numberOfLeadingZeros_0f7a4 66 = .ok (.iinc 1 (-2), 3) := by decide +kernel
theorem dJ6_numberOfLeadingZeros_0f7a4_69 : decode cJ6_numberOfLeadingZeros_0f7a4 69 = .ok (.iload_n 0, 1) := by decide +kernel
theorem dJ6_numberOfLeadingZeros_0f7a4_70 : decode cJ6_numberOfLeadingZeros_0f7a4 70 = .ok (.iconst 2, 1) := by decide +kernel
theorem dJ6_numberOfLeadingZeros_0f7a4_71 : decode cJ6_numberOfLeadingZeros_0f7a4 71 = .ok (.iushr, 1) := by decide +kernel
theorem dJ6_numberOfLeadingZeros_0f7a4_72 : decode cJ6_numberOfLeadingZeros_0f7a4 72 = .ok (.istore_n 0, 1) := by decide +kernel
theorem dJ6_numberOfLeadingZeros_0f7a4_73 : decode cJ6_numberOfLeadingZeros_0f7a4 73 = .ok (.iload_n 1, 1) := by decide +kernel
theorem dJ6_numberOfLeadingZeros_0f7a4_74 : decode cJ6_numberOfLeadingZeros_0f7a4 74 = .ok (.iload_n 0, 1) := by decide +kernel
theorem dJ6_numberOfLeadingZeros_0f7a4_75 : decode cJ6_numberOfLeadingZeros_0f7a4 75 = .ok (.iconst 1, 1) := by decide +kernel
theorem dJ6_numberOfLeadingZeros_0f7a4_76 : decode cJ6_numberOfLeadingZeros_0f7a4 76 = .ok (.iushr, 1) := by decide +kernel
theorem dJ6_numberOfLeadingZeros_0f7a4_77 : decode cJ6_numberOfLeadingZeros_0f7a4 77 = .ok (.isub, 1) := by decide +kernel
theorem dJ6_numberOfLeadingZeros_0f7a4_78 : decode cJ6_numberOfLeadingZeros_0f7a4 78 = .ok (.ireturn, 1) := by decide +kernel
theorem dJ6_numberOfTrailingZeros_0f7a4_0 : decode cJ6_numberOfTrailingZeros_0f7a4 0 = .ok (.iload_n 0, 1) := by decide +kernel
theorem dJ6_numberOfTrailingZeros_0f7a4_1 : decode cJ6_numberOfTrailingZeros_0f7a4 1 = .ok (.iconst (-1), 1) := by decide +kernel
theorem dJ6_numberOfTrailingZeros_0f7a4_2 : decode cJ6_numberOfTrailingZeros_0f7a4 2 = .ok (.ixor, 1) := by decide +kernel
theorem dJ6_numberOfTrailingZeros_0f7a4_3 : decode cJ6_numberOfTrailingZeros_0f7a4 3 = .ok (.iload_n 0, 1) := by decide +kernel
theorem dJ6_numberOfTrailingZeros_0f7a4_4 : decode cJ6_numberOfTrailingZeros_0f7a4 4 = .ok (.iconst 1, 1) := by decide +kernel
theorem dJ6_numberOfTrailingZeros_0f7a4_5 : decode cJ6_numberOfTrailingZeros_0f7a4 5 = .ok (.isub, 1) := by decide +kernel
theorem dJ6_numberOfTrailingZeros_0f7a4_6 : decode cJ6_numberOfTrailingZeros_0f7a4 6 = .ok (.iand, 1) := by decide +kernel
theorem dJ6_numberOfTrailingZeros_0f7a4_7 : decode cJ6_numberOfTrailingZeros_0f7a4 7 = .ok (.istore_n 0, 1) := by decide +kernel
theorem dJ6_numberOfTrailingZeros_0f7a4_8 : decode cJ6_numberOfTrailingZeros_0f7a4 8 = .ok (.iload_n 0, 1) := by decide +kernel
theorem dJ6_numberOfTrailingZeros_0f7a4_9 : decode cJ6_numberOfTrailingZeros_0f7a4 9 = .ok (.ifCond .gt 8, 3) := by decide +kernel
theorem dJ6_numberOfTrailingZeros_0f7a4_12 : decode cJ6_numberOfTrailingZeros_0f7a4 12 = .ok (.iload_n 0, 1) := by decide +kernel
theorem dJ6_numberOfTrailingZeros_0f7a4_13 : decode cJ6_numberOfTrailingZeros_0f7a4 13 = .ok (.bipush 32, 2) := by decide +kernel
theorem dJ6_numberOfTrailingZeros_0f7a4_15 : decode cJ6_numberOfTrailingZeros_0f7a4 15 = .ok (.iand, 1) := by decide +kernel
theorem dJ6_numberOfTrailingZeros_0f7a4_16 : decode cJ6_numberOfTrailingZeros_0f7a4 16 = .ok (.ireturn, 1) := by decide +kernel
theorem dJ6_numberOfTrailingZeros_0f7a4_17 : decode cJ6_numberOfTrailingZeros_0f7a4 17 = .ok (.iconst 1, 1) := by decide +kernel
theorem dJ6_numberOfTrailingZeros_0f7a4_18 : decode cJ6_numberOfTrailingZeros_0f7a4 18 = .ok (.istore_n 1, 1) := by decide +kernel
theorem dJ6_numberOfTrailingZeros_0f7a4_19 : decode cJ6_numberOfTrailingZeros_0f7a4 19 = .ok (.iload_n 0, 1) := by decide +kernel
theorem dJ6_numberOfTrailingZeros_0f7a4_20 : decode cJ6_numberOfTrailingZeros_0f7a4 20 = .ok (.ldc_w 264, 3) := by decide +kernel
theorem dJ6_numberOfTrailingZeros_0f7a4_23 : decode cJ6_numberOfTrailingZeros_0f7a4 23 = .ok (.if_icmp .le 11, 3) := by decide +kernel
theorem dJ6_numberOfTrailingZeros_0f7a4_26 : decode cJ6_numberOfTrailingZeros_0f7a4 26 = .ok (.iinc 1 16, 3) := by decide +kernel
theorem dJ6_numberOfTrailingZeros_0f7a4_29 : decode cJ6_numberOfTrailingZeros_0f7a4 29 = .ok (.iload_n 0, 1) := by decide +kernel
theorem dJ6_numberOfTrailingZeros_0f7a4_30 : decode cJ6_numberOfTrailingZeros_0f7a4 30 = .ok (.bipush 16, 2) := by decide +kernel
theorem dJ6_numberOfTrailingZeros_0f7a4_32 : decode cJ6_numberOfTrailingZeros_0f7a4 32 = .ok (.iushr, 1) := by decide +kernel
theorem dJ6_numberOfTrailingZeros_0f7a4_33 : decode cJ6_numberOfTrailingZeros_0f7a4 33 = .ok (.istore_n 0, 1) := by decide +kernel
theorem dJ6_numberOfTrailingZeros_0f7a4_34 : decode cJ6_numberOfTrailingZeros_0f7a4 34 = .ok (.iload_n 0, 1) := by decide +kernel
theorem dJ6_numberOfTrailingZeros_0f7a4_35 : decode cJ6_numberOfTrailingZeros_0f7a4 35 = .ok (.sipush 256, 3) := by decide +kernel
theorem dJ6_numberOfTrailingZeros_0f7a4_38 : decode cJ6_numberOfTrailingZeros_0f7a4 38 = .ok (.if_icmp .le 11, 3) := by decide +kernel
theorem dJ6_numberOfTrailingZeros_0f7a4_41 : decode cJ6_numberOfTrailingZeros_0f7a4 41 = .ok (.iinc 1 8, 3) := by decide +kernel
theorem dJ6_numberOfTrailingZeros_0f7a4_44 : decode cJ6_numberOfTrailingZeros_0f7a4 44 = .ok (.iload_n 0, 1) := by decide +kernel
theorem dJ6_numberOfTrailingZeros_0f7a4_45 : decode cJ6_numberOfTrailingZeros_0f7a4 45 = .ok (.bipush 8, 2) := by decide +kernel
theorem dJ6_numberOfTrailingZeros_0f7a4_47 : decode cJ6_numberOfTrailingZeros_0f7a4 47 = .ok (.iushr, 1) := by decide +kernel
theorem dJ6_numberOfTrailingZeros_0f7a4_48 : decode cJ6_numberOfTrailingZeros_0f7a4 48 = .ok (.istore_n 0, 1) := by decide +kernel
theorem dJ6_numberOfTrailingZeros_0f7a4_49 : decode cJ6_numberOfTrailingZeros_0f7a4 49 = .ok (.iload_n 0, 1) := by decide +kernel
theorem dJ6_numberOfTrailingZeros_0f7a4_50 : decode cJ6_numberOfTrailingZeros_0f7a4 50 = .ok (.bipush 16, 2) := by decide +kernel
theorem dJ6_numberOfTrailingZeros_0f7a4_52 : decode cJ6_numberOfTrailingZeros_0f7a4 52 = .ok (.if_icmp .le 10, 3) := by decide +kernel
theorem dJ6_numberOfTrailingZeros_0f7a4_55 : decode cJ6_numberOfTrailingZeros_0f7a4 55 = .ok (.iinc 1 4, 3) := by decide +kernel
theorem dJ6_numberOfTrailingZeros_0f7a4_58 : decode cJ6_numberOfTrailingZeros_0f7a4 58 = .ok (.iload_n 0, 1) := by decide +kernel
theorem dJ6_numberOfTrailingZeros_0f7a4_59 : decode cJ6_numberOfTrailingZeros_0f7a4 59 = .ok (.iconst 4, 1) := by decide +kernel
theorem dJ6_numberOfTrailingZeros_0f7a4_60 : decode cJ6_numberOfTrailingZeros_0f7a4 60 = .ok (.iushr, 1) := by decide +kernel
theorem dJ6_numberOfTrailingZeros_0f7a4_61 : decode cJ6_numberOfTrailingZeros_0f7a4 61 = .ok (.istore_n 0, 1) := by decide +kernel
theorem dJ6_numberOfTrailingZeros_0f7a4_62 : decode cJ6_numberOfTrailingZeros_0f7a4 62 = .ok (.iload_n 0, 1) := by decide +kernel
theorem dJ6_numberOfTrailingZeros_0f7a4_63 : decode cJ6_numberOfTrailingZeros_0f7a4 63 = .ok (.iconst 4, 1) := by decide +kernel
theorem dJ6_numberOfTrailingZeros_0f7a4_64 : decode cJ6_numberOfTrailingZeros_0f7a4 64 = .ok (.if_icmp .le 10, 3) := by decide +kernel
theorem dJ6_numberOfTrailingZeros_0f7a4_67 : decode cJ6_numberOfTrailingZeros_0f7a4 67 = .ok (.iinc 1 2, 3) := by decide +kernel
theorem dJ6_numberOfTrailingZeros_0f7a4_70 : decode cJ6_numberOfTrailingZeros_0f7a4 70 = .ok (.iload_n 0, 1) := by decide +kernel
theorem dJ6_numberOfTrailingZeros_0f7a4_71 : decode cJ6_numberOfTrailingZeros_0f7a4 71 = .ok (.iconst 2, 1) := by decide +kernel
theorem dJ6_numberOfTrailingZeros_0f7a4_72 : decode cJ6_numberOfTrailingZeros_0f7a4 72 = .ok (.iushr, 1) := by decide +kernel
theorem dJ6_numberOfTrailingZeros_0f7a4_73 : decode cJ6_numberOfTrailingZeros_0f7a4 73 = .ok (.istore_n 0, 1) := by decide +kernel
theorem dJ6_numberOfTrailingZeros_0f7a4_74 : decode cJ6_numberOfTrailingZeros_0f7a4 74 = .ok (.iload_n 1, 1) := by decide +kernel
theorem dJ6_numberOfTrailingZeros_0f7a4_75 : decode cJ6_numberOfTrailingZeros_0f7a4 75 = .ok (.iload_n 0, 1) := by decide +kernel
theorem dJ6_numberOfTrailingZeros_0f7a4_76 : decode cJ6_numberOfTrailingZeros_0f7a4 76 = .ok (.iconst 1, 1) := by decide +kernel
theorem dJ6_numberOfTrailingZeros_0f7a4_77 : decode cJ6_numberOfTrailingZeros_0f7a4 77 = .ok (.iushr, 1) := by decide +kernel
theorem dJ6_numberOfTrailingZeros_0f7a4_78 : decode cJ6_numberOfTrailingZeros_0f7a4 78 = .ok (.iadd, 1) := by decide +kernel
theorem dJ6_numberOfTrailingZeros_0f7a4_79 : decode cJ6_numberOfTrailingZeros_0f7a4 79 = .ok (.ireturn, 1) := by decide +kernel
theorem dJ6_bitCount_0f7a4_0 : decode cJ6_bitCount_0f7a4 0 = .ok (.iload_n 0, 1) := by decide +kernel
theorem dJ6_bitCount_0f7a4_1 : decode cJ6_bitCount_0f7a4 1 = .ok (.iload_n 0, 1) := by decide +kernel
theorem dJ6_bitCount_0f7a4_2 : decode cJ6_bitCount_0f7a4 2 = .ok (.iconst 1, 1) := by decide +kernel
theorem dJ6_bitCount_0f7a4_3 : decode cJ6_bitCount_0f7a4 3 = .ok (.iushr, 1) := by decide +kernel
theorem dJ6_bitCount_0f7a4_4 : decode cJ6_bitCount_0f7a4 4 = .ok (.ldc_w 265, 3) := by decide +kernel
theorem dJ6_bitCount_0f7a4_7 : decode cJ6_bitCount_0f7a4 7 = .ok (.iand, 1) := by decide +kernel
theorem dJ6_bitCount_0f7a4_8 : decode cJ6_bitCount_0f7a4 8 = .ok (.isub, 1) := by decide +kernel
theorem dJ6_bitCount_0f7a4_9 : decode cJ6_bitCount_0f7a4 9 = .ok (.istore_n 0, 1) := by decide +kernel
theorem dJ6_bitCount_0f7a4_10 : decode cJ6_bitCount_0f7a4 10 = .ok (.iload_n 0, 1) := by decide +kernel
theorem dJ6_bitCount_0f7a4_11 : decode cJ6_bitCount_0f7a4 11 = .ok (.ldc_w 266, 3) := by decide +kernel
theorem dJ6_bitCount_0f7a4_14 : decode cJ6_bitCount_0f7a4 14 = .ok (.iand, 1) := by decide +kernel
theorem dJ6_bitCount_0f7a4_15 : decode cJ6_bitCount_0f7a4 15 = .ok (.iload_n 0, 1) := by decide +kernel
theorem dJ6_bitCount_0f7a4_16 : decode cJ6_bitCount_0f7a4 16 = .ok (.iconst 2, 1) := by decide +kernel
theorem dJ6_bitCount_0f7a4_17 : decode cJ6_bitCount_0f7a4 17 = .ok (.iushr, 1) := by decide +kernel
theorem dJ6_bitCount_0f7a4_18 : decode cJ6_bitCount_0f7a4 18 = .ok (.ldc_w 266, 3) := by decide +kernel
theorem dJ6_bitCount_0f7a4_21 : decode cJ6_bitCount_0f7a4 21 = .ok (.iand, 1) := by decide +kernel
theorem dJ6_bitCount_0f7a4_22 : decode cJ6_bitCount_0f7a4 22 = .ok (.iadd, 1) := by decide +kernel
theorem dJ6_bitCount_0f7a4_23 : decode cJ6_bitCount_0f7a4 23 = .ok (.istore_n 0, 1) := by decide +kernel
theorem dJ6_bitCount_0f7a4_24 : decode cJ6_bitCount_0f7a4 24 = .ok (.iload_n 0, 1) := by decide +kernel
theorem dJ6_bitCount_0f7a4_25 : decode cJ6_bitCount_0f7a4 25 = .ok (.iload_n 0, 1) := by decide +kernel
theorem dJ6_bitCount_0f7a4_26 : decode cJ6_bitCount_0f7a4 26 = .ok (.iconst 4, 1) := by decide +kernel
theorem dJ6_bitCount_0f7a4_27 : decode cJ6_bitCount_0f7a4 27 = .ok (.iushr, 1) := by decide +kernel
theorem dJ6_bitCount_0f7a4_28 : decode cJ6_bitCount_0f7a4 28 = .ok (.iadd, 1) := by decide +kernel
theorem dJ6_bitCount_0f7a4_29 : decode cJ6_bitCount_0f7a4 29 = .ok (.ldc_w 267, 3) := by decide +kernel
theorem dJ6_bitCount_0f7a4_32 : decode cJ6_bitCount_0f7a4 32 = .ok (.iand, 1) := by decide +kernel
theorem dJ6_bitCount_0f7a4_33 : decode cJ6_bitCount_0f7a4 33 = .ok (.istore_n 0, 1) := by decide +kernel
theorem dJ6_bitCount_0f7a4_34 : decode cJ6_bitCount_0f7a4 34 = .ok (.iload_n 0, 1) := by decide +kernel
theorem dJ6_bitCount_0f7a4_35 : decode cJ6_bitCount_0f7a4 35 = .ok (.iload_n 0, 1) := by decide +kernel
theorem dJ6_bitCount_0f7a4_36 : decode cJ6_bitCount_0f7a4 36 = .ok (.bipush 8, 2) := by decide +kernel
theorem dJ6_bitCount_0f7a4_38 : decode cJ6_bitCount_0f7a4 38 = .ok (.iushr, 1) := by decide +kernel
theorem dJ6_bitCount_0f7a4_39 : decode cJ6_bitCount_0f7a4 39 = .ok (.iadd, 1) := by decide +kernel
theorem dJ6_bitCount_0f7a4_40 : decode cJ6_bitCount_0f7a4 40 = .ok (.istore_n 0, 1) := by decide +kernel
theorem dJ6_bitCount_0f7a4_41 : decode cJ6_bitCount_0f7a4 41 = .ok (.iload_n 0, 1) := by decide +kernel
theorem dJ6_bitCount_0f7a4_42 : decode cJ6_bitCount_0f7a4 42 = .ok (.iload_n 0, 1) := by decide +kernel
theorem dJ6_bitCount_0f7a4_43 : decode cJ6_bitCount_0f7a4 43 = .ok (.bipush 16, 2) := by decide +kernel
theorem dJ6_bitCount_0f7a4_45 : decode cJ6_bitCount_0f7a4 45 = .ok (.iushr, 1) := by decide +kernel
theorem dJ6_bitCount_0f7a4_46 : decode cJ6_bitCount_0f7a4 46 = .ok (.iadd, 1) := by decide +kernel
theorem dJ6_bitCount_0f7a4_47 : decode cJ6_bitCount_0f7a4 47 = .ok (.istore_n 0, 1) := by decide +kernel
theorem dJ6_bitCount_0f7a4_48 : decode cJ6_bitCount_0f7a4 48 = .ok (.iload_n 0, 1) := by decide +kernel
theorem dJ6_bitCount_0f7a4_49 : decode cJ6_bitCount_0f7a4 49 = .ok (.bipush 63, 2) := by decide +kernel
theorem dJ6_bitCount_0f7a4_51 : decode cJ6_bitCount_0f7a4 51 = .ok (.iand, 1) := by decide +kernel
theorem dJ6_bitCount_0f7a4_52 : decode cJ6_bitCount_0f7a4 52 = .ok (.ireturn, 1) := by decide +kernel
theorem dJ13_numberOfLeadingZeros_95d88_0 : decode cJ13_numberOfLeadingZeros_95d88 0 = .ok (.lload_n 0, 1) := by decide +kernel
theorem dJ13_numberOfLeadingZeros_95d88_1 : decode cJ13_numberOfLeadingZeros_95d88 1 = .ok (.bipush 32, 2) := by decide +kernel
theorem dJ13_numberOfLeadingZeros_95d88_3 : decode cJ13_numberOfLeadingZeros_95d88 3 = .ok (.lushr, 1) := by decide +kernel
theorem dJ13_numberOfLeadingZeros_95d88_4 : decode cJ13_numberOfLeadingZeros_95d88 4 = .ok (.l2i, 1) := by decide +kernel
theorem dJ13_numberOfLeadingZeros_95d88_5 : decode cJ13_numberOfLeadingZeros_95d88 5 = .ok (.istore_n 2, 1) := by decide +kernel
theorem dJ13_numberOfLeadingZeros_95d88_6 : decode cJ13_numberOfLeadingZeros_95d88 6 = .ok (.iload_n 2, 1) := by decide +kernel
theorem dJ13_numberOfLeadingZeros_95d88_7 : decode cJ13_numberOfLeadingZeros_95d88 7 = .ok (.ifCond .ne 14, 3) := by decide +kernel
theorem dJ13_numberOfLeadingZeros_95d88_10 : decode cJ13_numberOfLeadingZeros_95d88 10 = .ok (.bipush 32, 2) := by decide +kernel
theorem dJ13_numberOfLeadingZeros_95d88_12 : decode cJ13_numberOfLeadingZeros_95d88 12 = .ok (.lload_n 0, 1) := by decide +kernel
theorem dJ13_numberOfLeadingZeros_95d88_13 : decode cJ13_numberOfLeadingZeros_95d88 13 = .ok (.l2i, 1) := by decide +kernel
theorem dJ13_numberOfLeadingZeros_95d88_14 : decode cJ13_numberOfLeadingZeros_95d88 14 = .ok (.invokestatic 308, 3) := by decide +kernel
theorem dJ13_numberOfLeadingZeros_95d88_17 : decode cJ13_numberOfLeadingZeros_95d88 17 = .ok (.iadd, 1) := by decide +kernel
theorem dJ13_numberOfLeadingZeros_95d88_18 : decode cJ13_numberOfLeadingZeros_95d88 18 = .ok (.goto 7, 3) := by decide +kernel
theorem dJ13_numberOfLeadingZeros_95d88_21 : decode cJ13_numberOfLeadingZeros_95d88 21 = .ok (.iload_n 2, 1) := by decide +kernel
theorem dJ13_numberOfLeadingZeros_95d88_22 : decode cJ13_numberOfLeadingZeros_95d88 22 = .ok (.invokestatic 308, 3) := by decide +kernel
theorem dJ13_numberOfLeadingZeros_95d88_25 : decode cJ13_numberOfLeadingZeros_95d88 25 = .ok (.ireturn, 1) := by decide +kernel
theorem dJ13_numberOfTrailingZeros_95d88_0 : decode cJ13_numberOfTrailingZeros_95d88 0 = .ok (.lload_n 0, 1) := by decide +kernel
theorem dJ13_numberOfTrailingZeros_95d88_1 : decode cJ13_numberOfTrailingZeros_95d88 1 = .ok (.l2i, 1) := by decide +kernel
theorem dJ13_numberOfTrailingZeros_95d88_2 : decode cJ13_numberOfTrailingZeros_95d88 2 = .ok (.istore_n 2, 1) := by decide +kernel
theorem dJ13_numberOfTrailingZeros_95d88_3 : decode cJ13_numberOfTrailingZeros_95d88 3 = .ok (.iload_n 2, 1) := by decide +kernel
theorem dJ13_numberOfTrailingZeros_95d88_4 : decode cJ13_numberOfTrailingZeros_95d88 4 = .ok (.ifCond .ne 17, 3) := by decide +kernel
theorem dJ13_numberOfTrailingZeros_95d88_7 : decode cJ13_numberOfTrailingZeros_95d88 7 = .ok (.bipush 32, 2) := by decide +kernel
theorem dJ13_numberOfTrailingZeros_95d88_9 : decode cJ13_numberOfTrailingZeros_95d88 9 = .ok (.lload_n 0, 1) := by decide +kernel
theorem dJ13_numberOfTrailingZeros_95d88_10 : decode cJ13_numberOfTrailingZeros_95d88 10 = .ok (.bipush 32, 2) := by decide +kernel
theorem dJ13_numberOfTrailingZeros_95d88_12 : decode cJ13_numberOfTrailingZeros_95d88 12 = .ok (.lushr, 1) := by decide +kernel
theorem dJ13_numberOfTrailingZeros_95d88_13 : decode cJ13_numberOfTrailingZeros_95d88 13 = .ok (.l2i, 1) := by decide +kernel
theorem dJ13_numberOfTrailingZeros_95d88_14 : decode cJ13_numberOfTrailingZeros_95d88 14 = .ok (.invokestatic 311, 3) := by decide +kernel
theorem dJ13_numberOfTrailingZeros_95d88_17 : decode cJ13_numberOfTrailingZeros_95d88 17 = .ok (.iadd, 1) := by decide +kernel
theorem dJ13_numberOfTrailingZeros_95d88_18 : decode cJ13_numberOfTrailingZeros_95d88 18 = .ok (.goto 7, 3) := by decide +kernel
theorem dJ13_numberOfTrailingZeros_95d88_21 : decode cJ13_numberOfTrailingZeros_95d88 21 = .ok (.iload_n 2, 1) := by decide +kernel
theorem dJ13_numberOfTrailingZeros_95d88_22 : decode cJ13_numberOfTrailingZeros_95d88 22 = .ok (.invokestatic 311, 3) := by decide +kernel
theorem dJ13_numberOfTrailingZeros_95d88_25 : decode cJ13_numberOfTrailingZeros_95d88 25 = .ok (.ireturn, 1) := by decide +kernel
theorem dJ9_abs_0f7a4_0 : decode cJ9_abs_0f7a4 0 = .ok (.iload_n 0, 1) := by decide +kernel
theorem dJ9_abs_0f7a4_1 : decode cJ9_abs_0f7a4 1 = .ok (.ifCond .ge 8, 3) := by decide +kernel
theorem dJ9_abs_0f7a4_4 : decode cJ9_abs_0f7a4 4 = .ok (.iload_n 0, 1) := by decide +kernel
theorem dJ9_abs_0f7a4_5 : decode cJ9_abs_0f7a4 5 = .ok (.ineg, 1) := by decide +kernel
theorem dJ9_abs_0f7a4_6 : decode cJ9_abs_0f7a4 6 = .ok (.goto 4, 3) := by decide +kernel
theorem dJ9_abs_0f7a4_9 : decode cJ9_abs_0f7a4 9 = .ok (.iload_n 0, 1) := by decide +kernel
theorem dJ9_abs_0f7a4_10 : decode cJ9_abs_0f7a4 10 = .ok (.ireturn, 1) := by decide +kernel
theorem dJ9_max_7cf53_0 : decode cJ9_max_7cf53 0 = .ok (.iload_n 0, 1) := by decide +kernel
theorem dJ9_max_7cf53_1 : decode cJ9_max_7cf53 1 = .ok (.iload_n 1, 1) := by decide +kernel
theorem dJ9_max_7cf53_2 : decode cJ9_max_7cf53 2 = .ok (.if_icmp .lt 7, 3) := by decide +kernel
theorem dJ9_max_7cf53_5 : decode cJ9_max_7cf53 5 = .ok (.iload_n 0, 1) := by decide +kernel
theorem dJ9_max_7cf53_6 : decode cJ9_max_7cf53 6 = .ok (.goto 4, 3) := by decide +kernel
theorem dJ9_max_7cf53_9 : decode cJ9_max_7cf53 9 = .ok (.iload_n 1, 1) := by decide +kernel
theorem dJ9_max_7cf53_10 : decode cJ9_max_7cf53 10 = .ok (.ireturn, 1) := by decide +kernel
theorem dJ9_min_7cf53_0 : decode cJ9_min_7cf53 0 = .ok (.iload_n 0, 1) := by decide +kernel
theorem dJ9_min_7cf53_1 : decode cJ9_min_7cf53 1 = .ok (.iload_n 1, 1) := by decide +kernel
theorem dJ9_min_7cf53_2 : decode cJ9_min_7cf53 2 = .ok (.if_icmp .gt 7, 3) := by decide +kernel
theorem dJ9_min_7cf53_5 : decode cJ9_min_7cf53 5 = .ok (.iload_n 0, 1) := by decide +kernel
theorem dJ9_min_7cf53_6 : decode cJ9_min_7cf53 6 = .ok (.goto 4, 3) := by decide +kernel
theorem dJ9_min_7cf53_9 : decode cJ9_min_7cf53 9 = .ok (.iload_n 1, 1) := by decide +kernel
theorem dJ9_min_7cf53_10 : decode cJ9_min_7cf53 10 = .ok (.ireturn, 1) := by decide +kernel
theorem dJ7_equals_bbcde_0 : decode cJ7_equals_bbcde 0 = .ok (.aload_n 0, 1) := by decide +kernel
theorem dJ7_equals_bbcde_1 : decode cJ7_equals_bbcde 1 = .ok (.aload_n 1, 1) := by decide +kernel
theorem dJ7_equals_bbcde_2 : decode cJ7_equals_bbcde 2 = .ok (.if_acmp .ne 5, 3) := by decide +kernel
theorem dJ7_equals_bbcde_5 : decode cJ7_equals_bbcde 5 = .ok (.iconst 1, 1) := by decide +kernel
theorem dJ7_equals_bbcde_6 : decode cJ7_equals_bbcde 6 = .ok (.ireturn, 1) := by decide +kernel
theorem dJ7_equals_bbcde_7 : decode cJ7_equals_bbcde 7 = .ok (.aload_n 0, 1) := by decide +kernel
theorem dJ7_equals_bbcde_8 : decode cJ7_equals_bbcde 8 = .ok (.ifnull 7, 3) := by decide +kernel
theorem dJ7_equals_bbcde_11 : decode cJ7_equals_bbcde 11 = .ok (.aload_n 1, 1) := by decide +kernel
theorem dJ7_equals_bbcde_12 : decode cJ7_equals_bbcde 12 = .ok (.ifnonnull 5, 3) := by decide +kernel
theorem dJ7_equals_bbcde_15 : decode cJ7_equals_bbcde 15 = .ok (.iconst 0, 1) := by decide +kernel
theorem dJ7_equals_bbcde_16 : decode cJ7_equals_bbcde 16 = .ok (.ireturn, 1) := by decide +kernel
theorem dJ7_equals_bbcde_17 : decode cJ7_equals_bbcde 17 = .ok (.aload_n 0, 1) := by decide +kernel
theorem dJ7_equals_bbcde_18 : decode cJ7_equals_bbcde 18 = .ok (.arraylength, 1) := by decide +kernel
theorem dJ7_equals_bbcde_19 : decode cJ7_equals_bbcde 19 = .ok (.istore_n 2, 1) := by decide +kernel
theorem dJ7_equals_bbcde_20 : decode cJ7_equals_bbcde 20 = .ok (.aload_n 1, 1) := by decide +kernel
theorem dJ7_equals_bbcde_21 : decode cJ7_equals_bbcde 21 = .ok (.arraylength, 1) := by decide +kernel
theorem dJ7_equals_bbcde_22 : decode cJ7_equals_bbcde 22 = .ok (.iload_n 2, 1) := by decide +kernel
theorem dJ7_equals_bbcde_23 : decode cJ7_equals_bbcde 23 = .ok (.if_icmp .eq 5, 3) := by decide +kernel
theorem dJ7_equals_bbcde_26 : decode cJ7_equals_bbcde 26 = .ok (.iconst 0, 1) := by decide +kernel
theorem dJ7_equals_bbcde_27 : decode cJ7_equals_bbcde 27 = .ok (.ireturn, 1) := by decide +kernel
theorem dJ7_equals_bbcde_28 : decode cJ7_equals_bbcde 28 = .ok (.aload_n 0, 1) := by decide +kernel
theorem dJ7_equals_bbcde_29 : decode cJ7_equals_bbcde 29 = .ok (.aload_n 1, 1) := by decide +kernel
theorem dJ7_equals_bbcde_30 : decode cJ7_equals_bbcde 30 = .ok (.iload_n 2, 1) := by decide +kernel
theorem dJ7_equals_bbcde_31 : decode cJ7_equals_bbcde 31 = .ok (.invokestatic 254, 3) := by decide +kernel
theorem dJ7_equals_bbcde_34 : decode cJ7_equals_bbcde 34 = .ok (.ifCond .ge 7, 3) := by decide +kernel
theorem dJ7_equals_bbcde_37 : decode cJ7_equals_bbcde 37 = .ok (.iconst 1, 1) := by decide +kernel
theorem dJ7_equals_bbcde_38 : decode cJ7_equals_bbcde 38 = .ok (.goto 4, 3) := by decide +kernel
theorem dJ7_equals_bbcde_41 : decode cJ7_equals_bbcde 41 = .ok (.iconst 0, 1) := by decide +kernel
theorem dJ7_equals_bbcde_42 : decode cJ7_equals_bbcde 42 = .ok (.ireturn, 1) := by decide +kernel
theorem dJ7_fill_53178_0 : decode cJ7_fill_53178 0 = .ok (.iconst 0, 1) := by decide +kernel
theorem dJ7_fill_53178_1 : decode cJ7_fill_53178 1 = .ok (.istore_n 2, 1) := by decide +kernel
theorem dJ7_fill_53178_2 : decode cJ7_fill_53178 2 = .ok (.aload_n 0, 1) := by decide +kernel
theorem dJ7_fill_53178_3 : decode cJ7_fill_53178 3 = .ok (.arraylength, 1) := by decide +kernel
theorem dJ7_fill_53178_4 : decode cJ7_fill_53178 4 = .ok (.istore_n 3, 1) := by decide +kernel
theorem dJ7_fill_53178_5 : decode cJ7_fill_53178 5 = .ok (.iload_n 2, 1) := by decide +kernel
theorem dJ7_fill_53178_6 : decode cJ7_fill_53178 6 = .ok (.iload_n 3, 1) := by decide +kernel
theorem dJ7_fill_53178_7 : decode cJ7_fill_53178 7 = .ok (.if_icmp .ge 13, 3) := by decide +kernel
theorem dJ7_fill_53178_10 : decode cJ7_fill_53178 10 = .ok (.aload_n 0, 1) := by decide +kernel
theorem dJ7_fill_53178_11 : decode cJ7_fill_53178 11 = .ok (.iload_n 2, 1) := by decide +kernel
theorem dJ7_fill_53178_12 : decode cJ7_fill_53178 12 = .ok (.iload_n 1, 1) := by decide +kernel
theorem dJ7_fill_53178_13 : decode cJ7_fill_53178 13 = .ok (.iastore, 1) := by decide +kernel
theorem dJ7_fill_53178_14 : decode cJ7_fill_53178 14 = .ok (.iinc 2 1, 3) := by decide +kernel
theorem dJ7_fill_53178_17 : decode cJ7_fill_53178 17 = .ok (.goto (-12), 3) := by decide +kernel
theorem dJ7_fill_53178_20 : decode cJ7_fill_53178 20 = .ok (.return_, 1) := by decide +kernel
theorem dJx9a822_getLongUnaligned_f02c6_0 : decode cJx9a822_getLongUnaligned_f02c6 0 = .ok (.lload_n 2, 1) := by decide +kernel
theorem dJx9a822_getLongUnaligned_f02c6_1 : decode cJx9a822_getLongUnaligned_f02c6 1 = .ok (.ldc2_w 696, 3) := by decide +kernel
theorem dJx9a822_getLongUnaligned_f02c6_4 : decode cJx9a822_getLongUnaligned_f02c6 4 = .ok (.land, 1) := by decide +kernel
theorem dJx9a822_getLongUnaligned_f02c6_5 : decode cJx9a822_getLongUnaligned_f02c6 5 = .ok (.lconst 0, 1) := by decide +kernel
theorem dJx9a822_getLongUnaligned_f02c6_6 : decode cJx9a822_getLongUnaligned_f02c6 6 = .ok (.lcmp, 1) := by decide +kernel
theorem dJx9a822_getLongUnaligned_f02c6_7 : decode cJx9a822_getLongUnaligned_f02c6 7 = .ok (.ifCond .ne 10, 3) := by decide +kernel
theorem dJx9a822_getLongUnaligned_f02c6_10 : decode cJx9a822_getLongUnaligned_f02c6 10 = .ok (.aload_n 0, 1) := by decide +kernel
theorem dJx9a822_getLongUnaligned_f02c6_11 : decode cJx9a822_getLongUnaligned_f02c6 11 = .ok (.aload_n 1, 1) := by decide +kernel
theorem dJx9a822_getLongUnaligned_f02c6_12 : decode cJx9a822_getLongUnaligned_f02c6 12 = .ok (.lload_n 2, 1) := by decide +kernel
theorem dJx9a822_getLongUnaligned_f02c6_13 : decode cJx9a822_getLongUnaligned_f02c6 13 = .ok (.invokevirtual 27, 3) := by decide +kernel
theorem dJx9a822_getLongUnaligned_f02c6_16 : decode cJx9a822_getLongUnaligned_f02c6 16 = .ok (.lreturn, 1) := by decide +kernel
theorem dJx9a822_getLongUnaligned_f02c6_17 : decode cJx9a822_getLongUnaligned_f02c6 17 = .ok (.lload_n 2, 1) := by decide +kernel
theorem dJx9a822_getLongUnaligned_f02c6_18 : decode cJx9a822_getLongUnaligned_f02c6 18 = .ok (.ldc2_w 349, 3) := by decide +kernel
theorem dJx9a822_getLongUnaligned_f02c6_21 : decode cJx9a822_getLongUnaligned_f02c6 21 = .ok (.land, 1) := by decide +kernel
theorem dJx9a822_getLongUnaligned_f02c6_22 : decode cJx9a822_getLongUnaligned_f02c6 22 = .ok (.lconst 0, 1) := by decide +kernel
theorem dJx9a822_getLongUnaligned_f02c6_23 : decode cJx9a822_getLongUnaligned_f02c6 23 = .ok (.lcmp, 1) := by decide +kernel
theorem dJx9a822_getLongUnaligned_f02c6_24 : decode cJx9a822_getLongUnaligned_f02c6 24 = .ok (.ifCond .ne 23, 3) := by decide +kernel
theorem dJx9a822_getLongUnaligned_f02c6_27 : decode cJx9a822_getLongUnaligned_f02c6 27 = .ok (.aload_n 0, 1) := by decide +kernel
theorem dJx9a822_getLongUnaligned_f02c6_28 : decode cJx9a822_getLongUnaligned_f02c6 28 = .ok (.aload_n 1, 1) := by decide +kernel
theorem dJx9a822_getLongUnaligned_f02c6_29 : decode cJx9a822_getLongUnaligned_f02c6 29 = .ok (.lload_n 2, 1) := by decide +kernel
theorem dJx9a822_getLongUnaligned_f02c6_30 : decode cJx9a822_getLongUnaligned_f02c6 30 = .ok (.invokevirtual 17, 3) := by decide +kernel
theorem dJx9a822_getLongUnaligned_f02c6_33 : decode cJx9a822_getLongUnaligned_f02c6 33 = .ok (.aload_n 0, 1) := by decide +kernel
theorem dJx9a822_getLongUnaligned_f02c6_34 : decode cJx9a822_getLongUnaligned_f02c6 34 = .ok (.aload_n 1, 1) := by decide +kernel
theorem dJx9a822_getLongUnaligned_f02c6_35 : decode cJx9a822_getLongUnaligned_f02c6 35 = .ok (.lload_n 2, 1) := by decide +kernel
theorem dJx9a822_getLongUnaligned_f02c6_36 : decode cJx9a822_getLongUnaligned_f02c6 36 = .ok (.ldc2_w 205, 3) := by decide +kernel
theorem dJx9a822_getLongUnaligned_f02c6_39 : decode cJx9a822_getLongUnaligned_f02c6 39 = .ok (.ladd, 1) := by decide +kernel
theorem dJx9a822_getLongUnaligned_f02c6_40 : decode cJx9a822_getLongUnaligned_f02c6 40 = .ok (.invokevirtual 17, 3) := by decide +kernel
theorem dJx9a822_getLongUnaligned_f02c6_43 : decode cJx9a822_getLongUnaligned_f02c6 43 = .ok (.invokestatic 698, 3) := by decide +kernel
theorem dJx9a822_getLongUnaligned_f02c6_46 : decode cJx9a822_getLongUnaligned_f02c6 46 = .ok (.lreturn, 1) := by decide +kernel
theorem dJx9a822_getLongUnaligned_f02c6_47 : decode cJx9a822_getLongUnaligned_f02c6 47 = .ok (.lload_n 2, 1) := by decide +kernel
theorem dJx9a822_getLongUnaligned_f02c6_48 : decode cJx9a822_getLongUnaligned_f02c6 48 = .ok (.lconst 1, 1) := by decide +kernel
theorem dJx9a822_getLongUnaligned_f02c6_49 : decode cJx9a822_getLongUnaligned_f02c6 49 = .ok (.land, 1) := by decide +kernel
theorem dJx9a822_getLongUnaligned_f02c6_50 : decode cJx9a822_getLongUnaligned_f02c6 50 = .ok (.lconst 0, 1) := by decide +kernel
theorem dJx9a822_getLongUnaligned_f02c6_51 : decode cJx9a822_getLongUnaligned_f02c6 51 = .ok (.lcmp, 1) := by decide +kernel
theorem dJx9a822_getLongUnaligned_f02c6_52 : decode cJx9a822_getLongUnaligned_f02c6 52 = .ok (.ifCond .ne 43, 3) := by decide +kernel
theorem dJx9a822_getLongUnaligned_f02c6_55 : decode cJx9a822_getLongUnaligned_f02c6 55 = .ok (.aload_n 0, 1) := by decide +kernel
theorem dJx9a822_getLongUnaligned_f02c6_56 : decode cJx9a822_getLongUnaligned_f02c6 56 = .ok (.aload_n 1, 1) := by decide +kernel
theorem dJx9a822_getLongUnaligned_f02c6_57 : decode cJx9a822_getLongUnaligned_f02c6 57 = .ok (.lload_n 2, 1) := by decide +kernel
theorem dJx9a822_getLongUnaligned_f02c6_58 : decode cJx9a822_getLongUnaligned_f02c6 58 = .ok (.invokevirtual 47, 3) := by decide +kernel
theorem dJx9a822_getLongUnaligned_f02c6_61 : decode cJx9a822_getLongUnaligned_f02c6 61 = .ok (.aload_n 0, 1) := by decide +kernel
theorem dJx9a822_getLongUnaligned_f02c6_62 : decode cJx9a822_getLongUnaligned_f02c6 62 = .ok (.aload_n 1, 1) := by decide +kernel
theorem dJx9a822_getLongUnaligned_f02c6_63 : decode cJx9a822_getLongUnaligned_f02c6 63 = .ok (.lload_n 2, 1) := by decide +kernel
theorem dJx9a822_getLongUnaligned_f02c6_64 : decode cJx9a822_getLongUnaligned_f02c6 64 = .ok (.ldc2_w 203, 3) := by decide +kernel
theorem dJx9a822_getLongUnaligned_f02c6_67 : decode cJx9a822_getLongUnaligned_f02c6 67 = .ok (.ladd, 1) := by decide +kernel
theorem dJx9a822_getLongUnaligned_f02c6_68 : decode cJx9a822_getLongUnaligned_f02c6 68 = .ok (.invokevirtual 47, 3) := by decide +kernel
theorem dJx9a822_getLongUnaligned_f02c6_71 : decode cJx9a822_getLongUnaligned_f02c6 71 = .ok (.aload_n 0, 1) := by decide +kernel
theorem dJx9a822_getLongUnaligned_f02c6_72 : decode cJx9a822_getLongUnaligned_f02c6 72 = .ok (.aload_n 1, 1) := by decide +kernel
theorem dJx9a822_getLongUnaligned_f02c6_73 : decode cJx9a822_getLongUnaligned_f02c6 73 = .ok (.lload_n 2, 1) := by decide +kernel
theorem dJx9a822_getLongUnaligned_f02c6_74 : decode cJx9a822_getLongUnaligned_f02c6 74 = .ok (.ldc2_w 205, 3) := by decide +kernel
theorem dJx9a822_getLongUnaligned_f02c6_77 : decode cJx9a822_getLongUnaligned_f02c6 77 = .ok (.ladd, 1) := by decide +kernel
theorem dJx9a822_getLongUnaligned_f02c6_78 : decode cJx9a822_getLongUnaligned_f02c6 78 = .ok (.invokevirtual 47, 3) := by decide +kernel
theorem dJx9a822_getLongUnaligned_f02c6_81 : decode cJx9a822_getLongUnaligned_f02c6 81 = .ok (.aload_n 0, 1) := by decide +kernel
theorem dJx9a822_getLongUnaligned_f02c6_82 : decode cJx9a822_getLongUnaligned_f02c6 82 = .ok (.aload_n 1, 1) := by decide +kernel
theorem dJx9a822_getLongUnaligned_f02c6_83 : decode cJx9a822_getLongUnaligned_f02c6 83 = .ok (.lload_n 2, 1) := by decide +kernel
theorem dJx9a822_getLongUnaligned_f02c6_84 : decode cJx9a822_getLongUnaligned_f02c6 84 = .ok (.ldc2_w 702, 3) := by decide +kernel
theorem dJx9a822_getLongUnaligned_f02c6_87 : decode cJx9a822_getLongUnaligned_f02c6 87 = .ok (.ladd, 1) := by decide +kernel
theorem dJx9a822_getLongUnaligned_f02c6_88 : decode cJx9a822_getLongUnaligned_f02c6 88 = .ok (.invokevirtual 47, 3) := by decide +kernel
theorem dJx9a822_getLongUnaligned_f02c6_91 : decode cJx9a822_getLongUnaligned_f02c6 91 = .ok (.invokestatic 704, 3) := by decide +kernel
theorem dJx9a822_getLongUnaligned_f02c6_94 : decode cJx9a822_getLongUnaligned_f02c6 94 = .ok (.lreturn, 1) := by decide +kernel
theorem dJx9a822_getLongUnaligned_f02c6_95 : decode cJx9a822_getLongUnaligned_f02c6 95 = .ok (.aload_n 0, 1) := by decide +kernel
theorem dJx9a822_getLongUnaligned_f02c6_96 : decode cJx9a822_getLongUnaligned_f02c6 96 = .ok (.aload_n 1, 1) := by decide +kernel
theorem dJx9a822_getLongUnaligned_f02c6_97 : decode cJx9a822_getLongUnaligned_f02c6 97 = .ok (.lload_n 2, 1) := by decide +kernel
theorem dJx9a822_getLongUnaligned_f02c6_98 : decode cJx9a822_getLongUnaligned_f02c6 98 = .ok (.invokevirtual 39, 3) := by decide +kernel
theorem dJx9a822_getLongUnaligned_f02c6_101 : decode cJx9a822_getLongUnaligned_f02c6 101 = .ok (.aload_n 0, 1) := by decide +kernel
theorem dJx9a822_getLongUnaligned_f02c6_102 : decode cJx9a822_getLongUnaligned_f02c6 102 = .ok (.aload_n 1, 1) := by decide +kernel
theorem dJx9a822_getLongUnaligned_f02c6_103 : decode cJx9a822_getLongUnaligned_f02c6 103 = .ok (.lload_n 2, 1) := by decide +kernel
theorem dJx9a822_getLongUnaligned_f02c6_104 : decode cJx9a822_getLongUnaligned_f02c6 104 = .ok (.lconst 1, 1) := by decide +kernel
theorem dJx9a822_getLongUnaligned_f02c6_105 : decode cJx9a822_getLongUnaligned_f02c6 105 = .ok (.ladd, 1) := by decide +kernel
theorem dJx9a822_getLongUnaligned_f02c6_106 : decode cJx9a822_getLongUnaligned_f02c6 106 = .ok (.invokevirtual 39, 3) := by decide +kernel
theorem dJx9a822_getLongUnaligned_f02c6_109 : decode cJx9a822_getLongUnaligned_f02c6 109 = .ok (.aload_n 0, 1) := by decide +kernel
theorem dJx9a822_getLongUnaligned_f02c6_110 : decode cJx9a822_getLongUnaligned_f02c6 110 = .ok (.aload_n 1, 1) := by decide +kernel
theorem dJx9a822_getLongUnaligned_f02c6_111 : decode cJx9a822_getLongUnaligned_f02c6 111 = .ok (.lload_n 2, 1) := by decide +kernel
theorem dJx9a822_getLongUnaligned_f02c6_112 : decode cJx9a822_getLongUnaligned_f02c6 112 = .ok (.ldc2_w 203, 3) := by decide +kernel
theorem dJx9a822_getLongUnaligned_f02c6_115 : decode cJx9a822_getLongUnaligned_f02c6 115 = .ok (.ladd, 1) := by decide +kernel
theorem dJx9a822_getLongUnaligned_f02c6_116 : decode cJx9a822_getLongUnaligned_f02c6 116 = .ok (.invokevirtual 39, 3) := by decide +kernel
theorem dJx9a822_getLongUnaligned_f02c6_119 : decode cJx9a822_getLongUnaligned_f02c6 119 = .ok (.aload_n 0, 1) := by decide +kernel
theorem dJx9a822_getLongUnaligned_f02c6_120 : decode cJx9a822_getLongUnaligned_f02c6 120 = .ok (.aload_n 1, 1) := by decide +kernel
theorem dJx9a822_getLongUnaligned_f02c6_121 : decode cJx9a822_getLongUnaligned_f02c6 121 = .ok (.lload_n 2, 1) := by decide +kernel
theorem dJx9a822_getLongUnaligned_f02c6_122 : decode cJx9a822_getLongUnaligned_f02c6 122 = .ok (.ldc2_w 349, 3) := by decide +kernel
theorem dJx9a822_getLongUnaligned_f02c6_125 : decode cJx9a822_getLongUnaligned_f02c6 125 = .ok (.ladd, 1) := by decide +kernel
theorem dJx9a822_getLongUnaligned_f02c6_126 : decode cJx9a822_getLongUnaligned_f02c6 126 = .ok (.invokevirtual 39, 3) := by decide +kernel
theorem dJx9a822_getLongUnaligned_f02c6_129 : decode cJx9a822_getLongUnaligned_f02c6 129 = .ok (.aload_n 0, 1) := by decide +kernel
theorem dJx9a822_getLongUnaligned_f02c6_130 : decode cJx9a822_getLongUnaligned_f02c6 130 = .ok (.aload_n 1, 1) := by decide +kernel
theorem dJx9a822_getLongUnaligned_f02c6_131 : decode cJx9a822_getLongUnaligned_f02c6 131 = .ok (.lload_n 2, 1) := by decide +kernel
theorem dJx9a822_getLongUnaligned_f02c6_132 : decode cJx9a822_getLongUnaligned_f02c6 132 = .ok (.ldc2_w 205, 3) := by decide +kernel
theorem dJx9a822_getLongUnaligned_f02c6_135 : decode cJx9a822_getLongUnaligned_f02c6 135 = .ok (.ladd, 1) := by decide +kernel
theorem dJx9a822_getLongUnaligned_f02c6_136 : decode cJx9a822_getLongUnaligned_f02c6 136 = .ok (.invokevirtual 39, 3) := by decide +kernel
theorem dJx9a822_getLongUnaligned_f02c6_139 : decode cJx9a822_getLongUnaligned_f02c6 139 = .ok (.aload_n 0, 1) := by decide +kernel
theorem dJx9a822_getLongUnaligned_f02c6_140 : decode cJx9a822_getLongUnaligned_f02c6 140 = .ok (.aload_n 1, 1) := by decide +kernel
theorem dJx9a822_getLongUnaligned_f02c6_141 : decode cJx9a822_getLongUnaligned_f02c6 141 = .ok (.lload_n 2, 1) := by decide +kernel
theorem dJx9a822_getLongUnaligned_f02c6_142 : decode cJx9a822_getLongUnaligned_f02c6 142 = .ok (.ldc2_w 707, 3) := by decide +kernel
theorem dJx9a822_getLongUnaligned_f02c6_145 : decode cJx9a822_getLongUnaligned_f02c6 145 = .ok (.ladd, 1) := by decide +kernel
theorem dJx9a822_getLongUnaligned_f02c6_146 : decode cJx9a822_getLongUnaligned_f02c6 146 = .ok (.invokevirtual 39, 3) := by decide +kernel
theorem dJx9a822_getLongUnaligned_f02c6_149 : decode cJx9a822_getLongUnaligned_f02c6 149 = .ok (.aload_n 0, 1) := by decide +kernel
theorem dJx9a822_getLongUnaligned_f02c6_150 : decode cJx9a822_getLongUnaligned_f02c6 150 = .ok (.aload_n 1, 1) := by decide +kernel
theorem dJx9a822_getLongUnaligned_f02c6_151 : decode cJx9a822_getLongUnaligned_f02c6 151 = .ok (.lload_n 2, 1) := by decide +kernel
theorem dJx9a822_getLongUnaligned_f02c6_152 : decode cJx9a822_getLongUnaligned_f02c6 152 = .ok (.ldc2_w 702, 3) := by decide +kernel
theorem dJx9a822_getLongUnaligned_f02c6_155 : decode cJx9a822_getLongUnaligned_f02c6 155 = .ok (.ladd, 1) := by decide +kernel
theorem dJx9a822_getLongUnaligned_f02c6_156 : decode cJx9a822_getLongUnaligned_f02c6 156 = .ok (.invokevirtual 39, 3) := by decide +kernel
theorem dJx9a822_getLongUnaligned_f02c6_159 : decode cJx9a822_getLongUnaligned_f02c6 159 = .ok (.aload_n 0, 1) := by decide +kernel
theorem dJx9a822_getLongUnaligned_f02c6_160 : decode cJx9a822_getLongUnaligned_f02c6 160 = .ok (.aload_n 1, 1) := by decide +kernel
theorem dJx9a822_getLongUnaligned_f02c6_161 : decode cJx9a822_getLongUnaligned_f02c6 161 = .ok (.lload_n 2, 1) := by decide +kernel
theorem dJx9a822_getLongUnaligned_f02c6_162 : decode cJx9a822_getLongUnaligned_f02c6 162 = .ok (.ldc2_w 696, 3) := by decide +kernel
theorem dJx9a822_getLongUnaligned_f02c6_165 : decode cJx9a822_getLongUnaligned_f02c6 165 = .ok (.ladd, 1) := by decide +kernel
theorem dJx9a822_getLongUnaligned_f02c6_166 : decode cJx9a822_getLongUnaligned_f02c6 166 = .ok (.invokevirtual 39, 3) := by decide +kernel
theorem dJx9a822_getLongUnaligned_f02c6_169 : decode cJx9a822_getLongUnaligned_f02c6 169 = .ok (.invokestatic 709, 3) := by decide +kernel
theorem dJx9a822_getLongUnaligned_f02c6_172 : decode cJx9a822_getLongUnaligned_f02c6 172 = .ok (.lreturn, 1) := by decide +kernel
theorem dJx9a822_getIntUnaligned_25a47_0 : decode cJx9a822_getIntUnaligned_25a47 0 = .ok (.lload_n 2, 1) := by decide +kernel
theorem dJx9a822_getIntUnaligned_25a47_1 : decode cJx9a822_getIntUnaligned_25a47 1 = .ok (.ldc2_w 349, 3) := by decide +kernel
theorem dJx9a822_getIntUnaligned_25a47_4 : decode cJx9a822_getIntUnaligned_25a47 4 = .ok (.land, 1) := by decide +kernel
theorem dJx9a822_getIntUnaligned_25a47_5 : decode cJx9a822_getIntUnaligned_25a47 5 = .ok (.lconst 0, 1) := by decide +kernel
theorem dJx9a822_getIntUnaligned_25a47_6 : decode cJx9a822_getIntUnaligned_25a47 6 = .ok (.lcmp, 1) := by decide +kernel
theorem dJx9a822_getIntUnaligned_25a47_7 : decode cJx9a822_getIntUnaligned_25a47 7 = .ok (.ifCond .ne 10, 3) := by decide +kernel
theorem dJx9a822_getIntUnaligned_25a47_10 : decode cJx9a822_getIntUnaligned_25a47 10 = .ok (.aload_n 0, 1) := by decide +kernel
theorem dJx9a822_getIntUnaligned_25a47_11 : decode cJx9a822_getIntUnaligned_25a47 11 = .ok (.aload_n 1, 1) := by decide +kernel
theorem dJx9a822_getIntUnaligned_25a47_12 : decode cJx9a822_getIntUnaligned_25a47 12 = .ok (.lload_n 2, 1) := by decide +kernel
theorem dJx9a822_getIntUnaligned_25a47_13 : decode cJx9a822_getIntUnaligned_25a47 13 = .ok (.invokevirtual 17, 3) := by decide +kernel
theorem dJx9a822_getIntUnaligned_25a47_16 : decode cJx9a822_getIntUnaligned_25a47 16 = .ok (.ireturn, 1) := by decide +kernel
theorem dJx9a822_getIntUnaligned_25a47_17 : decode cJx9a822_getIntUnaligned_25a47 17 = .ok (.lload_n 2, 1) := by decide +kernel
theorem dJx9a822_getIntUnaligned_25a47_18 : decode cJx9a822_getIntUnaligned_25a47 18 = .ok (.lconst 1, 1) := by decide +kernel
theorem dJx9a822_getIntUnaligned_25a47_19 : decode cJx9a822_getIntUnaligned_25a47 19 = .ok (.land, 1) := by decide +kernel
theorem dJx9a822_getIntUnaligned_25a47_20 : decode cJx9a822_getIntUnaligned_25a47 20 = .ok (.lconst 0, 1) := by decide +kernel
theorem dJx9a822_getIntUnaligned_25a47_21 : decode cJx9a822_getIntUnaligned_25a47 21 = .ok (.lcmp, 1) := by decide +kernel
theorem dJx9a822_getIntUnaligned_25a47_22 : decode cJx9a822_getIntUnaligned_25a47 22 = .ok (.ifCond .ne 23, 3) := by decide +kernel
theorem dJx9a822_getIntUnaligned_25a47_25 : decode cJx9a822_getIntUnaligned_25a47 25 = .ok (.aload_n 0, 1) := by decide +kernel
theorem dJx9a822_getIntUnaligned_25a47_26 : decode cJx9a822_getIntUnaligned_25a47 26 = .ok (.aload_n 1, 1) := by decide +kernel
theorem dJx9a822_getIntUnaligned_25a47_27 : decode cJx9a822_getIntUnaligned_25a47 27 = .ok (.lload_n 2, 1) := by decide +kernel
theorem dJx9a822_getIntUnaligned_25a47_28 : decode cJx9a822_getIntUnaligned_25a47 28 = .ok (.invokevirtual 47, 3) := by decide +kernel
theorem dJx9a822_getIntUnaligned_25a47_31 : decode cJx9a822_getIntUnaligned_25a47 31 = .ok (.aload_n 0, 1) := by decide +kernel
theorem dJx9a822_getIntUnaligned_25a47_32 : decode cJx9a822_getIntUnaligned_25a47 32 = .ok (.aload_n 1, 1) := by decide +kernel
theorem dJx9a822_getIntUnaligned_25a47_33 : decode cJx9a822_getIntUnaligned_25a47 33 = .ok (.lload_n 2, 1) := by decide +kernel
theorem dJx9a822_getIntUnaligned_25a47_34 : decode cJx9a822_getIntUnaligned_25a47 34 = .ok (.ldc2_w 203, 3) := by decide +kernel
theorem dJx9a822_getIntUnaligned_25a47_37 : decode cJx9a822_getIntUnaligned_25a47 37 = .ok (.ladd, 1) := by decide +kernel
theorem dJx9a822_getIntUnaligned_25a47_38 : decode cJx9a822_getIntUnaligned_25a47 38 = .ok (.invokevirtual 47, 3) := by decide +kernel
theorem dJx9a822_getIntUnaligned_25a47_41 : decode cJx9a822_getIntUnaligned_25a47 41 = .ok (.invokestatic 719, 3) := by decide +kernel
theorem dJx9a822_getIntUnaligned_25a47_44 : decode cJx9a822_getIntUnaligned_25a47 44 = .ok (.ireturn, 1) := by decide +kernel
theorem dJx9a822_getIntUnaligned_25a47_45 : decode cJx9a822_getIntUnaligned_25a47 45 = .ok (.aload_n 0, 1) := by decide +kernel
theorem dJx9a822_getIntUnaligned_25a47_46 : decode cJx9a822_getIntUnaligned_25a47 46 = .ok (.aload_n 1, 1) := by decide +kernel
theorem dJx9a822_getIntUnaligned_25a47_47 : decode cJx9a822_getIntUnaligned_25a47 47 = .ok (.lload_n 2, 1) := by decide +kernel
theorem dJx9a822_getIntUnaligned_25a47_48 : decode cJx9a822_getIntUnaligned_25a47 48 = .ok (.invokevirtual 39, 3) := by decide +kernel
theorem dJx9a822_getIntUnaligned_25a47_51 : decode cJx9a822_getIntUnaligned_25a47 51 = .ok (.aload_n 0, 1) := by decide +kernel
theorem dJx9a822_getIntUnaligned_25a47_52 : decode cJx9a822_getIntUnaligned_25a47 52 = .ok (.aload_n 1, 1) := by decide +kernel
theorem dJx9a822_getIntUnaligned_25a47_53 : decode cJx9a822_getIntUnaligned_25a47 53 = .ok (.lload_n 2, 1) := by decide +kernel
theorem dJx9a822_getIntUnaligned_25a47_54 : decode cJx9a822_getIntUnaligned_25a47 54 = .ok (.lconst 1, 1) := by decide +kernel
theorem dJx9a822_getIntUnaligned_25a47_55 : decode cJx9a822_getIntUnaligned_25a47 55 = .ok (.ladd, 1) := by decide +kernel
theorem dJx9a822_getIntUnaligned_25a47_56 : decode cJx9a822_getIntUnaligned_25a47 56 = .ok (.invokevirtual 39, 3) := by decide +kernel
theorem dJx9a822_getIntUnaligned_25a47_59 : decode cJx9a822_getIntUnaligned_25a47 59 = .ok (.aload_n 0, 1) := by decide +kernel
theorem dJx9a822_getIntUnaligned_25a47_60 : decode cJx9a822_getIntUnaligned_25a47 60 = .ok (.aload_n 1, 1) := by decide +kernel
theorem dJx9a822_getIntUnaligned_25a47_61 : decode cJx9a822_getIntUnaligned_25a47 61 = .ok (.lload_n 2, 1) := by decide +kernel
theorem dJx9a822_getIntUnaligned_25a47_62 : decode cJx9a822_getIntUnaligned_25a47 62 = .ok (.ldc2_w 203, 3) := by decide +kernel
theorem dJx9a822_getIntUnaligned_25a47_65 : decode cJx9a822_getIntUnaligned_25a47 65 = .ok (.ladd, 1) := by decide +kernel
theorem dJx9a822_getIntUnaligned_25a47_66 : decode cJx9a822_getIntUnaligned_25a47 66 = .ok (.invokevirtual 39, 3) := by decide +kernel
theorem dJx9a822_getIntUnaligned_25a47_69 : decode cJx9a822_getIntUnaligned_25a47 69 = .ok (.aload_n 0, 1) := by decide +kernel
theorem dJx9a822_getIntUnaligned_25a47_70 : decode cJx9a822_getIntUnaligned_25a47 70 = .ok (.aload_n 1, 1) := by decide +kernel
theorem dJx9a822_getIntUnaligned_25a47_71 : decode cJx9a822_getIntUnaligned_25a47 71 = .ok (.lload_n 2, 1) := by decide +kernel
theorem dJx9a822_getIntUnaligned_25a47_72 : decode cJx9a822_getIntUnaligned_25a47 72 = .ok (.ldc2_w 349, 3) := by decide +kernel
theorem dJx9a822_getIntUnaligned_25a47_75 : decode cJx9a822_getIntUnaligned_25a47 75 = .ok (.ladd, 1) := by decide +kernel
theorem dJx9a822_getIntUnaligned_25a47_76 : decode cJx9a822_getIntUnaligned_25a47 76 = .ok (.invokevirtual 39, 3) := by decide +kernel
theorem dJx9a822_getIntUnaligned_25a47_79 : decode cJx9a822_getIntUnaligned_25a47 79 = .ok (.invokestatic 723, 3) := by decide +kernel
theorem dJx9a822_getIntUnaligned_25a47_82 : decode cJx9a822_getIntUnaligned_25a47 82 = .ok (.ireturn, 1) := by decide +kernel
theorem dJx9a822_pickPos_7cf53_0 : decode cJx9a822_pickPos_7cf53 0 = .ok (.getstatic 351, 3) := by decide +kernel
theorem dJx9a822_pickPos_7cf53_3 : decode cJx9a822_pickPos_7cf53 3 = .ok (.ifCond .eq 9, 3) := by decide +kernel
theorem dJx9a822_pickPos_7cf53_6 : decode cJx9a822_pickPos_7cf53 6 = .ok (.iload_n 0, 1) := by decide +kernel
theorem dJx9a822_pickPos_7cf53_7 : decode cJx9a822_pickPos_7cf53 7 = .ok (.iload_n 1, 1) := by decide +kernel
theorem dJx9a822_pickPos_7cf53_8 : decode cJx9a822_pickPos_7cf53 8 = .ok (.isub, 1) := by decide +kernel
theorem dJx9a822_pickPos_7cf53_9 : decode cJx9a822_pickPos_7cf53 9 = .ok (.goto 4, 3) := by decide +kernel
theorem dJx9a822_pickPos_7cf53_12 : decode cJx9a822_pickPos_7cf53 12 = .ok (.iload_n 1, 1) := by decide +kernel
theorem dJx9a822_pickPos_7cf53_13 : decode cJx9a822_pickPos_7cf53 13 = .ok (.ireturn, 1) := by decide +kernel
theorem dJx9a822_makeLong_0477f_0 : decode cJx9a822_makeLong_0477f 0 = .ok (.iload_n 0, 1) := by decide +kernel
theorem dJx9a822_makeLong_0477f_1 : decode cJx9a822_makeLong_0477f 1 = .ok (.invokestatic 781, 3) := by decide +kernel
theorem dJx9a822_makeLong_0477f_4 : decode cJx9a822_makeLong_0477f 4 = .ok (.bipush 56, 2) := by decide +kernel
theorem dJx9a822_makeLong_0477f_6 : decode cJx9a822_makeLong_0477f 6 = .ok (.iconst 0, 1) := by decide +kernel
theorem dJx9a822_makeLong_0477f_7 : decode cJx9a822_makeLong_0477f 7 = .ok (.invokestatic 784, 3) := by decide +kernel
theorem dJx9a822_makeLong_0477f_10 : decode cJx9a822_makeLong_0477f 10 = .ok (.lshl, 1) := by decide +kernel
theorem dJx9a822_makeLong_0477f_11 : decode cJx9a822_makeLong_0477f 11 = .ok (.iload_n 1, 1) := by decide +kernel
theorem dJx9a822_makeLong_0477f_12 : decode cJx9a822_makeLong_0477f 12 = .ok (.invokestatic 781, 3) := by decide +kernel
theorem dJx9a822_makeLong_0477f_15 : decode cJx9a822_makeLong_0477f 15 = .ok (.bipush 56, 2) := by decide +kernel
theorem dJx9a822_makeLong_0477f_17 : decode cJx9a822_makeLong_0477f 17 = .ok (.bipush 8, 2) := by decide +kernel
theorem dJx9a822_makeLong_0477f_19 : decode cJx9a822_makeLong_0477f 19 = .ok (.invokestatic 784, 3) := by decide +kernel
theorem dJx9a822_makeLong_0477f_22 : decode cJx9a822_makeLong_0477f 22 = .ok (.lshl, 1) := by decide +kernel
theorem dJx9a822_makeLong_0477f_23 : decode cJx9a822_makeLong_0477f 23 = .ok (.lor, 1) := by decide +kernel
theorem dJx9a822_makeLong_0477f_24 : decode cJx9a822_makeLong_0477f 24 = .ok (.iload_n 2, 1) := by decide +kernel
theorem dJx9a822_makeLong_0477f_25 : decode cJx9a822_makeLong_0477f 25 = .ok (.invokestatic 781, 3) := by decide +kernel
theorem dJx9a822_makeLong_0477f_28 : decode cJx9a822_makeLong_0477f 28 = .ok (.bipush 56, 2) := by decide +kernel
theorem dJx9a822_makeLong_0477f_30 : decode cJx9a822_makeLong_0477f 30 = .ok (.bipush 16, 2) := by decide +kernel
theorem dJx9a822_makeLong_0477f_32 : decode cJx9a822_makeLong_0477f 32 = .ok (.invokestatic 784, 3) := by decide +kernel
theorem dJx9a822_makeLong_0477f_35 : decode cJx9a822_makeLong_0477f 35 = .ok (.lshl, 1) := by decide +kernel
theorem dJx9a822_makeLong_0477f_36 : decode cJx9a822_makeLong_0477f 36 = .ok (.lor, 1) := by decide +kernel
theorem dJx9a822_makeLong_0477f_37 : decode cJx9a822_makeLong_0477f 37 = .ok (.iload_n 3, 1) := by decide +kernel
theorem dJx9a822_makeLong_0477f_38 : decode cJx9a822_makeLong_0477f 38 = .ok (.invokestatic 781, 3) := by decide +kernel
theorem dJx9a822_makeLong_0477f_41 : decode cJx9a822_makeLong_0477f 41 = .ok (.bipush 56, 2) := by decide +kernel
theorem dJx9a822_makeLong_0477f_43 : decode cJx9a822_makeLong_0477f 43 = .ok (.bipush 24, 2) := by decide +kernel
theorem dJx9a822_makeLong_0477f_45 : decode cJx9a822_makeLong_0477f 45 = .ok (.invokestatic 784, 3) := by decide +kernel
theorem dJx9a822_makeLong_0477f_48 : decode cJx9a822_makeLong_0477f 48 = .ok (.lshl, 1) := by decide +kernel
theorem dJx9a822_makeLong_0477f_49 : decode cJx9a822_makeLong_0477f 49 = .ok (.lor, 1) := by decide +kernel
theorem dJx9a822_makeLong_0477f_50 : decode cJx9a822_makeLong_0477f 50 = .ok (.iload 4, 2) := by decide +kernel
theorem dJx9a822_makeLong_0477f_52 : decode cJx9a822_makeLong_0477f 52 = .ok (.invokestatic 781, 3) := by decide +kernel
theorem dJx9a822_makeLong_0477f_55 : decode cJx9a822_makeLong_0477f 55 = .ok (.bipush 56, 2) := by decide +kernel
theorem dJx9a822_makeLong_0477f_57 : decode cJx9a822_makeLong_0477f 57 = .ok (.bipush 32, 2) := by decide +kernel
theorem dJx9a822_makeLong_0477f_59 : decode cJx9a822_makeLong_0477f 59 = .ok (.invokestatic 784, 3) := by decide +kernel
theorem dJx9a822_makeLong_0477f_62 : decode cJx9a822_makeLong_0477f 62 = .ok (.lshl, 1) := by decide +kernel
theorem dJx9a822_makeLong_0477f_63 : decode cJx9a822_makeLong_0477f 63 = .ok (.lor, 1) := by decide +kernel
theorem dJx9a822_makeLong_0477f_64 : decode cJx9a822_makeLong_0477f 64 = .ok (.iload 5, 2) := by decide +kernel
theorem dJx9a822_makeLong_0477f_66 : decode cJx9a822_makeLong_0477f 66 = .ok (.invokestatic 781, 3) := by decide +kernel
theorem dJx9a822_makeLong_0477f_69 : decode cJx9a822_makeLong_0477f 69 = .ok (.bipush 56, 2) := by decide +kernel
theorem dJx9a822_makeLong_0477f_71 : decode cJx9a822_makeLong_0477f 71 = .ok (.bipush 40, 2) := by decide +kernel
theorem dJx9a822_makeLong_0477f_73 : decode cJx9a822_makeLong_0477f 73 = .ok (.invokestatic 784, 3) := by decide +kernel
theorem dJx9a822_makeLong_0477f_76 : decode cJx9a822_makeLong_0477f 76 = .ok (.lshl, 1) := by decide +kernel
theorem dJx9a822_makeLong_0477f_77 : decode cJx9a822_makeLong_0477f 77 = .ok (.lor, 1) := by decide +kernel
theorem dJx9a822_makeLong_0477f_78 : decode cJx9a822_makeLong_0477f 78 = .ok (.iload 6, 2) := by decide +kernel
theorem dJx9a822_makeLong_0477f_80 : decode cJx9a822_makeLong_0477f 80 = .ok (.invokestatic 781, 3) := by decide +kernel
theorem dJx9a822_makeLong_0477f_83 : decode cJx9a822_makeLong_0477f 83 = .ok (.bipush 56, 2) := by decide +kernel
theorem dJx9a822_makeLong_0477f_85 : decode cJx9a822_makeLong_0477f 85 = .ok (.bipush 48, 2) := by decide +kernel
theorem dJx9a822_makeLong_0477f_87 : decode cJx9a822_makeLong_0477f 87 = .ok (.invokestatic 784, 3) := by decide +kernel
theorem dJx9a822_makeLong_0477f_90 : decode cJx9a822_makeLong_0477f 90 = .ok (.lshl, 1) := by decide +kernel
theorem dJx9a822_makeLong_0477f_91 : decode cJx9a822_makeLong_0477f 91 = .ok (.lor, 1) := by decide +kernel
theorem dJx9a822_makeLong_0477f_92 : decode cJx9a822_makeLong_0477f 92 = .ok (.iload 7, 2) := by decide +kernel
theorem dJx9a822_makeLong_0477f_94 : decode cJx9a822_makeLong_0477f 94 = .ok (.invokestatic 781, 3) := by decide +kernel
theorem dJx9a822_makeLong_0477f_97 : decode cJx9a822_makeLong_0477f 97 = .ok (.bipush 56, 2) := by decide +kernel
theorem dJx9a822_makeLong_0477f_99 : decode cJx9a822_makeLong_0477f 99 = .ok (.bipush 56, 2) := by decide +kernel
theorem dJx9a822_makeLong_0477f_101 : decode cJx9a822_makeLong_0477f 101 = .ok (.invokestatic 784, 3) := by decide +kernel
theorem dJx9a822_makeLong_0477f_104 : decode cJx9a822_makeLong_0477f 104 = .ok (.lshl, 1) := by decide +kernel
theorem dJx9a822_makeLong_0477f_105 : decode cJx9a822_makeLong_0477f 105 = .ok (.lor, 1) := by decide +kernel
theorem dJx9a822_makeLong_0477f_106 : decode cJx9a822_makeLong_0477f 106 = .ok (.lreturn, 1) := by decide +kernel
theorem dJx9a822_makeLong_4b46d_0 : decode cJx9a822_makeLong_4b46d 0 = .ok (.iload_n 0, 1) := by decide +kernel
theorem dJx9a822_makeLong_4b46d_1 : decode cJx9a822_makeLong_4b46d 1 = .ok (.invokestatic 788, 3) := by decide +kernel
theorem dJx9a822_makeLong_4b46d_4 : decode cJx9a822_makeLong_4b46d 4 = .ok (.bipush 48, 2) := by decide +kernel
theorem dJx9a822_makeLong_4b46d_6 : decode cJx9a822_makeLong_4b46d 6 = .ok (.iconst 0, 1) := by decide +kernel
theorem dJx9a822_makeLong_4b46d_7 : decode cJx9a822_makeLong_4b46d 7 = .ok (.invokestatic 784, 3) := by decide +kernel
theorem dJx9a822_makeLong_4b46d_10 : decode cJx9a822_makeLong_4b46d 10 = .ok (.lshl, 1) := by decide +kernel
theorem dJx9a822_makeLong_4b46d_11 : decode cJx9a822_makeLong_4b46d 11 = .ok (.iload_n 1, 1) := by decide +kernel
theorem dJx9a822_makeLong_4b46d_12 : decode cJx9a822_makeLong_4b46d 12 = .ok (.invokestatic 788, 3) := by decide +kernel
theorem dJx9a822_makeLong_4b46d_15 : decode cJx9a822_makeLong_4b46d 15 = .ok (.bipush 48, 2) := by decide +kernel
theorem dJx9a822_makeLong_4b46d_17 : decode cJx9a822_makeLong_4b46d 17 = .ok (.bipush 16, 2) := by decide +kernel
theorem dJx9a822_makeLong_4b46d_19 : decode cJx9a822_makeLong_4b46d 19 = .ok (.invokestatic 784, 3) := by decide +kernel
theorem dJx9a822_makeLong_4b46d_22 : decode cJx9a822_makeLong_4b46d 22 = .ok (.lshl, 1) := by decide +kernel
theorem dJx9a822_makeLong_4b46d_23 : decode cJx9a822_makeLong_4b46d 23 = .ok (.lor, 1) := by decide +kernel
theorem dJx9a822_makeLong_4b46d_24 : decode cJx9a822_makeLong_4b46d 24 = .ok (.iload_n 2, 1) := by decide +kernel
theorem dJx9a822_makeLong_4b46d_25 : decode cJx9a822_makeLong_4b46d 25 = .ok (.invokestatic 788, 3) := by decide +kernel
theorem dJx9a822_makeLong_4b46d_28 : decode cJx9a822_makeLong_4b46d 28 = .ok (.bipush 48, 2) := by decide +kernel
theorem dJx9a822_makeLong_4b46d_30 : decode cJx9a822_makeLong_4b46d 30 = .ok (.bipush 32, 2) := by decide +kernel
theorem dJx9a822_makeLong_4b46d_32 : decode cJx9a822_makeLong_4b46d 32 = .ok (.invokestatic 784, 3) := by decide +kernel
theorem dJx9a822_makeLong_4b46d_35 : decode cJx9a822_makeLong_4b46d 35 = .ok (.lshl, 1) := by decide +kernel
theorem dJx9a822_makeLong_4b46d_36 : decode cJx9a822_makeLong_4b46d 36 = .ok (.lor, 1) := by decide +kernel
theorem dJx9a822_makeLong_4b46d_37 : decode cJx9a822_makeLong_4b46d 37 = .ok (.iload_n 3, 1) := by decide +kernel
theorem dJx9a822_makeLong_4b46d_38 : decode cJx9a822_makeLong_4b46d 38 = .ok (.invokestatic 788, 3) := by decide +kernel
theorem dJx9a822_makeLong_4b46d_41 : decode cJx9a822_makeLong_4b46d 41 = .ok (.bipush 48, 2) := by decide +kernel
theorem dJx9a822_makeLong_4b46d_43 : decode cJx9a822_makeLong_4b46d 43 = .ok (.bipush 48, 2) := by decide +kernel
theorem dJx9a822_makeLong_4b46d_45 : decode cJx9a822_makeLong_4b46d 45 = .ok (.invokestatic 784, 3) := by decide +kernel
theorem dJx9a822_makeLong_4b46d_48 : decode cJx9a822_makeLong_4b46d 48 = .ok (.lshl, 1) := by decide +kernel
theorem dJx9a822_makeLong_4b46d_49 : decode cJx9a822_makeLong_4b46d 49 = .ok (.lor, 1) := by decide +kernel
theorem dJx9a822_makeLong_4b46d_50 : decode cJx9a822_makeLong_4b46d 50 = .ok (.lreturn, 1) := by decide +kernel
theorem dJx9a822_makeLong_a216e_0 : decode cJx9a822_makeLong_a216e 0 = .ok (.iload_n 0, 1) := by decide +kernel
theorem dJx9a822_makeLong_a216e_1 : decode cJx9a822_makeLong_a216e 1 = .ok (.invokestatic 791, 3) := by decide +kernel
theorem dJx9a822_makeLong_a216e_4 : decode cJx9a822_makeLong_a216e 4 = .ok (.bipush 32, 2) := by decide +kernel
theorem dJx9a822_makeLong_a216e_6 : decode cJx9a822_makeLong_a216e 6 = .ok (.iconst 0, 1) := by decide +kernel
theorem dJx9a822_makeLong_a216e_7 : decode cJx9a822_makeLong_a216e 7 = .ok (.invokestatic 784, 3) := by decide +kernel
theorem dJx9a822_makeLong_a216e_10 : decode cJx9a822_makeLong_a216e 10 = .ok (.lshl, 1) := by decide +kernel
theorem dJx9a822_makeLong_a216e_11 : decode cJx9a822_makeLong_a216e 11 = .ok (.iload_n 1, 1) := by decide +kernel
theorem dJx9a822_makeLong_a216e_12 : decode cJx9a822_makeLong_a216e 12 = .ok (.invokestatic 791, 3) := by decide +kernel
theorem dJx9a822_makeLong_a216e_15 : decode cJx9a822_makeLong_a216e 15 = .ok (.bipush 32, 2) := by decide +kernel
theorem dJx9a822_makeLong_a216e_17 : decode cJx9a822_makeLong_a216e 17 = .ok (.bipush 32, 2) := by decide +kernel
theorem dJx9a822_makeLong_a216e_19 : decode cJx9a822_makeLong_a216e 19 = .ok (.invokestatic 784, 3) := by decide +kernel
theorem dJx9a822_makeLong_a216e_22 : decode cJx9a822_makeLong_a216e 22 = .ok (.lshl, 1) := by decide +kernel
theorem dJx9a822_makeLong_a216e_23 : decode cJx9a822_makeLong_a216e 23 = .ok (.lor, 1) := by decide +kernel
theorem dJx9a822_makeLong_a216e_24 : decode cJx9a822_makeLong_a216e 24 = .ok (.lreturn, 1) := by decide +kernel
theorem dJx9a822_makeInt_4e28c_0 : decode cJx9a822_makeInt_4e28c 0 = .ok (.iload_n 0, 1) := by decide +kernel
theorem dJx9a822_makeInt_4e28c_1 : decode cJx9a822_makeInt_4e28c 1 = .ok (.invokestatic 792, 3) := by decide +kernel
theorem dJx9a822_makeInt_4e28c_4 : decode cJx9a822_makeInt_4e28c 4 = .ok (.bipush 16, 2) := by decide +kernel
theorem dJx9a822_makeInt_4e28c_6 : decode cJx9a822_makeInt_4e28c 6 = .ok (.iconst 0, 1) := by decide +kernel
theorem dJx9a822_makeInt_4e28c_7 : decode cJx9a822_makeInt_4e28c 7 = .ok (.invokestatic 784, 3) := by decide +kernel
theorem dJx9a822_makeInt_4e28c_10 : decode cJx9a822_makeInt_4e28c 10 = .ok (.ishl, 1) := by decide +kernel
theorem dJx9a822_makeInt_4e28c_11 : decode cJx9a822_makeInt_4e28c 11 = .ok (.iload_n 1, 1) := by decide +kernel
theorem dJx9a822_makeInt_4e28c_12 : decode cJx9a822_makeInt_4e28c 12 = .ok (.invokestatic 792, 3) := by decide +kernel
theorem dJx9a822_makeInt_4e28c_15 : decode cJx9a822_makeInt_4e28c 15 = .ok (.bipush 16, 2) := by decide +kernel
theorem dJx9a822_makeInt_4e28c_17 : decode cJx9a822_makeInt_4e28c 17 = .ok (.bipush 16, 2) := by decide +kernel
theorem dJx9a822_makeInt_4e28c_19 : decode cJx9a822_makeInt_4e28c 19 = .ok (.invokestatic 784, 3) := by decide +kernel
theorem dJx9a822_makeInt_4e28c_22 : decode cJx9a822_makeInt_4e28c 22 = .ok (.ishl, 1) := by decide +kernel
theorem dJx9a822_makeInt_4e28c_23 : decode cJx9a822_makeInt_4e28c 23 = .ok (.ior, 1) := by decide +kernel
theorem dJx9a822_makeInt_4e28c_24 : decode cJx9a822_makeInt_4e28c 24 = .ok (.ireturn, 1) := by decide +kernel
theorem dJx9a822_makeInt_86272_0 : decode cJx9a822_makeInt_86272 0 = .ok (.iload_n 0, 1) := by decide +kernel
theorem dJx9a822_makeInt_86272_1 : decode cJx9a822_makeInt_86272 1 = .ok (.invokestatic 796, 3) := by decide +kernel
theorem dJx9a822_makeInt_86272_4 : decode cJx9a822_makeInt_86272 4 = .ok (.bipush 24, 2) := by decide +kernel
theorem dJx9a822_makeInt_86272_6 : decode cJx9a822_makeInt_86272 6 = .ok (.iconst 0, 1) := by decide +kernel
theorem dJx9a822_makeInt_86272_7 : decode cJx9a822_makeInt_86272 7 = .ok (.invokestatic 784, 3) := by decide +kernel
theorem dJx9a822_makeInt_86272_10 : decode cJx9a822_makeInt_86272 10 = .ok (.ishl, 1) := by decide +kernel
theorem dJx9a822_makeInt_86272_11 : decode cJx9a822_makeInt_86272 11 = .ok (.iload_n 1, 1) := by decide +kernel
theorem dJx9a822_makeInt_86272_12 : decode cJx9a822_makeInt_86272 12 = .ok (.invokestatic 796, 3) := by decide +kernel
theorem dJx9a822_makeInt_86272_15 : decode cJx9a822_makeInt_86272 15 = .ok (.bipush 24, 2) := by decide +kernel
theorem dJx9a822_makeInt_86272_17 : decode cJx9a822_makeInt_86272 17 = .ok (.bipush 8, 2) := by decide +kernel
theorem dJx9a822_makeInt_86272_19 : decode cJx9a822_makeInt_86272 19 = .ok (.invokestatic 784, 3) := by decide +kernel
theorem dJx9a822_makeInt_86272_22 : decode cJx9a822_makeInt_86272 22 = .ok (.ishl, 1) := by decide +kernel
theorem dJx9a822_makeInt_86272_23 : decode cJx9a822_makeInt_86272 23 = .ok (.ior, 1) := by decide +kernel
theorem dJx9a822_makeInt_86272_24 : decode cJx9a822_makeInt_86272 24 = .ok (.iload_n 2, 1) := by decide +kernel
theorem dJx9a822_makeInt_86272_25 : decode cJx9a822_makeInt_86272 25 = .ok (.invokestatic 796, 3) := by decide +kernel
theorem dJx9a822_makeInt_86272_28 : decode cJx9a822_makeInt_86272 28 = .ok (.bipush 24, 2) := by decide +kernel
theorem dJx9a822_makeInt_86272_30 : decode cJx9a822_makeInt_86272 30 = .ok (.bipush 16, 2) := by decide +kernel
theorem dJx9a822_makeInt_86272_32 : decode cJx9a822_makeInt_86272 32 = .ok (.invokestatic 784, 3) := by decide +kernel
theorem dJx9a822_makeInt_86272_35 : decode cJx9a822_makeInt_86272 35 = .ok (.ishl, 1) := by decide +kernel
theorem dJx9a822_makeInt_86272_36 : decode cJx9a822_makeInt_86272 36 = .ok (.ior, 1) := by decide +kernel
theorem dJx9a822_makeInt_86272_37 : decode cJx9a822_makeInt_86272 37 = .ok (.iload_n 3, 1) := by decide +kernel
theorem dJx9a822_makeInt_86272_38 : decode cJx9a822_makeInt_86272 38 = .ok (.invokestatic 796, 3) := by decide +kernel
theorem dJx9a822_makeInt_86272_41 : decode cJx9a822_makeInt_86272 41 = .ok (.bipush 24, 2) := by decide +kernel
theorem dJx9a822_makeInt_86272_43 : decode cJx9a822_makeInt_86272 43 = .ok (.bipush 24, 2) := by decide +kernel
theorem dJx9a822_makeInt_86272_45 : decode cJx9a822_makeInt_86272 45 = .ok (.invokestatic 784, 3) := by decide +kernel
theorem dJx9a822_makeInt_86272_48 : decode cJx9a822_makeInt_86272 48 = .ok (.ishl, 1) := by decide +kernel
theorem dJx9a822_makeInt_86272_49 : decode cJx9a822_makeInt_86272 49 = .ok (.ior, 1) := by decide +kernel
theorem dJx9a822_makeInt_86272_50 : decode cJx9a822_makeInt_86272 50 = .ok (.ireturn, 1) := by decide +kernel
theorem dJx9a822_toUnsignedInt_4d018_0 : decode cJx9a822_toUnsignedInt_4d018 0 = .ok (.iload_n 0, 1) := by decide +kernel
theorem dJx9a822_toUnsignedInt_4d018_1 : decode cJx9a822_toUnsignedInt_4d018 1 = .ok (.sipush 255, 3) := by decide +kernel
theorem dJx9a822_toUnsignedInt_4d018_4 : decode cJx9a822_toUnsignedInt_4d018 4 = .ok (.iand, 1) := by decide +kernel
theorem dJx9a822_toUnsignedInt_4d018_5 : decode cJx9a822_toUnsignedInt_4d018 5 = .ok (.ireturn, 1) := by decide +kernel
theorem dJx9a822_toUnsignedInt_f1ed4_0 : decode cJx9a822_toUnsignedInt_f1ed4 0 = .ok (.iload_n 0, 1) := by decide +kernel
theorem dJx9a822_toUnsignedInt_f1ed4_1 : decode cJx9a822_toUnsignedInt_f1ed4 1 = .ok (.ldc_w 374, 3) := by decide +kernel
theorem dJx9a822_toUnsignedInt_f1ed4_4 : decode cJx9a822_toUnsignedInt_f1ed4 4 = .ok (.iand, 1) := by decide +kernel
theorem dJx9a822_toUnsignedInt_f1ed4_5 : decode cJx9a822_toUnsignedInt_f1ed4 5 = .ok (.ireturn, 1) := by decide +kernel
theorem dJx9a822_toUnsignedLong_c5be9_0 : decode cJx9a822_toUnsignedLong_c5be9 0 = .ok (.iload_n 0, 1) := by decide +kernel
theorem dJx9a822_toUnsignedLong_c5be9_1 : decode cJx9a822_toUnsignedLong_c5be9 1 = .ok (.i2l, 1) := by decide +kernel
theorem dJx9a822_toUnsignedLong_c5be9_2 : decode cJx9a822_toUnsignedLong_c5be9 2 = .ok (.ldc2_w 808, 3) := by decide +kernel
theorem dJx9a822_toUnsignedLong_c5be9_5 : decode cJx9a822_toUnsignedLong_c5be9 5 = .ok (.land, 1) := by decide +kernel
theorem dJx9a822_toUnsignedLong_c5be9_6 : decode cJx9a822_toUnsignedLong_c5be9 6 = .ok (.lreturn, 1) := by decide +kernel
theorem dJx9a822_toUnsignedLong_51cfc_0 : decode cJx9a822_toUnsignedLong_51cfc 0 = .ok (.iload_n 0, 1) := by decide +kernel
theorem dJx9a822_toUnsignedLong_51cfc_1 : decode cJx9a822_toUnsignedLong_51cfc 1 = .ok (.i2l, 1) := by decide +kernel
theorem dJx9a822_toUnsignedLong_51cfc_2 : decode cJx9a822_toUnsignedLong_51cfc 2 = .ok (.ldc2_w 810, 3) := by decide +kernel
theorem dJx9a822_toUnsignedLong_51cfc_5 : decode cJx9a822_toUnsignedLong_51cfc 5 = .ok (.land, 1) := by decide +kernel
theorem dJx9a822_toUnsignedLong_51cfc_6 : decode cJx9a822_toUnsignedLong_51cfc 6 = .ok (.lreturn, 1) := by decide +kernel
theorem dJx9a822_toUnsignedLong_3e8ac_0 : decode cJx9a822_toUnsignedLong_3e8ac 0 = .ok (.iload_n 0, 1) := by decide +kernel
theorem dJx9a822_toUnsignedLong_3e8ac_1 : decode cJx9a822_toUnsignedLong_3e8ac 1 = .ok (.i2l, 1) := by decide +kernel
theorem dJx9a822_toUnsignedLong_3e8ac_2 : decode cJx9a822_toUnsignedLong_3e8ac 2 = .ok (.ldc2_w 812, 3) := by decide +kernel
theorem dJx9a822_toUnsignedLong_3e8ac_5 : decode cJx9a822_toUnsignedLong_3e8ac 5 = .ok (.land, 1) := by decide +kernel
theorem dJx9a822_toUnsignedLong_3e8ac_6 : decode cJx9a822_toUnsignedLong_3e8ac 6 = .ok (.lreturn, 1) := by decide +kernel
theorem dJ8_vectorizedMismatch_456ae_0 : decode cJ8_vectorizedMismatch_456ae 0 = .ok (.getstatic 20, 3) := by decide +kernel
theorem dJ8_vectorizedMismatch_456ae_3 : decode cJ8_vectorizedMismatch_456ae 3 = .ok (.iload 7, 2) := by decide +kernel
theorem dJ8_vectorizedMismatch_456ae_5 : decode cJ8_vectorizedMismatch_456ae 5 = .ok (.isub, 1) := by decide +kernel
theorem dJ8_vectorizedMismatch_456ae_6 : decode cJ8_vectorizedMismatch_456ae 6 = .ok (.istore 8, 2) := by decide +kernel
theorem dJ8_vectorizedMismatch_456ae_8 : decode cJ8_vectorizedMismatch_456ae 8 = .ok (.iconst 0, 1) := by decide +kernel
theorem dJ8_vectorizedMismatch_456ae_9 : decode cJ8_vectorizedMismatch_456ae 9 = .ok (.istore 9, 2) := by decide +kernel
theorem dJ8_vectorizedMismatch_456ae_11 : decode cJ8_vectorizedMismatch_456ae 11 = .ok (.iload 9, 2) := by decide +kernel
theorem dJ8_vectorizedMismatch_456ae_13 : decode cJ8_vectorizedMismatch_456ae 13 = .ok (.iload 6, 2) := by decide +kernel
theorem dJ8_vectorizedMismatch_456ae_15 : decode cJ8_vectorizedMismatch_456ae 15 = .ok (.iload 8, 2) := by decide +kernel
theorem dJ8_vectorizedMismatch_456ae_17 : decode cJ8_vectorizedMismatch_456ae 17 = .ok (.ishr, 1) := by decide +kernel
theorem dJ8_vectorizedMismatch_456ae_18 : decode cJ8_vectorizedMismatch_456ae 18 = .ok (.if_icmp .ge 104, 3) := by decide +kernel
theorem dJ8_vectorizedMismatch_456ae_21 : decode cJ8_vectorizedMismatch_456ae 21 = .ok (.iload 9, 2) := by decide +kernel
theorem dJ8_vectorizedMismatch_456ae_23 : decode cJ8_vectorizedMismatch_456ae 23 = .ok (.i2l, 1) := by decide +kernel
theorem dJ8_vectorizedMismatch_456ae_24 : decode cJ8_vectorizedMismatch_456ae 24 = .ok (.getstatic 20, 3) := by decide +kernel
theorem dJ8_vectorizedMismatch_456ae_27 : decode cJ8_vectorizedMismatch_456ae 27 = .ok (.lshl, 1) := by decide +kernel
theorem dJ8_vectorizedMismatch_456ae_28 : decode cJ8_vectorizedMismatch_456ae 28 = .ok (.lstore 10, 2) := by decide +kernel
theorem dJ8_vectorizedMismatch_456ae_30 : decode cJ8_vectorizedMismatch_456ae 30 = .ok (.getstatic 26, 3) := by decide +kernel
theorem dJ8_vectorizedMismatch_456ae_33 : decode cJ8_vectorizedMismatch_456ae 33 = .ok (.aload_n 0, 1) := by decide +kernel
theorem dJ8_vectorizedMismatch_456ae_34 : decode cJ8_vectorizedMismatch_456ae 34 = .ok (.lload_n 1, 1) := by decide +kernel
theorem dJ8_vectorizedMismatch_456ae_35 : decode cJ8_vectorizedMismatch_456ae 35 = .ok (.lload 10, 2) := by decide +kernel
theorem dJ8_vectorizedMismatch_456ae_37 : decode cJ8_vectorizedMismatch_456ae 37 = .ok (.ladd, 1) := by decide +kernel
theorem dJ8_vectorizedMismatch_456ae_38 : decode cJ8_vectorizedMismatch_456ae 38 = .ok (.invokevirtual 30, 3) := by decide +kernel
theorem dJ8_vectorizedMismatch_456ae_41 : decode cJ8_vectorizedMismatch_456ae 41 = .ok (.lstore 12, 2) := by decide +kernel
theorem dJ8_vectorizedMismatch_456ae_43 : decode cJ8_vectorizedMismatch_456ae 43 = .ok (.getstatic 26, 3) := by decide +kernel
theorem dJ8_vectorizedMismatch_456ae_46 : decode cJ8_vectorizedMismatch_456ae 46 = .ok (.aload_n 3, 1) := by decide +kernel
theorem dJ8_vectorizedMismatch_456ae_47 : decode cJ8_vectorizedMismatch_456ae 47 = .ok (.lload 4, 2) := by decide +kernel
theorem dJ8_vectorizedMismatch_456ae_49 : decode cJ8_vectorizedMismatch_456ae 49 = .ok (.lload 10, 2) := by decide +kernel
theorem dJ8_vectorizedMismatch_456ae_51 : decode cJ8_vectorizedMismatch_456ae 51 = .ok (.ladd, 1) := by decide +kernel
theorem dJ8_vectorizedMismatch_456ae_52 : decode cJ8_vectorizedMismatch_456ae 52 = .ok (.invokevirtual 30, 3) := by decide +kernel
theorem dJ8_vectorizedMismatch_456ae_55 : decode cJ8_vectorizedMismatch_456ae 55 = .ok (.lstore 14, 2) := by decide +kernel
theorem dJ8_vectorizedMismatch_456ae_57 : decode cJ8_vectorizedMismatch_456ae 57 = .ok (.lload 12, 2) := by decide +kernel
theorem dJ8_vectorizedMismatch_456ae_59 : decode cJ8_vectorizedMismatch_456ae 59 = .ok (.lload 14, 2) := by decide +kernel
theorem dJ8_vectorizedMismatch_456ae_61 : decode cJ8_vectorizedMismatch_456ae 61 = .ok (.lcmp, 1) := by decide +kernel
theorem dJ8_vectorizedMismatch_456ae_62 : decode cJ8_vectorizedMismatch_456ae 62 = .ok (.ifCond .eq 54, 3) := by decide +kernel
theorem dJ8_vectorizedMismatch_456ae_65 : decode cJ8_vectorizedMismatch_456ae 65 = .ok (.lload 12, 2) := by decide +kernel
theorem dJ8_vectorizedMismatch_456ae_67 : decode cJ8_vectorizedMismatch_456ae 67 = .ok (.lload 14, 2) := by decide +kernel
theorem dJ8_vectorizedMismatch_456ae_69 : decode cJ8_vectorizedMismatch_456ae 69 = .ok (.lxor, 1) := by decide +kernel
theorem dJ8_vectorizedMismatch_456ae_70 : decode cJ8_vectorizedMismatch_456ae 70 = .ok (.lstore 16, 2) := by decide +kernel
theorem dJ8_vectorizedMismatch_456ae_72 : decode cJ8_vectorizedMismatch_456ae 72 = .ok (.getstatic 36, 3) := by decide +kernel
theorem dJ8_vectorizedMismatch_456ae_75 : decode cJ8_vectorizedMismatch_456ae 75 = .ok (.ifCond .eq 18, 3) := by decide +kernel
theorem dJ8_vectorizedMismatch_456ae_78 : decode cJ8_vectorizedMismatch_456ae 78 = .ok (.lload 16, 2) := by decide +kernel
theorem dJ8_vectorizedMismatch_456ae_80 : decode cJ8_vectorizedMismatch_456ae 80 = .ok (.invokestatic 40, 3) := by decide +kernel
theorem dJ8_vectorizedMismatch_456ae_83 : decode cJ8_vectorizedMismatch_456ae 83 = .ok (.getstatic 46, 3) := by decide +kernel
theorem dJ8_vectorizedMismatch_456ae_86 : decode cJ8_vectorizedMismatch_456ae 86 = .ok (.iload 7, 2) := by decide +kernel
theorem dJ8_vectorizedMismatch_456ae_88 : decode cJ8_vectorizedMismatch_456ae 88 = .ok (.iadd, 1) := by decide +kernel
theorem dJ8_vectorizedMismatch_456ae_89 : decode cJ8_vectorizedMismatch_456ae 89 = .ok (.ishr, 1) := by decide +kernel
theorem dJ8_vectorizedMismatch_456ae_90 : decode cJ8_vectorizedMismatch_456ae 90 = .ok (.goto 15, 3) := by decide +kernel
theorem dJ8_vectorizedMismatch_456ae_93 : decode cJ8_vectorizedMismatch_456ae 93 = .ok (.lload 16, 2) := by decide +kernel
theorem dJ8_vectorizedMismatch_456ae_95 : decode cJ8_vectorizedMismatch_456ae 95 = .ok (.invokestatic 49, 3) := by decide +kernel
theorem dJ8_vectorizedMismatch_456ae_98 : decode cJ8_vectorizedMismatch_456ae 98 = .ok (.getstatic 46, 3) := by decide +kernel
theorem dJ8_vectorizedMismatch_456ae_101 : decode cJ8_vectorizedMismatch_456ae 101 = .ok (.iload 7, 2) := by decide +kernel
theorem dJ8_vectorizedMismatch_456ae_103 : decode cJ8_vectorizedMismatch_456ae 103 = .ok (.iadd, 1) := by decide +kernel
theorem dJ8_vectorizedMismatch_456ae_104 : decode cJ8_vectorizedMismatch_456ae 104 = .ok (.ishr, 1) := by decide +kernel
theorem dJ8_vectorizedMismatch_456ae_105 : decode cJ8_vectorizedMismatch_456ae 105 = .ok (.istore 18, 2) := by decide +kernel
theorem dJ8_vectorizedMismatch_456ae_107 : decode cJ8_vectorizedMismatch_456ae 107 = .ok (.iload 9, 2) := by decide +kernel
theorem dJ8_vectorizedMismatch_456ae_109 : decode cJ8_vectorizedMismatch_456ae 109 = .ok (.iload 8, 2) := by decide +kernel
theorem dJ8_vectorizedMismatch_456ae_111 : decode cJ8_vectorizedMismatch_456ae 111 = .ok (.ishl, 1) := by decide +kernel
theorem dJ8_vectorizedMismatch_456ae_112 : decode cJ8_vectorizedMismatch_456ae 112 = .ok (.iload 18, 2) := by decide +kernel
theorem dJ8_vectorizedMismatch_456ae_114 : decode cJ8_vectorizedMismatch_456ae 114 = .ok (.iadd, 1) := by decide +kernel
theorem dJ8_vectorizedMismatch_456ae_115 : decode cJ8_vectorizedMismatch_456ae 115 = .ok (.ireturn, 1) := by decide +kernel
theorem dJ8_vectorizedMismatch_456ae_116 : decode cJ8_vectorizedMismatch_456ae 116 = .ok (.iinc 9 1, 3) := by decide +kernel
theorem dJ8_vectorizedMismatch_456ae_119 : decode cJ8_vectorizedMismatch_456ae 119 = .ok (.goto (-108), 3) := by decide +kernel
theorem dJ8_vectorizedMismatch_456ae_122 : decode cJ8_vectorizedMismatch_456ae 122 = .ok (.iload 6, 2) := by decide +kernel
theorem dJ8_vectorizedMismatch_456ae_124 : decode cJ8_vectorizedMismatch_456ae 124 = .ok (.iload 9, 2) := by decide +kernel
theorem dJ8_vectorizedMismatch_456ae_126 : decode cJ8_vectorizedMismatch_456ae 126 = .ok (.iload 8, 2) := by decide +kernel
theorem dJ8_vectorizedMismatch_456ae_128 : decode cJ8_vectorizedMismatch_456ae 128 = .ok (.ishl, 1) := by decide +kernel
theorem dJ8_vectorizedMismatch_456ae_129 : decode cJ8_vectorizedMismatch_456ae 129 = .ok (.isub, 1) := by decide +kernel
theorem dJ8_vectorizedMismatch_456ae_130 : decode cJ8_vectorizedMismatch_456ae 130 = .ok (.istore 10, 2) := by decide +kernel
theorem dJ8_vectorizedMismatch_456ae_132 : decode cJ8_vectorizedMismatch_456ae 132 = .ok (.iload 7, 2) := by decide +kernel
theorem dJ8_vectorizedMismatch_456ae_134 : decode cJ8_vectorizedMismatch_456ae 134 = .ok (.getstatic 51, 3) := by decide +kernel
theorem dJ8_vectorizedMismatch_456ae_137 : decode cJ8_vectorizedMismatch_456ae 137 = .ok (.if_icmp .ge 126, 3) := by decide +kernel
theorem dJ8_vectorizedMismatch_456ae_140 : decode cJ8_vectorizedMismatch_456ae 140 = .ok (.iconst 1, 1) := by decide +kernel
theorem dJ8_vectorizedMismatch_456ae_141 : decode cJ8_vectorizedMismatch_456ae 141 = .ok (.getstatic 51, 3) := by decide +kernel
theorem dJ8_vectorizedMismatch_456ae_144 : decode cJ8_vectorizedMismatch_456ae 144 = .ok (.iload 7, 2) := by decide +kernel
theorem dJ8_vectorizedMismatch_456ae_146 : decode cJ8_vectorizedMismatch_456ae 146 = .ok (.isub, 1) := by decide +kernel
theorem dJ8_vectorizedMismatch_456ae_147 : decode cJ8_vectorizedMismatch_456ae 147 = .ok (.ishl, 1) := by decide +kernel
theorem dJ8_vectorizedMismatch_456ae_148 : decode cJ8_vectorizedMismatch_456ae 148 = .ok (.istore 11, 2) := by decide +kernel
theorem dJ8_vectorizedMismatch_456ae_150 : decode cJ8_vectorizedMismatch_456ae 150 = .ok (.iload 10, 2) := by decide +kernel
theorem dJ8_vectorizedMismatch_456ae_152 : decode cJ8_vectorizedMismatch_456ae 152 = .ok (.iload 11, 2) := by decide +kernel
theorem dJ8_vectorizedMismatch_456ae_154 : decode cJ8_vectorizedMismatch_456ae 154 = .ok (.if_icmp .lt 104, 3) := by decide +kernel
theorem dJ8_vectorizedMismatch_456ae_157 : decode cJ8_vectorizedMismatch_456ae 157 = .ok (.iload 9, 2) := by decide +kernel
theorem dJ8_vectorizedMismatch_456ae_159 : decode cJ8_vectorizedMismatch_456ae 159 = .ok (.i2l, 1) := by decide +kernel
theorem dJ8_vectorizedMismatch_456ae_160 : decode cJ8_vectorizedMismatch_456ae 160 = .ok (.getstatic 20, 3) := by decide +kernel
theorem dJ8_vectorizedMismatch_456ae_163 : decode cJ8_vectorizedMismatch_456ae 163 = .ok (.lshl, 1) := by decide +kernel
theorem dJ8_vectorizedMismatch_456ae_164 : decode cJ8_vectorizedMismatch_456ae 164 = .ok (.lstore 12, 2) := by decide +kernel
theorem dJ8_vectorizedMismatch_456ae_166 : decode cJ8_vectorizedMismatch_456ae 166 = .ok (.getstatic 26, 3) := by decide +kernel
theorem dJ8_vectorizedMismatch_456ae_169 : decode cJ8_vectorizedMismatch_456ae 169 = .ok (.aload_n 0, 1) := by decide +kernel
theorem dJ8_vectorizedMismatch_456ae_170 : decode cJ8_vectorizedMismatch_456ae 170 = .ok (.lload_n 1, 1) := by decide +kernel
theorem dJ8_vectorizedMismatch_456ae_171 : decode cJ8_vectorizedMismatch_456ae 171 = .ok (.lload 12, 2) := by decide +kernel
theorem dJ8_vectorizedMismatch_456ae_173 : decode cJ8_vectorizedMismatch_456ae 173 = .ok (.ladd, 1) := by decide +kernel
theorem dJ8_vectorizedMismatch_456ae_174 : decode cJ8_vectorizedMismatch_456ae 174 = .ok (.invokevirtual 54, 3) := by decide +kernel
theorem dJ8_vectorizedMismatch_456ae_177 : decode cJ8_vectorizedMismatch_456ae 177 = .ok (.istore 14, 2) := by decide +kernel
theorem dJ8_vectorizedMismatch_456ae_179 : decode cJ8_vectorizedMismatch_456ae 179 = .ok (.getstatic 26, 3) := by decide +kernel
theorem dJ8_vectorizedMismatch_456ae_182 : decode cJ8_vectorizedMismatch_456ae 182 = .ok (.aload_n 3, 1) := by decide +kernel
theorem dJ8_vectorizedMismatch_456ae_183 : decode cJ8_vectorizedMismatch_456ae 183 = .ok (.lload 4, 2) := by decide +kernel
theorem dJ8_vectorizedMismatch_456ae_185 : decode cJ8_vectorizedMismatch_456ae 185 = .ok (.lload 12, 2) := by decide +kernel
theorem dJ8_vectorizedMismatch_456ae_187 : decode cJ8_vectorizedMismatch_456ae 187 = .ok (.ladd, 1) := by decide +kernel
theorem dJ8_vectorizedMismatch_456ae_188 : decode cJ8_vectorizedMismatch_456ae 188 = .ok (.invokevirtual 54, 3) := by decide +kernel
theorem dJ8_vectorizedMismatch_456ae_191 : decode cJ8_vectorizedMismatch_456ae 191 = .ok (.istore 15, 2) := by decide +kernel
theorem dJ8_vectorizedMismatch_456ae_193 : decode cJ8_vectorizedMismatch_456ae 193 = .ok (.iload 14, 2) := by decide +kernel
theorem dJ8_vectorizedMismatch_456ae_195 : decode cJ8_vectorizedMismatch_456ae 195 = .ok (.iload 15, 2) := by decide +kernel
theorem dJ8_vectorizedMismatch_456ae_197 : decode cJ8_vectorizedMismatch_456ae 197 = .ok (.if_icmp .eq 54, 3) := by decide +kernel
theorem dJ8_vectorizedMismatch_456ae_200 : decode cJ8_vectorizedMismatch_456ae 200 = .ok (.iload 14, 2) := by decide +kernel
theorem dJ8_vectorizedMismatch_456ae_202 : decode cJ8_vectorizedMismatch_456ae 202 = .ok (.iload 15, 2) := by decide +kernel
theorem dJ8_vectorizedMismatch_456ae_204 : decode cJ8_vectorizedMismatch_456ae 204 = .ok (.ixor, 1) := by decide +kernel
theorem dJ8_vectorizedMismatch_456ae_205 : decode cJ8_vectorizedMismatch_456ae 205 = .ok (.istore 16, 2) := by decide +kernel
theorem dJ8_vectorizedMismatch_456ae_207 : decode cJ8_vectorizedMismatch_456ae 207 = .ok (.getstatic 36, 3) := by decide +kernel
theorem dJ8_vectorizedMismatch_456ae_210 : decode cJ8_vectorizedMismatch_456ae 210 = .ok (.ifCond .eq 18, 3) := by decide +kernel
theorem dJ8_vectorizedMismatch_456ae_213 : decode cJ8_vectorizedMismatch_456ae 213 = .ok (.iload 16, 2) := by decide +kernel
theorem dJ8_vectorizedMismatch_456ae_215 : decode cJ8_vectorizedMismatch_456ae 215 = .ok (.invokestatic 58, 3) := by decide +kernel
theorem dJ8_vectorizedMismatch_456ae_218 : decode cJ8_vectorizedMismatch_456ae 218 = .ok (.getstatic 46, 3) := by decide +kernel
theorem dJ8_vectorizedMismatch_456ae_221 : decode cJ8_vectorizedMismatch_456ae 221 = .ok (.iload 7, 2) := by decide +kernel
theorem dJ8_vectorizedMismatch_456ae_223 : decode cJ8_vectorizedMismatch_456ae 223 = .ok (.iadd, 1) := by decide +kernel
theorem dJ8_vectorizedMismatch_456ae_224 : decode cJ8_vectorizedMismatch_456ae 224 = .ok (.ishr, 1) := by decide +kernel
theorem dJ8_vectorizedMismatch_456ae_225 : decode cJ8_vectorizedMismatch_456ae 225 = .ok (.goto 15, 3) := by decide +kernel
theorem dJ8_vectorizedMismatch_456ae_228 : decode cJ8_vectorizedMismatch_456ae 228 = .ok (.iload 16, 2) := by decide +kernel
theorem dJ8_vectorizedMismatch_456ae_230 : decode cJ8_vectorizedMismatch_456ae 230 = .ok (.invokestatic 11, 3) := by decide +kernel
theorem dJ8_vectorizedMismatch_456ae_233 : decode cJ8_vectorizedMismatch_456ae 233 = .ok (.getstatic 46, 3) := by decide +kernel
theorem dJ8_vectorizedMismatch_456ae_236 : decode cJ8_vectorizedMismatch_456ae 236 = .ok (.iload 7, 2) := by decide +kernel
theorem dJ8_vectorizedMismatch_456ae_238 : decode cJ8_vectorizedMismatch_456ae 238 = .ok (.iadd, 1) := by decide +kernel
theorem dJ8_vectorizedMismatch_456ae_239 : decode cJ8_vectorizedMismatch_456ae 239 = .ok (.ishr, 1) := by decide +kernel
theorem dJ8_vectorizedMismatch_456ae_240 : decode cJ8_vectorizedMismatch_456ae 240 = .ok (.istore 17, 2) := by decide +kernel
theorem dJ8_vectorizedMismatch_456ae_242 : decode cJ8_vectorizedMismatch_456ae 242 = .ok (.iload 9, 2) := by decide +kernel
theorem dJ8_vectorizedMismatch_456ae_244 : decode cJ8_vectorizedMismatch_456ae 244 = .ok (.iload 8, 2) := by decide +kernel
theorem dJ8_vectorizedMismatch_456ae_246 : decode cJ8_vectorizedMismatch_456ae 246 = .ok (.ishl, 1) := by decide +kernel
theorem dJ8_vectorizedMismatch_456ae_247 : decode cJ8_vectorizedMismatch_456ae 247 = .ok (.iload 17, 2) := by decide +kernel
theorem dJ8_vectorizedMismatch_456ae_249 : decode cJ8_vectorizedMismatch_456ae 249 = .ok (.iadd, 1) := by decide +kernel
theorem dJ8_vectorizedMismatch_456ae_250 : decode cJ8_vectorizedMismatch_456ae 250 = .ok (.ireturn, 1) := by decide +kernel
theorem dJ8_vectorizedMismatch_456ae_251 : decode cJ8_vectorizedMismatch_456ae 251 = .ok (.iload 10, 2) := by decide +kernel
theorem dJ8_vectorizedMismatch_456ae_253 : decode cJ8_vectorizedMismatch_456ae 253 = .ok (.iload 11, 2) := by decide +kernel
theorem dJ8_vectorizedMismatch_456ae_255 : decode cJ8_vectorizedMismatch_456ae 255 = .ok (.isub, 1) := by decide +kernel
theorem dJ8_vectorizedMismatch_456ae_256 : decode cJ8_vectorizedMismatch_456ae 256 = .ok (.istore 10, 2) := by decide +kernel
theorem dJ8_vectorizedMismatch_456ae_258 : decode cJ8_vectorizedMismatch_456ae 258 = .ok (.iload 10, 2) := by decide +kernel
theorem dJ8_vectorizedMismatch_456ae_260 : decode cJ8_vectorizedMismatch_456ae 260 = .ok (.iconst (-1), 1) := by decide +kernel
theorem dJ8_vectorizedMismatch_456ae_261 : decode cJ8_vectorizedMismatch_456ae 261 = .ok (.ixor, 1) := by decide +kernel
theorem dJ8_vectorizedMismatch_456ae_262 : decode cJ8_vectorizedMismatch_456ae 262 = .ok (.ireturn, 1) := by decide +kernel
theorem dJ8_vectorizedMismatch_456ae_263 : decode cJ8_vectorizedMismatch_456ae 263 = .ok (.iload 10, 2) := by decide +kernel
theorem dJ8_vectorizedMismatch_456ae_265 : decode cJ8_vectorizedMismatch_456ae 265 = .ok (.iconst (-1), 1) := by decide +kernel
theorem dJ8_vectorizedMismatch_456ae_266 : decode cJ8_vectorizedMismatch_456ae 266 = .ok (.ixor, 1) := by decide +kernel
theorem dJ8_vectorizedMismatch_456ae_267 : decode cJ8_vectorizedMismatch_456ae 267 = .ok (.ireturn, 1) := by decide +kernel
theorem dJ8_mismatch_05dfe_0 : decode cJ8_mismatch_05dfe 0 = .ok (.iconst 0, 1) := by decide +kernel
theorem dJ8_mismatch_05dfe_1 : decode cJ8_mismatch_05dfe 1 = .ok (.istore_n 3, 1) := by decide +kernel
theorem dJ8_mismatch_05dfe_2 : decode cJ8_mismatch_05dfe 2 = .ok (.iload_n 2, 1) := by decide +kernel
theorem dJ8_mismatch_05dfe_3 : decode cJ8_mismatch_05dfe 3 = .ok (.iconst 1, 1) := by decide +kernel
theorem dJ8_mismatch_05dfe_4 : decode cJ8_mismatch_05dfe 4 = .ok (.if_icmp .le 44, 3) := by decide +kernel
theorem dJ8_mismatch_05dfe_7 : decode cJ8_mismatch_05dfe 7 = .ok (.aload_n 0, 1) := by decide +kernel
theorem dJ8_mismatch_05dfe_8 : decode cJ8_mismatch_05dfe 8 = .ok (.iconst 0, 1) := by decide +kernel
theorem dJ8_mismatch_05dfe_9 : decode cJ8_mismatch_05dfe 9 = .ok (.iaload, 1) := by decide +kernel
theorem dJ8_mismatch_05dfe_10 : decode cJ8_mismatch_05dfe 10 = .ok (.aload_n 1, 1) := by decide +kernel
theorem dJ8_mismatch_05dfe_11 : decode cJ8_mismatch_05dfe 11 = .ok (.iconst 0, 1) := by decide +kernel
theorem dJ8_mismatch_05dfe_12 : decode cJ8_mismatch_05dfe 12 = .ok (.iaload, 1) := by decide +kernel
theorem dJ8_mismatch_05dfe_13 : decode cJ8_mismatch_05dfe 13 = .ok (.if_icmp .eq 5, 3) := by decide +kernel
theorem dJ8_mismatch_05dfe_16 : decode cJ8_mismatch_05dfe 16 = .ok (.iconst 0, 1) := by decide +kernel
theorem dJ8_mismatch_05dfe_17 : decode cJ8_mismatch_05dfe 17 = .ok (.ireturn, 1) := by decide +kernel
theorem dJ8_mismatch_05dfe_18 : decode cJ8_mismatch_05dfe 18 = .ok (.aload_n 0, 1) := by decide +kernel
theorem dJ8_mismatch_05dfe_19 : decode cJ8_mismatch_05dfe 19 = .ok (.getstatic 144, 3) := by decide +kernel
theorem dJ8_mismatch_05dfe_22 : decode cJ8_mismatch_05dfe 22 = .ok (.i2l, 1) := by decide +kernel
theorem dJ8_mismatch_05dfe_23 : decode cJ8_mismatch_05dfe 23 = .ok (.aload_n 1, 1) := by decide +kernel
theorem dJ8_mismatch_05dfe_24 : decode cJ8_mismatch_05dfe 24 = .ok (.getstatic 144, 3) := by decide +kernel
theorem dJ8_mismatch_05dfe_27 : decode cJ8_mismatch_05dfe 27 = .ok (.i2l, 1) := by decide +kernel
theorem dJ8_mismatch_05dfe_28 : decode cJ8_mismatch_05dfe 28 = .ok (.iload_n 2, 1) := by decide +kernel
theorem dJ8_mismatch_05dfe_29 : decode cJ8_mismatch_05dfe 29 = .ok (.getstatic 51, 3) := by decide +kernel
theorem dJ8_mismatch_05dfe_32 : decode cJ8_mismatch_05dfe 32 = .ok (.invokestatic 122, 3) := by decide +kernel
theorem dJ8_mismatch_05dfe_35 : decode cJ8_mismatch_05dfe 35 = .ok (.istore_n 3, 1) := by decide +kernel
theorem dJ8_mismatch_05dfe_36 : decode cJ8_mismatch_05dfe 36 = .ok (.iload_n 3, 1) := by decide +kernel
theorem dJ8_mismatch_05dfe_37 : decode cJ8_mismatch_05dfe 37 = .ok (.ifCond .lt 5, 3) := by decide +kernel
theorem dJ8_mismatch_05dfe_40 : decode cJ8_mismatch_05dfe 40 = .ok (.iload_n 3, 1) := by decide +kernel
theorem dJ8_mismatch_05dfe_41 : decode cJ8_mismatch_05dfe 41 = .ok (.ireturn, 1) := by decide +kernel
theorem dJ8_mismatch_05dfe_42 : decode cJ8_mismatch_05dfe 42 = .ok (.iload_n 2, 1) := by decide +kernel
theorem dJ8_mismatch_05dfe_43 : decode cJ8_mismatch_05dfe 43 = .ok (.iload_n 3, 1) := by decide +kernel
theorem dJ8_mismatch_05dfe_44 : decode cJ8_mismatch_05dfe 44 = .ok (.iconst (-1), 1) := by decide +kernel
theorem dJ8_mismatch_05dfe_45 : decode cJ8_mismatch_05dfe 45 = .ok (.ixor, 1) := by decide +kernel
theorem dJ8_mismatch_05dfe_46 : decode cJ8_mismatch_05dfe 46 = .ok (.isub, 1) := by decide +kernel
theorem dJ8_mismatch_05dfe_47 : decode cJ8_mismatch_05dfe 47 = .ok (.istore_n 3, 1) := by decide +kernel
theorem dJ8_mismatch_05dfe_48 : decode cJ8_mismatch_05dfe 48 = .ok (.iload_n 3, 1) := by decide +kernel
theorem dJ8_mismatch_05dfe_49 : decode cJ8_mismatch_05dfe 49 = .ok (.iload_n 2, 1) := by decide +kernel
theorem dJ8_mismatch_05dfe_50 : decode cJ8_mismatch_05dfe 50 = .ok (.if_icmp .ge 20, 3) := by decide +kernel
theorem dJ8_mismatch_05dfe_53 : decode cJ8_mismatch_05dfe 53 = .ok (.aload_n 0, 1) := by decide +kernel
theorem dJ8_mismatch_05dfe_54 : decode cJ8_mismatch_05dfe 54 = .ok (.iload_n 3, 1) := by decide +kernel
theorem dJ8_mismatch_05dfe_55 : decode cJ8_mismatch_05dfe 55 = .ok (.iaload, 1) := by decide +kernel
theorem dJ8_mismatch_05dfe_56 : decode cJ8_mismatch_05dfe 56 = .ok (.aload_n 1, 1) := by decide +kernel
theorem dJ8_mismatch_05dfe_57 : decode cJ8_mismatch_05dfe 57 = .ok (.iload_n 3, 1) := by decide +kernel
theorem dJ8_mismatch_05dfe_58 : decode cJ8_mismatch_05dfe 58 = .ok (.iaload, 1) := by decide +kernel
theorem dJ8_mismatch_05dfe_59 : decode cJ8_mismatch_05dfe 59 = .ok (.if_icmp .eq 5, 3) := by decide +kernel
theorem dJ8_mismatch_05dfe_62 : decode cJ8_mismatch_05dfe 62 = .ok (.iload_n 3, 1) := by decide +kernel
theorem dJ8_mismatch_05dfe_63 : decode cJ8_mismatch_05dfe 63 = .ok (.ireturn, 1) := by decide +kernel
theorem dJ8_mismatch_05dfe_64 : decode cJ8_mismatch_05dfe 64 = .ok (.iinc 3 1, 3) := by decide +kernel
theorem dJ8_mismatch_05dfe_67 : decode cJ8_mismatch_05dfe 67 = .ok (.goto (-19), 3) := by decide +kernel
theorem dJ8_mismatch_05dfe_70 : decode cJ8_mismatch_05dfe 70 = .ok (.iconst (-1), 1) := by decide +kernel
theorem dJ8_mismatch_05dfe_71 : decode cJ8_mismatch_05dfe 71 = .ok (.ireturn, 1) := by decide +kernel
