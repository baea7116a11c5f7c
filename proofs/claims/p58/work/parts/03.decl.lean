theorem dL_put_0 : decode cL_put 0 = .ok (.aload_n 1, 1) := by decide +kernel
theorem dL_put_1 : decode cL_put 1 = .ok (.iconst 5, 1) := by decide +kernel
theorem dL_put_2 : decode cL_put 2 = .ok (.iaload, 1) := by decide +kernel
theorem dL_put_3 : decode cL_put 3 = .ok (.istore_n 3, 1) := by decide +kernel
theorem dL_put_4 : decode cL_put 4 = .ok (.aload_n 1, 1) := by decide +kernel
theorem dL_put_5 : decode cL_put 5 = .ok (.iload_n 3, 1) := by decide +kernel
theorem dL_put_6 : decode cL_put 6 = .ok (.iconst 4, 1) := by decide +kernel
theorem dL_put_7 : decode cL_put 7 = .ok (.idiv, 1) := by decide +kernel
theorem dL_put_8 : decode cL_put 8 = .ok (.aload_n 1, 1) := by decide +kernel
theorem dL_put_9 : decode cL_put 9 = .ok (.iload_n 3, 1) := by decide +kernel
theorem dL_put_10 : decode cL_put 10 = .ok (.iconst 4, 1) := by decide +kernel
theorem dL_put_11 : decode cL_put 11 = .ok (.idiv, 1) := by decide +kernel
theorem dL_put_12 : decode cL_put 12 = .ok (.iaload, 1) := by decide +kernel
theorem dL_put_13 : decode cL_put 13 = .ok (.bipush 8, 2) := by decide +kernel
theorem dL_put_15 : decode cL_put 15 = .ok (.ishl, 1) := by decide +kernel
theorem dL_put_16 : decode cL_put 16 = .ok (.iload_n 2, 1) := by decide +kernel
theorem dL_put_17 : decode cL_put 17 = .ok (.ior, 1) := by decide +kernel
theorem dL_put_18 : decode cL_put 18 = .ok (.iastore, 1) := by decide +kernel
theorem dL_put_19 : decode cL_put 19 = .ok (.aload_n 1, 1) := by decide +kernel
theorem dL_put_20 : decode cL_put 20 = .ok (.iconst 5, 1) := by decide +kernel
theorem dL_put_21 : decode cL_put 21 = .ok (.dup2, 1) := by decide +kernel
theorem dL_put_22 : decode cL_put 22 = .ok (.iaload, 1) := by decide +kernel
theorem dL_put_23 : decode cL_put 23 = .ok (.iconst 1, 1) := by decide +kernel
theorem dL_put_24 : decode cL_put 24 = .ok (.iadd, 1) := by decide +kernel
theorem dL_put_25 : decode cL_put 25 = .ok (.iastore, 1) := by decide +kernel
theorem dL_put_26 : decode cL_put 26 = .ok (.aload_n 1, 1) := by decide +kernel
theorem dL_put_27 : decode cL_put 27 = .ok (.bipush 6, 2) := by decide +kernel
theorem dL_put_29 : decode cL_put 29 = .ok (.dup2, 1) := by decide +kernel
theorem dL_put_30 : decode cL_put 30 = .ok (.iaload, 1) := by decide +kernel
theorem dL_put_31 : decode cL_put 31 = .ok (.iconst 1, 1) := by decide +kernel
theorem dL_put_32 : decode cL_put 32 = .ok (.iadd, 1) := by decide +kernel
theorem dL_put_33 : decode cL_put 33 = .ok (.iastore, 1) := by decide +kernel
theorem dL_put_34 : decode cL_put 34 = .ok (.aload_n 1, 1) := by decide +kernel
theorem dL_put_35 : decode cL_put 35 = .ok (.iconst 5, 1) := by decide +kernel
theorem dL_put_36 : decode cL_put 36 = .ok (.iaload, 1) := by decide +kernel
theorem dL_put_37 : decode cL_put 37 = .ok (.bipush 20, 2) := by decide +kernel
theorem dL_put_39 : decode cL_put 39 = .ok (.if_icmp .ne 8, 3) := by decide +kernel
theorem dL_put_42 : decode cL_put 42 = .ok (.aload_n 0, 1) := by decide +kernel
theorem dL_put_43 : decode cL_put 43 = .ok (.aload_n 1, 1) := by decide +kernel
theorem dL_put_44 : decode cL_put 44 = .ok (.invokestatic 7, 3) := by decide +kernel
theorem dL_put_47 : decode cL_put 47 = .ok (.return_, 1) := by decide +kernel
theorem dL_flush_0 : decode cL_flush 0 = .ok (.aload_n 0, 1) := by decide +kernel
theorem dL_flush_1 : decode cL_flush 1 = .ok (.aload_n 1, 1) := by decide +kernel
theorem dL_flush_2 : decode cL_flush 2 = .ok (.iconst 0, 1) := by decide +kernel
theorem dL_flush_3 : decode cL_flush 3 = .ok (.iaload, 1) := by decide +kernel
theorem dL_flush_4 : decode cL_flush 4 = .ok (.aload_n 1, 1) := by decide +kernel
theorem dL_flush_5 : decode cL_flush 5 = .ok (.iconst 1, 1) := by decide +kernel
theorem dL_flush_6 : decode cL_flush 6 = .ok (.iaload, 1) := by decide +kernel
theorem dL_flush_7 : decode cL_flush 7 = .ok (.aload_n 1, 1) := by decide +kernel
theorem dL_flush_8 : decode cL_flush 8 = .ok (.iconst 2, 1) := by decide +kernel
theorem dL_flush_9 : decode cL_flush 9 = .ok (.iaload, 1) := by decide +kernel
theorem dL_flush_10 : decode cL_flush 10 = .ok (.aload_n 1, 1) := by decide +kernel
theorem dL_flush_11 : decode cL_flush 11 = .ok (.iconst 3, 1) := by decide +kernel
theorem dL_flush_12 : decode cL_flush 12 = .ok (.iaload, 1) := by decide +kernel
theorem dL_flush_13 : decode cL_flush 13 = .ok (.aload_n 1, 1) := by decide +kernel
theorem dL_flush_14 : decode cL_flush 14 = .ok (.iconst 4, 1) := by decide +kernel
theorem dL_flush_15 : decode cL_flush 15 = .ok (.iaload, 1) := by decide +kernel
theorem dL_flush_16 : decode cL_flush 16 = .ok (.invokevirtual 13, 3) := by decide +kernel
theorem dL_flush_19 : decode cL_flush 19 = .ok (.istore_n 2, 1) := by decide +kernel
theorem dL_flush_20 : decode cL_flush 20 = .ok (.aload_n 1, 1) := by decide +kernel
theorem dL_flush_21 : decode cL_flush 21 = .ok (.iconst 5, 1) := by decide +kernel
theorem dL_flush_22 : decode cL_flush 22 = .ok (.iconst 0, 1) := by decide +kernel
theorem dL_flush_23 : decode cL_flush 23 = .ok (.iastore, 1) := by decide +kernel
theorem dL_flush_24 : decode cL_flush 24 = .ok (.return_, 1) := by decide +kernel
theorem dL_say_0 : decode cL_say 0 = .ok (.bipush 56, 2) := by decide +kernel
theorem dL_say_2 : decode cL_say 2 = .ok (.istore 4, 2) := by decide +kernel
theorem dL_say_4 : decode cL_say 4 = .ok (.iload 4, 2) := by decide +kernel
theorem dL_say_6 : decode cL_say 6 = .ok (.ifCond .lt 36, 3) := by decide +kernel
theorem dL_say_9 : decode cL_say 9 = .ok (.lload_n 2, 1) := by decide +kernel
theorem dL_say_10 : decode cL_say 10 = .ok (.iload 4, 2) := by decide +kernel
theorem dL_say_12 : decode cL_say 12 = .ok (.lshr, 1) := by decide +kernel
theorem dL_say_13 : decode cL_say 13 = .ok (.ldc2_w 19, 3) := by decide +kernel
theorem dL_say_16 : decode cL_say 16 = .ok (.land, 1) := by decide +kernel
theorem dL_say_17 : decode cL_say 17 = .ok (.lconst 0, 1) := by decide +kernel
theorem dL_say_18 : decode cL_say 18 = .ok (.lcmp, 1) := by decide +kernel
theorem dL_say_19 : decode cL_say 19 = .ok (.ifCond .eq 17, 3) := by decide +kernel
theorem dL_say_22 : decode cL_say 22 = .ok (.aload_n 0, 1) := by decide +kernel
theorem dL_say_23 : decode cL_say 23 = .ok (.aload_n 1, 1) := by decide +kernel
theorem dL_say_24 : decode cL_say 24 = .ok (.lload_n 2, 1) := by decide +kernel
theorem dL_say_25 : decode cL_say 25 = .ok (.iload 4, 2) := by decide +kernel
theorem dL_say_27 : decode cL_say 27 = .ok (.lshr, 1) := by decide +kernel
theorem dL_say_28 : decode cL_say 28 = .ok (.ldc2_w 19, 3) := by decide +kernel
theorem dL_say_31 : decode cL_say 31 = .ok (.land, 1) := by decide +kernel
theorem dL_say_32 : decode cL_say 32 = .ok (.l2i, 1) := by decide +kernel
theorem dL_say_33 : decode cL_say 33 = .ok (.invokestatic 21, 3) := by decide +kernel
theorem dL_say_36 : decode cL_say 36 = .ok (.iinc 4 (-8), 3) := by decide +kernel
theorem dL_say_39 : decode cL_say 39 = .ok (.goto (-35), 3) := by decide +kernel
theorem dL_say_42 : decode cL_say 42 = .ok (.return_, 1) := by decide +kernel
theorem dL_said_0 : decode cL_said 0 = .ok (.aload_n 1, 1) := by decide +kernel
theorem dL_said_1 : decode cL_said 1 = .ok (.bipush 6, 2) := by decide +kernel
theorem dL_said_3 : decode cL_said 3 = .ok (.iaload, 1) := by decide +kernel
theorem dL_said_4 : decode cL_said 4 = .ok (.istore_n 2, 1) := by decide +kernel
theorem dL_said_5 : decode cL_said 5 = .ok (.aload_n 1, 1) := by decide +kernel
theorem dL_said_6 : decode cL_said 6 = .ok (.iconst 5, 1) := by decide +kernel
theorem dL_said_7 : decode cL_said 7 = .ok (.iaload, 1) := by decide +kernel
theorem dL_said_8 : decode cL_said 8 = .ok (.ifCond .le 13, 3) := by decide +kernel
theorem dL_said_11 : decode cL_said 11 = .ok (.aload_n 0, 1) := by decide +kernel
theorem dL_said_12 : decode cL_said 12 = .ok (.aload_n 1, 1) := by decide +kernel
theorem dL_said_13 : decode cL_said 13 = .ok (.bipush 32, 2) := by decide +kernel
theorem dL_said_15 : decode cL_said 15 = .ok (.invokestatic 21, 3) := by decide +kernel
theorem dL_said_18 : decode cL_said 18 = .ok (.goto (-13), 3) := by decide +kernel
theorem dL_said_21 : decode cL_said 21 = .ok (.aload_n 1, 1) := by decide +kernel
theorem dL_said_22 : decode cL_said 22 = .ok (.bipush 6, 2) := by decide +kernel
theorem dL_said_24 : decode cL_said 24 = .ok (.iconst 0, 1) := by decide +kernel
theorem dL_said_25 : decode cL_said 25 = .ok (.iastore, 1) := by decide +kernel
theorem dL_said_26 : decode cL_said 26 = .ok (.iload_n 2, 1) := by decide +kernel
theorem dL_said_27 : decode cL_said 27 = .ok (.ireturn, 1) := by decide +kernel
theorem dL_number_0 : decode cL_number 0 = .ok (.sipush 1000, 3) := by decide +kernel
theorem dL_number_3 : decode cL_number 3 = .ok (.istore_n 3, 1) := by decide +kernel
theorem dL_number_4 : decode cL_number 4 = .ok (.iload_n 3, 1) := by decide +kernel
theorem dL_number_5 : decode cL_number 5 = .ok (.iconst 1, 1) := by decide +kernel
theorem dL_number_6 : decode cL_number 6 = .ok (.if_icmp .le 16, 3) := by decide +kernel
theorem dL_number_9 : decode cL_number 9 = .ok (.iload_n 2, 1) := by decide +kernel
theorem dL_number_10 : decode cL_number 10 = .ok (.iload_n 3, 1) := by decide +kernel
theorem dL_number_11 : decode cL_number 11 = .ok (.if_icmp .ge 11, 3) := by decide +kernel
theorem dL_number_14 : decode cL_number 14 = .ok (.iload_n 3, 1) := by decide +kernel
theorem dL_number_15 : decode cL_number 15 = .ok (.bipush 10, 2) := by decide +kernel
theorem dL_number_17 : decode cL_number 17 = .ok (.idiv, 1) := by decide +kernel
theorem dL_number_18 : decode cL_number 18 = .ok (.istore_n 3, 1) := by decide +kernel
theorem dL_number_19 : decode cL_number 19 = .ok (.goto (-15), 3) := by decide +kernel
theorem dL_number_22 : decode cL_number 22 = .ok (.iload_n 3, 1) := by decide +kernel
theorem dL_number_23 : decode cL_number 23 = .ok (.ifCond .le 25, 3) := by decide +kernel
theorem dL_number_26 : decode cL_number 26 = .ok (.aload_n 0, 1) := by decide +kernel
theorem dL_number_27 : decode cL_number 27 = .ok (.aload_n 1, 1) := by decide +kernel
theorem dL_number_28 : decode cL_number 28 = .ok (.bipush 48, 2) := by decide +kernel
theorem dL_number_30 : decode cL_number 30 = .ok (.iload_n 2, 1) := by decide +kernel
theorem dL_number_31 : decode cL_number 31 = .ok (.iload_n 3, 1) := by decide +kernel
theorem dL_number_32 : decode cL_number 32 = .ok (.idiv, 1) := by decide +kernel
theorem dL_number_33 : decode cL_number 33 = .ok (.bipush 10, 2) := by decide +kernel
theorem dL_number_35 : decode cL_number 35 = .ok (.irem, 1) := by decide +kernel
theorem dL_number_36 : decode cL_number 36 = .ok (.iadd, 1) := by decide +kernel
theorem dL_number_37 : decode cL_number 37 = .ok (.invokestatic 21, 3) := by decide +kernel
theorem dL_number_40 : decode cL_number 40 = .ok (.iload_n 3, 1) := by decide +kernel
theorem dL_number_41 : decode cL_number 41 = .ok (.bipush 10, 2) := by decide +kernel
theorem dL_number_43 : decode cL_number 43 = .ok (.idiv, 1) := by decide +kernel
theorem dL_number_44 : decode cL_number 44 = .ok (.istore_n 3, 1) := by decide +kernel
theorem dL_number_45 : decode cL_number 45 = .ok (.goto (-23), 3) := by decide +kernel
theorem dL_number_48 : decode cL_number 48 = .ok (.return_, 1) := by decide +kernel
theorem dL_cell_0 : decode cL_cell 0 = .ok (.iload_n 1, 1) := by decide +kernel
theorem dL_cell_1 : decode cL_cell 1 = .ok (.aload_n 0, 1) := by decide +kernel
theorem dL_cell_2 : decode cL_cell 2 = .ok (.arraylength, 1) := by decide +kernel
theorem dL_cell_3 : decode cL_cell 3 = .ok (.if_icmp .ge 9, 3) := by decide +kernel
theorem dL_cell_6 : decode cL_cell 6 = .ok (.aload_n 0, 1) := by decide +kernel
theorem dL_cell_7 : decode cL_cell 7 = .ok (.iload_n 1, 1) := by decide +kernel
theorem dL_cell_8 : decode cL_cell 8 = .ok (.iaload, 1) := by decide +kernel
theorem dL_cell_9 : decode cL_cell 9 = .ok (.goto 4, 3) := by decide +kernel
theorem dL_cell_12 : decode cL_cell 12 = .ok (.iconst 0, 1) := by decide +kernel
theorem dL_cell_13 : decode cL_cell 13 = .ok (.ireturn, 1) := by decide +kernel
theorem dL_drawn_0 : decode cL_drawn 0 = .ok (.sipush 200, 3) := by decide +kernel
theorem dL_drawn_3 : decode cL_drawn 3 = .ok (.newarray .int, 2) := by decide +kernel
theorem dL_drawn_5 : decode cL_drawn 5 = .ok (.astore_n 1, 1) := by decide +kernel
theorem dL_drawn_6 : decode cL_drawn 6 = .ok (.aload_n 0, 1) := by decide +kernel
theorem dL_drawn_7 : decode cL_drawn 7 = .ok (.iconst 0, 1) := by decide +kernel
theorem dL_drawn_8 : decode cL_drawn 8 = .ok (.invokestatic 25, 3) := by decide +kernel
theorem dL_drawn_11 : decode cL_drawn 11 = .ok (.istore_n 2, 1) := by decide +kernel
theorem dL_drawn_12 : decode cL_drawn 12 = .ok (.iconst 0, 1) := by decide +kernel
theorem dL_drawn_13 : decode cL_drawn 13 = .ok (.istore_n 3, 1) := by decide +kernel
theorem dL_drawn_14 : decode cL_drawn 14 = .ok (.iload_n 3, 1) := by decide +kernel
theorem dL_drawn_15 : decode cL_drawn 15 = .ok (.iconst 2, 1) := by decide +kernel
theorem dL_drawn_16 : decode cL_drawn 16 = .ok (.if_icmp .ge 42, 3) := by decide +kernel
theorem dL_drawn_19 : decode cL_drawn 19 = .ok (.aload_n 1, 1) := by decide +kernel
theorem dL_drawn_20 : decode cL_drawn 20 = .ok (.iload_n 3, 1) := by decide +kernel
theorem dL_drawn_21 : decode cL_drawn 21 = .ok (.iload_n 2, 1) := by decide +kernel
theorem dL_drawn_22 : decode cL_drawn 22 = .ok (.bipush 13, 2) := by decide +kernel
theorem dL_drawn_24 : decode cL_drawn 24 = .ok (.iload_n 3, 1) := by decide +kernel
theorem dL_drawn_25 : decode cL_drawn 25 = .ok (.imul, 1) := by decide +kernel
theorem dL_drawn_26 : decode cL_drawn 26 = .ok (.ishr, 1) := by decide +kernel
theorem dL_drawn_27 : decode cL_drawn 27 = .ok (.bipush 63, 2) := by decide +kernel
theorem dL_drawn_29 : decode cL_drawn 29 = .ok (.iand, 1) := by decide +kernel
theorem dL_drawn_30 : decode cL_drawn 30 = .ok (.iastore, 1) := by decide +kernel
theorem dL_drawn_31 : decode cL_drawn 31 = .ok (.aload_n 1, 1) := by decide +kernel
theorem dL_drawn_32 : decode cL_drawn 32 = .ok (.iconst 2, 1) := by decide +kernel
theorem dL_drawn_33 : decode cL_drawn 33 = .ok (.iload_n 3, 1) := by decide +kernel
theorem dL_drawn_34 : decode cL_drawn 34 = .ok (.iadd, 1) := by decide +kernel
theorem dL_drawn_35 : decode cL_drawn 35 = .ok (.aload_n 1, 1) := by decide +kernel
theorem dL_drawn_36 : decode cL_drawn 36 = .ok (.iload_n 3, 1) := by decide +kernel
theorem dL_drawn_37 : decode cL_drawn 37 = .ok (.iaload, 1) := by decide +kernel
theorem dL_drawn_38 : decode cL_drawn 38 = .ok (.iload_n 2, 1) := by decide +kernel
theorem dL_drawn_39 : decode cL_drawn 39 = .ok (.bipush 13, 2) := by decide +kernel
theorem dL_drawn_41 : decode cL_drawn 41 = .ok (.iload_n 3, 1) := by decide +kernel
theorem dL_drawn_42 : decode cL_drawn 42 = .ok (.imul, 1) := by decide +kernel
theorem dL_drawn_43 : decode cL_drawn 43 = .ok (.bipush 6, 2) := by decide +kernel
theorem dL_drawn_45 : decode cL_drawn 45 = .ok (.iadd, 1) := by decide +kernel
theorem dL_drawn_46 : decode cL_drawn 46 = .ok (.ishr, 1) := by decide +kernel
theorem dL_drawn_47 : decode cL_drawn 47 = .ok (.bipush 127, 2) := by decide +kernel
theorem dL_drawn_49 : decode cL_drawn 49 = .ok (.iand, 1) := by decide +kernel
theorem dL_drawn_50 : decode cL_drawn 50 = .ok (.iadd, 1) := by decide +kernel
theorem dL_drawn_51 : decode cL_drawn 51 = .ok (.iastore, 1) := by decide +kernel
theorem dL_drawn_52 : decode cL_drawn 52 = .ok (.iinc 3 1, 3) := by decide +kernel
theorem dL_drawn_55 : decode cL_drawn 55 = .ok (.goto (-41), 3) := by decide +kernel
theorem dL_drawn_58 : decode cL_drawn 58 = .ok (.iconst 0, 1) := by decide +kernel
theorem dL_drawn_59 : decode cL_drawn 59 = .ok (.istore_n 3, 1) := by decide +kernel
theorem dL_drawn_60 : decode cL_drawn 60 = .ok (.iload_n 3, 1) := by decide +kernel
theorem dL_drawn_61 : decode cL_drawn 61 = .ok (.iconst 4, 1) := by decide +kernel
theorem dL_drawn_62 : decode cL_drawn 62 = .ok (.if_icmp .ge 62, 3) := by decide +kernel
theorem dL_drawn_65 : decode cL_drawn 65 = .ok (.aload_n 0, 1) := by decide +kernel
theorem dL_drawn_66 : decode cL_drawn 66 = .ok (.iconst 1, 1) := by decide +kernel
theorem dL_drawn_67 : decode cL_drawn 67 = .ok (.iload_n 3, 1) := by decide +kernel
theorem dL_drawn_68 : decode cL_drawn 68 = .ok (.iadd, 1) := by decide +kernel
theorem dL_drawn_69 : decode cL_drawn 69 = .ok (.invokestatic 25, 3) := by decide +kernel
theorem dL_drawn_72 : decode cL_drawn 72 = .ok (.istore 4, 2) := by decide +kernel
theorem dL_drawn_74 : decode cL_drawn 74 = .ok (.aload_n 1, 1) := by decide +kernel
theorem dL_drawn_75 : decode cL_drawn 75 = .ok (.bipush 10, 2) := by decide +kernel
theorem dL_drawn_77 : decode cL_drawn 77 = .ok (.iconst 3, 1) := by decide +kernel
theorem dL_drawn_78 : decode cL_drawn 78 = .ok (.iload_n 3, 1) := by decide +kernel
theorem dL_drawn_79 : decode cL_drawn 79 = .ok (.imul, 1) := by decide +kernel
theorem dL_drawn_80 : decode cL_drawn 80 = .ok (.iadd, 1) := by decide +kernel
theorem dL_drawn_81 : decode cL_drawn 81 = .ok (.iload 4, 2) := by decide +kernel
theorem dL_drawn_83 : decode cL_drawn 83 = .ok (.bipush 31, 2) := by decide +kernel
theorem dL_drawn_85 : decode cL_drawn 85 = .ok (.iand, 1) := by decide +kernel
theorem dL_drawn_86 : decode cL_drawn 86 = .ok (.iastore, 1) := by decide +kernel
theorem dL_drawn_87 : decode cL_drawn 87 = .ok (.aload_n 1, 1) := by decide +kernel
theorem dL_drawn_88 : decode cL_drawn 88 = .ok (.bipush 11, 2) := by decide +kernel
theorem dL_drawn_90 : decode cL_drawn 90 = .ok (.iconst 3, 1) := by decide +kernel
theorem dL_drawn_91 : decode cL_drawn 91 = .ok (.iload_n 3, 1) := by decide +kernel
theorem dL_drawn_92 : decode cL_drawn 92 = .ok (.imul, 1) := by decide +kernel
theorem dL_drawn_93 : decode cL_drawn 93 = .ok (.iadd, 1) := by decide +kernel
theorem dL_drawn_94 : decode cL_drawn 94 = .ok (.iload 4, 2) := by decide +kernel
theorem dL_drawn_96 : decode cL_drawn 96 = .ok (.iconst 5, 1) := by decide +kernel
theorem dL_drawn_97 : decode cL_drawn 97 = .ok (.ishr, 1) := by decide +kernel
theorem dL_drawn_98 : decode cL_drawn 98 = .ok (.bipush 15, 2) := by decide +kernel
theorem dL_drawn_100 : decode cL_drawn 100 = .ok (.iand, 1) := by decide +kernel
theorem dL_drawn_101 : decode cL_drawn 101 = .ok (.iastore, 1) := by decide +kernel
theorem dL_drawn_102 : decode cL_drawn 102 = .ok (.aload_n 1, 1) := by decide +kernel
theorem dL_drawn_103 : decode cL_drawn 103 = .ok (.bipush 12, 2) := by decide +kernel
theorem dL_drawn_105 : decode cL_drawn 105 = .ok (.iconst 3, 1) := by decide +kernel
theorem dL_drawn_106 : decode cL_drawn 106 = .ok (.iload_n 3, 1) := by decide +kernel
theorem dL_drawn_107 : decode cL_drawn 107 = .ok (.imul, 1) := by decide +kernel
theorem dL_drawn_108 : decode cL_drawn 108 = .ok (.iadd, 1) := by decide +kernel
theorem dL_drawn_109 : decode cL_drawn 109 = .ok (.iload 4, 2) := by decide +kernel
theorem dL_drawn_111 : decode cL_drawn 111 = .ok (.bipush 9, 2) := by decide +kernel
theorem dL_drawn_113 : decode cL_drawn 113 = .ok (.ishr, 1) := by decide +kernel
theorem dL_drawn_114 : decode cL_drawn 114 = .ok (.bipush 31, 2) := by decide +kernel
theorem dL_drawn_116 : decode cL_drawn 116 = .ok (.iand, 1) := by decide +kernel
theorem dL_drawn_117 : decode cL_drawn 117 = .ok (.iastore, 1) := by decide +kernel
theorem dL_drawn_118 : decode cL_drawn 118 = .ok (.iinc 3 1, 3) := by decide +kernel
theorem dL_drawn_121 : decode cL_drawn 121 = .ok (.goto (-61), 3) := by decide +kernel
theorem dL_drawn_124 : decode cL_drawn 124 = .ok (.aload_n 0, 1) := by decide +kernel
theorem dL_drawn_125 : decode cL_drawn 125 = .ok (.iconst 5, 1) := by decide +kernel
theorem dL_drawn_126 : decode cL_drawn 126 = .ok (.invokestatic 25, 3) := by decide +kernel
theorem dL_drawn_129 : decode cL_drawn 129 = .ok (.istore_n 2, 1) := by decide +kernel
theorem dL_drawn_130 : decode cL_drawn 130 = .ok (.iconst 0, 1) := by decide +kernel
theorem dL_drawn_131 : decode cL_drawn 131 = .ok (.istore_n 3, 1) := by decide +kernel
theorem dL_drawn_132 : decode cL_drawn 132 = .ok (.iload_n 3, 1) := by decide +kernel
theorem dL_drawn_133 : decode cL_drawn 133 = .ok (.iconst 4, 1) := by decide +kernel
theorem dL_drawn_134 : decode cL_drawn 134 = .ok (.if_icmp .ge 23, 3) := by decide +kernel
theorem dL_drawn_137 : decode cL_drawn 137 = .ok (.aload_n 1, 1) := by decide +kernel
theorem dL_drawn_138 : decode cL_drawn 138 = .ok (.bipush 30, 2) := by decide +kernel
theorem dL_drawn_140 : decode cL_drawn 140 = .ok (.iload_n 3, 1) := by decide +kernel
theorem dL_drawn_141 : decode cL_drawn 141 = .ok (.iadd, 1) := by decide +kernel
theorem dL_drawn_142 : decode cL_drawn 142 = .ok (.iload_n 2, 1) := by decide +kernel
theorem dL_drawn_143 : decode cL_drawn 143 = .ok (.iconst 4, 1) := by decide +kernel
theorem dL_drawn_144 : decode cL_drawn 144 = .ok (.iload_n 3, 1) := by decide +kernel
theorem dL_drawn_145 : decode cL_drawn 145 = .ok (.imul, 1) := by decide +kernel
theorem dL_drawn_146 : decode cL_drawn 146 = .ok (.ishr, 1) := by decide +kernel
theorem dL_drawn_147 : decode cL_drawn 147 = .ok (.bipush 15, 2) := by decide +kernel
theorem dL_drawn_149 : decode cL_drawn 149 = .ok (.iand, 1) := by decide +kernel
theorem dL_drawn_150 : decode cL_drawn 150 = .ok (.iastore, 1) := by decide +kernel
theorem dL_drawn_151 : decode cL_drawn 151 = .ok (.iinc 3 1, 3) := by decide +kernel
theorem dL_drawn_154 : decode cL_drawn 154 = .ok (.goto (-22), 3) := by decide +kernel
theorem dL_drawn_157 : decode cL_drawn 157 = .ok (.iconst 0, 1) := by decide +kernel
theorem dL_drawn_158 : decode cL_drawn 158 = .ok (.istore_n 3, 1) := by decide +kernel
theorem dL_drawn_159 : decode cL_drawn 159 = .ok (.iload_n 3, 1) := by decide +kernel
theorem dL_drawn_160 : decode cL_drawn 160 = .ok (.iconst 2, 1) := by decide +kernel
theorem dL_drawn_161 : decode cL_drawn 161 = .ok (.if_icmp .ge 26, 3) := by decide +kernel
theorem dL_drawn_164 : decode cL_drawn 164 = .ok (.aload_n 1, 1) := by decide +kernel
theorem dL_drawn_165 : decode cL_drawn 165 = .ok (.bipush 40, 2) := by decide +kernel
theorem dL_drawn_167 : decode cL_drawn 167 = .ok (.iload_n 3, 1) := by decide +kernel
theorem dL_drawn_168 : decode cL_drawn 168 = .ok (.iadd, 1) := by decide +kernel
theorem dL_drawn_169 : decode cL_drawn 169 = .ok (.iload_n 2, 1) := by decide +kernel
theorem dL_drawn_170 : decode cL_drawn 170 = .ok (.bipush 16, 2) := by decide +kernel
theorem dL_drawn_172 : decode cL_drawn 172 = .ok (.iconst 5, 1) := by decide +kernel
theorem dL_drawn_173 : decode cL_drawn 173 = .ok (.iload_n 3, 1) := by decide +kernel
theorem dL_drawn_174 : decode cL_drawn 174 = .ok (.imul, 1) := by decide +kernel
theorem dL_drawn_175 : decode cL_drawn 175 = .ok (.iadd, 1) := by decide +kernel
theorem dL_drawn_176 : decode cL_drawn 176 = .ok (.ishr, 1) := by decide +kernel
theorem dL_drawn_177 : decode cL_drawn 177 = .ok (.bipush 31, 2) := by decide +kernel
theorem dL_drawn_179 : decode cL_drawn 179 = .ok (.iand, 1) := by decide +kernel
theorem dL_drawn_180 : decode cL_drawn 180 = .ok (.iastore, 1) := by decide +kernel
theorem dL_drawn_181 : decode cL_drawn 181 = .ok (.iinc 3 1, 3) := by decide +kernel
theorem dL_drawn_184 : decode cL_drawn 184 = .ok (.goto (-25), 3) := by decide +kernel
theorem dL_drawn_187 : decode cL_drawn 187 = .ok (.aload_n 0, 1) := by decide +kernel
theorem dL_drawn_188 : decode cL_drawn 188 = .ok (.bipush 6, 2) := by decide +kernel
theorem dL_drawn_190 : decode cL_drawn 190 = .ok (.invokestatic 25, 3) := by decide +kernel
theorem dL_drawn_193 : decode cL_drawn 193 = .ok (.istore_n 2, 1) := by decide +kernel
theorem dL_drawn_194 : decode cL_drawn 194 = .ok (.iconst 0, 1) := by decide +kernel
theorem dL_drawn_195 : decode cL_drawn 195 = .ok (.istore_n 3, 1) := by decide +kernel
theorem dL_drawn_196 : decode cL_drawn 196 = .ok (.iload_n 3, 1) := by decide +kernel
theorem dL_drawn_197 : decode cL_drawn 197 = .ok (.iconst 4, 1) := by decide +kernel
theorem dL_drawn_198 : decode cL_drawn 198 = .ok (.if_icmp .ge 24, 3) := by decide +kernel
theorem dL_drawn_201 : decode cL_drawn 201 = .ok (.aload_n 1, 1) := by decide +kernel
theorem dL_drawn_202 : decode cL_drawn 202 = .ok (.bipush 42, 2) := by decide +kernel
theorem dL_drawn_204 : decode cL_drawn 204 = .ok (.iload_n 3, 1) := by decide +kernel
theorem dL_drawn_205 : decode cL_drawn 205 = .ok (.iadd, 1) := by decide +kernel
theorem dL_drawn_206 : decode cL_drawn 206 = .ok (.iload_n 2, 1) := by decide +kernel
theorem dL_drawn_207 : decode cL_drawn 207 = .ok (.bipush 6, 2) := by decide +kernel
theorem dL_drawn_209 : decode cL_drawn 209 = .ok (.iload_n 3, 1) := by decide +kernel
theorem dL_drawn_210 : decode cL_drawn 210 = .ok (.imul, 1) := by decide +kernel
theorem dL_drawn_211 : decode cL_drawn 211 = .ok (.ishr, 1) := by decide +kernel
theorem dL_drawn_212 : decode cL_drawn 212 = .ok (.bipush 63, 2) := by decide +kernel
theorem dL_drawn_214 : decode cL_drawn 214 = .ok (.iand, 1) := by decide +kernel
theorem dL_drawn_215 : decode cL_drawn 215 = .ok (.iastore, 1) := by decide +kernel
theorem dL_drawn_216 : decode cL_drawn 216 = .ok (.iinc 3 1, 3) := by decide +kernel
theorem dL_drawn_219 : decode cL_drawn 219 = .ok (.goto (-23), 3) := by decide +kernel
theorem dL_drawn_222 : decode cL_drawn 222 = .ok (.iconst 0, 1) := by decide +kernel
theorem dL_drawn_223 : decode cL_drawn 223 = .ok (.istore_n 3, 1) := by decide +kernel
theorem dL_drawn_224 : decode cL_drawn 224 = .ok (.iload_n 3, 1) := by decide +kernel
theorem dL_drawn_225 : decode cL_drawn 225 = .ok (.iconst 3, 1) := by decide +kernel
theorem dL_drawn_226 : decode cL_drawn 226 = .ok (.if_icmp .ge 94, 3) := by decide +kernel
theorem dL_drawn_229 : decode cL_drawn 229 = .ok (.aload_n 0, 1) := by decide +kernel
theorem dL_drawn_230 : decode cL_drawn 230 = .ok (.bipush 7, 2) := by decide +kernel
theorem dL_drawn_232 : decode cL_drawn 232 = .ok (.iload_n 3, 1) := by decide +kernel
theorem dL_drawn_233 : decode cL_drawn 233 = .ok (.iadd, 1) := by decide +kernel
theorem dL_drawn_234 : decode cL_drawn 234 = .ok (.invokestatic 25, 3) := by decide +kernel
theorem dL_drawn_237 : decode cL_drawn 237 = .ok (.istore_n 2, 1) := by decide +kernel
theorem dL_drawn_238 : decode cL_drawn 238 = .ok (.aload_n 1, 1) := by decide +kernel
theorem dL_drawn_239 : decode cL_drawn 239 = .ok (.bipush 50, 2) := by decide +kernel
theorem dL_drawn_241 : decode cL_drawn 241 = .ok (.iconst 5, 1) := by decide +kernel
theorem dL_drawn_242 : decode cL_drawn 242 = .ok (.iload_n 3, 1) := by decide +kernel
theorem dL_drawn_243 : decode cL_drawn 243 = .ok (.imul, 1) := by decide +kernel
theorem dL_drawn_244 : decode cL_drawn 244 = .ok (.iadd, 1) := by decide +kernel
theorem dL_drawn_245 : decode cL_drawn 245 = .ok (.iload_n 2, 1) := by decide +kernel
theorem dL_drawn_246 : decode cL_drawn 246 = .ok (.iconst 1, 1) := by decide +kernel
theorem dL_drawn_247 : decode cL_drawn 247 = .ok (.iand, 1) := by decide +kernel
theorem dL_drawn_248 : decode cL_drawn 248 = .ok (.iastore, 1) := by decide +kernel
theorem dL_drawn_249 : decode cL_drawn 249 = .ok (.aload_n 1, 1) := by decide +kernel
theorem dL_drawn_250 : decode cL_drawn 250 = .ok (.bipush 51, 2) := by decide +kernel
theorem dL_drawn_252 : decode cL_drawn 252 = .ok (.iconst 5, 1) := by decide +kernel
theorem dL_drawn_253 : decode cL_drawn 253 = .ok (.iload_n 3, 1) := by decide +kernel
theorem dL_drawn_254 : decode cL_drawn 254 = .ok (.imul, 1) := by decide +kernel
theorem dL_drawn_255 : decode cL_drawn 255 = .ok (.iadd, 1) := by decide +kernel
theorem dL_drawn_256 : decode cL_drawn 256 = .ok (.iconst 1, 1) := by decide +kernel
theorem dL_drawn_257 : decode cL_drawn 257 = .ok (.iload_n 2, 1) := by decide +kernel
theorem dL_drawn_258 : decode cL_drawn 258 = .ok (.iconst 1, 1) := by decide +kernel
theorem dL_drawn_259 : decode cL_drawn 259 = .ok (.ishr, 1) := by decide +kernel
theorem dL_drawn_260 : decode cL_drawn 260 = .ok (.bipush 31, 2) := by decide +kernel
theorem dL_drawn_262 : decode cL_drawn 262 = .ok (.iand, 1) := by decide +kernel
theorem dL_drawn_263 : decode cL_drawn 263 = .ok (.iadd, 1) := by decide +kernel
theorem dL_drawn_264 : decode cL_drawn 264 = .ok (.iastore, 1) := by decide +kernel
theorem dL_drawn_265 : decode cL_drawn 265 = .ok (.aload_n 1, 1) := by decide +kernel
theorem dL_drawn_266 : decode cL_drawn 266 = .ok (.bipush 52, 2) := by decide +kernel
theorem dL_drawn_268 : decode cL_drawn 268 = .ok (.iconst 5, 1) := by decide +kernel
theorem dL_drawn_269 : decode cL_drawn 269 = .ok (.iload_n 3, 1) := by decide +kernel
theorem dL_drawn_270 : decode cL_drawn 270 = .ok (.imul, 1) := by decide +kernel
theorem dL_drawn_271 : decode cL_drawn 271 = .ok (.iadd, 1) := by decide +kernel
theorem dL_drawn_272 : decode cL_drawn 272 = .ok (.iconst 1, 1) := by decide +kernel
theorem dL_drawn_273 : decode cL_drawn 273 = .ok (.iload_n 2, 1) := by decide +kernel
theorem dL_drawn_274 : decode cL_drawn 274 = .ok (.bipush 6, 2) := by decide +kernel
theorem dL_drawn_276 : decode cL_drawn 276 = .ok (.ishr, 1) := by decide +kernel
theorem dL_drawn_277 : decode cL_drawn 277 = .ok (.bipush 7, 2) := by decide +kernel
theorem dL_drawn_279 : decode cL_drawn 279 = .ok (.iand, 1) := by decide +kernel
theorem dL_drawn_280 : decode cL_drawn 280 = .ok (.iadd, 1) := by decide +kernel
theorem dL_drawn_281 : decode cL_drawn 281 = .ok (.iastore, 1) := by decide +kernel
theorem dL_drawn_282 : decode cL_drawn 282 = .ok (.aload_n 1, 1) := by decide +kernel
theorem dL_drawn_283 : decode cL_drawn 283 = .ok (.bipush 53, 2) := by decide +kernel
theorem dL_drawn_285 : decode cL_drawn 285 = .ok (.iconst 5, 1) := by decide +kernel
theorem dL_drawn_286 : decode cL_drawn 286 = .ok (.iload_n 3, 1) := by decide +kernel
theorem dL_drawn_287 : decode cL_drawn 287 = .ok (.imul, 1) := by decide +kernel
theorem dL_drawn_288 : decode cL_drawn 288 = .ok (.iadd, 1) := by decide +kernel
theorem dL_drawn_289 : decode cL_drawn 289 = .ok (.iconst 1, 1) := by decide +kernel
theorem dL_drawn_290 : decode cL_drawn 290 = .ok (.iload_n 2, 1) := by decide +kernel
theorem dL_drawn_291 : decode cL_drawn 291 = .ok (.bipush 9, 2) := by decide +kernel
theorem dL_drawn_293 : decode cL_drawn 293 = .ok (.ishr, 1) := by decide +kernel
theorem dL_drawn_294 : decode cL_drawn 294 = .ok (.iconst 3, 1) := by decide +kernel
theorem dL_drawn_295 : decode cL_drawn 295 = .ok (.iand, 1) := by decide +kernel
theorem dL_drawn_296 : decode cL_drawn 296 = .ok (.iadd, 1) := by decide +kernel
theorem dL_drawn_297 : decode cL_drawn 297 = .ok (.iastore, 1) := by decide +kernel
theorem dL_drawn_298 : decode cL_drawn 298 = .ok (.aload_n 1, 1) := by decide +kernel
theorem dL_drawn_299 : decode cL_drawn 299 = .ok (.bipush 54, 2) := by decide +kernel
theorem dL_drawn_301 : decode cL_drawn 301 = .ok (.iconst 5, 1) := by decide +kernel
theorem dL_drawn_302 : decode cL_drawn 302 = .ok (.iload_n 3, 1) := by decide +kernel
theorem dL_drawn_303 : decode cL_drawn 303 = .ok (.imul, 1) := by decide +kernel
theorem dL_drawn_304 : decode cL_drawn 304 = .ok (.iadd, 1) := by decide +kernel
theorem dL_drawn_305 : decode cL_drawn 305 = .ok (.iconst 1, 1) := by decide +kernel
theorem dL_drawn_306 : decode cL_drawn 306 = .ok (.iload_n 2, 1) := by decide +kernel
theorem dL_drawn_307 : decode cL_drawn 307 = .ok (.bipush 11, 2) := by decide +kernel
theorem dL_drawn_309 : decode cL_drawn 309 = .ok (.ishr, 1) := by decide +kernel
theorem dL_drawn_310 : decode cL_drawn 310 = .ok (.iconst 3, 1) := by decide +kernel
theorem dL_drawn_311 : decode cL_drawn 311 = .ok (.iand, 1) := by decide +kernel
theorem dL_drawn_312 : decode cL_drawn 312 = .ok (.iadd, 1) := by decide +kernel
theorem dL_drawn_313 : decode cL_drawn 313 = .ok (.iastore, 1) := by decide +kernel
theorem dL_drawn_314 : decode cL_drawn 314 = .ok (.iinc 3 1, 3) := by decide +kernel
theorem dL_drawn_317 : decode cL_drawn 317 = .ok (.goto (-93), 3) := by decide +kernel
theorem dL_drawn_320 : decode cL_drawn 320 = .ok (.aload_n 0, 1) := by decide +kernel
theorem dL_drawn_321 : decode cL_drawn 321 = .ok (.bipush 10, 2) := by decide +kernel
theorem dL_drawn_323 : decode cL_drawn 323 = .ok (.invokestatic 25, 3) := by decide +kernel
theorem dL_drawn_326 : decode cL_drawn 326 = .ok (.istore_n 2, 1) := by decide +kernel
theorem dL_drawn_327 : decode cL_drawn 327 = .ok (.aload_n 1, 1) := by decide +kernel
theorem dL_drawn_328 : decode cL_drawn 328 = .ok (.bipush 70, 2) := by decide +kernel
theorem dL_drawn_330 : decode cL_drawn 330 = .ok (.iconst 2, 1) := by decide +kernel
theorem dL_drawn_331 : decode cL_drawn 331 = .ok (.iload_n 2, 1) := by decide +kernel
theorem dL_drawn_332 : decode cL_drawn 332 = .ok (.bipush 7, 2) := by decide +kernel
theorem dL_drawn_334 : decode cL_drawn 334 = .ok (.iand, 1) := by decide +kernel
theorem dL_drawn_335 : decode cL_drawn 335 = .ok (.iconst 5, 1) := by decide +kernel
theorem dL_drawn_336 : decode cL_drawn 336 = .ok (.irem, 1) := by decide +kernel
theorem dL_drawn_337 : decode cL_drawn 337 = .ok (.iadd, 1) := by decide +kernel
theorem dL_drawn_338 : decode cL_drawn 338 = .ok (.iastore, 1) := by decide +kernel
theorem dL_drawn_339 : decode cL_drawn 339 = .ok (.iconst 0, 1) := by decide +kernel
theorem dL_drawn_340 : decode cL_drawn 340 = .ok (.istore_n 3, 1) := by decide +kernel
theorem dL_drawn_341 : decode cL_drawn 341 = .ok (.iload_n 3, 1) := by decide +kernel
theorem dL_drawn_342 : decode cL_drawn 342 = .ok (.aload_n 1, 1) := by decide +kernel
theorem dL_drawn_343 : decode cL_drawn 343 = .ok (.bipush 70, 2) := by decide +kernel
theorem dL_drawn_345 : decode cL_drawn 345 = .ok (.iaload, 1) := by decide +kernel
theorem dL_drawn_346 : decode cL_drawn 346 = .ok (.if_icmp .ge 92, 3) := by decide +kernel
theorem dL_drawn_349 : decode cL_drawn 349 = .ok (.aload_n 0, 1) := by decide +kernel
theorem dL_drawn_350 : decode cL_drawn 350 = .ok (.bipush 11, 2) := by decide +kernel
theorem dL_drawn_352 : decode cL_drawn 352 = .ok (.iload_n 3, 1) := by decide +kernel
theorem dL_drawn_353 : decode cL_drawn 353 = .ok (.iadd, 1) := by decide +kernel
theorem dL_drawn_354 : decode cL_drawn 354 = .ok (.invokestatic 25, 3) := by decide +kernel
theorem dL_drawn_357 : decode cL_drawn 357 = .ok (.istore 4, 2) := by decide +kernel
theorem dL_drawn_359 : decode cL_drawn 359 = .ok (.aload_n 1, 1) := by decide +kernel
theorem dL_drawn_360 : decode cL_drawn 360 = .ok (.bipush 71, 2) := by decide +kernel
theorem dL_drawn_362 : decode cL_drawn 362 = .ok (.iconst 5, 1) := by decide +kernel
theorem dL_drawn_363 : decode cL_drawn 363 = .ok (.iload_n 3, 1) := by decide +kernel
theorem dL_drawn_364 : decode cL_drawn 364 = .ok (.imul, 1) := by decide +kernel
theorem dL_drawn_365 : decode cL_drawn 365 = .ok (.iadd, 1) := by decide +kernel
theorem dL_drawn_366 : decode cL_drawn 366 = .ok (.iload 4, 2) := by decide +kernel
theorem dL_drawn_368 : decode cL_drawn 368 = .ok (.iconst 3, 1) := by decide +kernel
theorem dL_drawn_369 : decode cL_drawn 369 = .ok (.iand, 1) := by decide +kernel
theorem dL_drawn_370 : decode cL_drawn 370 = .ok (.iconst 3, 1) := by decide +kernel
theorem dL_drawn_371 : decode cL_drawn 371 = .ok (.irem, 1) := by decide +kernel
theorem dL_drawn_372 : decode cL_drawn 372 = .ok (.iastore, 1) := by decide +kernel
theorem dL_drawn_373 : decode cL_drawn 373 = .ok (.aload_n 1, 1) := by decide +kernel
theorem dL_drawn_374 : decode cL_drawn 374 = .ok (.bipush 72, 2) := by decide +kernel
theorem dL_drawn_376 : decode cL_drawn 376 = .ok (.iconst 5, 1) := by decide +kernel
theorem dL_drawn_377 : decode cL_drawn 377 = .ok (.iload_n 3, 1) := by decide +kernel
theorem dL_drawn_378 : decode cL_drawn 378 = .ok (.imul, 1) := by decide +kernel
theorem dL_drawn_379 : decode cL_drawn 379 = .ok (.iadd, 1) := by decide +kernel
theorem dL_drawn_380 : decode cL_drawn 380 = .ok (.iload 4, 2) := by decide +kernel
theorem dL_drawn_382 : decode cL_drawn 382 = .ok (.iconst 2, 1) := by decide +kernel
theorem dL_drawn_383 : decode cL_drawn 383 = .ok (.ishr, 1) := by decide +kernel
theorem dL_drawn_384 : decode cL_drawn 384 = .ok (.iconst 1, 1) := by decide +kernel
theorem dL_drawn_385 : decode cL_drawn 385 = .ok (.iand, 1) := by decide +kernel
theorem dL_drawn_386 : decode cL_drawn 386 = .ok (.iastore, 1) := by decide +kernel
theorem dL_drawn_387 : decode cL_drawn 387 = .ok (.aload_n 1, 1) := by decide +kernel
theorem dL_drawn_388 : decode cL_drawn 388 = .ok (.bipush 73, 2) := by decide +kernel
theorem dL_drawn_390 : decode cL_drawn 390 = .ok (.iconst 5, 1) := by decide +kernel
theorem dL_drawn_391 : decode cL_drawn 391 = .ok (.iload_n 3, 1) := by decide +kernel
theorem dL_drawn_392 : decode cL_drawn 392 = .ok (.imul, 1) := by decide +kernel
theorem dL_drawn_393 : decode cL_drawn 393 = .ok (.iadd, 1) := by decide +kernel
theorem dL_drawn_394 : decode cL_drawn 394 = .ok (.iload 4, 2) := by decide +kernel
theorem dL_drawn_396 : decode cL_drawn 396 = .ok (.iconst 3, 1) := by decide +kernel
theorem dL_drawn_397 : decode cL_drawn 397 = .ok (.ishr, 1) := by decide +kernel
theorem dL_drawn_398 : decode cL_drawn 398 = .ok (.iconst 1, 1) := by decide +kernel
theorem dL_drawn_399 : decode cL_drawn 399 = .ok (.iand, 1) := by decide +kernel
theorem dL_drawn_400 : decode cL_drawn 400 = .ok (.iastore, 1) := by decide +kernel
theorem dL_drawn_401 : decode cL_drawn 401 = .ok (.aload_n 1, 1) := by decide +kernel
theorem dL_drawn_402 : decode cL_drawn 402 = .ok (.bipush 74, 2) := by decide +kernel
theorem dL_drawn_404 : decode cL_drawn 404 = .ok (.iconst 5, 1) := by decide +kernel
theorem dL_drawn_405 : decode cL_drawn 405 = .ok (.iload_n 3, 1) := by decide +kernel
theorem dL_drawn_406 : decode cL_drawn 406 = .ok (.imul, 1) := by decide +kernel
theorem dL_drawn_407 : decode cL_drawn 407 = .ok (.iadd, 1) := by decide +kernel
theorem dL_drawn_408 : decode cL_drawn 408 = .ok (.iload 4, 2) := by decide +kernel
theorem dL_drawn_410 : decode cL_drawn 410 = .ok (.iconst 4, 1) := by decide +kernel
theorem dL_drawn_411 : decode cL_drawn 411 = .ok (.ishr, 1) := by decide +kernel
theorem dL_drawn_412 : decode cL_drawn 412 = .ok (.iconst 1, 1) := by decide +kernel
theorem dL_drawn_413 : decode cL_drawn 413 = .ok (.iand, 1) := by decide +kernel
theorem dL_drawn_414 : decode cL_drawn 414 = .ok (.iastore, 1) := by decide +kernel
theorem dL_drawn_415 : decode cL_drawn 415 = .ok (.aload_n 1, 1) := by decide +kernel
theorem dL_drawn_416 : decode cL_drawn 416 = .ok (.bipush 75, 2) := by decide +kernel
theorem dL_drawn_418 : decode cL_drawn 418 = .ok (.iconst 5, 1) := by decide +kernel
theorem dL_drawn_419 : decode cL_drawn 419 = .ok (.iload_n 3, 1) := by decide +kernel
theorem dL_drawn_420 : decode cL_drawn 420 = .ok (.imul, 1) := by decide +kernel
theorem dL_drawn_421 : decode cL_drawn 421 = .ok (.iadd, 1) := by decide +kernel
theorem dL_drawn_422 : decode cL_drawn 422 = .ok (.iconst 1, 1) := by decide +kernel
theorem dL_drawn_423 : decode cL_drawn 423 = .ok (.iload 4, 2) := by decide +kernel
theorem dL_drawn_425 : decode cL_drawn 425 = .ok (.iconst 5, 1) := by decide +kernel
theorem dL_drawn_426 : decode cL_drawn 426 = .ok (.ishr, 1) := by decide +kernel
theorem dL_drawn_427 : decode cL_drawn 427 = .ok (.bipush 31, 2) := by decide +kernel
theorem dL_drawn_429 : decode cL_drawn 429 = .ok (.iand, 1) := by decide +kernel
theorem dL_drawn_430 : decode cL_drawn 430 = .ok (.iadd, 1) := by decide +kernel
theorem dL_drawn_431 : decode cL_drawn 431 = .ok (.iastore, 1) := by decide +kernel
theorem dL_drawn_432 : decode cL_drawn 432 = .ok (.iinc 3 1, 3) := by decide +kernel
theorem dL_drawn_435 : decode cL_drawn 435 = .ok (.goto (-94), 3) := by decide +kernel
theorem dL_drawn_438 : decode cL_drawn 438 = .ok (.aload_n 1, 1) := by decide +kernel
theorem dL_drawn_439 : decode cL_drawn 439 = .ok (.areturn, 1) := by decide +kernel
theorem dL_part_0 : decode cL_part 0 = .ok (.aload_n 0, 1) := by decide +kernel
theorem dL_part_1 : decode cL_part 1 = .ok (.aload_n 1, 1) := by decide +kernel
theorem dL_part_2 : decode cL_part 2 = .ok (.bipush 32, 2) := by decide +kernel
theorem dL_part_4 : decode cL_part 4 = .ok (.invokestatic 21, 3) := by decide +kernel
theorem dL_part_7 : decode cL_part 7 = .ok (.aload_n 0, 1) := by decide +kernel
theorem dL_part_8 : decode cL_part 8 = .ok (.aload_n 1, 1) := by decide +kernel
theorem dL_part_9 : decode cL_part 9 = .ok (.iload_n 2, 1) := by decide +kernel
theorem dL_part_10 : decode cL_part 10 = .ok (.invokestatic 29, 3) := by decide +kernel
theorem dL_part_13 : decode cL_part 13 = .ok (.return_, 1) := by decide +kernel
theorem dL_mealName_0 : decode cL_mealName 0 = .ok (.iload_n 2, 1) := by decide +kernel
theorem dL_mealName_1 : decode cL_mealName 1 = .ok (.ifCond .ne 14, 3) := by decide +kernel
theorem dL_mealName_4 : decode cL_mealName 4 = .ok (.aload_n 0, 1) := by decide +kernel
theorem dL_mealName_5 : decode cL_mealName 5 = .ok (.aload_n 1, 1) := by decide +kernel
theorem dL_mealName_6 : decode cL_mealName 6 = .ok (.ldc2_w 32, 3) := by decide +kernel
theorem dL_mealName_9 : decode cL_mealName 9 = .ok (.invokestatic 34, 3) := by decide +kernel
theorem dL_mealName_12 : decode cL_mealName 12 = .ok (.goto 11, 3) := by decide +kernel
theorem dL_mealName_15 : decode cL_mealName 15 = .ok (.aload_n 0, 1) := by decide +kernel
theorem dL_mealName_16 : decode cL_mealName 16 = .ok (.aload_n 1, 1) := by decide +kernel
theorem dL_mealName_17 : decode cL_mealName 17 = .ok (.ldc2_w 38, 3) := by decide +kernel
theorem dL_mealName_20 : decode cL_mealName 20 = .ok (.invokestatic 34, 3) := by decide +kernel
theorem dL_mealName_23 : decode cL_mealName 23 = .ok (.return_, 1) := by decide +kernel
theorem dL_says_0 : decode cL_says 0 = .ok (.iconst 1, 1) := by decide +kernel
theorem dL_says_1 : decode cL_says 1 = .ok (.istore_n 3, 1) := by decide +kernel
theorem dL_says_2 : decode cL_says 2 = .ok (.iload_n 3, 1) := by decide +kernel
theorem dL_says_3 : decode cL_says 3 = .ok (.ifCond .lt 64, 3) := by decide +kernel
theorem dL_says_6 : decode cL_says 6 = .ok (.aload_n 0, 1) := by decide +kernel
theorem dL_says_7 : decode cL_says 7 = .ok (.aload_n 1, 1) := by decide +kernel
theorem dL_says_8 : decode cL_says 8 = .ok (.ldc2_w 40, 3) := by decide +kernel
theorem dL_says_11 : decode cL_says 11 = .ok (.invokestatic 34, 3) := by decide +kernel
theorem dL_says_14 : decode cL_says 14 = .ok (.aload_n 0, 1) := by decide +kernel
theorem dL_says_15 : decode cL_says 15 = .ok (.aload_n 1, 1) := by decide +kernel
theorem dL_says_16 : decode cL_says 16 = .ok (.iload_n 3, 1) := by decide +kernel
theorem dL_says_17 : decode cL_says 17 = .ok (.invokestatic 42, 3) := by decide +kernel
theorem dL_says_20 : decode cL_says 20 = .ok (.aload_n 0, 1) := by decide +kernel
theorem dL_says_21 : decode cL_says 21 = .ok (.aload_n 1, 1) := by decide +kernel
theorem dL_says_22 : decode cL_says 22 = .ok (.ldc2_w 45, 3) := by decide +kernel
theorem dL_says_25 : decode cL_says 25 = .ok (.invokestatic 34, 3) := by decide +kernel
theorem dL_says_28 : decode cL_says 28 = .ok (.aload_n 0, 1) := by decide +kernel
theorem dL_says_29 : decode cL_says 29 = .ok (.aload_n 1, 1) := by decide +kernel
theorem dL_says_30 : decode cL_says 30 = .ok (.aload_n 2, 1) := by decide +kernel
theorem dL_says_31 : decode cL_says 31 = .ok (.iload_n 3, 1) := by decide +kernel
theorem dL_says_32 : decode cL_says 32 = .ok (.iaload, 1) := by decide +kernel
theorem dL_says_33 : decode cL_says 33 = .ok (.invokestatic 42, 3) := by decide +kernel
theorem dL_says_36 : decode cL_says 36 = .ok (.aload_n 0, 1) := by decide +kernel
theorem dL_says_37 : decode cL_says 37 = .ok (.aload_n 1, 1) := by decide +kernel
theorem dL_says_38 : decode cL_says 38 = .ok (.ldc2_w 47, 3) := by decide +kernel
theorem dL_says_41 : decode cL_says 41 = .ok (.invokestatic 34, 3) := by decide +kernel
theorem dL_says_44 : decode cL_says 44 = .ok (.aload_n 0, 1) := by decide +kernel
theorem dL_says_45 : decode cL_says 45 = .ok (.aload_n 1, 1) := by decide +kernel
theorem dL_says_46 : decode cL_says 46 = .ok (.aload_n 2, 1) := by decide +kernel
theorem dL_says_47 : decode cL_says 47 = .ok (.iconst 2, 1) := by decide +kernel
theorem dL_says_48 : decode cL_says 48 = .ok (.iload_n 3, 1) := by decide +kernel
theorem dL_says_49 : decode cL_says 49 = .ok (.iadd, 1) := by decide +kernel
theorem dL_says_50 : decode cL_says 50 = .ok (.iaload, 1) := by decide +kernel
theorem dL_says_51 : decode cL_says 51 = .ok (.invokestatic 42, 3) := by decide +kernel
theorem dL_says_54 : decode cL_says 54 = .ok (.aload_n 0, 1) := by decide +kernel
theorem dL_says_55 : decode cL_says 55 = .ok (.aload_n 1, 1) := by decide +kernel
theorem dL_says_56 : decode cL_says 56 = .ok (.bipush 59, 2) := by decide +kernel
theorem dL_says_58 : decode cL_says 58 = .ok (.invokestatic 21, 3) := by decide +kernel
theorem dL_says_61 : decode cL_says 61 = .ok (.iinc 3 (-1), 3) := by decide +kernel
theorem dL_says_64 : decode cL_says 64 = .ok (.goto (-62), 3) := by decide +kernel
theorem dL_says_67 : decode cL_says 67 = .ok (.iconst 0, 1) := by decide +kernel
theorem dL_says_68 : decode cL_says 68 = .ok (.istore_n 3, 1) := by decide +kernel
theorem dL_says_69 : decode cL_says 69 = .ok (.iload_n 3, 1) := by decide +kernel
theorem dL_says_70 : decode cL_says 70 = .ok (.iconst 4, 1) := by decide +kernel
theorem dL_says_71 : decode cL_says 71 = .ok (.if_icmp .ge 63, 3) := by decide +kernel
theorem dL_says_74 : decode cL_says 74 = .ok (.aload_n 0, 1) := by decide +kernel
theorem dL_says_75 : decode cL_says 75 = .ok (.aload_n 1, 1) := by decide +kernel
theorem dL_says_76 : decode cL_says 76 = .ok (.ldc2_w 49, 3) := by decide +kernel
theorem dL_says_79 : decode cL_says 79 = .ok (.invokestatic 34, 3) := by decide +kernel
theorem dL_says_82 : decode cL_says 82 = .ok (.aload_n 0, 1) := by decide +kernel
theorem dL_says_83 : decode cL_says 83 = .ok (.aload_n 1, 1) := by decide +kernel
theorem dL_says_84 : decode cL_says 84 = .ok (.iload_n 3, 1) := by decide +kernel
theorem dL_says_85 : decode cL_says 85 = .ok (.iconst 2, 1) := by decide +kernel
theorem dL_says_86 : decode cL_says 86 = .ok (.idiv, 1) := by decide +kernel
theorem dL_says_87 : decode cL_says 87 = .ok (.invokestatic 42, 3) := by decide +kernel
theorem dL_says_90 : decode cL_says 90 = .ok (.iconst 0, 1) := by decide +kernel
theorem dL_says_91 : decode cL_says 91 = .ok (.istore 4, 2) := by decide +kernel
theorem dL_says_93 : decode cL_says 93 = .ok (.iload 4, 2) := by decide +kernel
theorem dL_says_95 : decode cL_says 95 = .ok (.iconst 3, 1) := by decide +kernel
theorem dL_says_96 : decode cL_says 96 = .ok (.if_icmp .ge 25, 3) := by decide +kernel
theorem dL_says_99 : decode cL_says 99 = .ok (.aload_n 0, 1) := by decide +kernel
theorem dL_says_100 : decode cL_says 100 = .ok (.aload_n 1, 1) := by decide +kernel
theorem dL_says_101 : decode cL_says 101 = .ok (.aload_n 2, 1) := by decide +kernel
theorem dL_says_102 : decode cL_says 102 = .ok (.bipush 10, 2) := by decide +kernel
theorem dL_says_104 : decode cL_says 104 = .ok (.iconst 3, 1) := by decide +kernel
theorem dL_says_105 : decode cL_says 105 = .ok (.iload_n 3, 1) := by decide +kernel
theorem dL_says_106 : decode cL_says 106 = .ok (.imul, 1) := by decide +kernel
theorem dL_says_107 : decode cL_says 107 = .ok (.iadd, 1) := by decide +kernel
theorem dL_says_108 : decode cL_says 108 = .ok (.iload 4, 2) := by decide +kernel
theorem dL_says_110 : decode cL_says 110 = .ok (.iadd, 1) := by decide +kernel
theorem dL_says_111 : decode cL_says 111 = .ok (.iaload, 1) := by decide +kernel
theorem dL_says_112 : decode cL_says 112 = .ok (.invokestatic 42, 3) := by decide +kernel
theorem dL_says_115 : decode cL_says 115 = .ok (.iinc 4 1, 3) := by decide +kernel
theorem dL_says_118 : decode cL_says 118 = .ok (.goto (-25), 3) := by decide +kernel
theorem dL_says_121 : decode cL_says 121 = .ok (.aload_n 0, 1) := by decide +kernel
theorem dL_says_122 : decode cL_says 122 = .ok (.aload_n 1, 1) := by decide +kernel
theorem dL_says_123 : decode cL_says 123 = .ok (.bipush 59, 2) := by decide +kernel
theorem dL_says_125 : decode cL_says 125 = .ok (.invokestatic 21, 3) := by decide +kernel
theorem dL_says_128 : decode cL_says 128 = .ok (.iinc 3 1, 3) := by decide +kernel
theorem dL_says_131 : decode cL_says 131 = .ok (.goto (-62), 3) := by decide +kernel
theorem dL_says_134 : decode cL_says 134 = .ok (.iconst 0, 1) := by decide +kernel
theorem dL_says_135 : decode cL_says 135 = .ok (.istore_n 3, 1) := by decide +kernel
theorem dL_says_136 : decode cL_says 136 = .ok (.iload_n 3, 1) := by decide +kernel
theorem dL_says_137 : decode cL_says 137 = .ok (.iconst 2, 1) := by decide +kernel
theorem dL_says_138 : decode cL_says 138 = .ok (.if_icmp .ge 56, 3) := by decide +kernel
theorem dL_says_141 : decode cL_says 141 = .ok (.aload_n 0, 1) := by decide +kernel
theorem dL_says_142 : decode cL_says 142 = .ok (.aload_n 1, 1) := by decide +kernel
theorem dL_says_143 : decode cL_says 143 = .ok (.ldc2_w 51, 3) := by decide +kernel
theorem dL_says_146 : decode cL_says 146 = .ok (.invokestatic 34, 3) := by decide +kernel
theorem dL_says_149 : decode cL_says 149 = .ok (.aload_n 0, 1) := by decide +kernel
theorem dL_says_150 : decode cL_says 150 = .ok (.aload_n 1, 1) := by decide +kernel
theorem dL_says_151 : decode cL_says 151 = .ok (.iload_n 3, 1) := by decide +kernel
theorem dL_says_152 : decode cL_says 152 = .ok (.invokestatic 53, 3) := by decide +kernel
theorem dL_says_155 : decode cL_says 155 = .ok (.aload_n 0, 1) := by decide +kernel
theorem dL_says_156 : decode cL_says 156 = .ok (.aload_n 1, 1) := by decide +kernel
theorem dL_says_157 : decode cL_says 157 = .ok (.aload_n 2, 1) := by decide +kernel
theorem dL_says_158 : decode cL_says 158 = .ok (.bipush 30, 2) := by decide +kernel
theorem dL_says_160 : decode cL_says 160 = .ok (.iconst 2, 1) := by decide +kernel
theorem dL_says_161 : decode cL_says 161 = .ok (.iload_n 3, 1) := by decide +kernel
theorem dL_says_162 : decode cL_says 162 = .ok (.imul, 1) := by decide +kernel
theorem dL_says_163 : decode cL_says 163 = .ok (.iadd, 1) := by decide +kernel
theorem dL_says_164 : decode cL_says 164 = .ok (.iaload, 1) := by decide +kernel
theorem dL_says_165 : decode cL_says 165 = .ok (.invokestatic 42, 3) := by decide +kernel
theorem dL_says_168 : decode cL_says 168 = .ok (.aload_n 0, 1) := by decide +kernel
theorem dL_says_169 : decode cL_says 169 = .ok (.aload_n 1, 1) := by decide +kernel
theorem dL_says_170 : decode cL_says 170 = .ok (.aload_n 2, 1) := by decide +kernel
theorem dL_says_171 : decode cL_says 171 = .ok (.bipush 31, 2) := by decide +kernel
theorem dL_says_173 : decode cL_says 173 = .ok (.iconst 2, 1) := by decide +kernel
theorem dL_says_174 : decode cL_says 174 = .ok (.iload_n 3, 1) := by decide +kernel
theorem dL_says_175 : decode cL_says 175 = .ok (.imul, 1) := by decide +kernel
theorem dL_says_176 : decode cL_says 176 = .ok (.iadd, 1) := by decide +kernel
theorem dL_says_177 : decode cL_says 177 = .ok (.iaload, 1) := by decide +kernel
theorem dL_says_178 : decode cL_says 178 = .ok (.invokestatic 42, 3) := by decide +kernel
theorem dL_says_181 : decode cL_says 181 = .ok (.aload_n 0, 1) := by decide +kernel
theorem dL_says_182 : decode cL_says 182 = .ok (.aload_n 1, 1) := by decide +kernel
theorem dL_says_183 : decode cL_says 183 = .ok (.bipush 59, 2) := by decide +kernel
theorem dL_says_185 : decode cL_says 185 = .ok (.invokestatic 21, 3) := by decide +kernel
theorem dL_says_188 : decode cL_says 188 = .ok (.iinc 3 1, 3) := by decide +kernel
theorem dL_says_191 : decode cL_says 191 = .ok (.goto (-55), 3) := by decide +kernel
theorem dL_says_194 : decode cL_says 194 = .ok (.iconst 0, 1) := by decide +kernel
theorem dL_says_195 : decode cL_says 195 = .ok (.istore_n 3, 1) := by decide +kernel
theorem dL_says_196 : decode cL_says 196 = .ok (.iload_n 3, 1) := by decide +kernel
theorem dL_says_197 : decode cL_says 197 = .ok (.iconst 2, 1) := by decide +kernel
theorem dL_says_198 : decode cL_says 198 = .ok (.if_icmp .ge 94, 3) := by decide +kernel
theorem dL_says_201 : decode cL_says 201 = .ok (.aload_n 0, 1) := by decide +kernel
theorem dL_says_202 : decode cL_says 202 = .ok (.aload_n 1, 1) := by decide +kernel
theorem dL_says_203 : decode cL_says 203 = .ok (.ldc2_w 56, 3) := by decide +kernel
theorem dL_says_206 : decode cL_says 206 = .ok (.invokestatic 34, 3) := by decide +kernel
theorem dL_says_209 : decode cL_says 209 = .ok (.aload_n 0, 1) := by decide +kernel
theorem dL_says_210 : decode cL_says 210 = .ok (.aload_n 1, 1) := by decide +kernel
theorem dL_says_211 : decode cL_says 211 = .ok (.aload_n 2, 1) := by decide +kernel
theorem dL_says_212 : decode cL_says 212 = .ok (.bipush 40, 2) := by decide +kernel
theorem dL_says_214 : decode cL_says 214 = .ok (.iload_n 3, 1) := by decide +kernel
theorem dL_says_215 : decode cL_says 215 = .ok (.iadd, 1) := by decide +kernel
theorem dL_says_216 : decode cL_says 216 = .ok (.iaload, 1) := by decide +kernel
theorem dL_says_217 : decode cL_says 217 = .ok (.invokestatic 42, 3) := by decide +kernel
theorem dL_says_220 : decode cL_says 220 = .ok (.aload_n 0, 1) := by decide +kernel
theorem dL_says_221 : decode cL_says 221 = .ok (.aload_n 1, 1) := by decide +kernel
theorem dL_says_222 : decode cL_says 222 = .ok (.bipush 59, 2) := by decide +kernel
theorem dL_says_224 : decode cL_says 224 = .ok (.invokestatic 21, 3) := by decide +kernel
theorem dL_says_227 : decode cL_says 227 = .ok (.iconst 0, 1) := by decide +kernel
theorem dL_says_228 : decode cL_says 228 = .ok (.istore 4, 2) := by decide +kernel
theorem dL_says_230 : decode cL_says 230 = .ok (.iload 4, 2) := by decide +kernel
theorem dL_says_232 : decode cL_says 232 = .ok (.iconst 2, 1) := by decide +kernel
theorem dL_says_233 : decode cL_says 233 = .ok (.if_icmp .ge 53, 3) := by decide +kernel
theorem dL_says_236 : decode cL_says 236 = .ok (.aload_n 0, 1) := by decide +kernel
theorem dL_says_237 : decode cL_says 237 = .ok (.aload_n 1, 1) := by decide +kernel
theorem dL_says_238 : decode cL_says 238 = .ok (.ldc2_w 58, 3) := by decide +kernel
theorem dL_says_241 : decode cL_says 241 = .ok (.invokestatic 34, 3) := by decide +kernel
theorem dL_says_244 : decode cL_says 244 = .ok (.aload_n 0, 1) := by decide +kernel
theorem dL_says_245 : decode cL_says 245 = .ok (.aload_n 1, 1) := by decide +kernel
theorem dL_says_246 : decode cL_says 246 = .ok (.iload_n 3, 1) := by decide +kernel
theorem dL_says_247 : decode cL_says 247 = .ok (.invokestatic 42, 3) := by decide +kernel
theorem dL_says_250 : decode cL_says 250 = .ok (.aload_n 0, 1) := by decide +kernel
theorem dL_says_251 : decode cL_says 251 = .ok (.aload_n 1, 1) := by decide +kernel
theorem dL_says_252 : decode cL_says 252 = .ok (.iload 4, 2) := by decide +kernel
theorem dL_says_254 : decode cL_says 254 = .ok (.invokestatic 53, 3) := by decide +kernel
theorem dL_says_257 : decode cL_says 257 = .ok (.aload_n 0, 1) := by decide +kernel
theorem dL_says_258 : decode cL_says 258 = .ok (.aload_n 1, 1) := by decide +kernel
theorem dL_says_259 : decode cL_says 259 = .ok (.aload_n 2, 1) := by decide +kernel
theorem dL_says_260 : decode cL_says 260 = .ok (.bipush 42, 2) := by decide +kernel
theorem dL_says_262 : decode cL_says 262 = .ok (.iconst 2, 1) := by decide +kernel
theorem dL_says_263 : decode cL_says 263 = .ok (.iload_n 3, 1) := by decide +kernel
theorem dL_says_264 : decode cL_says 264 = .ok (.imul, 1) := by decide +kernel
theorem dL_says_265 : decode cL_says 265 = .ok (.iadd, 1) := by decide +kernel
theorem dL_says_266 : decode cL_says 266 = .ok (.iload 4, 2) := by decide +kernel
theorem dL_says_268 : decode cL_says 268 = .ok (.iadd, 1) := by decide +kernel
theorem dL_says_269 : decode cL_says 269 = .ok (.iaload, 1) := by decide +kernel
theorem dL_says_270 : decode cL_says 270 = .ok (.invokestatic 42, 3) := by decide +kernel
theorem dL_says_273 : decode cL_says 273 = .ok (.aload_n 0, 1) := by decide +kernel
theorem dL_says_274 : decode cL_says 274 = .ok (.aload_n 1, 1) := by decide +kernel
theorem dL_says_275 : decode cL_says 275 = .ok (.bipush 59, 2) := by decide +kernel
theorem dL_says_277 : decode cL_says 277 = .ok (.invokestatic 21, 3) := by decide +kernel
theorem dL_says_280 : decode cL_says 280 = .ok (.iinc 4 1, 3) := by decide +kernel
theorem dL_says_283 : decode cL_says 283 = .ok (.goto (-53), 3) := by decide +kernel
theorem dL_says_286 : decode cL_says 286 = .ok (.iinc 3 1, 3) := by decide +kernel
theorem dL_says_289 : decode cL_says 289 = .ok (.goto (-93), 3) := by decide +kernel
theorem dL_says_292 : decode cL_says 292 = .ok (.iconst 0, 1) := by decide +kernel
theorem dL_says_293 : decode cL_says 293 = .ok (.istore_n 3, 1) := by decide +kernel
theorem dL_says_294 : decode cL_says 294 = .ok (.iload_n 3, 1) := by decide +kernel
theorem dL_says_295 : decode cL_says 295 = .ok (.iconst 3, 1) := by decide +kernel
theorem dL_says_296 : decode cL_says 296 = .ok (.if_icmp .ge 59, 3) := by decide +kernel
theorem dL_says_299 : decode cL_says 299 = .ok (.iload_n 3, 1) := by decide +kernel
theorem dL_says_300 : decode cL_says 300 = .ok (.ifCond .le 10, 3) := by decide +kernel
theorem dL_says_303 : decode cL_says 303 = .ok (.aload_n 0, 1) := by decide +kernel
theorem dL_says_304 : decode cL_says 304 = .ok (.aload_n 1, 1) := by decide +kernel
theorem dL_says_305 : decode cL_says 305 = .ok (.bipush 59, 2) := by decide +kernel
theorem dL_says_307 : decode cL_says 307 = .ok (.invokestatic 21, 3) := by decide +kernel
theorem dL_says_310 : decode cL_says 310 = .ok (.aload_n 0, 1) := by decide +kernel
theorem dL_says_311 : decode cL_says 311 = .ok (.aload_n 1, 1) := by decide +kernel
theorem dL_says_312 : decode cL_says 312 = .ok (.ldc2_w 60, 3) := by decide +kernel
theorem dL_says_315 : decode cL_says 315 = .ok (.invokestatic 34, 3) := by decide +kernel
theorem dL_says_318 : decode cL_says 318 = .ok (.iconst 0, 1) := by decide +kernel
theorem dL_says_319 : decode cL_says 319 = .ok (.istore 4, 2) := by decide +kernel
theorem dL_says_321 : decode cL_says 321 = .ok (.iload 4, 2) := by decide +kernel
theorem dL_says_323 : decode cL_says 323 = .ok (.iconst 5, 1) := by decide +kernel
theorem dL_says_324 : decode cL_says 324 = .ok (.if_icmp .ge 25, 3) := by decide +kernel
theorem dL_says_327 : decode cL_says 327 = .ok (.aload_n 0, 1) := by decide +kernel
theorem dL_says_328 : decode cL_says 328 = .ok (.aload_n 1, 1) := by decide +kernel
theorem dL_says_329 : decode cL_says 329 = .ok (.aload_n 2, 1) := by decide +kernel
theorem dL_says_330 : decode cL_says 330 = .ok (.bipush 50, 2) := by decide +kernel
theorem dL_says_332 : decode cL_says 332 = .ok (.iconst 5, 1) := by decide +kernel
theorem dL_says_333 : decode cL_says 333 = .ok (.iload_n 3, 1) := by decide +kernel
theorem dL_says_334 : decode cL_says 334 = .ok (.imul, 1) := by decide +kernel
theorem dL_says_335 : decode cL_says 335 = .ok (.iadd, 1) := by decide +kernel
theorem dL_says_336 : decode cL_says 336 = .ok (.iload 4, 2) := by decide +kernel
theorem dL_says_338 : decode cL_says 338 = .ok (.iadd, 1) := by decide +kernel
theorem dL_says_339 : decode cL_says 339 = .ok (.iaload, 1) := by decide +kernel
theorem dL_says_340 : decode cL_says 340 = .ok (.invokestatic 42, 3) := by decide +kernel
theorem dL_says_343 : decode cL_says 343 = .ok (.iinc 4 1, 3) := by decide +kernel
theorem dL_says_346 : decode cL_says 346 = .ok (.goto (-25), 3) := by decide +kernel
theorem dL_says_349 : decode cL_says 349 = .ok (.iinc 3 1, 3) := by decide +kernel
theorem dL_says_352 : decode cL_says 352 = .ok (.goto (-58), 3) := by decide +kernel
theorem dL_says_355 : decode cL_says 355 = .ok (.iconst 0, 1) := by decide +kernel
theorem dL_says_356 : decode cL_says 356 = .ok (.istore_n 3, 1) := by decide +kernel
theorem dL_says_357 : decode cL_says 357 = .ok (.iload_n 3, 1) := by decide +kernel
theorem dL_says_358 : decode cL_says 358 = .ok (.aload_n 2, 1) := by decide +kernel
theorem dL_says_359 : decode cL_says 359 = .ok (.bipush 70, 2) := by decide +kernel
theorem dL_says_361 : decode cL_says 361 = .ok (.iaload, 1) := by decide +kernel
theorem dL_says_362 : decode cL_says 362 = .ok (.if_icmp .ge 74, 3) := by decide +kernel
theorem dL_says_365 : decode cL_says 365 = .ok (.aload_n 0, 1) := by decide +kernel
theorem dL_says_366 : decode cL_says 366 = .ok (.aload_n 1, 1) := by decide +kernel
theorem dL_says_367 : decode cL_says 367 = .ok (.ldc2_w 62, 3) := by decide +kernel
theorem dL_says_370 : decode cL_says 370 = .ok (.invokestatic 34, 3) := by decide +kernel
theorem dL_says_373 : decode cL_says 373 = .ok (.iconst 0, 1) := by decide +kernel
theorem dL_says_374 : decode cL_says 374 = .ok (.istore 4, 2) := by decide +kernel
theorem dL_says_376 : decode cL_says 376 = .ok (.iload 4, 2) := by decide +kernel
theorem dL_says_378 : decode cL_says 378 = .ok (.iconst 3, 1) := by decide +kernel
theorem dL_says_379 : decode cL_says 379 = .ok (.if_icmp .ge 25, 3) := by decide +kernel
theorem dL_says_382 : decode cL_says 382 = .ok (.aload_n 0, 1) := by decide +kernel
theorem dL_says_383 : decode cL_says 383 = .ok (.aload_n 1, 1) := by decide +kernel
theorem dL_says_384 : decode cL_says 384 = .ok (.aload_n 2, 1) := by decide +kernel
theorem dL_says_385 : decode cL_says 385 = .ok (.bipush 71, 2) := by decide +kernel
theorem dL_says_387 : decode cL_says 387 = .ok (.iconst 5, 1) := by decide +kernel
theorem dL_says_388 : decode cL_says 388 = .ok (.iload_n 3, 1) := by decide +kernel
theorem dL_says_389 : decode cL_says 389 = .ok (.imul, 1) := by decide +kernel
theorem dL_says_390 : decode cL_says 390 = .ok (.iadd, 1) := by decide +kernel
theorem dL_says_391 : decode cL_says 391 = .ok (.iload 4, 2) := by decide +kernel
theorem dL_says_393 : decode cL_says 393 = .ok (.iadd, 1) := by decide +kernel
theorem dL_says_394 : decode cL_says 394 = .ok (.iaload, 1) := by decide +kernel
theorem dL_says_395 : decode cL_says 395 = .ok (.invokestatic 42, 3) := by decide +kernel
theorem dL_says_398 : decode cL_says 398 = .ok (.iinc 4 1, 3) := by decide +kernel
theorem dL_says_401 : decode cL_says 401 = .ok (.goto (-25), 3) := by decide +kernel
theorem dL_says_404 : decode cL_says 404 = .ok (.aload_n 0, 1) := by decide +kernel
theorem dL_says_405 : decode cL_says 405 = .ok (.aload_n 1, 1) := by decide +kernel
theorem dL_says_406 : decode cL_says 406 = .ok (.aload_n 2, 1) := by decide +kernel
theorem dL_says_407 : decode cL_says 407 = .ok (.bipush 74, 2) := by decide +kernel
theorem dL_says_409 : decode cL_says 409 = .ok (.iconst 5, 1) := by decide +kernel
theorem dL_says_410 : decode cL_says 410 = .ok (.iload_n 3, 1) := by decide +kernel
theorem dL_says_411 : decode cL_says 411 = .ok (.imul, 1) := by decide +kernel
theorem dL_says_412 : decode cL_says 412 = .ok (.iadd, 1) := by decide +kernel
theorem dL_says_413 : decode cL_says 413 = .ok (.iaload, 1) := by decide +kernel
theorem dL_says_414 : decode cL_says 414 = .ok (.invokestatic 53, 3) := by decide +kernel
theorem dL_says_417 : decode cL_says 417 = .ok (.aload_n 0, 1) := by decide +kernel
theorem dL_says_418 : decode cL_says 418 = .ok (.aload_n 1, 1) := by decide +kernel
theorem dL_says_419 : decode cL_says 419 = .ok (.aload_n 2, 1) := by decide +kernel
theorem dL_says_420 : decode cL_says 420 = .ok (.bipush 75, 2) := by decide +kernel
theorem dL_says_422 : decode cL_says 422 = .ok (.iconst 5, 1) := by decide +kernel
theorem dL_says_423 : decode cL_says 423 = .ok (.iload_n 3, 1) := by decide +kernel
theorem dL_says_424 : decode cL_says 424 = .ok (.imul, 1) := by decide +kernel
theorem dL_says_425 : decode cL_says 425 = .ok (.iadd, 1) := by decide +kernel
theorem dL_says_426 : decode cL_says 426 = .ok (.iaload, 1) := by decide +kernel
theorem dL_says_427 : decode cL_says 427 = .ok (.invokestatic 42, 3) := by decide +kernel
theorem dL_says_430 : decode cL_says 430 = .ok (.iinc 3 1, 3) := by decide +kernel
theorem dL_says_433 : decode cL_says 433 = .ok (.goto (-76), 3) := by decide +kernel
theorem dL_says_436 : decode cL_says 436 = .ok (.aload_n 0, 1) := by decide +kernel
theorem dL_says_437 : decode cL_says 437 = .ok (.aload_n 0, 1) := by decide +kernel
theorem dL_says_438 : decode cL_says 438 = .ok (.aload_n 1, 1) := by decide +kernel
theorem dL_says_439 : decode cL_says 439 = .ok (.invokestatic 64, 3) := by decide +kernel
theorem dL_says_442 : decode cL_says 442 = .ok (.invokevirtual 68, 3) := by decide +kernel
theorem dL_says_445 : decode cL_says 445 = .ok (.ireturn, 1) := by decide +kernel
theorem dL_law_0 : decode cL_law 0 = .ok (.new 14, 3) := by decide +kernel
theorem dL_law_3 : decode cL_law 3 = .ok (.dup, 1) := by decide +kernel
theorem dL_law_4 : decode cL_law 4 = .ok (.invokespecial 208, 3) := by decide +kernel
theorem dL_law_7 : decode cL_law 7 = .ok (.astore_n 1, 1) := by decide +kernel
theorem dL_law_8 : decode cL_law 8 = .ok (.bipush 7, 2) := by decide +kernel
theorem dL_law_10 : decode cL_law 10 = .ok (.newarray .int, 2) := by decide +kernel
theorem dL_law_12 : decode cL_law 12 = .ok (.astore_n 2, 1) := by decide +kernel
theorem dL_law_13 : decode cL_law 13 = .ok (.aload_n 0, 1) := by decide +kernel
theorem dL_law_14 : decode cL_law 14 = .ok (.invokestatic 209, 3) := by decide +kernel
theorem dL_law_17 : decode cL_law 17 = .ok (.astore_n 3, 1) := by decide +kernel
theorem dL_law_18 : decode cL_law 18 = .ok (.aload_n 1, 1) := by decide +kernel
theorem dL_law_19 : decode cL_law 19 = .ok (.aload_n 2, 1) := by decide +kernel
theorem dL_law_20 : decode cL_law 20 = .ok (.aload_n 3, 1) := by decide +kernel
theorem dL_law_21 : decode cL_law 21 = .ok (.invokestatic 212, 3) := by decide +kernel
theorem dL_law_24 : decode cL_law 24 = .ok (.aload_n 3, 1) := by decide +kernel
theorem dL_law_25 : decode cL_law 25 = .ok (.bipush 70, 2) := by decide +kernel
theorem dL_law_27 : decode cL_law 27 = .ok (.iaload, 1) := by decide +kernel
theorem dL_law_28 : decode cL_law 28 = .ok (.if_icmp .eq 5, 3) := by decide +kernel
theorem dL_law_31 : decode cL_law 31 = .ok (.iconst 0, 1) := by decide +kernel
theorem dL_law_32 : decode cL_law 32 = .ok (.ireturn, 1) := by decide +kernel
theorem dL_law_33 : decode cL_law 33 = .ok (.iconst 0, 1) := by decide +kernel
theorem dL_law_34 : decode cL_law 34 = .ok (.istore 4, 2) := by decide +kernel
theorem dL_law_36 : decode cL_law 36 = .ok (.iload 4, 2) := by decide +kernel
theorem dL_law_38 : decode cL_law 38 = .ok (.bipush 8, 2) := by decide +kernel
theorem dL_law_40 : decode cL_law 40 = .ok (.if_icmp .ge 381, 3) := by decide +kernel
theorem dL_law_43 : decode cL_law 43 = .ok (.aload_n 1, 1) := by decide +kernel
theorem dL_law_44 : decode cL_law 44 = .ok (.aload_n 3, 1) := by decide +kernel
theorem dL_law_45 : decode cL_law 45 = .ok (.invokestatic 216, 3) := by decide +kernel
theorem dL_law_48 : decode cL_law 48 = .ok (.ifCond .ne 5, 3) := by decide +kernel
theorem dL_law_51 : decode cL_law 51 = .ok (.iconst 0, 1) := by decide +kernel
theorem dL_law_52 : decode cL_law 52 = .ok (.ireturn, 1) := by decide +kernel
theorem dL_law_53 : decode cL_law 53 = .ok (.aload_n 0, 1) := by decide +kernel
theorem dL_law_54 : decode cL_law 54 = .ok (.bipush 20, 2) := by decide +kernel
theorem dL_law_56 : decode cL_law 56 = .ok (.iload 4, 2) := by decide +kernel
theorem dL_law_58 : decode cL_law 58 = .ok (.iadd, 1) := by decide +kernel
theorem dL_law_59 : decode cL_law 59 = .ok (.invokestatic 25, 3) := by decide +kernel
theorem dL_law_62 : decode cL_law 62 = .ok (.istore 5, 2) := by decide +kernel
theorem dL_law_64 : decode cL_law 64 = .ok (.iload 5, 2) := by decide +kernel
theorem dL_law_66 : decode cL_law 66 = .ok (.iconst 4, 1) := by decide +kernel
theorem dL_law_67 : decode cL_law 67 = .ok (.ishr, 1) := by decide +kernel
theorem dL_law_68 : decode cL_law 68 = .ok (.bipush 7, 2) := by decide +kernel
theorem dL_law_70 : decode cL_law 70 = .ok (.iand, 1) := by decide +kernel
theorem dL_law_71 : decode cL_law 71 = .ok (.istore 6, 2) := by decide +kernel
theorem dL_law_73 : decode cL_law 73 = .ok (.aload_n 1, 1) := by decide +kernel
theorem dL_law_74 : decode cL_law 74 = .ok (.invokestatic 220, 3) := by decide +kernel
theorem dL_law_77 : decode cL_law 77 = .ok (.astore 7, 2) := by decide +kernel
theorem dL_law_79 : decode cL_law 79 = .ok (.iload 5, 2) := by decide +kernel
theorem dL_law_81 : decode cL_law 81 = .ok (.bipush 15, 2) := by decide +kernel
theorem dL_law_83 : decode cL_law 83 = .ok (.iand, 1) := by decide +kernel
theorem dL_law_84 : decode cL_law 84 = .ok (.bipush 6, 2) := by decide +kernel
theorem dL_law_86 : decode cL_law 86 = .ok (.irem, 1) := by decide +kernel
theorem dL_law_87 : decode cL_law 87 = .ok (.tableswitch 166 0 4 #[33, 80, 91, 110, 135], 33) := by decide +kernel
theorem dL_law_120 : decode cL_law 120 = .ok (.aload_n 1, 1) := by decide +kernel
theorem dL_law_121 : decode cL_law 121 = .ok (.iload 5, 2) := by decide +kernel
theorem dL_law_123 : decode cL_law 123 = .ok (.bipush 7, 2) := by decide +kernel
theorem dL_law_125 : decode cL_law 125 = .ok (.ishr, 1) := by decide +kernel
theorem dL_law_126 : decode cL_law 126 = .ok (.iconst 3, 1) := by decide +kernel
theorem dL_law_127 : decode cL_law 127 = .ok (.iand, 1) := by decide +kernel
theorem dL_law_128 : decode cL_law 128 = .ok (.iconst 3, 1) := by decide +kernel
theorem dL_law_129 : decode cL_law 129 = .ok (.irem, 1) := by decide +kernel
theorem dL_law_130 : decode cL_law 130 = .ok (.iload 5, 2) := by decide +kernel
theorem dL_law_132 : decode cL_law 132 = .ok (.bipush 9, 2) := by decide +kernel
theorem dL_law_134 : decode cL_law 134 = .ok (.ishr, 1) := by decide +kernel
theorem dL_law_135 : decode cL_law 135 = .ok (.iconst 1, 1) := by decide +kernel
theorem dL_law_136 : decode cL_law 136 = .ok (.iand, 1) := by decide +kernel
theorem dL_law_137 : decode cL_law 137 = .ok (.iload 5, 2) := by decide +kernel
theorem dL_law_139 : decode cL_law 139 = .ok (.bipush 10, 2) := by decide +kernel
theorem dL_law_141 : decode cL_law 141 = .ok (.ishr, 1) := by decide +kernel
theorem dL_law_142 : decode cL_law 142 = .ok (.iconst 1, 1) := by decide +kernel
theorem dL_law_143 : decode cL_law 143 = .ok (.iand, 1) := by decide +kernel
theorem dL_law_144 : decode cL_law 144 = .ok (.iload 5, 2) := by decide +kernel
theorem dL_law_146 : decode cL_law 146 = .ok (.bipush 11, 2) := by decide +kernel
theorem dL_law_148 : decode cL_law 148 = .ok (.ishr, 1) := by decide +kernel
theorem dL_law_149 : decode cL_law 149 = .ok (.iconst 1, 1) := by decide +kernel
theorem dL_law_150 : decode cL_law 150 = .ok (.iand, 1) := by decide +kernel
theorem dL_law_151 : decode cL_law 151 = .ok (.iload 5, 2) := by decide +kernel
theorem dL_law_153 : decode cL_law 153 = .ok (.bipush 12, 2) := by decide +kernel
theorem dL_law_155 : decode cL_law 155 = .ok (.ishr, 1) := by decide +kernel
theorem dL_law_156 : decode cL_law 156 = .ok (.bipush 31, 2) := by decide +kernel
theorem dL_law_158 : decode cL_law 158 = .ok (.iand, 1) := by decide +kernel
theorem dL_law_159 : decode cL_law 159 = .ok (.invokevirtual 224, 3) := by decide +kernel
theorem dL_law_162 : decode cL_law 162 = .ok (.istore 8, 2) := by decide +kernel
theorem dL_law_164 : decode cL_law 164 = .ok (.goto 147, 3) := by decide +kernel
theorem dL_law_167 : decode cL_law 167 = .ok (.aload_n 1, 1) := by decide +kernel
theorem dL_law_168 : decode cL_law 168 = .ok (.iload 6, 2) := by decide +kernel
theorem dL_law_170 : decode cL_law 170 = .ok (.invokevirtual 227, 3) := by decide +kernel
theorem dL_law_173 : decode cL_law 173 = .ok (.istore 8, 2) := by decide +kernel
theorem dL_law_175 : decode cL_law 175 = .ok (.goto 136, 3) := by decide +kernel
theorem dL_law_178 : decode cL_law 178 = .ok (.aload_n 1, 1) := by decide +kernel
theorem dL_law_179 : decode cL_law 179 = .ok (.iload 6, 2) := by decide +kernel
theorem dL_law_181 : decode cL_law 181 = .ok (.iload 5, 2) := by decide +kernel
theorem dL_law_183 : decode cL_law 183 = .ok (.bipush 7, 2) := by decide +kernel
theorem dL_law_185 : decode cL_law 185 = .ok (.ishr, 1) := by decide +kernel
theorem dL_law_186 : decode cL_law 186 = .ok (.bipush 7, 2) := by decide +kernel
theorem dL_law_188 : decode cL_law 188 = .ok (.iand, 1) := by decide +kernel
theorem dL_law_189 : decode cL_law 189 = .ok (.invokevirtual 230, 3) := by decide +kernel
theorem dL_law_192 : decode cL_law 192 = .ok (.istore 8, 2) := by decide +kernel
theorem dL_law_194 : decode cL_law 194 = .ok (.goto 117, 3) := by decide +kernel
theorem dL_law_197 : decode cL_law 197 = .ok (.aload_n 1, 1) := by decide +kernel
theorem dL_law_198 : decode cL_law 198 = .ok (.iload 5, 2) := by decide +kernel
theorem dL_law_200 : decode cL_law 200 = .ok (.bipush 7, 2) := by decide +kernel
theorem dL_law_202 : decode cL_law 202 = .ok (.ishr, 1) := by decide +kernel
theorem dL_law_203 : decode cL_law 203 = .ok (.iconst 1, 1) := by decide +kernel
theorem dL_law_204 : decode cL_law 204 = .ok (.iand, 1) := by decide +kernel
theorem dL_law_205 : decode cL_law 205 = .ok (.iload 5, 2) := by decide +kernel
theorem dL_law_207 : decode cL_law 207 = .ok (.bipush 8, 2) := by decide +kernel
theorem dL_law_209 : decode cL_law 209 = .ok (.ishr, 1) := by decide +kernel
theorem dL_law_210 : decode cL_law 210 = .ok (.sipush 255, 3) := by decide +kernel
theorem dL_law_213 : decode cL_law 213 = .ok (.iand, 1) := by decide +kernel
theorem dL_law_214 : decode cL_law 214 = .ok (.invokevirtual 233, 3) := by decide +kernel
theorem dL_law_217 : decode cL_law 217 = .ok (.istore 8, 2) := by decide +kernel
theorem dL_law_219 : decode cL_law 219 = .ok (.goto 92, 3) := by decide +kernel
theorem dL_law_222 : decode cL_law 222 = .ok (.aload_n 1, 1) := by decide +kernel
theorem dL_law_223 : decode cL_law 223 = .ok (.iload 5, 2) := by decide +kernel
theorem dL_law_225 : decode cL_law 225 = .ok (.bipush 7, 2) := by decide +kernel
theorem dL_law_227 : decode cL_law 227 = .ok (.ishr, 1) := by decide +kernel
theorem dL_law_228 : decode cL_law 228 = .ok (.iconst 1, 1) := by decide +kernel
theorem dL_law_229 : decode cL_law 229 = .ok (.iand, 1) := by decide +kernel
theorem dL_law_230 : decode cL_law 230 = .ok (.iload 5, 2) := by decide +kernel
theorem dL_law_232 : decode cL_law 232 = .ok (.bipush 8, 2) := by decide +kernel
theorem dL_law_234 : decode cL_law 234 = .ok (.ishr, 1) := by decide +kernel
theorem dL_law_235 : decode cL_law 235 = .ok (.iconst 1, 1) := by decide +kernel
theorem dL_law_236 : decode cL_law 236 = .ok (.iand, 1) := by decide +kernel
theorem dL_law_237 : decode cL_law 237 = .ok (.iload 5, 2) := by decide +kernel
theorem dL_law_239 : decode cL_law 239 = .ok (.bipush 9, 2) := by decide +kernel
theorem dL_law_241 : decode cL_law 241 = .ok (.ishr, 1) := by decide +kernel
theorem dL_law_242 : decode cL_law 242 = .ok (.bipush 127, 2) := by decide +kernel
theorem dL_law_244 : decode cL_law 244 = .ok (.iand, 1) := by decide +kernel
theorem dL_law_245 : decode cL_law 245 = .ok (.invokevirtual 236, 3) := by decide +kernel
theorem dL_law_248 : decode cL_law 248 = .ok (.istore 8, 2) := by decide +kernel
theorem dL_law_250 : decode cL_law 250 = .ok (.goto 61, 3) := by decide +kernel
theorem dL_law_253 : decode cL_law 253 = .ok (.iload 5, 2) := by decide +kernel
theorem dL_law_255 : decode cL_law 255 = .ok (.bipush 7, 2) := by decide +kernel
theorem dL_law_257 : decode cL_law 257 = .ok (.ishr, 1) := by decide +kernel
theorem dL_law_258 : decode cL_law 258 = .ok (.iconst 3, 1) := by decide +kernel
theorem dL_law_259 : decode cL_law 259 = .ok (.iand, 1) := by decide +kernel
theorem dL_law_260 : decode cL_law 260 = .ok (.iconst 3, 1) := by decide +kernel
theorem dL_law_261 : decode cL_law 261 = .ok (.irem, 1) := by decide +kernel
theorem dL_law_262 : decode cL_law 262 = .ok (.istore 9, 2) := by decide +kernel
theorem dL_law_264 : decode cL_law 264 = .ok (.aload_n 1, 1) := by decide +kernel
theorem dL_law_265 : decode cL_law 265 = .ok (.iload 9, 2) := by decide +kernel
theorem dL_law_267 : decode cL_law 267 = .ok (.invokevirtual 239, 3) := by decide +kernel
theorem dL_law_270 : decode cL_law 270 = .ok (.istore 10, 2) := by decide +kernel
theorem dL_law_272 : decode cL_law 272 = .ok (.aload_n 1, 1) := by decide +kernel
theorem dL_law_273 : decode cL_law 273 = .ok (.iload 9, 2) := by decide +kernel
theorem dL_law_275 : decode cL_law 275 = .ok (.invokevirtual 242, 3) := by decide +kernel
theorem dL_law_278 : decode cL_law 278 = .ok (.istore 8, 2) := by decide +kernel
theorem dL_law_280 : decode cL_law 280 = .ok (.aload_n 1, 1) := by decide +kernel
theorem dL_law_281 : decode cL_law 281 = .ok (.iload 9, 2) := by decide +kernel
theorem dL_law_283 : decode cL_law 283 = .ok (.invokevirtual 239, 3) := by decide +kernel
theorem dL_law_286 : decode cL_law 286 = .ok (.iload 10, 2) := by decide +kernel
theorem dL_law_288 : decode cL_law 288 = .ok (.if_icmp .ne 21, 3) := by decide +kernel
theorem dL_law_291 : decode cL_law 291 = .ok (.aload_n 1, 1) := by decide +kernel
theorem dL_law_292 : decode cL_law 292 = .ok (.iload 9, 2) := by decide +kernel
theorem dL_law_294 : decode cL_law 294 = .ok (.invokevirtual 245, 3) := by decide +kernel
theorem dL_law_297 : decode cL_law 297 = .ok (.invokestatic 126, 3) := by decide +kernel
theorem dL_law_300 : decode cL_law 300 = .ok (.aload_n 1, 1) := by decide +kernel
theorem dL_law_301 : decode cL_law 301 = .ok (.iload 9, 2) := by decide +kernel
theorem dL_law_303 : decode cL_law 303 = .ok (.invokestatic 248, 3) := by decide +kernel
theorem dL_law_306 : decode cL_law 306 = .ok (.if_icmp .le 5, 3) := by decide +kernel
theorem dL_law_309 : decode cL_law 309 = .ok (.iconst 0, 1) := by decide +kernel
theorem dL_law_310 : decode cL_law 310 = .ok (.ireturn, 1) := by decide +kernel
theorem dL_law_311 : decode cL_law 311 = .ok (.iload 8, 2) := by decide +kernel
theorem dL_law_313 : decode cL_law 313 = .ok (.ldc 168, 2) := by decide +kernel
theorem dL_law_315 : decode cL_law 315 = .ok (.if_icmp .ne 17, 3) := by decide +kernel
theorem dL_law_318 : decode cL_law 318 = .ok (.aload 7, 2) := by decide +kernel
theorem dL_law_320 : decode cL_law 320 = .ok (.aload_n 1, 1) := by decide +kernel
theorem dL_law_321 : decode cL_law 321 = .ok (.invokestatic 220, 3) := by decide +kernel
theorem dL_law_324 : decode cL_law 324 = .ok (.invokestatic 252, 3) := by decide +kernel
theorem dL_law_327 : decode cL_law 327 = .ok (.ifCond .ne 88, 3) := by decide +kernel
theorem dL_law_330 : decode cL_law 330 = .ok (.iconst 0, 1) := by decide +kernel
theorem dL_law_331 : decode cL_law 331 = .ok (.ireturn, 1) := by decide +kernel
theorem dL_law_332 : decode cL_law 332 = .ok (.aload_n 1, 1) := by decide +kernel
theorem dL_law_333 : decode cL_law 333 = .ok (.invokestatic 220, 3) := by decide +kernel
theorem dL_law_336 : decode cL_law 336 = .ok (.astore 9, 2) := by decide +kernel
theorem dL_law_338 : decode cL_law 338 = .ok (.aload_n 1, 1) := by decide +kernel
theorem dL_law_339 : decode cL_law 339 = .ok (.aload_n 3, 1) := by decide +kernel
theorem dL_law_340 : decode cL_law 340 = .ok (.invokestatic 216, 3) := by decide +kernel
theorem dL_law_343 : decode cL_law 343 = .ok (.ifCond .eq 70, 3) := by decide +kernel
theorem dL_law_346 : decode cL_law 346 = .ok (.aload_n 1, 1) := by decide +kernel
theorem dL_law_347 : decode cL_law 347 = .ok (.invokevirtual 256, 3) := by decide +kernel
theorem dL_law_350 : decode cL_law 350 = .ok (.ifCond .ne 63, 3) := by decide +kernel
theorem dL_law_353 : decode cL_law 353 = .ok (.aload_n 1, 1) := by decide +kernel
theorem dL_law_354 : decode cL_law 354 = .ok (.invokevirtual 259, 3) := by decide +kernel
theorem dL_law_357 : decode cL_law 357 = .ok (.ifCond .ne 56, 3) := by decide +kernel
theorem dL_law_360 : decode cL_law 360 = .ok (.aload 7, 2) := by decide +kernel
theorem dL_law_362 : decode cL_law 362 = .ok (.aload_n 1, 1) := by decide +kernel
theorem dL_law_363 : decode cL_law 363 = .ok (.invokestatic 220, 3) := by decide +kernel
theorem dL_law_366 : decode cL_law 366 = .ok (.invokestatic 252, 3) := by decide +kernel
theorem dL_law_369 : decode cL_law 369 = .ok (.ifCond .eq 44, 3) := by decide +kernel
theorem dL_law_372 : decode cL_law 372 = .ok (.aload_n 1, 1) := by decide +kernel
theorem dL_law_373 : decode cL_law 373 = .ok (.invokevirtual 262, 3) := by decide +kernel
theorem dL_law_376 : decode cL_law 376 = .ok (.aload 9, 2) := by decide +kernel
theorem dL_law_378 : decode cL_law 378 = .ok (.iconst 0, 1) := by decide +kernel
theorem dL_law_379 : decode cL_law 379 = .ok (.iaload, 1) := by decide +kernel
theorem dL_law_380 : decode cL_law 380 = .ok (.if_icmp .ne 33, 3) := by decide +kernel
theorem dL_law_383 : decode cL_law 383 = .ok (.aload 9, 2) := by decide +kernel
theorem dL_law_385 : decode cL_law 385 = .ok (.aload_n 1, 1) := by decide +kernel
theorem dL_law_386 : decode cL_law 386 = .ok (.invokestatic 220, 3) := by decide +kernel
theorem dL_law_389 : decode cL_law 389 = .ok (.invokestatic 252, 3) := by decide +kernel
theorem dL_law_392 : decode cL_law 392 = .ok (.ifCond .eq 21, 3) := by decide +kernel
theorem dL_law_395 : decode cL_law 395 = .ok (.aload_n 1, 1) := by decide +kernel
theorem dL_law_396 : decode cL_law 396 = .ok (.invokevirtual 259, 3) := by decide +kernel
theorem dL_law_399 : decode cL_law 399 = .ok (.ldc 168, 2) := by decide +kernel
theorem dL_law_401 : decode cL_law 401 = .ok (.if_icmp .ne 12, 3) := by decide +kernel
theorem dL_law_404 : decode cL_law 404 = .ok (.aload_n 1, 1) := by decide +kernel
theorem dL_law_405 : decode cL_law 405 = .ok (.invokevirtual 169, 3) := by decide +kernel
theorem dL_law_408 : decode cL_law 408 = .ok (.bipush 6, 2) := by decide +kernel
theorem dL_law_410 : decode cL_law 410 = .ok (.if_icmp .eq 5, 3) := by decide +kernel
theorem dL_law_413 : decode cL_law 413 = .ok (.iconst 0, 1) := by decide +kernel
theorem dL_law_414 : decode cL_law 414 = .ok (.ireturn, 1) := by decide +kernel
theorem dL_law_415 : decode cL_law 415 = .ok (.iinc 4 1, 3) := by decide +kernel
theorem dL_law_418 : decode cL_law 418 = .ok (.goto (-382), 3) := by decide +kernel
theorem dL_law_421 : decode cL_law 421 = .ok (.aload_n 1, 1) := by decide +kernel
theorem dL_law_422 : decode cL_law 422 = .ok (.aload_n 3, 1) := by decide +kernel
theorem dL_law_423 : decode cL_law 423 = .ok (.invokestatic 216, 3) := by decide +kernel
theorem dL_law_426 : decode cL_law 426 = .ok (.ireturn, 1) := by decide +kernel
theorem dL_jobsOf_0 : decode cL_jobsOf 0 = .ok (.iconst 0, 1) := by decide +kernel
theorem dL_jobsOf_1 : decode cL_jobsOf 1 = .ok (.istore_n 2, 1) := by decide +kernel
theorem dL_jobsOf_2 : decode cL_jobsOf 2 = .ok (.iconst 0, 1) := by decide +kernel
theorem dL_jobsOf_3 : decode cL_jobsOf 3 = .ok (.istore_n 3, 1) := by decide +kernel
theorem dL_jobsOf_4 : decode cL_jobsOf 4 = .ok (.iload_n 3, 1) := by decide +kernel
theorem dL_jobsOf_5 : decode cL_jobsOf 5 = .ok (.aload_n 0, 1) := by decide +kernel
theorem dL_jobsOf_6 : decode cL_jobsOf 6 = .ok (.invokevirtual 136, 3) := by decide +kernel
theorem dL_jobsOf_9 : decode cL_jobsOf 9 = .ok (.if_icmp .ge 26, 3) := by decide +kernel
theorem dL_jobsOf_12 : decode cL_jobsOf 12 = .ok (.iload_n 2, 1) := by decide +kernel
theorem dL_jobsOf_13 : decode cL_jobsOf 13 = .ok (.aload_n 0, 1) := by decide +kernel
theorem dL_jobsOf_14 : decode cL_jobsOf 14 = .ok (.iload_n 3, 1) := by decide +kernel
theorem dL_jobsOf_15 : decode cL_jobsOf 15 = .ok (.invokevirtual 147, 3) := by decide +kernel
theorem dL_jobsOf_18 : decode cL_jobsOf 18 = .ok (.iload_n 1, 1) := by decide +kernel
theorem dL_jobsOf_19 : decode cL_jobsOf 19 = .ok (.if_icmp .ne 7, 3) := by decide +kernel
theorem dL_jobsOf_22 : decode cL_jobsOf 22 = .ok (.iconst 1, 1) := by decide +kernel
theorem dL_jobsOf_23 : decode cL_jobsOf 23 = .ok (.goto 4, 3) := by decide +kernel
theorem dL_jobsOf_26 : decode cL_jobsOf 26 = .ok (.iconst 0, 1) := by decide +kernel
theorem dL_jobsOf_27 : decode cL_jobsOf 27 = .ok (.iadd, 1) := by decide +kernel
theorem dL_jobsOf_28 : decode cL_jobsOf 28 = .ok (.istore_n 2, 1) := by decide +kernel
theorem dL_jobsOf_29 : decode cL_jobsOf 29 = .ok (.iinc 3 1, 3) := by decide +kernel
theorem dL_jobsOf_32 : decode cL_jobsOf 32 = .ok (.goto (-28), 3) := by decide +kernel
theorem dL_jobsOf_35 : decode cL_jobsOf 35 = .ok (.iload_n 2, 1) := by decide +kernel
theorem dL_jobsOf_36 : decode cL_jobsOf 36 = .ok (.ireturn, 1) := by decide +kernel
theorem dL_holds_0 : decode cL_holds 0 = .ok (.aload_n 0, 1) := by decide +kernel
theorem dL_holds_1 : decode cL_holds 1 = .ok (.invokestatic 265, 3) := by decide +kernel
theorem dL_holds_4 : decode cL_holds 4 = .ok (.ifCond .eq 29, 3) := by decide +kernel
theorem dL_holds_7 : decode cL_holds 7 = .ok (.aload_n 0, 1) := by decide +kernel
theorem dL_holds_8 : decode cL_holds 8 = .ok (.invokestatic 269, 3) := by decide +kernel
theorem dL_holds_11 : decode cL_holds 11 = .ok (.ifCond .eq 22, 3) := by decide +kernel
theorem dL_holds_14 : decode cL_holds 14 = .ok (.aload_n 0, 1) := by decide +kernel
theorem dL_holds_15 : decode cL_holds 15 = .ok (.invokestatic 272, 3) := by decide +kernel
theorem dL_holds_18 : decode cL_holds 18 = .ok (.ifCond .eq 15, 3) := by decide +kernel
theorem dL_holds_21 : decode cL_holds 21 = .ok (.aload_n 0, 1) := by decide +kernel
theorem dL_holds_22 : decode cL_holds 22 = .ok (.aload_n 1, 1) := by decide +kernel
theorem dL_holds_23 : decode cL_holds 23 = .ok (.invokestatic 275, 3) := by decide +kernel
theorem dL_holds_26 : decode cL_holds 26 = .ok (.ifCond .eq 7, 3) := by decide +kernel
theorem dL_holds_29 : decode cL_holds 29 = .ok (.iconst 1, 1) := by decide +kernel
theorem dL_holds_30 : decode cL_holds 30 = .ok (.goto 4, 3) := by decide +kernel
theorem dL_holds_33 : decode cL_holds 33 = .ok (.iconst 0, 1) := by decide +kernel
theorem dL_holds_34 : decode cL_holds 34 = .ok (.ireturn, 1) := by decide +kernel
theorem dL_mealsHold_0 : decode cL_mealsHold 0 = .ok (.iconst 0, 1) := by decide +kernel
theorem dL_mealsHold_1 : decode cL_mealsHold 1 = .ok (.istore_n 1, 1) := by decide +kernel
theorem dL_mealsHold_2 : decode cL_mealsHold 2 = .ok (.iconst 0, 1) := by decide +kernel
theorem dL_mealsHold_3 : decode cL_mealsHold 3 = .ok (.istore_n 2, 1) := by decide +kernel
theorem dL_mealsHold_4 : decode cL_mealsHold 4 = .ok (.iload_n 2, 1) := by decide +kernel
theorem dL_mealsHold_5 : decode cL_mealsHold 5 = .ok (.iconst 2, 1) := by decide +kernel
theorem dL_mealsHold_6 : decode cL_mealsHold 6 = .ok (.if_icmp .ge 129, 3) := by decide +kernel
theorem dL_mealsHold_9 : decode cL_mealsHold 9 = .ok (.aload_n 0, 1) := by decide +kernel
theorem dL_mealsHold_10 : decode cL_mealsHold 10 = .ok (.iconst 0, 1) := by decide +kernel
theorem dL_mealsHold_11 : decode cL_mealsHold 11 = .ok (.iload_n 2, 1) := by decide +kernel
theorem dL_mealsHold_12 : decode cL_mealsHold 12 = .ok (.invokevirtual 181, 3) := by decide +kernel
theorem dL_mealsHold_15 : decode cL_mealsHold 15 = .ok (.aload_n 0, 1) := by decide +kernel
theorem dL_mealsHold_16 : decode cL_mealsHold 16 = .ok (.iconst 1, 1) := by decide +kernel
theorem dL_mealsHold_17 : decode cL_mealsHold 17 = .ok (.iload_n 2, 1) := by decide +kernel
theorem dL_mealsHold_18 : decode cL_mealsHold 18 = .ok (.invokevirtual 181, 3) := by decide +kernel
theorem dL_mealsHold_21 : decode cL_mealsHold 21 = .ok (.iadd, 1) := by decide +kernel
theorem dL_mealsHold_22 : decode cL_mealsHold 22 = .ok (.istore_n 3, 1) := by decide +kernel
theorem dL_mealsHold_23 : decode cL_mealsHold 23 = .ok (.aload_n 0, 1) := by decide +kernel
theorem dL_mealsHold_24 : decode cL_mealsHold 24 = .ok (.iconst 0, 1) := by decide +kernel
theorem dL_mealsHold_25 : decode cL_mealsHold 25 = .ok (.iload_n 2, 1) := by decide +kernel
theorem dL_mealsHold_26 : decode cL_mealsHold 26 = .ok (.invokevirtual 184, 3) := by decide +kernel
theorem dL_mealsHold_29 : decode cL_mealsHold 29 = .ok (.aload_n 0, 1) := by decide +kernel
theorem dL_mealsHold_30 : decode cL_mealsHold 30 = .ok (.iconst 1, 1) := by decide +kernel
theorem dL_mealsHold_31 : decode cL_mealsHold 31 = .ok (.iload_n 2, 1) := by decide +kernel
theorem dL_mealsHold_32 : decode cL_mealsHold 32 = .ok (.invokevirtual 184, 3) := by decide +kernel
theorem dL_mealsHold_35 : decode cL_mealsHold 35 = .ok (.iadd, 1) := by decide +kernel
theorem dL_mealsHold_36 : decode cL_mealsHold 36 = .ok (.istore 4, 2) := by decide +kernel
theorem dL_mealsHold_38 : decode cL_mealsHold 38 = .ok (.iconst 0, 1) := by decide +kernel
theorem dL_mealsHold_39 : decode cL_mealsHold 39 = .ok (.istore 5, 2) := by decide +kernel
theorem dL_mealsHold_41 : decode cL_mealsHold 41 = .ok (.iload 5, 2) := by decide +kernel
theorem dL_mealsHold_43 : decode cL_mealsHold 43 = .ok (.iconst 2, 1) := by decide +kernel
theorem dL_mealsHold_44 : decode cL_mealsHold 44 = .ok (.if_icmp .ge 77, 3) := by decide +kernel
theorem dL_mealsHold_47 : decode cL_mealsHold 47 = .ok (.iconst 0, 1) := by decide +kernel
theorem dL_mealsHold_48 : decode cL_mealsHold 48 = .ok (.istore 6, 2) := by decide +kernel
theorem dL_mealsHold_50 : decode cL_mealsHold 50 = .ok (.iload 6, 2) := by decide +kernel
theorem dL_mealsHold_52 : decode cL_mealsHold 52 = .ok (.iconst 2, 1) := by decide +kernel
theorem dL_mealsHold_53 : decode cL_mealsHold 53 = .ok (.if_icmp .ge 62, 3) := by decide +kernel
theorem dL_mealsHold_56 : decode cL_mealsHold 56 = .ok (.aload_n 0, 1) := by decide +kernel
theorem dL_mealsHold_57 : decode cL_mealsHold 57 = .ok (.iload 5, 2) := by decide +kernel
theorem dL_mealsHold_59 : decode cL_mealsHold 59 = .ok (.iload 6, 2) := by decide +kernel
theorem dL_mealsHold_61 : decode cL_mealsHold 61 = .ok (.iload_n 2, 1) := by decide +kernel
theorem dL_mealsHold_62 : decode cL_mealsHold 62 = .ok (.invokevirtual 197, 3) := by decide +kernel
theorem dL_mealsHold_65 : decode cL_mealsHold 65 = .ok (.istore 7, 2) := by decide +kernel
theorem dL_mealsHold_67 : decode cL_mealsHold 67 = .ok (.aload_n 0, 1) := by decide +kernel
theorem dL_mealsHold_68 : decode cL_mealsHold 68 = .ok (.iload 5, 2) := by decide +kernel
theorem dL_mealsHold_70 : decode cL_mealsHold 70 = .ok (.iload 6, 2) := by decide +kernel
theorem dL_mealsHold_72 : decode cL_mealsHold 72 = .ok (.iload_n 2, 1) := by decide +kernel
theorem dL_mealsHold_73 : decode cL_mealsHold 73 = .ok (.invokevirtual 199, 3) := by decide +kernel
theorem dL_mealsHold_76 : decode cL_mealsHold 76 = .ok (.iconst 0, 1) := by decide +kernel
theorem dL_mealsHold_77 : decode cL_mealsHold 77 = .ok (.aload_n 0, 1) := by decide +kernel
theorem dL_mealsHold_78 : decode cL_mealsHold 78 = .ok (.iload 5, 2) := by decide +kernel
theorem dL_mealsHold_80 : decode cL_mealsHold 80 = .ok (.iload 6, 2) := by decide +kernel
theorem dL_mealsHold_82 : decode cL_mealsHold 82 = .ok (.iload_n 2, 1) := by decide +kernel
theorem dL_mealsHold_83 : decode cL_mealsHold 83 = .ok (.invokevirtual 194, 3) := by decide +kernel
theorem dL_mealsHold_86 : decode cL_mealsHold 86 = .ok (.iload 7, 2) := by decide +kernel
theorem dL_mealsHold_88 : decode cL_mealsHold 88 = .ok (.isub, 1) := by decide +kernel
theorem dL_mealsHold_89 : decode cL_mealsHold 89 = .ok (.invokestatic 88, 3) := by decide +kernel
theorem dL_mealsHold_92 : decode cL_mealsHold 92 = .ok (.if_icmp .eq 5, 3) := by decide +kernel
theorem dL_mealsHold_95 : decode cL_mealsHold 95 = .ok (.iconst 0, 1) := by decide +kernel
theorem dL_mealsHold_96 : decode cL_mealsHold 96 = .ok (.ireturn, 1) := by decide +kernel
theorem dL_mealsHold_97 : decode cL_mealsHold 97 = .ok (.iload 4, 2) := by decide +kernel
theorem dL_mealsHold_99 : decode cL_mealsHold 99 = .ok (.iload 7, 2) := by decide +kernel
theorem dL_mealsHold_101 : decode cL_mealsHold 101 = .ok (.iadd, 1) := by decide +kernel
theorem dL_mealsHold_102 : decode cL_mealsHold 102 = .ok (.istore 4, 2) := by decide +kernel
theorem dL_mealsHold_104 : decode cL_mealsHold 104 = .ok (.iload_n 1, 1) := by decide +kernel
theorem dL_mealsHold_105 : decode cL_mealsHold 105 = .ok (.iload 7, 2) := by decide +kernel
theorem dL_mealsHold_107 : decode cL_mealsHold 107 = .ok (.iadd, 1) := by decide +kernel
theorem dL_mealsHold_108 : decode cL_mealsHold 108 = .ok (.istore_n 1, 1) := by decide +kernel
theorem dL_mealsHold_109 : decode cL_mealsHold 109 = .ok (.iinc 6 1, 3) := by decide +kernel
theorem dL_mealsHold_112 : decode cL_mealsHold 112 = .ok (.goto (-62), 3) := by decide +kernel
theorem dL_mealsHold_115 : decode cL_mealsHold 115 = .ok (.iinc 5 1, 3) := by decide +kernel
theorem dL_mealsHold_118 : decode cL_mealsHold 118 = .ok (.goto (-77), 3) := by decide +kernel
theorem dL_mealsHold_121 : decode cL_mealsHold 121 = .ok (.iload_n 3, 1) := by decide +kernel
theorem dL_mealsHold_122 : decode cL_mealsHold 122 = .ok (.iload 4, 2) := by decide +kernel
theorem dL_mealsHold_124 : decode cL_mealsHold 124 = .ok (.if_icmp .eq 5, 3) := by decide +kernel
theorem dL_mealsHold_127 : decode cL_mealsHold 127 = .ok (.iconst 0, 1) := by decide +kernel
theorem dL_mealsHold_128 : decode cL_mealsHold 128 = .ok (.ireturn, 1) := by decide +kernel
theorem dL_mealsHold_129 : decode cL_mealsHold 129 = .ok (.iinc 2 1, 3) := by decide +kernel
theorem dL_mealsHold_132 : decode cL_mealsHold 132 = .ok (.goto (-128), 3) := by decide +kernel
theorem dL_mealsHold_135 : decode cL_mealsHold 135 = .ok (.aload_n 0, 1) := by decide +kernel
theorem dL_mealsHold_136 : decode cL_mealsHold 136 = .ok (.invokevirtual 140, 3) := by decide +kernel
theorem dL_mealsHold_139 : decode cL_mealsHold 139 = .ok (.iload_n 1, 1) := by decide +kernel
theorem dL_mealsHold_140 : decode cL_mealsHold 140 = .ok (.if_icmp .ne 7, 3) := by decide +kernel
theorem dL_mealsHold_143 : decode cL_mealsHold 143 = .ok (.iconst 1, 1) := by decide +kernel
theorem dL_mealsHold_144 : decode cL_mealsHold 144 = .ok (.goto 4, 3) := by decide +kernel
theorem dL_mealsHold_147 : decode cL_mealsHold 147 = .ok (.iconst 0, 1) := by decide +kernel
theorem dL_mealsHold_148 : decode cL_mealsHold 148 = .ok (.ireturn, 1) := by decide +kernel
theorem dL_jobsHold_0 : decode cL_jobsHold 0 = .ok (.iconst 3, 1) := by decide +kernel
theorem dL_jobsHold_1 : decode cL_jobsHold 1 = .ok (.newarray .int, 2) := by decide +kernel
theorem dL_jobsHold_3 : decode cL_jobsHold 3 = .ok (.astore_n 1, 1) := by decide +kernel
theorem dL_jobsHold_4 : decode cL_jobsHold 4 = .ok (.iconst 0, 1) := by decide +kernel
theorem dL_jobsHold_5 : decode cL_jobsHold 5 = .ok (.istore_n 2, 1) := by decide +kernel
theorem dL_jobsHold_6 : decode cL_jobsHold 6 = .ok (.iconst 0, 1) := by decide +kernel
theorem dL_jobsHold_7 : decode cL_jobsHold 7 = .ok (.istore_n 3, 1) := by decide +kernel
theorem dL_jobsHold_8 : decode cL_jobsHold 8 = .ok (.iconst 0, 1) := by decide +kernel
theorem dL_jobsHold_9 : decode cL_jobsHold 9 = .ok (.istore 4, 2) := by decide +kernel
theorem dL_jobsHold_11 : decode cL_jobsHold 11 = .ok (.iload 4, 2) := by decide +kernel
theorem dL_jobsHold_13 : decode cL_jobsHold 13 = .ok (.aload_n 0, 1) := by decide +kernel
theorem dL_jobsHold_14 : decode cL_jobsHold 14 = .ok (.invokevirtual 136, 3) := by decide +kernel
theorem dL_jobsHold_17 : decode cL_jobsHold 17 = .ok (.if_icmp .ge 187, 3) := by decide +kernel
theorem dL_jobsHold_20 : decode cL_jobsHold 20 = .ok (.aload_n 0, 1) := by decide +kernel
theorem dL_jobsHold_21 : decode cL_jobsHold 21 = .ok (.iload 4, 2) := by decide +kernel
theorem dL_jobsHold_23 : decode cL_jobsHold 23 = .ok (.invokevirtual 147, 3) := by decide +kernel
theorem dL_jobsHold_26 : decode cL_jobsHold 26 = .ok (.istore 5, 2) := by decide +kernel
theorem dL_jobsHold_28 : decode cL_jobsHold 28 = .ok (.aload_n 0, 1) := by decide +kernel
theorem dL_jobsHold_29 : decode cL_jobsHold 29 = .ok (.iload 4, 2) := by decide +kernel
theorem dL_jobsHold_31 : decode cL_jobsHold 31 = .ok (.invokevirtual 153, 3) := by decide +kernel
theorem dL_jobsHold_34 : decode cL_jobsHold 34 = .ok (.aload_n 1, 1) := by decide +kernel
theorem dL_jobsHold_35 : decode cL_jobsHold 35 = .ok (.iload 5, 2) := by decide +kernel
theorem dL_jobsHold_37 : decode cL_jobsHold 37 = .ok (.iaload, 1) := by decide +kernel
theorem dL_jobsHold_38 : decode cL_jobsHold 38 = .ok (.if_icmp .ne 68, 3) := by decide +kernel
theorem dL_jobsHold_41 : decode cL_jobsHold 41 = .ok (.aload_n 0, 1) := by decide +kernel
theorem dL_jobsHold_42 : decode cL_jobsHold 42 = .ok (.iload 4, 2) := by decide +kernel
theorem dL_jobsHold_44 : decode cL_jobsHold 44 = .ok (.invokevirtual 162, 3) := by decide +kernel
theorem dL_jobsHold_47 : decode cL_jobsHold 47 = .ok (.aload_n 1, 1) := by decide +kernel
theorem dL_jobsHold_48 : decode cL_jobsHold 48 = .ok (.iload 5, 2) := by decide +kernel
theorem dL_jobsHold_50 : decode cL_jobsHold 50 = .ok (.iaload, 1) := by decide +kernel
theorem dL_jobsHold_51 : decode cL_jobsHold 51 = .ok (.if_icmp .lt 55, 3) := by decide +kernel
theorem dL_jobsHold_54 : decode cL_jobsHold 54 = .ok (.aload_n 0, 1) := by decide +kernel
theorem dL_jobsHold_55 : decode cL_jobsHold 55 = .ok (.iload 4, 2) := by decide +kernel
theorem dL_jobsHold_57 : decode cL_jobsHold 57 = .ok (.invokevirtual 156, 3) := by decide +kernel
theorem dL_jobsHold_60 : decode cL_jobsHold 60 = .ok (.aload_n 0, 1) := by decide +kernel
theorem dL_jobsHold_61 : decode cL_jobsHold 61 = .ok (.iload 4, 2) := by decide +kernel
theorem dL_jobsHold_63 : decode cL_jobsHold 63 = .ok (.invokevirtual 150, 3) := by decide +kernel
theorem dL_jobsHold_66 : decode cL_jobsHold 66 = .ok (.if_icmp .gt 40, 3) := by decide +kernel
theorem dL_jobsHold_69 : decode cL_jobsHold 69 = .ok (.aload_n 0, 1) := by decide +kernel
theorem dL_jobsHold_70 : decode cL_jobsHold 70 = .ok (.iload 4, 2) := by decide +kernel
theorem dL_jobsHold_72 : decode cL_jobsHold 72 = .ok (.invokevirtual 159, 3) := by decide +kernel
theorem dL_jobsHold_75 : decode cL_jobsHold 75 = .ok (.aload_n 0, 1) := by decide +kernel
theorem dL_jobsHold_76 : decode cL_jobsHold 76 = .ok (.iload 4, 2) := by decide +kernel
theorem dL_jobsHold_78 : decode cL_jobsHold 78 = .ok (.invokevirtual 156, 3) := by decide +kernel
theorem dL_jobsHold_81 : decode cL_jobsHold 81 = .ok (.if_icmp .gt 25, 3) := by decide +kernel
theorem dL_jobsHold_84 : decode cL_jobsHold 84 = .ok (.aload_n 0, 1) := by decide +kernel
theorem dL_jobsHold_85 : decode cL_jobsHold 85 = .ok (.iload 4, 2) := by decide +kernel
theorem dL_jobsHold_87 : decode cL_jobsHold 87 = .ok (.invokevirtual 156, 3) := by decide +kernel
theorem dL_jobsHold_90 : decode cL_jobsHold 90 = .ok (.ifCond .ne 18, 3) := by decide +kernel
theorem dL_jobsHold_93 : decode cL_jobsHold 93 = .ok (.aload_n 0, 1) := by decide +kernel
theorem dL_jobsHold_94 : decode cL_jobsHold 94 = .ok (.iload 4, 2) := by decide +kernel
theorem dL_jobsHold_96 : decode cL_jobsHold 96 = .ok (.invokevirtual 162, 3) := by decide +kernel
theorem dL_jobsHold_99 : decode cL_jobsHold 99 = .ok (.aload_n 1, 1) := by decide +kernel
theorem dL_jobsHold_100 : decode cL_jobsHold 100 = .ok (.iload 5, 2) := by decide +kernel
theorem dL_jobsHold_102 : decode cL_jobsHold 102 = .ok (.iaload, 1) := by decide +kernel
theorem dL_jobsHold_103 : decode cL_jobsHold 103 = .ok (.if_icmp .eq 5, 3) := by decide +kernel
theorem dL_jobsHold_106 : decode cL_jobsHold 106 = .ok (.iconst 0, 1) := by decide +kernel
theorem dL_jobsHold_107 : decode cL_jobsHold 107 = .ok (.ireturn, 1) := by decide +kernel
theorem dL_jobsHold_108 : decode cL_jobsHold 108 = .ok (.aload_n 0, 1) := by decide +kernel
theorem dL_jobsHold_109 : decode cL_jobsHold 109 = .ok (.iload 4, 2) := by decide +kernel
theorem dL_jobsHold_111 : decode cL_jobsHold 111 = .ok (.invokevirtual 159, 3) := by decide +kernel
theorem dL_jobsHold_114 : decode cL_jobsHold 114 = .ok (.ifCond .le 49, 3) := by decide +kernel
theorem dL_jobsHold_117 : decode cL_jobsHold 117 = .ok (.aload_n 0, 1) := by decide +kernel
theorem dL_jobsHold_118 : decode cL_jobsHold 118 = .ok (.iload 4, 2) := by decide +kernel
theorem dL_jobsHold_120 : decode cL_jobsHold 120 = .ok (.invokevirtual 165, 3) := by decide +kernel
theorem dL_jobsHold_123 : decode cL_jobsHold 123 = .ok (.aload_n 0, 1) := by decide +kernel
theorem dL_jobsHold_124 : decode cL_jobsHold 124 = .ok (.iload 4, 2) := by decide +kernel
theorem dL_jobsHold_126 : decode cL_jobsHold 126 = .ok (.invokevirtual 153, 3) := by decide +kernel
theorem dL_jobsHold_129 : decode cL_jobsHold 129 = .ok (.aload_n 0, 1) := by decide +kernel
theorem dL_jobsHold_130 : decode cL_jobsHold 130 = .ok (.iload 4, 2) := by decide +kernel
theorem dL_jobsHold_132 : decode cL_jobsHold 132 = .ok (.invokevirtual 156, 3) := by decide +kernel
theorem dL_jobsHold_135 : decode cL_jobsHold 135 = .ok (.iadd, 1) := by decide +kernel
theorem dL_jobsHold_136 : decode cL_jobsHold 136 = .ok (.if_icmp .lt 25, 3) := by decide +kernel
theorem dL_jobsHold_139 : decode cL_jobsHold 139 = .ok (.aload_n 0, 1) := by decide +kernel
theorem dL_jobsHold_140 : decode cL_jobsHold 140 = .ok (.iload 4, 2) := by decide +kernel
theorem dL_jobsHold_142 : decode cL_jobsHold 142 = .ok (.invokevirtual 162, 3) := by decide +kernel
theorem dL_jobsHold_145 : decode cL_jobsHold 145 = .ok (.aload_n 0, 1) := by decide +kernel
theorem dL_jobsHold_146 : decode cL_jobsHold 146 = .ok (.iload 4, 2) := by decide +kernel
theorem dL_jobsHold_148 : decode cL_jobsHold 148 = .ok (.invokevirtual 165, 3) := by decide +kernel
theorem dL_jobsHold_151 : decode cL_jobsHold 151 = .ok (.aload_n 0, 1) := by decide +kernel
theorem dL_jobsHold_152 : decode cL_jobsHold 152 = .ok (.iload 4, 2) := by decide +kernel
theorem dL_jobsHold_154 : decode cL_jobsHold 154 = .ok (.invokevirtual 159, 3) := by decide +kernel
theorem dL_jobsHold_157 : decode cL_jobsHold 157 = .ok (.iadd, 1) := by decide +kernel
theorem dL_jobsHold_158 : decode cL_jobsHold 158 = .ok (.if_icmp .ge 5, 3) := by decide +kernel
theorem dL_jobsHold_161 : decode cL_jobsHold 161 = .ok (.iconst 0, 1) := by decide +kernel
theorem dL_jobsHold_162 : decode cL_jobsHold 162 = .ok (.ireturn, 1) := by decide +kernel
theorem dL_jobsHold_163 : decode cL_jobsHold 163 = .ok (.aload_n 1, 1) := by decide +kernel
theorem dL_jobsHold_164 : decode cL_jobsHold 164 = .ok (.iload 5, 2) := by decide +kernel
theorem dL_jobsHold_166 : decode cL_jobsHold 166 = .ok (.aload_n 0, 1) := by decide +kernel
theorem dL_jobsHold_167 : decode cL_jobsHold 167 = .ok (.iload 4, 2) := by decide +kernel
theorem dL_jobsHold_169 : decode cL_jobsHold 169 = .ok (.invokevirtual 162, 3) := by decide +kernel
theorem dL_jobsHold_172 : decode cL_jobsHold 172 = .ok (.iastore, 1) := by decide +kernel
theorem dL_jobsHold_173 : decode cL_jobsHold 173 = .ok (.iload_n 2, 1) := by decide +kernel
theorem dL_jobsHold_174 : decode cL_jobsHold 174 = .ok (.aload_n 0, 1) := by decide +kernel
theorem dL_jobsHold_175 : decode cL_jobsHold 175 = .ok (.iload 4, 2) := by decide +kernel
theorem dL_jobsHold_177 : decode cL_jobsHold 177 = .ok (.invokevirtual 159, 3) := by decide +kernel
theorem dL_jobsHold_180 : decode cL_jobsHold 180 = .ok (.iadd, 1) := by decide +kernel
theorem dL_jobsHold_181 : decode cL_jobsHold 181 = .ok (.istore_n 2, 1) := by decide +kernel
theorem dL_jobsHold_182 : decode cL_jobsHold 182 = .ok (.iload_n 3, 1) := by decide +kernel
theorem dL_jobsHold_183 : decode cL_jobsHold 183 = .ok (.aload_n 0, 1) := by decide +kernel
theorem dL_jobsHold_184 : decode cL_jobsHold 184 = .ok (.iload 4, 2) := by decide +kernel
theorem dL_jobsHold_186 : decode cL_jobsHold 186 = .ok (.invokevirtual 156, 3) := by decide +kernel
theorem dL_jobsHold_189 : decode cL_jobsHold 189 = .ok (.aload_n 0, 1) := by decide +kernel
theorem dL_jobsHold_190 : decode cL_jobsHold 190 = .ok (.iload 4, 2) := by decide +kernel
theorem dL_jobsHold_192 : decode cL_jobsHold 192 = .ok (.invokevirtual 159, 3) := by decide +kernel
theorem dL_jobsHold_195 : decode cL_jobsHold 195 = .ok (.isub, 1) := by decide +kernel
theorem dL_jobsHold_196 : decode cL_jobsHold 196 = .ok (.iadd, 1) := by decide +kernel
theorem dL_jobsHold_197 : decode cL_jobsHold 197 = .ok (.istore_n 3, 1) := by decide +kernel
theorem dL_jobsHold_198 : decode cL_jobsHold 198 = .ok (.iinc 4 1, 3) := by decide +kernel
theorem dL_jobsHold_201 : decode cL_jobsHold 201 = .ok (.goto (-190), 3) := by decide +kernel
theorem dL_jobsHold_204 : decode cL_jobsHold 204 = .ok (.iload_n 2, 1) := by decide +kernel
theorem dL_jobsHold_205 : decode cL_jobsHold 205 = .ok (.aload_n 0, 1) := by decide +kernel
theorem dL_jobsHold_206 : decode cL_jobsHold 206 = .ok (.invokevirtual 140, 3) := by decide +kernel
theorem dL_jobsHold_209 : decode cL_jobsHold 209 = .ok (.if_icmp .ne 28, 3) := by decide +kernel
theorem dL_jobsHold_212 : decode cL_jobsHold 212 = .ok (.iload_n 3, 1) := by decide +kernel
theorem dL_jobsHold_213 : decode cL_jobsHold 213 = .ok (.aload_n 0, 1) := by decide +kernel
theorem dL_jobsHold_214 : decode cL_jobsHold 214 = .ok (.iconst 0, 1) := by decide +kernel
theorem dL_jobsHold_215 : decode cL_jobsHold 215 = .ok (.invokevirtual 175, 3) := by decide +kernel
theorem dL_jobsHold_218 : decode cL_jobsHold 218 = .ok (.aload_n 0, 1) := by decide +kernel
theorem dL_jobsHold_219 : decode cL_jobsHold 219 = .ok (.iconst 1, 1) := by decide +kernel
theorem dL_jobsHold_220 : decode cL_jobsHold 220 = .ok (.invokevirtual 175, 3) := by decide +kernel
theorem dL_jobsHold_223 : decode cL_jobsHold 223 = .ok (.iadd, 1) := by decide +kernel
theorem dL_jobsHold_224 : decode cL_jobsHold 224 = .ok (.aload_n 0, 1) := by decide +kernel
theorem dL_jobsHold_225 : decode cL_jobsHold 225 = .ok (.iconst 2, 1) := by decide +kernel
theorem dL_jobsHold_226 : decode cL_jobsHold 226 = .ok (.invokevirtual 175, 3) := by decide +kernel
theorem dL_jobsHold_229 : decode cL_jobsHold 229 = .ok (.iadd, 1) := by decide +kernel
theorem dL_jobsHold_230 : decode cL_jobsHold 230 = .ok (.if_icmp .ne 7, 3) := by decide +kernel
theorem dL_jobsHold_233 : decode cL_jobsHold 233 = .ok (.iconst 1, 1) := by decide +kernel
theorem dL_jobsHold_234 : decode cL_jobsHold 234 = .ok (.goto 4, 3) := by decide +kernel
theorem dL_jobsHold_237 : decode cL_jobsHold 237 = .ok (.iconst 0, 1) := by decide +kernel
theorem dL_jobsHold_238 : decode cL_jobsHold 238 = .ok (.ireturn, 1) := by decide +kernel
theorem dL_sharesHold_0 : decode cL_sharesHold 0 = .ok (.iconst 0, 1) := by decide +kernel
theorem dL_sharesHold_1 : decode cL_sharesHold 1 = .ok (.istore_n 1, 1) := by decide +kernel
theorem dL_sharesHold_2 : decode cL_sharesHold 2 = .ok (.iload_n 1, 1) := by decide +kernel
theorem dL_sharesHold_3 : decode cL_sharesHold 3 = .ok (.iconst 2, 1) := by decide +kernel
theorem dL_sharesHold_4 : decode cL_sharesHold 4 = .ok (.if_icmp .ge 223, 3) := by decide +kernel
theorem dL_sharesHold_7 : decode cL_sharesHold 7 = .ok (.iconst 0, 1) := by decide +kernel
theorem dL_sharesHold_8 : decode cL_sharesHold 8 = .ok (.istore_n 2, 1) := by decide +kernel
theorem dL_sharesHold_9 : decode cL_sharesHold 9 = .ok (.iload_n 2, 1) := by decide +kernel
theorem dL_sharesHold_10 : decode cL_sharesHold 10 = .ok (.iconst 2, 1) := by decide +kernel
theorem dL_sharesHold_11 : decode cL_sharesHold 11 = .ok (.if_icmp .ge 210, 3) := by decide +kernel
theorem dL_sharesHold_14 : decode cL_sharesHold 14 = .ok (.aload_n 0, 1) := by decide +kernel
theorem dL_sharesHold_15 : decode cL_sharesHold 15 = .ok (.iload_n 1, 1) := by decide +kernel
theorem dL_sharesHold_16 : decode cL_sharesHold 16 = .ok (.iconst 0, 1) := by decide +kernel
theorem dL_sharesHold_17 : decode cL_sharesHold 17 = .ok (.iload_n 2, 1) := by decide +kernel
theorem dL_sharesHold_18 : decode cL_sharesHold 18 = .ok (.invokevirtual 194, 3) := by decide +kernel
theorem dL_sharesHold_21 : decode cL_sharesHold 21 = .ok (.aload_n 0, 1) := by decide +kernel
theorem dL_sharesHold_22 : decode cL_sharesHold 22 = .ok (.iload_n 1, 1) := by decide +kernel
theorem dL_sharesHold_23 : decode cL_sharesHold 23 = .ok (.iconst 1, 1) := by decide +kernel
theorem dL_sharesHold_24 : decode cL_sharesHold 24 = .ok (.iload_n 2, 1) := by decide +kernel
theorem dL_sharesHold_25 : decode cL_sharesHold 25 = .ok (.invokevirtual 194, 3) := by decide +kernel
theorem dL_sharesHold_28 : decode cL_sharesHold 28 = .ok (.iadd, 1) := by decide +kernel
theorem dL_sharesHold_29 : decode cL_sharesHold 29 = .ok (.istore_n 3, 1) := by decide +kernel
theorem dL_sharesHold_30 : decode cL_sharesHold 30 = .ok (.aload_n 0, 1) := by decide +kernel
theorem dL_sharesHold_31 : decode cL_sharesHold 31 = .ok (.iload_n 1, 1) := by decide +kernel
theorem dL_sharesHold_32 : decode cL_sharesHold 32 = .ok (.iconst 0, 1) := by decide +kernel
theorem dL_sharesHold_33 : decode cL_sharesHold 33 = .ok (.iload_n 2, 1) := by decide +kernel
theorem dL_sharesHold_34 : decode cL_sharesHold 34 = .ok (.invokevirtual 197, 3) := by decide +kernel
theorem dL_sharesHold_37 : decode cL_sharesHold 37 = .ok (.aload_n 0, 1) := by decide +kernel
theorem dL_sharesHold_38 : decode cL_sharesHold 38 = .ok (.iload_n 1, 1) := by decide +kernel
theorem dL_sharesHold_39 : decode cL_sharesHold 39 = .ok (.iconst 1, 1) := by decide +kernel
theorem dL_sharesHold_40 : decode cL_sharesHold 40 = .ok (.iload_n 2, 1) := by decide +kernel
theorem dL_sharesHold_41 : decode cL_sharesHold 41 = .ok (.invokevirtual 197, 3) := by decide +kernel
theorem dL_sharesHold_44 : decode cL_sharesHold 44 = .ok (.iadd, 1) := by decide +kernel
theorem dL_sharesHold_45 : decode cL_sharesHold 45 = .ok (.istore 4, 2) := by decide +kernel
theorem dL_sharesHold_47 : decode cL_sharesHold 47 = .ok (.aload_n 0, 1) := by decide +kernel
theorem dL_sharesHold_48 : decode cL_sharesHold 48 = .ok (.iload_n 1, 1) := by decide +kernel
theorem dL_sharesHold_49 : decode cL_sharesHold 49 = .ok (.iconst 0, 1) := by decide +kernel
theorem dL_sharesHold_50 : decode cL_sharesHold 50 = .ok (.iload_n 2, 1) := by decide +kernel
theorem dL_sharesHold_51 : decode cL_sharesHold 51 = .ok (.invokevirtual 202, 3) := by decide +kernel
theorem dL_sharesHold_54 : decode cL_sharesHold 54 = .ok (.aload_n 0, 1) := by decide +kernel
theorem dL_sharesHold_55 : decode cL_sharesHold 55 = .ok (.iload_n 1, 1) := by decide +kernel
theorem dL_sharesHold_56 : decode cL_sharesHold 56 = .ok (.iconst 1, 1) := by decide +kernel
theorem dL_sharesHold_57 : decode cL_sharesHold 57 = .ok (.iload_n 2, 1) := by decide +kernel
theorem dL_sharesHold_58 : decode cL_sharesHold 58 = .ok (.invokevirtual 202, 3) := by decide +kernel
theorem dL_sharesHold_61 : decode cL_sharesHold 61 = .ok (.iadd, 1) := by decide +kernel
theorem dL_sharesHold_62 : decode cL_sharesHold 62 = .ok (.istore 5, 2) := by decide +kernel
theorem dL_sharesHold_64 : decode cL_sharesHold 64 = .ok (.iload 5, 2) := by decide +kernel
theorem dL_sharesHold_66 : decode cL_sharesHold 66 = .ok (.iload 4, 2) := by decide +kernel
theorem dL_sharesHold_68 : decode cL_sharesHold 68 = .ok (.iload_n 3, 1) := by decide +kernel
theorem dL_sharesHold_69 : decode cL_sharesHold 69 = .ok (.invokestatic 81, 3) := by decide +kernel
theorem dL_sharesHold_72 : decode cL_sharesHold 72 = .ok (.if_icmp .eq 5, 3) := by decide +kernel
theorem dL_sharesHold_75 : decode cL_sharesHold 75 = .ok (.iconst 0, 1) := by decide +kernel
theorem dL_sharesHold_76 : decode cL_sharesHold 76 = .ok (.ireturn, 1) := by decide +kernel
theorem dL_sharesHold_77 : decode cL_sharesHold 77 = .ok (.iconst 0, 1) := by decide +kernel
theorem dL_sharesHold_78 : decode cL_sharesHold 78 = .ok (.istore 6, 2) := by decide +kernel
theorem dL_sharesHold_80 : decode cL_sharesHold 80 = .ok (.iload 6, 2) := by decide +kernel
theorem dL_sharesHold_82 : decode cL_sharesHold 82 = .ok (.iconst 2, 1) := by decide +kernel
theorem dL_sharesHold_83 : decode cL_sharesHold 83 = .ok (.if_icmp .ge 48, 3) := by decide +kernel
theorem dL_sharesHold_86 : decode cL_sharesHold 86 = .ok (.aload_n 0, 1) := by decide +kernel
theorem dL_sharesHold_87 : decode cL_sharesHold 87 = .ok (.iload_n 1, 1) := by decide +kernel
theorem dL_sharesHold_88 : decode cL_sharesHold 88 = .ok (.iload 6, 2) := by decide +kernel
theorem dL_sharesHold_90 : decode cL_sharesHold 90 = .ok (.iload_n 2, 1) := by decide +kernel
theorem dL_sharesHold_91 : decode cL_sharesHold 91 = .ok (.invokevirtual 202, 3) := by decide +kernel
theorem dL_sharesHold_94 : decode cL_sharesHold 94 = .ok (.iload_n 3, 1) := by decide +kernel
theorem dL_sharesHold_95 : decode cL_sharesHold 95 = .ok (.imul, 1) := by decide +kernel
theorem dL_sharesHold_96 : decode cL_sharesHold 96 = .ok (.iload 4, 2) := by decide +kernel
theorem dL_sharesHold_98 : decode cL_sharesHold 98 = .ok (.iload_n 3, 1) := by decide +kernel
theorem dL_sharesHold_99 : decode cL_sharesHold 99 = .ok (.invokestatic 81, 3) := by decide +kernel
theorem dL_sharesHold_102 : decode cL_sharesHold 102 = .ok (.aload_n 0, 1) := by decide +kernel
theorem dL_sharesHold_103 : decode cL_sharesHold 103 = .ok (.iload_n 1, 1) := by decide +kernel
theorem dL_sharesHold_104 : decode cL_sharesHold 104 = .ok (.iload 6, 2) := by decide +kernel
theorem dL_sharesHold_106 : decode cL_sharesHold 106 = .ok (.iload_n 2, 1) := by decide +kernel
theorem dL_sharesHold_107 : decode cL_sharesHold 107 = .ok (.invokevirtual 194, 3) := by decide +kernel
theorem dL_sharesHold_110 : decode cL_sharesHold 110 = .ok (.imul, 1) := by decide +kernel
theorem dL_sharesHold_111 : decode cL_sharesHold 111 = .ok (.isub, 1) := by decide +kernel
theorem dL_sharesHold_112 : decode cL_sharesHold 112 = .ok (.invokestatic 72, 3) := by decide +kernel
theorem dL_sharesHold_115 : decode cL_sharesHold 115 = .ok (.iload_n 3, 1) := by decide +kernel
theorem dL_sharesHold_116 : decode cL_sharesHold 116 = .ok (.if_icmp .lt 9, 3) := by decide +kernel
theorem dL_sharesHold_119 : decode cL_sharesHold 119 = .ok (.iload_n 3, 1) := by decide +kernel
theorem dL_sharesHold_120 : decode cL_sharesHold 120 = .ok (.ifCond .le 5, 3) := by decide +kernel
theorem dL_sharesHold_123 : decode cL_sharesHold 123 = .ok (.iconst 0, 1) := by decide +kernel
theorem dL_sharesHold_124 : decode cL_sharesHold 124 = .ok (.ireturn, 1) := by decide +kernel
theorem dL_sharesHold_125 : decode cL_sharesHold 125 = .ok (.iinc 6 1, 3) := by decide +kernel
theorem dL_sharesHold_128 : decode cL_sharesHold 128 = .ok (.goto (-48), 3) := by decide +kernel
theorem dL_sharesHold_131 : decode cL_sharesHold 131 = .ok (.aload_n 0, 1) := by decide +kernel
theorem dL_sharesHold_132 : decode cL_sharesHold 132 = .ok (.iload_n 1, 1) := by decide +kernel
theorem dL_sharesHold_133 : decode cL_sharesHold 133 = .ok (.iload_n 2, 1) := by decide +kernel
theorem dL_sharesHold_134 : decode cL_sharesHold 134 = .ok (.iconst 0, 1) := by decide +kernel
theorem dL_sharesHold_135 : decode cL_sharesHold 135 = .ok (.invokevirtual 278, 3) := by decide +kernel
theorem dL_sharesHold_138 : decode cL_sharesHold 138 = .ok (.lstore 6, 2) := by decide +kernel
theorem dL_sharesHold_140 : decode cL_sharesHold 140 = .ok (.aload_n 0, 1) := by decide +kernel
theorem dL_sharesHold_141 : decode cL_sharesHold 141 = .ok (.iload_n 1, 1) := by decide +kernel
theorem dL_sharesHold_142 : decode cL_sharesHold 142 = .ok (.iload_n 2, 1) := by decide +kernel
theorem dL_sharesHold_143 : decode cL_sharesHold 143 = .ok (.iconst 1, 1) := by decide +kernel
theorem dL_sharesHold_144 : decode cL_sharesHold 144 = .ok (.invokevirtual 278, 3) := by decide +kernel
theorem dL_sharesHold_147 : decode cL_sharesHold 147 = .ok (.lstore 8, 2) := by decide +kernel
theorem dL_sharesHold_149 : decode cL_sharesHold 149 = .ok (.iload_n 3, 1) := by decide +kernel
theorem dL_sharesHold_150 : decode cL_sharesHold 150 = .ok (.ifCond .ne 20, 3) := by decide +kernel
theorem dL_sharesHold_153 : decode cL_sharesHold 153 = .ok (.lload 6, 2) := by decide +kernel
theorem dL_sharesHold_155 : decode cL_sharesHold 155 = .ok (.lconst 1, 1) := by decide +kernel
theorem dL_sharesHold_156 : decode cL_sharesHold 156 = .ok (.lcmp, 1) := by decide +kernel
theorem dL_sharesHold_157 : decode cL_sharesHold 157 = .ok (.ifCond .ne 32, 3) := by decide +kernel
theorem dL_sharesHold_160 : decode cL_sharesHold 160 = .ok (.lload 8, 2) := by decide +kernel
theorem dL_sharesHold_162 : decode cL_sharesHold 162 = .ok (.lconst 1, 1) := by decide +kernel
theorem dL_sharesHold_163 : decode cL_sharesHold 163 = .ok (.lcmp, 1) := by decide +kernel
theorem dL_sharesHold_164 : decode cL_sharesHold 164 = .ok (.ifCond .eq 27, 3) := by decide +kernel
theorem dL_sharesHold_167 : decode cL_sharesHold 167 = .ok (.goto 22, 3) := by decide +kernel
theorem dL_sharesHold_170 : decode cL_sharesHold 170 = .ok (.lload 6, 2) := by decide +kernel
theorem dL_sharesHold_172 : decode cL_sharesHold 172 = .ok (.iload_n 3, 1) := by decide +kernel
theorem dL_sharesHold_173 : decode cL_sharesHold 173 = .ok (.i2l, 1) := by decide +kernel
theorem dL_sharesHold_174 : decode cL_sharesHold 174 = .ok (.lmul, 1) := by decide +kernel
theorem dL_sharesHold_175 : decode cL_sharesHold 175 = .ok (.lload 8, 2) := by decide +kernel
theorem dL_sharesHold_177 : decode cL_sharesHold 177 = .ok (.iload 4, 2) := by decide +kernel
theorem dL_sharesHold_179 : decode cL_sharesHold 179 = .ok (.iload_n 3, 1) := by decide +kernel
theorem dL_sharesHold_180 : decode cL_sharesHold 180 = .ok (.invokestatic 81, 3) := by decide +kernel
theorem dL_sharesHold_183 : decode cL_sharesHold 183 = .ok (.i2l, 1) := by decide +kernel
theorem dL_sharesHold_184 : decode cL_sharesHold 184 = .ok (.lmul, 1) := by decide +kernel
theorem dL_sharesHold_185 : decode cL_sharesHold 185 = .ok (.lcmp, 1) := by decide +kernel
theorem dL_sharesHold_186 : decode cL_sharesHold 186 = .ok (.ifCond .eq 5, 3) := by decide +kernel
theorem dL_sharesHold_189 : decode cL_sharesHold 189 = .ok (.iconst 0, 1) := by decide +kernel
theorem dL_sharesHold_190 : decode cL_sharesHold 190 = .ok (.ireturn, 1) := by decide +kernel
theorem dL_sharesHold_191 : decode cL_sharesHold 191 = .ok (.aload_n 0, 1) := by decide +kernel
theorem dL_sharesHold_192 : decode cL_sharesHold 192 = .ok (.iload_n 1, 1) := by decide +kernel
theorem dL_sharesHold_193 : decode cL_sharesHold 193 = .ok (.iconst 0, 1) := by decide +kernel
theorem dL_sharesHold_194 : decode cL_sharesHold 194 = .ok (.invokevirtual 282, 3) := by decide +kernel
theorem dL_sharesHold_197 : decode cL_sharesHold 197 = .ok (.lload 8, 2) := by decide +kernel
theorem dL_sharesHold_199 : decode cL_sharesHold 199 = .ok (.lmul, 1) := by decide +kernel
theorem dL_sharesHold_200 : decode cL_sharesHold 200 = .ok (.lload 6, 2) := by decide +kernel
theorem dL_sharesHold_202 : decode cL_sharesHold 202 = .ok (.aload_n 0, 1) := by decide +kernel
theorem dL_sharesHold_203 : decode cL_sharesHold 203 = .ok (.iload_n 1, 1) := by decide +kernel
theorem dL_sharesHold_204 : decode cL_sharesHold 204 = .ok (.iconst 1, 1) := by decide +kernel
theorem dL_sharesHold_205 : decode cL_sharesHold 205 = .ok (.invokevirtual 282, 3) := by decide +kernel
theorem dL_sharesHold_208 : decode cL_sharesHold 208 = .ok (.lmul, 1) := by decide +kernel
theorem dL_sharesHold_209 : decode cL_sharesHold 209 = .ok (.lcmp, 1) := by decide +kernel
theorem dL_sharesHold_210 : decode cL_sharesHold 210 = .ok (.ifCond .le 5, 3) := by decide +kernel
theorem dL_sharesHold_213 : decode cL_sharesHold 213 = .ok (.iconst 0, 1) := by decide +kernel
theorem dL_sharesHold_214 : decode cL_sharesHold 214 = .ok (.ireturn, 1) := by decide +kernel
theorem dL_sharesHold_215 : decode cL_sharesHold 215 = .ok (.iinc 2 1, 3) := by decide +kernel
theorem dL_sharesHold_218 : decode cL_sharesHold 218 = .ok (.goto (-209), 3) := by decide +kernel
theorem dL_sharesHold_221 : decode cL_sharesHold 221 = .ok (.iinc 1 1, 3) := by decide +kernel
theorem dL_sharesHold_224 : decode cL_sharesHold 224 = .ok (.goto (-222), 3) := by decide +kernel
theorem dL_sharesHold_227 : decode cL_sharesHold 227 = .ok (.iconst 1, 1) := by decide +kernel
theorem dL_sharesHold_228 : decode cL_sharesHold 228 = .ok (.ireturn, 1) := by decide +kernel
theorem dL_bestsHold_0 : decode cL_bestsHold 0 = .ok (.iconst 0, 1) := by decide +kernel
theorem dL_bestsHold_1 : decode cL_bestsHold 1 = .ok (.istore_n 2, 1) := by decide +kernel
theorem dL_bestsHold_2 : decode cL_bestsHold 2 = .ok (.iload_n 2, 1) := by decide +kernel
theorem dL_bestsHold_3 : decode cL_bestsHold 3 = .ok (.iconst 3, 1) := by decide +kernel
theorem dL_bestsHold_4 : decode cL_bestsHold 4 = .ok (.if_icmp .ge 128, 3) := by decide +kernel
theorem dL_bestsHold_7 : decode cL_bestsHold 7 = .ok (.aload_n 0, 1) := by decide +kernel
theorem dL_bestsHold_8 : decode cL_bestsHold 8 = .ok (.iload_n 2, 1) := by decide +kernel
theorem dL_bestsHold_9 : decode cL_bestsHold 9 = .ok (.invokevirtual 245, 3) := by decide +kernel
theorem dL_bestsHold_12 : decode cL_bestsHold 12 = .ok (.istore_n 3, 1) := by decide +kernel
theorem dL_bestsHold_13 : decode cL_bestsHold 13 = .ok (.iconst 0, 1) := by decide +kernel
theorem dL_bestsHold_14 : decode cL_bestsHold 14 = .ok (.istore 4, 2) := by decide +kernel
theorem dL_bestsHold_16 : decode cL_bestsHold 16 = .ok (.iconst 0, 1) := by decide +kernel
theorem dL_bestsHold_17 : decode cL_bestsHold 17 = .ok (.istore 5, 2) := by decide +kernel
theorem dL_bestsHold_19 : decode cL_bestsHold 19 = .ok (.iconst 0, 1) := by decide +kernel
theorem dL_bestsHold_20 : decode cL_bestsHold 20 = .ok (.istore 6, 2) := by decide +kernel
theorem dL_bestsHold_22 : decode cL_bestsHold 22 = .ok (.iload 6, 2) := by decide +kernel
theorem dL_bestsHold_24 : decode cL_bestsHold 24 = .ok (.iload_n 3, 1) := by decide +kernel
theorem dL_bestsHold_25 : decode cL_bestsHold 25 = .ok (.invokestatic 126, 3) := by decide +kernel
theorem dL_bestsHold_28 : decode cL_bestsHold 28 = .ok (.if_icmp .ge 55, 3) := by decide +kernel
theorem dL_bestsHold_31 : decode cL_bestsHold 31 = .ok (.aload_n 0, 1) := by decide +kernel
theorem dL_bestsHold_32 : decode cL_bestsHold 32 = .ok (.iload_n 2, 1) := by decide +kernel
theorem dL_bestsHold_33 : decode cL_bestsHold 33 = .ok (.iload 6, 2) := by decide +kernel
theorem dL_bestsHold_35 : decode cL_bestsHold 35 = .ok (.invokevirtual 286, 3) := by decide +kernel
theorem dL_bestsHold_38 : decode cL_bestsHold 38 = .ok (.istore 7, 2) := by decide +kernel
theorem dL_bestsHold_40 : decode cL_bestsHold 40 = .ok (.aload_n 0, 1) := by decide +kernel
theorem dL_bestsHold_41 : decode cL_bestsHold 41 = .ok (.iload 7, 2) := by decide +kernel
theorem dL_bestsHold_43 : decode cL_bestsHold 43 = .ok (.invokevirtual 147, 3) := by decide +kernel
theorem dL_bestsHold_46 : decode cL_bestsHold 46 = .ok (.iload_n 2, 1) := by decide +kernel
theorem dL_bestsHold_47 : decode cL_bestsHold 47 = .ok (.if_icmp .eq 5, 3) := by decide +kernel
theorem dL_bestsHold_50 : decode cL_bestsHold 50 = .ok (.iconst 0, 1) := by decide +kernel
theorem dL_bestsHold_51 : decode cL_bestsHold 51 = .ok (.ireturn, 1) := by decide +kernel
theorem dL_bestsHold_52 : decode cL_bestsHold 52 = .ok (.iload 4, 2) := by decide +kernel
theorem dL_bestsHold_54 : decode cL_bestsHold 54 = .ok (.aload_n 0, 1) := by decide +kernel
theorem dL_bestsHold_55 : decode cL_bestsHold 55 = .ok (.iload 7, 2) := by decide +kernel
theorem dL_bestsHold_57 : decode cL_bestsHold 57 = .ok (.invokevirtual 150, 3) := by decide +kernel
theorem dL_bestsHold_60 : decode cL_bestsHold 60 = .ok (.aload_n 1, 1) := by decide +kernel
theorem dL_bestsHold_61 : decode cL_bestsHold 61 = .ok (.bipush 51, 2) := by decide +kernel
theorem dL_bestsHold_63 : decode cL_bestsHold 63 = .ok (.iconst 5, 1) := by decide +kernel
theorem dL_bestsHold_64 : decode cL_bestsHold 64 = .ok (.iload_n 2, 1) := by decide +kernel
theorem dL_bestsHold_65 : decode cL_bestsHold 65 = .ok (.imul, 1) := by decide +kernel
theorem dL_bestsHold_66 : decode cL_bestsHold 66 = .ok (.iadd, 1) := by decide +kernel
theorem dL_bestsHold_67 : decode cL_bestsHold 67 = .ok (.iaload, 1) := by decide +kernel
theorem dL_bestsHold_68 : decode cL_bestsHold 68 = .ok (.invokestatic 81, 3) := by decide +kernel
theorem dL_bestsHold_71 : decode cL_bestsHold 71 = .ok (.iadd, 1) := by decide +kernel
theorem dL_bestsHold_72 : decode cL_bestsHold 72 = .ok (.istore 4, 2) := by decide +kernel
theorem dL_bestsHold_74 : decode cL_bestsHold 74 = .ok (.iinc 5 1, 3) := by decide +kernel
theorem dL_bestsHold_77 : decode cL_bestsHold 77 = .ok (.iinc 6 1, 3) := by decide +kernel
theorem dL_bestsHold_80 : decode cL_bestsHold 80 = .ok (.goto (-58), 3) := by decide +kernel
theorem dL_bestsHold_83 : decode cL_bestsHold 83 = .ok (.iload 4, 2) := by decide +kernel
theorem dL_bestsHold_85 : decode cL_bestsHold 85 = .ok (.aload_n 0, 1) := by decide +kernel
theorem dL_bestsHold_86 : decode cL_bestsHold 86 = .ok (.iload_n 2, 1) := by decide +kernel
theorem dL_bestsHold_87 : decode cL_bestsHold 87 = .ok (.invokevirtual 239, 3) := by decide +kernel
theorem dL_bestsHold_90 : decode cL_bestsHold 90 = .ok (.if_icmp .ne 24, 3) := by decide +kernel
theorem dL_bestsHold_93 : decode cL_bestsHold 93 = .ok (.aload_n 0, 1) := by decide +kernel
theorem dL_bestsHold_94 : decode cL_bestsHold 94 = .ok (.iload_n 2, 1) := by decide +kernel
theorem dL_bestsHold_95 : decode cL_bestsHold 95 = .ok (.iload 5, 2) := by decide +kernel
theorem dL_bestsHold_97 : decode cL_bestsHold 97 = .ok (.invokevirtual 286, 3) := by decide +kernel
theorem dL_bestsHold_100 : decode cL_bestsHold 100 = .ok (.ldc 168, 2) := by decide +kernel
theorem dL_bestsHold_102 : decode cL_bestsHold 102 = .ok (.if_icmp .ne 12, 3) := by decide +kernel
theorem dL_bestsHold_105 : decode cL_bestsHold 105 = .ok (.aload_n 0, 1) := by decide +kernel
theorem dL_bestsHold_106 : decode cL_bestsHold 106 = .ok (.invokevirtual 169, 3) := by decide +kernel
theorem dL_bestsHold_109 : decode cL_bestsHold 109 = .ok (.bipush 6, 2) := by decide +kernel
theorem dL_bestsHold_111 : decode cL_bestsHold 111 = .ok (.if_icmp .eq 5, 3) := by decide +kernel
theorem dL_bestsHold_114 : decode cL_bestsHold 114 = .ok (.iconst 0, 1) := by decide +kernel
theorem dL_bestsHold_115 : decode cL_bestsHold 115 = .ok (.ireturn, 1) := by decide +kernel
theorem dL_bestsHold_116 : decode cL_bestsHold 116 = .ok (.aload_n 0, 1) := by decide +kernel
theorem dL_bestsHold_117 : decode cL_bestsHold 117 = .ok (.iload_n 2, 1) := by decide +kernel
theorem dL_bestsHold_118 : decode cL_bestsHold 118 = .ok (.invokevirtual 289, 3) := by decide +kernel
theorem dL_bestsHold_121 : decode cL_bestsHold 121 = .ok (.ifCond .ge 5, 3) := by decide +kernel
theorem dL_bestsHold_124 : decode cL_bestsHold 124 = .ok (.iconst 0, 1) := by decide +kernel
theorem dL_bestsHold_125 : decode cL_bestsHold 125 = .ok (.ireturn, 1) := by decide +kernel
theorem dL_bestsHold_126 : decode cL_bestsHold 126 = .ok (.iinc 2 1, 3) := by decide +kernel
theorem dL_bestsHold_129 : decode cL_bestsHold 129 = .ok (.goto (-127), 3) := by decide +kernel
theorem dL_bestsHold_132 : decode cL_bestsHold 132 = .ok (.iconst 0, 1) := by decide +kernel
theorem dL_bestsHold_133 : decode cL_bestsHold 133 = .ok (.istore_n 2, 1) := by decide +kernel
theorem dL_bestsHold_134 : decode cL_bestsHold 134 = .ok (.iload_n 2, 1) := by decide +kernel
theorem dL_bestsHold_135 : decode cL_bestsHold 135 = .ok (.iconst 2, 1) := by decide +kernel
theorem dL_bestsHold_136 : decode cL_bestsHold 136 = .ok (.if_icmp .ge 97, 3) := by decide +kernel
theorem dL_bestsHold_139 : decode cL_bestsHold 139 = .ok (.aload_n 0, 1) := by decide +kernel
theorem dL_bestsHold_140 : decode cL_bestsHold 140 = .ok (.iload_n 2, 1) := by decide +kernel
theorem dL_bestsHold_141 : decode cL_bestsHold 141 = .ok (.invokevirtual 292, 3) := by decide +kernel
theorem dL_bestsHold_144 : decode cL_bestsHold 144 = .ok (.istore_n 3, 1) := by decide +kernel
theorem dL_bestsHold_145 : decode cL_bestsHold 145 = .ok (.iload_n 3, 1) := by decide +kernel
theorem dL_bestsHold_146 : decode cL_bestsHold 146 = .ok (.ifCond .ge 6, 3) := by decide +kernel
theorem dL_bestsHold_149 : decode cL_bestsHold 149 = .ok (.goto 78, 3) := by decide +kernel
theorem dL_bestsHold_152 : decode cL_bestsHold 152 = .ok (.aload_n 0, 1) := by decide +kernel
theorem dL_bestsHold_153 : decode cL_bestsHold 153 = .ok (.iload_n 2, 1) := by decide +kernel
theorem dL_bestsHold_154 : decode cL_bestsHold 154 = .ok (.invokevirtual 187, 3) := by decide +kernel
theorem dL_bestsHold_157 : decode cL_bestsHold 157 = .ok (.istore 4, 2) := by decide +kernel
theorem dL_bestsHold_159 : decode cL_bestsHold 159 = .ok (.aload_n 0, 1) := by decide +kernel
theorem dL_bestsHold_160 : decode cL_bestsHold 160 = .ok (.iload_n 2, 1) := by decide +kernel
theorem dL_bestsHold_161 : decode cL_bestsHold 161 = .ok (.iload 4, 2) := by decide +kernel
theorem dL_bestsHold_163 : decode cL_bestsHold 163 = .ok (.iload_n 3, 1) := by decide +kernel
theorem dL_bestsHold_164 : decode cL_bestsHold 164 = .ok (.iadd, 1) := by decide +kernel
theorem dL_bestsHold_165 : decode cL_bestsHold 165 = .ok (.invokevirtual 233, 3) := by decide +kernel
theorem dL_bestsHold_168 : decode cL_bestsHold 168 = .ok (.iload 4, 2) := by decide +kernel
theorem dL_bestsHold_170 : decode cL_bestsHold 170 = .ok (.if_icmp .ne 18, 3) := by decide +kernel
theorem dL_bestsHold_173 : decode cL_bestsHold 173 = .ok (.aload_n 0, 1) := by decide +kernel
theorem dL_bestsHold_174 : decode cL_bestsHold 174 = .ok (.iload_n 2, 1) := by decide +kernel
theorem dL_bestsHold_175 : decode cL_bestsHold 175 = .ok (.invokevirtual 292, 3) := by decide +kernel
theorem dL_bestsHold_178 : decode cL_bestsHold 178 = .ok (.ifCond .ne 10, 3) := by decide +kernel
theorem dL_bestsHold_181 : decode cL_bestsHold 181 = .ok (.aload_n 0, 1) := by decide +kernel
theorem dL_bestsHold_182 : decode cL_bestsHold 182 = .ok (.invokevirtual 259, 3) := by decide +kernel
theorem dL_bestsHold_185 : decode cL_bestsHold 185 = .ok (.ifCond .ge 5, 3) := by decide +kernel
theorem dL_bestsHold_188 : decode cL_bestsHold 188 = .ok (.iconst 0, 1) := by decide +kernel
theorem dL_bestsHold_189 : decode cL_bestsHold 189 = .ok (.ireturn, 1) := by decide +kernel
theorem dL_bestsHold_190 : decode cL_bestsHold 190 = .ok (.iload_n 3, 1) := by decide +kernel
theorem dL_bestsHold_191 : decode cL_bestsHold 191 = .ok (.ifCond .le 36, 3) := by decide +kernel
theorem dL_bestsHold_194 : decode cL_bestsHold 194 = .ok (.aload_n 0, 1) := by decide +kernel
theorem dL_bestsHold_195 : decode cL_bestsHold 195 = .ok (.iload_n 2, 1) := by decide +kernel
theorem dL_bestsHold_196 : decode cL_bestsHold 196 = .ok (.iload 4, 2) := by decide +kernel
theorem dL_bestsHold_198 : decode cL_bestsHold 198 = .ok (.iload_n 3, 1) := by decide +kernel
theorem dL_bestsHold_199 : decode cL_bestsHold 199 = .ok (.iadd, 1) := by decide +kernel
theorem dL_bestsHold_200 : decode cL_bestsHold 200 = .ok (.iconst 1, 1) := by decide +kernel
theorem dL_bestsHold_201 : decode cL_bestsHold 201 = .ok (.isub, 1) := by decide +kernel
theorem dL_bestsHold_202 : decode cL_bestsHold 202 = .ok (.invokevirtual 233, 3) := by decide +kernel
theorem dL_bestsHold_205 : decode cL_bestsHold 205 = .ok (.iload 4, 2) := by decide +kernel
theorem dL_bestsHold_207 : decode cL_bestsHold 207 = .ok (.if_icmp .ne 18, 3) := by decide +kernel
theorem dL_bestsHold_210 : decode cL_bestsHold 210 = .ok (.aload_n 0, 1) := by decide +kernel
theorem dL_bestsHold_211 : decode cL_bestsHold 211 = .ok (.iload_n 2, 1) := by decide +kernel
theorem dL_bestsHold_212 : decode cL_bestsHold 212 = .ok (.invokevirtual 292, 3) := by decide +kernel
theorem dL_bestsHold_215 : decode cL_bestsHold 215 = .ok (.ifCond .eq 10, 3) := by decide +kernel
theorem dL_bestsHold_218 : decode cL_bestsHold 218 = .ok (.aload_n 0, 1) := by decide +kernel
theorem dL_bestsHold_219 : decode cL_bestsHold 219 = .ok (.invokevirtual 259, 3) := by decide +kernel
theorem dL_bestsHold_222 : decode cL_bestsHold 222 = .ok (.ifCond .ge 5, 3) := by decide +kernel
theorem dL_bestsHold_225 : decode cL_bestsHold 225 = .ok (.iconst 0, 1) := by decide +kernel
theorem dL_bestsHold_226 : decode cL_bestsHold 226 = .ok (.ireturn, 1) := by decide +kernel
theorem dL_bestsHold_227 : decode cL_bestsHold 227 = .ok (.iinc 2 1, 3) := by decide +kernel
theorem dL_bestsHold_230 : decode cL_bestsHold 230 = .ok (.goto (-96), 3) := by decide +kernel
theorem dL_bestsHold_233 : decode cL_bestsHold 233 = .ok (.aload_n 0, 1) := by decide +kernel
theorem dL_bestsHold_234 : decode cL_bestsHold 234 = .ok (.invokevirtual 295, 3) := by decide +kernel
theorem dL_bestsHold_237 : decode cL_bestsHold 237 = .ok (.istore_n 2, 1) := by decide +kernel
theorem dL_bestsHold_238 : decode cL_bestsHold 238 = .ok (.iload_n 2, 1) := by decide +kernel
theorem dL_bestsHold_239 : decode cL_bestsHold 239 = .ok (.ifCond .ge 5, 3) := by decide +kernel
theorem dL_bestsHold_242 : decode cL_bestsHold 242 = .ok (.iconst 1, 1) := by decide +kernel
theorem dL_bestsHold_243 : decode cL_bestsHold 243 = .ok (.ireturn, 1) := by decide +kernel
theorem dL_bestsHold_244 : decode cL_bestsHold 244 = .ok (.aload_n 0, 1) := by decide +kernel
theorem dL_bestsHold_245 : decode cL_bestsHold 245 = .ok (.invokevirtual 140, 3) := by decide +kernel
theorem dL_bestsHold_248 : decode cL_bestsHold 248 = .ok (.istore_n 3, 1) := by decide +kernel
theorem dL_bestsHold_249 : decode cL_bestsHold 249 = .ok (.aload_n 0, 1) := by decide +kernel
theorem dL_bestsHold_250 : decode cL_bestsHold 250 = .ok (.iload_n 2, 1) := by decide +kernel
theorem dL_bestsHold_251 : decode cL_bestsHold 251 = .ok (.invokevirtual 227, 3) := by decide +kernel
theorem dL_bestsHold_254 : decode cL_bestsHold 254 = .ok (.aload_n 0, 1) := by decide +kernel
theorem dL_bestsHold_255 : decode cL_bestsHold 255 = .ok (.invokevirtual 136, 3) := by decide +kernel
theorem dL_bestsHold_258 : decode cL_bestsHold 258 = .ok (.if_icmp .ne 22, 3) := by decide +kernel
theorem dL_bestsHold_261 : decode cL_bestsHold 261 = .ok (.aload_n 0, 1) := by decide +kernel
theorem dL_bestsHold_262 : decode cL_bestsHold 262 = .ok (.invokevirtual 140, 3) := by decide +kernel
theorem dL_bestsHold_265 : decode cL_bestsHold 265 = .ok (.iload_n 3, 1) := by decide +kernel
theorem dL_bestsHold_266 : decode cL_bestsHold 266 = .ok (.if_icmp .le 14, 3) := by decide +kernel
theorem dL_bestsHold_269 : decode cL_bestsHold 269 = .ok (.aload_n 0, 1) := by decide +kernel
theorem dL_bestsHold_270 : decode cL_bestsHold 270 = .ok (.invokevirtual 259, 3) := by decide +kernel
theorem dL_bestsHold_273 : decode cL_bestsHold 273 = .ok (.ifCond .lt 7, 3) := by decide +kernel
theorem dL_bestsHold_276 : decode cL_bestsHold 276 = .ok (.iconst 1, 1) := by decide +kernel
theorem dL_bestsHold_277 : decode cL_bestsHold 277 = .ok (.goto 4, 3) := by decide +kernel
theorem dL_bestsHold_280 : decode cL_bestsHold 280 = .ok (.iconst 0, 1) := by decide +kernel
theorem dL_bestsHold_281 : decode cL_bestsHold 281 = .ok (.ireturn, 1) := by decide +kernel
theorem dL_seen_0 : decode cL_seen 0 = .ok (.bipush 120, 2) := by decide +kernel
theorem dL_seen_2 : decode cL_seen 2 = .ok (.newarray .int, 2) := by decide +kernel
theorem dL_seen_4 : decode cL_seen 4 = .ok (.astore_n 1, 1) := by decide +kernel
theorem dL_seen_5 : decode cL_seen 5 = .ok (.iconst 0, 1) := by decide +kernel
theorem dL_seen_6 : decode cL_seen 6 = .ok (.istore_n 2, 1) := by decide +kernel
theorem dL_seen_7 : decode cL_seen 7 = .ok (.aload_n 1, 1) := by decide +kernel
theorem dL_seen_8 : decode cL_seen 8 = .ok (.iload_n 2, 1) := by decide +kernel
theorem dL_seen_9 : decode cL_seen 9 = .ok (.iinc 2 1, 3) := by decide +kernel
theorem dL_seen_12 : decode cL_seen 12 = .ok (.aload_n 0, 1) := by decide +kernel
theorem dL_seen_13 : decode cL_seen 13 = .ok (.invokevirtual 136, 3) := by decide +kernel
theorem dL_seen_16 : decode cL_seen 16 = .ok (.iastore, 1) := by decide +kernel
theorem dL_seen_17 : decode cL_seen 17 = .ok (.iconst 0, 1) := by decide +kernel
theorem dL_seen_18 : decode cL_seen 18 = .ok (.istore_n 3, 1) := by decide +kernel
theorem dL_seen_19 : decode cL_seen 19 = .ok (.iload_n 3, 1) := by decide +kernel
theorem dL_seen_20 : decode cL_seen 20 = .ok (.iconst 2, 1) := by decide +kernel
theorem dL_seen_21 : decode cL_seen 21 = .ok (.if_icmp .ge 20, 3) := by decide +kernel
theorem dL_seen_24 : decode cL_seen 24 = .ok (.aload_n 1, 1) := by decide +kernel
theorem dL_seen_25 : decode cL_seen 25 = .ok (.iload_n 2, 1) := by decide +kernel
theorem dL_seen_26 : decode cL_seen 26 = .ok (.iinc 2 1, 3) := by decide +kernel
theorem dL_seen_29 : decode cL_seen 29 = .ok (.aload_n 0, 1) := by decide +kernel
theorem dL_seen_30 : decode cL_seen 30 = .ok (.iload_n 3, 1) := by decide +kernel
theorem dL_seen_31 : decode cL_seen 31 = .ok (.invokevirtual 187, 3) := by decide +kernel
theorem dL_seen_34 : decode cL_seen 34 = .ok (.iastore, 1) := by decide +kernel
theorem dL_seen_35 : decode cL_seen 35 = .ok (.iinc 3 1, 3) := by decide +kernel
theorem dL_seen_38 : decode cL_seen 38 = .ok (.goto (-19), 3) := by decide +kernel
theorem dL_seen_41 : decode cL_seen 41 = .ok (.iconst 0, 1) := by decide +kernel
theorem dL_seen_42 : decode cL_seen 42 = .ok (.istore_n 3, 1) := by decide +kernel
theorem dL_seen_43 : decode cL_seen 43 = .ok (.iload_n 3, 1) := by decide +kernel
theorem dL_seen_44 : decode cL_seen 44 = .ok (.iconst 4, 1) := by decide +kernel
theorem dL_seen_45 : decode cL_seen 45 = .ok (.if_icmp .ge 25, 3) := by decide +kernel
theorem dL_seen_48 : decode cL_seen 48 = .ok (.aload_n 1, 1) := by decide +kernel
theorem dL_seen_49 : decode cL_seen 49 = .ok (.iload_n 2, 1) := by decide +kernel
theorem dL_seen_50 : decode cL_seen 50 = .ok (.iinc 2 1, 3) := by decide +kernel
theorem dL_seen_53 : decode cL_seen 53 = .ok (.aload_n 0, 1) := by decide +kernel
theorem dL_seen_54 : decode cL_seen 54 = .ok (.iload_n 3, 1) := by decide +kernel
theorem dL_seen_55 : decode cL_seen 55 = .ok (.iconst 2, 1) := by decide +kernel
theorem dL_seen_56 : decode cL_seen 56 = .ok (.idiv, 1) := by decide +kernel
theorem dL_seen_57 : decode cL_seen 57 = .ok (.iload_n 3, 1) := by decide +kernel
theorem dL_seen_58 : decode cL_seen 58 = .ok (.iconst 2, 1) := by decide +kernel
theorem dL_seen_59 : decode cL_seen 59 = .ok (.irem, 1) := by decide +kernel
theorem dL_seen_60 : decode cL_seen 60 = .ok (.invokevirtual 181, 3) := by decide +kernel
theorem dL_seen_63 : decode cL_seen 63 = .ok (.iastore, 1) := by decide +kernel
theorem dL_seen_64 : decode cL_seen 64 = .ok (.iinc 3 1, 3) := by decide +kernel
theorem dL_seen_67 : decode cL_seen 67 = .ok (.goto (-24), 3) := by decide +kernel
theorem dL_seen_70 : decode cL_seen 70 = .ok (.iconst 0, 1) := by decide +kernel
theorem dL_seen_71 : decode cL_seen 71 = .ok (.istore_n 3, 1) := by decide +kernel
theorem dL_seen_72 : decode cL_seen 72 = .ok (.iload_n 3, 1) := by decide +kernel
theorem dL_seen_73 : decode cL_seen 73 = .ok (.iconst 3, 1) := by decide +kernel
theorem dL_seen_74 : decode cL_seen 74 = .ok (.if_icmp .ge 20, 3) := by decide +kernel
theorem dL_seen_77 : decode cL_seen 77 = .ok (.aload_n 1, 1) := by decide +kernel
theorem dL_seen_78 : decode cL_seen 78 = .ok (.iload_n 2, 1) := by decide +kernel
theorem dL_seen_79 : decode cL_seen 79 = .ok (.iinc 2 1, 3) := by decide +kernel
theorem dL_seen_82 : decode cL_seen 82 = .ok (.aload_n 0, 1) := by decide +kernel
theorem dL_seen_83 : decode cL_seen 83 = .ok (.iload_n 3, 1) := by decide +kernel
theorem dL_seen_84 : decode cL_seen 84 = .ok (.invokevirtual 239, 3) := by decide +kernel
theorem dL_seen_87 : decode cL_seen 87 = .ok (.iastore, 1) := by decide +kernel
theorem dL_seen_88 : decode cL_seen 88 = .ok (.iinc 3 1, 3) := by decide +kernel
theorem dL_seen_91 : decode cL_seen 91 = .ok (.goto (-19), 3) := by decide +kernel
theorem dL_seen_94 : decode cL_seen 94 = .ok (.iconst 0, 1) := by decide +kernel
theorem dL_seen_95 : decode cL_seen 95 = .ok (.istore_n 3, 1) := by decide +kernel
theorem dL_seen_96 : decode cL_seen 96 = .ok (.iload_n 3, 1) := by decide +kernel
theorem dL_seen_97 : decode cL_seen 97 = .ok (.aload_n 0, 1) := by decide +kernel
theorem dL_seen_98 : decode cL_seen 98 = .ok (.invokevirtual 136, 3) := by decide +kernel
theorem dL_seen_101 : decode cL_seen 101 = .ok (.if_icmp .ge 53, 3) := by decide +kernel
theorem dL_seen_104 : decode cL_seen 104 = .ok (.aload_n 1, 1) := by decide +kernel
theorem dL_seen_105 : decode cL_seen 105 = .ok (.iload_n 2, 1) := by decide +kernel
theorem dL_seen_106 : decode cL_seen 106 = .ok (.iinc 2 1, 3) := by decide +kernel
theorem dL_seen_109 : decode cL_seen 109 = .ok (.aload_n 0, 1) := by decide +kernel
theorem dL_seen_110 : decode cL_seen 110 = .ok (.iload_n 3, 1) := by decide +kernel
theorem dL_seen_111 : decode cL_seen 111 = .ok (.invokevirtual 147, 3) := by decide +kernel
theorem dL_seen_114 : decode cL_seen 114 = .ok (.iastore, 1) := by decide +kernel
theorem dL_seen_115 : decode cL_seen 115 = .ok (.aload_n 1, 1) := by decide +kernel
theorem dL_seen_116 : decode cL_seen 116 = .ok (.iload_n 2, 1) := by decide +kernel
theorem dL_seen_117 : decode cL_seen 117 = .ok (.iinc 2 1, 3) := by decide +kernel
theorem dL_seen_120 : decode cL_seen 120 = .ok (.aload_n 0, 1) := by decide +kernel
theorem dL_seen_121 : decode cL_seen 121 = .ok (.iload_n 3, 1) := by decide +kernel
theorem dL_seen_122 : decode cL_seen 122 = .ok (.invokevirtual 150, 3) := by decide +kernel
theorem dL_seen_125 : decode cL_seen 125 = .ok (.iastore, 1) := by decide +kernel
theorem dL_seen_126 : decode cL_seen 126 = .ok (.aload_n 1, 1) := by decide +kernel
theorem dL_seen_127 : decode cL_seen 127 = .ok (.iload_n 2, 1) := by decide +kernel
theorem dL_seen_128 : decode cL_seen 128 = .ok (.iinc 2 1, 3) := by decide +kernel
theorem dL_seen_131 : decode cL_seen 131 = .ok (.aload_n 0, 1) := by decide +kernel
theorem dL_seen_132 : decode cL_seen 132 = .ok (.iload_n 3, 1) := by decide +kernel
theorem dL_seen_133 : decode cL_seen 133 = .ok (.invokevirtual 159, 3) := by decide +kernel
theorem dL_seen_136 : decode cL_seen 136 = .ok (.iastore, 1) := by decide +kernel
theorem dL_seen_137 : decode cL_seen 137 = .ok (.aload_n 1, 1) := by decide +kernel
theorem dL_seen_138 : decode cL_seen 138 = .ok (.iload_n 2, 1) := by decide +kernel
theorem dL_seen_139 : decode cL_seen 139 = .ok (.iinc 2 1, 3) := by decide +kernel
theorem dL_seen_142 : decode cL_seen 142 = .ok (.aload_n 0, 1) := by decide +kernel
theorem dL_seen_143 : decode cL_seen 143 = .ok (.iload_n 3, 1) := by decide +kernel
theorem dL_seen_144 : decode cL_seen 144 = .ok (.invokevirtual 162, 3) := by decide +kernel
theorem dL_seen_147 : decode cL_seen 147 = .ok (.iastore, 1) := by decide +kernel
theorem dL_seen_148 : decode cL_seen 148 = .ok (.iinc 3 1, 3) := by decide +kernel
theorem dL_seen_151 : decode cL_seen 151 = .ok (.goto (-55), 3) := by decide +kernel
theorem dL_seen_154 : decode cL_seen 154 = .ok (.aload_n 1, 1) := by decide +kernel
theorem dL_seen_155 : decode cL_seen 155 = .ok (.areturn, 1) := by decide +kernel
