theorem dX8_init_0 : decode cX8_init 0 = .ok (.aload_n 0, 1) := by decide +kernel
theorem dX8_init_1 : decode cX8_init 1 = .ok (.invokespecial 1, 3) := by decide +kernel
theorem dX8_init_4 : decode cX8_init 4 = .ok (.aload_n 0, 1) := by decide +kernel
theorem dX8_init_5 : decode cX8_init 5 = .ok (.sipush 900, 3) := by decide +kernel
theorem dX8_init_8 : decode cX8_init 8 = .ok (.newarray .int, 2) := by decide +kernel
theorem dX8_init_10 : decode cX8_init 10 = .ok (.putfield 9, 3) := by decide +kernel
theorem dX8_init_13 : decode cX8_init 13 = .ok (.aload_n 0, 1) := by decide +kernel
theorem dX8_init_14 : decode cX8_init 14 = .ok (.iconst (-1), 1) := by decide +kernel
theorem dX8_init_15 : decode cX8_init 15 = .ok (.putfield 13, 3) := by decide +kernel
theorem dX8_init_18 : decode cX8_init 18 = .ok (.aload_n 0, 1) := by decide +kernel
theorem dX8_init_19 : decode cX8_init 19 = .ok (.sipush 188, 3) := by decide +kernel
theorem dX8_init_22 : decode cX8_init 22 = .ok (.newarray .int, 2) := by decide +kernel
theorem dX8_init_24 : decode cX8_init 24 = .ok (.putfield 17, 3) := by decide +kernel
theorem dX8_init_27 : decode cX8_init 27 = .ok (.aload_n 0, 1) := by decide +kernel
theorem dX8_init_28 : decode cX8_init 28 = .ok (.sipush 188, 3) := by decide +kernel
theorem dX8_init_31 : decode cX8_init 31 = .ok (.newarray .int, 2) := by decide +kernel
theorem dX8_init_33 : decode cX8_init 33 = .ok (.putfield 20, 3) := by decide +kernel
theorem dX8_init_36 : decode cX8_init 36 = .ok (.aload_n 0, 1) := by decide +kernel
theorem dX8_init_37 : decode cX8_init 37 = .ok (.sipush 188, 3) := by decide +kernel
theorem dX8_init_40 : decode cX8_init 40 = .ok (.newarray .int, 2) := by decide +kernel
theorem dX8_init_42 : decode cX8_init 42 = .ok (.putfield 23, 3) := by decide +kernel
theorem dX8_init_45 : decode cX8_init 45 = .ok (.aload_n 0, 1) := by decide +kernel
theorem dX8_init_46 : decode cX8_init 46 = .ok (.sipush 1880, 3) := by decide +kernel
theorem dX8_init_49 : decode cX8_init 49 = .ok (.newarray .int, 2) := by decide +kernel
theorem dX8_init_51 : decode cX8_init 51 = .ok (.putfield 26, 3) := by decide +kernel
theorem dX8_init_54 : decode cX8_init 54 = .ok (.aload_n 0, 1) := by decide +kernel
theorem dX8_init_55 : decode cX8_init 55 = .ok (.iconst 4, 1) := by decide +kernel
theorem dX8_init_56 : decode cX8_init 56 = .ok (.newarray .long, 2) := by decide +kernel
theorem dX8_init_58 : decode cX8_init 58 = .ok (.putfield 29, 3) := by decide +kernel
theorem dX8_init_61 : decode cX8_init 61 = .ok (.aload_n 0, 1) := by decide +kernel
theorem dX8_init_62 : decode cX8_init 62 = .ok (.iconst 2, 1) := by decide +kernel
theorem dX8_init_63 : decode cX8_init 63 = .ok (.newarray .boolean, 2) := by decide +kernel
theorem dX8_init_65 : decode cX8_init 65 = .ok (.putfield 33, 3) := by decide +kernel
theorem dX8_init_68 : decode cX8_init 68 = .ok (.aload_n 0, 1) := by decide +kernel
theorem dX8_init_69 : decode cX8_init 69 = .ok (.bipush 12, 2) := by decide +kernel
theorem dX8_init_71 : decode cX8_init 71 = .ok (.newarray .boolean, 2) := by decide +kernel
theorem dX8_init_73 : decode cX8_init 73 = .ok (.putfield 37, 3) := by decide +kernel
theorem dX8_init_76 : decode cX8_init 76 = .ok (.aload_n 0, 1) := by decide +kernel
theorem dX8_init_77 : decode cX8_init 77 = .ok (.iconst 5, 1) := by decide +kernel
theorem dX8_init_78 : decode cX8_init 78 = .ok (.newarray .int, 2) := by decide +kernel
theorem dX8_init_80 : decode cX8_init 80 = .ok (.putfield 40, 3) := by decide +kernel
theorem dX8_init_83 : decode cX8_init 83 = .ok (.aload_n 0, 1) := by decide +kernel
theorem dX8_init_84 : decode cX8_init 84 = .ok (.iconst 5, 1) := by decide +kernel
theorem dX8_init_85 : decode cX8_init 85 = .ok (.newarray .int, 2) := by decide +kernel
theorem dX8_init_87 : decode cX8_init 87 = .ok (.putfield 43, 3) := by decide +kernel
theorem dX8_init_90 : decode cX8_init 90 = .ok (.aload_n 0, 1) := by decide +kernel
theorem dX8_init_91 : decode cX8_init 91 = .ok (.iconst 5, 1) := by decide +kernel
theorem dX8_init_92 : decode cX8_init 92 = .ok (.newarray .int, 2) := by decide +kernel
theorem dX8_init_94 : decode cX8_init 94 = .ok (.putfield 46, 3) := by decide +kernel
theorem dX8_init_97 : decode cX8_init 97 = .ok (.aload_n 0, 1) := by decide +kernel
theorem dX8_init_98 : decode cX8_init 98 = .ok (.iconst 5, 1) := by decide +kernel
theorem dX8_init_99 : decode cX8_init 99 = .ok (.newarray .int, 2) := by decide +kernel
theorem dX8_init_101 : decode cX8_init 101 = .ok (.putfield 49, 3) := by decide +kernel
theorem dX8_init_104 : decode cX8_init 104 = .ok (.aload_n 0, 1) := by decide +kernel
theorem dX8_init_105 : decode cX8_init 105 = .ok (.iconst 5, 1) := by decide +kernel
theorem dX8_init_106 : decode cX8_init 106 = .ok (.newarray .int, 2) := by decide +kernel
theorem dX8_init_108 : decode cX8_init 108 = .ok (.putfield 52, 3) := by decide +kernel
theorem dX8_init_111 : decode cX8_init 111 = .ok (.aload_n 0, 1) := by decide +kernel
theorem dX8_init_112 : decode cX8_init 112 = .ok (.iconst 5, 1) := by decide +kernel
theorem dX8_init_113 : decode cX8_init 113 = .ok (.newarray .boolean, 2) := by decide +kernel
theorem dX8_init_115 : decode cX8_init 115 = .ok (.putfield 55, 3) := by decide +kernel
theorem dX8_init_118 : decode cX8_init 118 = .ok (.aload_n 0, 1) := by decide +kernel
theorem dX8_init_119 : decode cX8_init 119 = .ok (.bipush 12, 2) := by decide +kernel
theorem dX8_init_121 : decode cX8_init 121 = .ok (.newarray .int, 2) := by decide +kernel
theorem dX8_init_123 : decode cX8_init 123 = .ok (.putfield 58, 3) := by decide +kernel
theorem dX8_init_126 : decode cX8_init 126 = .ok (.aload_n 0, 1) := by decide +kernel
theorem dX8_init_127 : decode cX8_init 127 = .ok (.bipush 10, 2) := by decide +kernel
theorem dX8_init_129 : decode cX8_init 129 = .ok (.newarray .int, 2) := by decide +kernel
theorem dX8_init_131 : decode cX8_init 131 = .ok (.putfield 61, 3) := by decide +kernel
theorem dX8_init_134 : decode cX8_init 134 = .ok (.aload_n 0, 1) := by decide +kernel
theorem dX8_init_135 : decode cX8_init 135 = .ok (.bipush 20, 2) := by decide +kernel
theorem dX8_init_137 : decode cX8_init 137 = .ok (.newarray .int, 2) := by decide +kernel
theorem dX8_init_139 : decode cX8_init 139 = .ok (.putfield 64, 3) := by decide +kernel
theorem dX8_init_142 : decode cX8_init 142 = .ok (.aload_n 0, 1) := by decide +kernel
theorem dX8_init_143 : decode cX8_init 143 = .ok (.bipush 20, 2) := by decide +kernel
theorem dX8_init_145 : decode cX8_init 145 = .ok (.newarray .int, 2) := by decide +kernel
theorem dX8_init_147 : decode cX8_init 147 = .ok (.putfield 67, 3) := by decide +kernel
theorem dX8_init_150 : decode cX8_init 150 = .ok (.aload_n 0, 1) := by decide +kernel
theorem dX8_init_151 : decode cX8_init 151 = .ok (.bipush 20, 2) := by decide +kernel
theorem dX8_init_153 : decode cX8_init 153 = .ok (.newarray .int, 2) := by decide +kernel
theorem dX8_init_155 : decode cX8_init 155 = .ok (.putfield 70, 3) := by decide +kernel
theorem dX8_init_158 : decode cX8_init 158 = .ok (.aload_n 0, 1) := by decide +kernel
theorem dX8_init_159 : decode cX8_init 159 = .ok (.bipush 20, 2) := by decide +kernel
theorem dX8_init_161 : decode cX8_init 161 = .ok (.newarray .int, 2) := by decide +kernel
theorem dX8_init_163 : decode cX8_init 163 = .ok (.putfield 73, 3) := by decide +kernel
theorem dX8_init_166 : decode cX8_init 166 = .ok (.aload_n 0, 1) := by decide +kernel
theorem dX8_init_167 : decode cX8_init 167 = .ok (.bipush 20, 2) := by decide +kernel
theorem dX8_init_169 : decode cX8_init 169 = .ok (.newarray .int, 2) := by decide +kernel
theorem dX8_init_171 : decode cX8_init 171 = .ok (.putfield 76, 3) := by decide +kernel
theorem dX8_init_174 : decode cX8_init 174 = .ok (.aload_n 0, 1) := by decide +kernel
theorem dX8_init_175 : decode cX8_init 175 = .ok (.bipush 20, 2) := by decide +kernel
theorem dX8_init_177 : decode cX8_init 177 = .ok (.newarray .int, 2) := by decide +kernel
theorem dX8_init_179 : decode cX8_init 179 = .ok (.putfield 79, 3) := by decide +kernel
theorem dX8_init_182 : decode cX8_init 182 = .ok (.aload_n 0, 1) := by decide +kernel
theorem dX8_init_183 : decode cX8_init 183 = .ok (.bipush 10, 2) := by decide +kernel
theorem dX8_init_185 : decode cX8_init 185 = .ok (.newarray .int, 2) := by decide +kernel
theorem dX8_init_187 : decode cX8_init 187 = .ok (.putfield 82, 3) := by decide +kernel
theorem dX8_init_190 : decode cX8_init 190 = .ok (.aload_n 0, 1) := by decide +kernel
theorem dX8_init_191 : decode cX8_init 191 = .ok (.bipush 10, 2) := by decide +kernel
theorem dX8_init_193 : decode cX8_init 193 = .ok (.newarray .int, 2) := by decide +kernel
theorem dX8_init_195 : decode cX8_init 195 = .ok (.putfield 85, 3) := by decide +kernel
theorem dX8_init_198 : decode cX8_init 198 = .ok (.aload_n 0, 1) := by decide +kernel
theorem dX8_init_199 : decode cX8_init 199 = .ok (.iconst 5, 1) := by decide +kernel
theorem dX8_init_200 : decode cX8_init 200 = .ok (.newarray .int, 2) := by decide +kernel
theorem dX8_init_202 : decode cX8_init 202 = .ok (.putfield 88, 3) := by decide +kernel
theorem dX8_init_205 : decode cX8_init 205 = .ok (.aload_n 0, 1) := by decide +kernel
theorem dX8_init_206 : decode cX8_init 206 = .ok (.iconst 5, 1) := by decide +kernel
theorem dX8_init_207 : decode cX8_init 207 = .ok (.newarray .int, 2) := by decide +kernel
theorem dX8_init_209 : decode cX8_init 209 = .ok (.putfield 91, 3) := by decide +kernel
theorem dX8_init_212 : decode cX8_init 212 = .ok (.aload_n 0, 1) := by decide +kernel
theorem dX8_init_213 : decode cX8_init 213 = .ok (.bipush 8, 2) := by decide +kernel
theorem dX8_init_215 : decode cX8_init 215 = .ok (.newarray .int, 2) := by decide +kernel
theorem dX8_init_217 : decode cX8_init 217 = .ok (.putfield 94, 3) := by decide +kernel
theorem dX8_init_220 : decode cX8_init 220 = .ok (.aload_n 0, 1) := by decide +kernel
theorem dX8_init_221 : decode cX8_init 221 = .ok (.sipush 256, 3) := by decide +kernel
theorem dX8_init_224 : decode cX8_init 224 = .ok (.newarray .int, 2) := by decide +kernel
theorem dX8_init_226 : decode cX8_init 226 = .ok (.putfield 97, 3) := by decide +kernel
theorem dX8_init_229 : decode cX8_init 229 = .ok (.aload_n 0, 1) := by decide +kernel
theorem dX8_init_230 : decode cX8_init 230 = .ok (.bipush 8, 2) := by decide +kernel
theorem dX8_init_232 : decode cX8_init 232 = .ok (.newarray .int, 2) := by decide +kernel
theorem dX8_init_234 : decode cX8_init 234 = .ok (.putfield 100, 3) := by decide +kernel
theorem dX8_init_237 : decode cX8_init 237 = .ok (.return_, 1) := by decide +kernel
theorem dX8_thrown_0 : decode cX8_thrown 0 = .ok (.aload_n 0, 1) := by decide +kernel
theorem dX8_thrown_1 : decode cX8_thrown 1 = .ok (.getfield 103, 3) := by decide +kernel
theorem dX8_thrown_4 : decode cX8_thrown 4 = .ok (.ireturn, 1) := by decide +kernel
theorem dX8_in_0 : decode cX8_in 0 = .ok (.iload_n 0, 1) := by decide +kernel
theorem dX8_in_1 : decode cX8_in 1 = .ok (.iload_n 1, 1) := by decide +kernel
theorem dX8_in_2 : decode cX8_in 2 = .ok (.if_icmp .lt 12, 3) := by decide +kernel
theorem dX8_in_5 : decode cX8_in 5 = .ok (.iload_n 0, 1) := by decide +kernel
theorem dX8_in_6 : decode cX8_in 6 = .ok (.iload_n 2, 1) := by decide +kernel
theorem dX8_in_7 : decode cX8_in 7 = .ok (.if_icmp .gt 7, 3) := by decide +kernel
theorem dX8_in_10 : decode cX8_in 10 = .ok (.iconst 1, 1) := by decide +kernel
theorem dX8_in_11 : decode cX8_in 11 = .ok (.goto 4, 3) := by decide +kernel
theorem dX8_in_14 : decode cX8_in 14 = .ok (.iconst 0, 1) := by decide +kernel
theorem dX8_in_15 : decode cX8_in 15 = .ok (.ireturn, 1) := by decide +kernel
theorem dX8_failed_0 : decode cX8_failed 0 = .ok (.aload_n 0, 1) := by decide +kernel
theorem dX8_failed_1 : decode cX8_failed 1 = .ok (.iload_n 1, 1) := by decide +kernel
theorem dX8_failed_2 : decode cX8_failed 2 = .ok (.putfield 106, 3) := by decide +kernel
theorem dX8_failed_5 : decode cX8_failed 5 = .ok (.ldc 109, 2) := by decide +kernel
theorem dX8_failed_7 : decode cX8_failed 7 = .ok (.ireturn, 1) := by decide +kernel
theorem dX8_failedLong_0 : decode cX8_failedLong 0 = .ok (.aload_n 0, 1) := by decide +kernel
theorem dX8_failedLong_1 : decode cX8_failedLong 1 = .ok (.iload_n 1, 1) := by decide +kernel
theorem dX8_failedLong_2 : decode cX8_failedLong 2 = .ok (.putfield 106, 3) := by decide +kernel
theorem dX8_failedLong_5 : decode cX8_failedLong 5 = .ok (.ldc2_w 110, 3) := by decide +kernel
theorem dX8_failedLong_8 : decode cX8_failedLong 8 = .ok (.lreturn, 1) := by decide +kernel
theorem dX8_done_0 : decode cX8_done 0 = .ok (.aload_n 0, 1) := by decide +kernel
theorem dX8_done_1 : decode cX8_done 1 = .ok (.iconst 0, 1) := by decide +kernel
theorem dX8_done_2 : decode cX8_done 2 = .ok (.putfield 106, 3) := by decide +kernel
theorem dX8_done_5 : decode cX8_done 5 = .ok (.iload_n 1, 1) := by decide +kernel
theorem dX8_done_6 : decode cX8_done 6 = .ok (.ireturn, 1) := by decide +kernel
theorem dX8_error_0 : decode cX8_error 0 = .ok (.aload_n 0, 1) := by decide +kernel
theorem dX8_error_1 : decode cX8_error 1 = .ok (.iconst 0, 1) := by decide +kernel
theorem dX8_error_2 : decode cX8_error 2 = .ok (.putfield 103, 3) := by decide +kernel
theorem dX8_error_5 : decode cX8_error 5 = .ok (.aload_n 0, 1) := by decide +kernel
theorem dX8_error_6 : decode cX8_error 6 = .ok (.getfield 106, 3) := by decide +kernel
theorem dX8_error_9 : decode cX8_error 9 = .ok (.ireturn, 1) := by decide +kernel
theorem dX8_four_0 : decode cX8_four 0 = .ok (.bipush 24, 2) := by decide +kernel
theorem dX8_four_2 : decode cX8_four 2 = .ok (.istore_n 2, 1) := by decide +kernel
theorem dX8_four_3 : decode cX8_four 3 = .ok (.iload_n 2, 1) := by decide +kernel
theorem dX8_four_4 : decode cX8_four 4 = .ok (.ifCond .lt 35, 3) := by decide +kernel
theorem dX8_four_7 : decode cX8_four 7 = .ok (.aload_n 0, 1) := by decide +kernel
theorem dX8_four_8 : decode cX8_four 8 = .ok (.getfield 9, 3) := by decide +kernel
theorem dX8_four_11 : decode cX8_four 11 = .ok (.aload_n 0, 1) := by decide +kernel
theorem dX8_four_12 : decode cX8_four 12 = .ok (.getfield 112, 3) := by decide +kernel
theorem dX8_four_15 : decode cX8_four 15 = .ok (.iload_n 1, 1) := by decide +kernel
theorem dX8_four_16 : decode cX8_four 16 = .ok (.iload_n 2, 1) := by decide +kernel
theorem dX8_four_17 : decode cX8_four 17 = .ok (.ishr, 1) := by decide +kernel
theorem dX8_four_18 : decode cX8_four 18 = .ok (.sipush 255, 3) := by decide +kernel
theorem dX8_four_21 : decode cX8_four 21 = .ok (.iand, 1) := by decide +kernel
theorem dX8_four_22 : decode cX8_four 22 = .ok (.iastore, 1) := by decide +kernel
theorem dX8_four_23 : decode cX8_four 23 = .ok (.aload_n 0, 1) := by decide +kernel
theorem dX8_four_24 : decode cX8_four 24 = .ok (.dup, 1) := by decide +kernel
theorem dX8_four_25 : decode cX8_four 25 = .ok (.getfield 112, 3) := by decide +kernel
theorem dX8_four_28 : decode cX8_four 28 = .ok (.iconst 1, 1) := by decide +kernel
theorem dX8_four_29 : decode cX8_four 29 = .ok (.iadd, 1) := by decide +kernel
theorem dX8_four_30 : decode cX8_four 30 = .ok (.putfield 112, 3) := by decide +kernel
theorem dX8_four_33 : decode cX8_four 33 = .ok (.iinc 2 (-8), 3) := by decide +kernel
theorem dX8_four_36 : decode cX8_four 36 = .ok (.goto (-33), 3) := by decide +kernel
theorem dX8_four_39 : decode cX8_four 39 = .ok (.return_, 1) := by decide +kernel
theorem dX8_append_0 : decode cX8_append 0 = .ok (.aload_n 0, 1) := by decide +kernel
theorem dX8_append_1 : decode cX8_append 1 = .ok (.iconst 0, 1) := by decide +kernel
theorem dX8_append_2 : decode cX8_append 2 = .ok (.putfield 103, 3) := by decide +kernel
theorem dX8_append_5 : decode cX8_append 5 = .ok (.aload_n 0, 1) := by decide +kernel
theorem dX8_append_6 : decode cX8_append 6 = .ok (.getfield 112, 3) := by decide +kernel
theorem dX8_append_9 : decode cX8_append 9 = .ok (.bipush 20, 2) := by decide +kernel
theorem dX8_append_11 : decode cX8_append 11 = .ok (.iadd, 1) := by decide +kernel
theorem dX8_append_12 : decode cX8_append 12 = .ok (.sipush 900, 3) := by decide +kernel
theorem dX8_append_15 : decode cX8_append 15 = .ok (.if_icmp .le 6, 3) := by decide +kernel
theorem dX8_append_18 : decode cX8_append 18 = .ok (.ldc 109, 2) := by decide +kernel
theorem dX8_append_20 : decode cX8_append 20 = .ok (.ireturn, 1) := by decide +kernel
theorem dX8_append_21 : decode cX8_append 21 = .ok (.aload_n 0, 1) := by decide +kernel
theorem dX8_append_22 : decode cX8_append 22 = .ok (.iload_n 1, 1) := by decide +kernel
theorem dX8_append_23 : decode cX8_append 23 = .ok (.invokevirtual 115, 3) := by decide +kernel
theorem dX8_append_26 : decode cX8_append 26 = .ok (.aload_n 0, 1) := by decide +kernel
theorem dX8_append_27 : decode cX8_append 27 = .ok (.iload_n 2, 1) := by decide +kernel
theorem dX8_append_28 : decode cX8_append 28 = .ok (.invokevirtual 115, 3) := by decide +kernel
theorem dX8_append_31 : decode cX8_append 31 = .ok (.aload_n 0, 1) := by decide +kernel
theorem dX8_append_32 : decode cX8_append 32 = .ok (.iload_n 3, 1) := by decide +kernel
theorem dX8_append_33 : decode cX8_append 33 = .ok (.invokevirtual 115, 3) := by decide +kernel
theorem dX8_append_36 : decode cX8_append 36 = .ok (.aload_n 0, 1) := by decide +kernel
theorem dX8_append_37 : decode cX8_append 37 = .ok (.iload 4, 2) := by decide +kernel
theorem dX8_append_39 : decode cX8_append 39 = .ok (.invokevirtual 115, 3) := by decide +kernel
theorem dX8_append_42 : decode cX8_append 42 = .ok (.aload_n 0, 1) := by decide +kernel
theorem dX8_append_43 : decode cX8_append 43 = .ok (.iload 5, 2) := by decide +kernel
theorem dX8_append_45 : decode cX8_append 45 = .ok (.invokevirtual 115, 3) := by decide +kernel
theorem dX8_append_48 : decode cX8_append 48 = .ok (.aload_n 0, 1) := by decide +kernel
theorem dX8_append_49 : decode cX8_append 49 = .ok (.getfield 112, 3) := by decide +kernel
theorem dX8_append_52 : decode cX8_append 52 = .ok (.ireturn, 1) := by decide +kernel
theorem dX8_buffered_0 : decode cX8_buffered 0 = .ok (.aload_n 0, 1) := by decide +kernel
theorem dX8_buffered_1 : decode cX8_buffered 1 = .ok (.iconst 0, 1) := by decide +kernel
theorem dX8_buffered_2 : decode cX8_buffered 2 = .ok (.putfield 103, 3) := by decide +kernel
theorem dX8_buffered_5 : decode cX8_buffered 5 = .ok (.aload_n 0, 1) := by decide +kernel
theorem dX8_buffered_6 : decode cX8_buffered 6 = .ok (.getfield 112, 3) := by decide +kernel
theorem dX8_buffered_9 : decode cX8_buffered 9 = .ok (.ireturn, 1) := by decide +kernel
theorem dX8_parseError_0 : decode cX8_parseError 0 = .ok (.aload_n 0, 1) := by decide +kernel
theorem dX8_parseError_1 : decode cX8_parseError 1 = .ok (.iconst 0, 1) := by decide +kernel
theorem dX8_parseError_2 : decode cX8_parseError 2 = .ok (.putfield 103, 3) := by decide +kernel
theorem dX8_parseError_5 : decode cX8_parseError 5 = .ok (.aload_n 0, 1) := by decide +kernel
theorem dX8_parseError_6 : decode cX8_parseError 6 = .ok (.getfield 119, 3) := by decide +kernel
theorem dX8_parseError_9 : decode cX8_parseError 9 = .ok (.ireturn, 1) := by decide +kernel
theorem dX8_errorPosition_0 : decode cX8_errorPosition 0 = .ok (.aload_n 0, 1) := by decide +kernel
theorem dX8_errorPosition_1 : decode cX8_errorPosition 1 = .ok (.iconst 0, 1) := by decide +kernel
theorem dX8_errorPosition_2 : decode cX8_errorPosition 2 = .ok (.putfield 103, 3) := by decide +kernel
theorem dX8_errorPosition_5 : decode cX8_errorPosition 5 = .ok (.aload_n 0, 1) := by decide +kernel
theorem dX8_errorPosition_6 : decode cX8_errorPosition 6 = .ok (.getfield 13, 3) := by decide +kernel
theorem dX8_errorPosition_9 : decode cX8_errorPosition 9 = .ok (.ireturn, 1) := by decide +kernel
theorem dX8_byteAt_0 : decode cX8_byteAt 0 = .ok (.iload_n 1, 1) := by decide +kernel
theorem dX8_byteAt_1 : decode cX8_byteAt 1 = .ok (.aload_n 0, 1) := by decide +kernel
theorem dX8_byteAt_2 : decode cX8_byteAt 2 = .ok (.getfield 122, 3) := by decide +kernel
theorem dX8_byteAt_5 : decode cX8_byteAt 5 = .ok (.if_icmp .ge 12, 3) := by decide +kernel
theorem dX8_byteAt_8 : decode cX8_byteAt 8 = .ok (.aload_n 0, 1) := by decide +kernel
theorem dX8_byteAt_9 : decode cX8_byteAt 9 = .ok (.getfield 9, 3) := by decide +kernel
theorem dX8_byteAt_12 : decode cX8_byteAt 12 = .ok (.iload_n 1, 1) := by decide +kernel
theorem dX8_byteAt_13 : decode cX8_byteAt 13 = .ok (.iaload, 1) := by decide +kernel
theorem dX8_byteAt_14 : decode cX8_byteAt 14 = .ok (.goto 4, 3) := by decide +kernel
theorem dX8_byteAt_17 : decode cX8_byteAt 17 = .ok (.iconst (-1), 1) := by decide +kernel
theorem dX8_byteAt_18 : decode cX8_byteAt 18 = .ok (.ireturn, 1) := by decide +kernel
theorem dX8_report_0 : decode cX8_report 0 = .ok (.aload_n 0, 1) := by decide +kernel
theorem dX8_report_1 : decode cX8_report 1 = .ok (.getfield 119, 3) := by decide +kernel
theorem dX8_report_4 : decode cX8_report 4 = .ok (.ifCond .le 4, 3) := by decide +kernel
theorem dX8_report_7 : decode cX8_report 7 = .ok (.return_, 1) := by decide +kernel
theorem dX8_report_8 : decode cX8_report 8 = .ok (.aload_n 0, 1) := by decide +kernel
theorem dX8_report_9 : decode cX8_report 9 = .ok (.iload_n 1, 1) := by decide +kernel
theorem dX8_report_10 : decode cX8_report 10 = .ok (.putfield 119, 3) := by decide +kernel
theorem dX8_report_13 : decode cX8_report 13 = .ok (.aload_n 0, 1) := by decide +kernel
theorem dX8_report_14 : decode cX8_report 14 = .ok (.aload_n 0, 1) := by decide +kernel
theorem dX8_report_15 : decode cX8_report 15 = .ok (.getfield 125, 3) := by decide +kernel
theorem dX8_report_18 : decode cX8_report 18 = .ok (.putfield 13, 3) := by decide +kernel
theorem dX8_report_21 : decode cX8_report 21 = .ok (.return_, 1) := by decide +kernel
theorem dX8_advance_0 : decode cX8_advance 0 = .ok (.aload_n 0, 1) := by decide +kernel
theorem dX8_advance_1 : decode cX8_advance 1 = .ok (.getfield 119, 3) := by decide +kernel
theorem dX8_advance_4 : decode cX8_advance 4 = .ok (.ifCond .le 4, 3) := by decide +kernel
theorem dX8_advance_7 : decode cX8_advance 7 = .ok (.return_, 1) := by decide +kernel
theorem dX8_advance_8 : decode cX8_advance 8 = .ok (.aload_n 0, 1) := by decide +kernel
theorem dX8_advance_9 : decode cX8_advance 9 = .ok (.aload_n 0, 1) := by decide +kernel
theorem dX8_advance_10 : decode cX8_advance 10 = .ok (.getfield 128, 3) := by decide +kernel
theorem dX8_advance_13 : decode cX8_advance 13 = .ok (.invokevirtual 131, 3) := by decide +kernel
theorem dX8_advance_16 : decode cX8_advance 16 = .ok (.bipush 32, 2) := by decide +kernel
theorem dX8_advance_18 : decode cX8_advance 18 = .ok (.if_icmp .ne 16, 3) := by decide +kernel
theorem dX8_advance_21 : decode cX8_advance 21 = .ok (.aload_n 0, 1) := by decide +kernel
theorem dX8_advance_22 : decode cX8_advance 22 = .ok (.dup, 1) := by decide +kernel
theorem dX8_advance_23 : decode cX8_advance 23 = .ok (.getfield 128, 3) := by decide +kernel
theorem dX8_advance_26 : decode cX8_advance 26 = .ok (.iconst 1, 1) := by decide +kernel
theorem dX8_advance_27 : decode cX8_advance 27 = .ok (.iadd, 1) := by decide +kernel
theorem dX8_advance_28 : decode cX8_advance 28 = .ok (.putfield 128, 3) := by decide +kernel
theorem dX8_advance_31 : decode cX8_advance 31 = .ok (.goto (-23), 3) := by decide +kernel
theorem dX8_advance_34 : decode cX8_advance 34 = .ok (.aload_n 0, 1) := by decide +kernel
theorem dX8_advance_35 : decode cX8_advance 35 = .ok (.aload_n 0, 1) := by decide +kernel
theorem dX8_advance_36 : decode cX8_advance 36 = .ok (.getfield 128, 3) := by decide +kernel
theorem dX8_advance_39 : decode cX8_advance 39 = .ok (.putfield 125, 3) := by decide +kernel
theorem dX8_advance_42 : decode cX8_advance 42 = .ok (.aload_n 0, 1) := by decide +kernel
theorem dX8_advance_43 : decode cX8_advance 43 = .ok (.lconst 0, 1) := by decide +kernel
theorem dX8_advance_44 : decode cX8_advance 44 = .ok (.putfield 135, 3) := by decide +kernel
theorem dX8_advance_47 : decode cX8_advance 47 = .ok (.aload_n 0, 1) := by decide +kernel
theorem dX8_advance_48 : decode cX8_advance 48 = .ok (.getfield 128, 3) := by decide +kernel
theorem dX8_advance_51 : decode cX8_advance 51 = .ok (.aload_n 0, 1) := by decide +kernel
theorem dX8_advance_52 : decode cX8_advance 52 = .ok (.getfield 122, 3) := by decide +kernel
theorem dX8_advance_55 : decode cX8_advance 55 = .ok (.if_icmp .ne 11, 3) := by decide +kernel
theorem dX8_advance_58 : decode cX8_advance 58 = .ok (.aload_n 0, 1) := by decide +kernel
theorem dX8_advance_59 : decode cX8_advance 59 = .ok (.iconst 1, 1) := by decide +kernel
theorem dX8_advance_60 : decode cX8_advance 60 = .ok (.putfield 139, 3) := by decide +kernel
theorem dX8_advance_63 : decode cX8_advance 63 = .ok (.goto 265, 3) := by decide +kernel
theorem dX8_advance_66 : decode cX8_advance 66 = .ok (.aload_n 0, 1) := by decide +kernel
theorem dX8_advance_67 : decode cX8_advance 67 = .ok (.aload_n 0, 1) := by decide +kernel
theorem dX8_advance_68 : decode cX8_advance 68 = .ok (.getfield 128, 3) := by decide +kernel
theorem dX8_advance_71 : decode cX8_advance 71 = .ok (.invokevirtual 131, 3) := by decide +kernel
theorem dX8_advance_74 : decode cX8_advance 74 = .ok (.bipush 97, 2) := by decide +kernel
theorem dX8_advance_76 : decode cX8_advance 76 = .ok (.bipush 122, 2) := by decide +kernel
theorem dX8_advance_78 : decode cX8_advance 78 = .ok (.invokestatic 142, 3) := by decide +kernel
theorem dX8_advance_81 : decode cX8_advance 81 = .ok (.ifCond .eq 100, 3) := by decide +kernel
theorem dX8_advance_84 : decode cX8_advance 84 = .ok (.aload_n 0, 1) := by decide +kernel
theorem dX8_advance_85 : decode cX8_advance 85 = .ok (.aload_n 0, 1) := by decide +kernel
theorem dX8_advance_86 : decode cX8_advance 86 = .ok (.getfield 128, 3) := by decide +kernel
theorem dX8_advance_89 : decode cX8_advance 89 = .ok (.invokevirtual 131, 3) := by decide +kernel
theorem dX8_advance_92 : decode cX8_advance 92 = .ok (.bipush 97, 2) := by decide +kernel
theorem dX8_advance_94 : decode cX8_advance 94 = .ok (.bipush 122, 2) := by decide +kernel
theorem dX8_advance_96 : decode cX8_advance 96 = .ok (.invokestatic 142, 3) := by decide +kernel
theorem dX8_advance_99 : decode cX8_advance 99 = .ok (.ifCond .eq 56, 3) := by decide +kernel
theorem dX8_advance_102 : decode cX8_advance 102 = .ok (.aload_n 0, 1) := by decide +kernel
theorem dX8_advance_103 : decode cX8_advance 103 = .ok (.getfield 128, 3) := by decide +kernel
theorem dX8_advance_106 : decode cX8_advance 106 = .ok (.aload_n 0, 1) := by decide +kernel
theorem dX8_advance_107 : decode cX8_advance 107 = .ok (.getfield 125, 3) := by decide +kernel
theorem dX8_advance_110 : decode cX8_advance 110 = .ok (.isub, 1) := by decide +kernel
theorem dX8_advance_111 : decode cX8_advance 111 = .ok (.bipush 8, 2) := by decide +kernel
theorem dX8_advance_113 : decode cX8_advance 113 = .ok (.if_icmp .ge 29, 3) := by decide +kernel
theorem dX8_advance_116 : decode cX8_advance 116 = .ok (.aload_n 0, 1) := by decide +kernel
theorem dX8_advance_117 : decode cX8_advance 117 = .ok (.ldc2_w 146, 3) := by decide +kernel
theorem dX8_advance_120 : decode cX8_advance 120 = .ok (.aload_n 0, 1) := by decide +kernel
theorem dX8_advance_121 : decode cX8_advance 121 = .ok (.getfield 135, 3) := by decide +kernel
theorem dX8_advance_124 : decode cX8_advance 124 = .ok (.lmul, 1) := by decide +kernel
theorem dX8_advance_125 : decode cX8_advance 125 = .ok (.aload_n 0, 1) := by decide +kernel
theorem dX8_advance_126 : decode cX8_advance 126 = .ok (.aload_n 0, 1) := by decide +kernel
theorem dX8_advance_127 : decode cX8_advance 127 = .ok (.getfield 128, 3) := by decide +kernel
theorem dX8_advance_130 : decode cX8_advance 130 = .ok (.invokevirtual 131, 3) := by decide +kernel
theorem dX8_advance_133 : decode cX8_advance 133 = .ok (.i2l, 1) := by decide +kernel
theorem dX8_advance_134 : decode cX8_advance 134 = .ok (.ladd, 1) := by decide +kernel
theorem dX8_advance_135 : decode cX8_advance 135 = .ok (.ldc2_w 148, 3) := by decide +kernel
theorem dX8_advance_138 : decode cX8_advance 138 = .ok (.lsub, 1) := by decide +kernel
theorem dX8_advance_139 : decode cX8_advance 139 = .ok (.putfield 135, 3) := by decide +kernel
theorem dX8_advance_142 : decode cX8_advance 142 = .ok (.aload_n 0, 1) := by decide +kernel
theorem dX8_advance_143 : decode cX8_advance 143 = .ok (.dup, 1) := by decide +kernel
theorem dX8_advance_144 : decode cX8_advance 144 = .ok (.getfield 128, 3) := by decide +kernel
theorem dX8_advance_147 : decode cX8_advance 147 = .ok (.iconst 1, 1) := by decide +kernel
theorem dX8_advance_148 : decode cX8_advance 148 = .ok (.iadd, 1) := by decide +kernel
theorem dX8_advance_149 : decode cX8_advance 149 = .ok (.putfield 128, 3) := by decide +kernel
theorem dX8_advance_152 : decode cX8_advance 152 = .ok (.goto (-68), 3) := by decide +kernel
theorem dX8_advance_155 : decode cX8_advance 155 = .ok (.aload_n 0, 1) := by decide +kernel
theorem dX8_advance_156 : decode cX8_advance 156 = .ok (.aload_n 0, 1) := by decide +kernel
theorem dX8_advance_157 : decode cX8_advance 157 = .ok (.getfield 128, 3) := by decide +kernel
theorem dX8_advance_160 : decode cX8_advance 160 = .ok (.aload_n 0, 1) := by decide +kernel
theorem dX8_advance_161 : decode cX8_advance 161 = .ok (.getfield 125, 3) := by decide +kernel
theorem dX8_advance_164 : decode cX8_advance 164 = .ok (.isub, 1) := by decide +kernel
theorem dX8_advance_165 : decode cX8_advance 165 = .ok (.bipush 8, 2) := by decide +kernel
theorem dX8_advance_167 : decode cX8_advance 167 = .ok (.if_icmp .le 7, 3) := by decide +kernel
theorem dX8_advance_170 : decode cX8_advance 170 = .ok (.iconst 0, 1) := by decide +kernel
theorem dX8_advance_171 : decode cX8_advance 171 = .ok (.goto 4, 3) := by decide +kernel
theorem dX8_advance_174 : decode cX8_advance 174 = .ok (.iconst 2, 1) := by decide +kernel
theorem dX8_advance_175 : decode cX8_advance 175 = .ok (.putfield 139, 3) := by decide +kernel
theorem dX8_advance_178 : decode cX8_advance 178 = .ok (.goto 150, 3) := by decide +kernel
theorem dX8_advance_181 : decode cX8_advance 181 = .ok (.aload_n 0, 1) := by decide +kernel
theorem dX8_advance_182 : decode cX8_advance 182 = .ok (.aload_n 0, 1) := by decide +kernel
theorem dX8_advance_183 : decode cX8_advance 183 = .ok (.getfield 128, 3) := by decide +kernel
theorem dX8_advance_186 : decode cX8_advance 186 = .ok (.invokevirtual 131, 3) := by decide +kernel
theorem dX8_advance_189 : decode cX8_advance 189 = .ok (.bipush 48, 2) := by decide +kernel
theorem dX8_advance_191 : decode cX8_advance 191 = .ok (.bipush 57, 2) := by decide +kernel
theorem dX8_advance_193 : decode cX8_advance 193 = .ok (.invokestatic 142, 3) := by decide +kernel
theorem dX8_advance_196 : decode cX8_advance 196 = .ok (.ifCond .eq 100, 3) := by decide +kernel
theorem dX8_advance_199 : decode cX8_advance 199 = .ok (.aload_n 0, 1) := by decide +kernel
theorem dX8_advance_200 : decode cX8_advance 200 = .ok (.iconst 0, 1) := by decide +kernel
theorem dX8_advance_201 : decode cX8_advance 201 = .ok (.putfield 150, 3) := by decide +kernel
theorem dX8_advance_204 : decode cX8_advance 204 = .ok (.aload_n 0, 1) := by decide +kernel
theorem dX8_advance_205 : decode cX8_advance 205 = .ok (.aload_n 0, 1) := by decide +kernel
theorem dX8_advance_206 : decode cX8_advance 206 = .ok (.getfield 128, 3) := by decide +kernel
theorem dX8_advance_209 : decode cX8_advance 209 = .ok (.invokevirtual 131, 3) := by decide +kernel
theorem dX8_advance_212 : decode cX8_advance 212 = .ok (.bipush 48, 2) := by decide +kernel
theorem dX8_advance_214 : decode cX8_advance 214 = .ok (.bipush 57, 2) := by decide +kernel
theorem dX8_advance_216 : decode cX8_advance 216 = .ok (.invokestatic 142, 3) := by decide +kernel
theorem dX8_advance_219 : decode cX8_advance 219 = .ok (.ifCond .eq 52, 3) := by decide +kernel
theorem dX8_advance_222 : decode cX8_advance 222 = .ok (.aload_n 0, 1) := by decide +kernel
theorem dX8_advance_223 : decode cX8_advance 223 = .ok (.getfield 128, 3) := by decide +kernel
theorem dX8_advance_226 : decode cX8_advance 226 = .ok (.aload_n 0, 1) := by decide +kernel
theorem dX8_advance_227 : decode cX8_advance 227 = .ok (.getfield 125, 3) := by decide +kernel
theorem dX8_advance_230 : decode cX8_advance 230 = .ok (.isub, 1) := by decide +kernel
theorem dX8_advance_231 : decode cX8_advance 231 = .ok (.iconst 3, 1) := by decide +kernel
theorem dX8_advance_232 : decode cX8_advance 232 = .ok (.if_icmp .ge 26, 3) := by decide +kernel
theorem dX8_advance_235 : decode cX8_advance 235 = .ok (.aload_n 0, 1) := by decide +kernel
theorem dX8_advance_236 : decode cX8_advance 236 = .ok (.bipush 10, 2) := by decide +kernel
theorem dX8_advance_238 : decode cX8_advance 238 = .ok (.aload_n 0, 1) := by decide +kernel
theorem dX8_advance_239 : decode cX8_advance 239 = .ok (.getfield 150, 3) := by decide +kernel
theorem dX8_advance_242 : decode cX8_advance 242 = .ok (.imul, 1) := by decide +kernel
theorem dX8_advance_243 : decode cX8_advance 243 = .ok (.aload_n 0, 1) := by decide +kernel
theorem dX8_advance_244 : decode cX8_advance 244 = .ok (.aload_n 0, 1) := by decide +kernel
theorem dX8_advance_245 : decode cX8_advance 245 = .ok (.getfield 128, 3) := by decide +kernel
theorem dX8_advance_248 : decode cX8_advance 248 = .ok (.invokevirtual 131, 3) := by decide +kernel
theorem dX8_advance_251 : decode cX8_advance 251 = .ok (.iadd, 1) := by decide +kernel
theorem dX8_advance_252 : decode cX8_advance 252 = .ok (.bipush 48, 2) := by decide +kernel
theorem dX8_advance_254 : decode cX8_advance 254 = .ok (.isub, 1) := by decide +kernel
theorem dX8_advance_255 : decode cX8_advance 255 = .ok (.putfield 150, 3) := by decide +kernel
theorem dX8_advance_258 : decode cX8_advance 258 = .ok (.aload_n 0, 1) := by decide +kernel
theorem dX8_advance_259 : decode cX8_advance 259 = .ok (.dup, 1) := by decide +kernel
theorem dX8_advance_260 : decode cX8_advance 260 = .ok (.getfield 128, 3) := by decide +kernel
theorem dX8_advance_263 : decode cX8_advance 263 = .ok (.iconst 1, 1) := by decide +kernel
theorem dX8_advance_264 : decode cX8_advance 264 = .ok (.iadd, 1) := by decide +kernel
theorem dX8_advance_265 : decode cX8_advance 265 = .ok (.putfield 128, 3) := by decide +kernel
theorem dX8_advance_268 : decode cX8_advance 268 = .ok (.goto (-64), 3) := by decide +kernel
theorem dX8_advance_271 : decode cX8_advance 271 = .ok (.aload_n 0, 1) := by decide +kernel
theorem dX8_advance_272 : decode cX8_advance 272 = .ok (.aload_n 0, 1) := by decide +kernel
theorem dX8_advance_273 : decode cX8_advance 273 = .ok (.getfield 128, 3) := by decide +kernel
theorem dX8_advance_276 : decode cX8_advance 276 = .ok (.aload_n 0, 1) := by decide +kernel
theorem dX8_advance_277 : decode cX8_advance 277 = .ok (.getfield 125, 3) := by decide +kernel
theorem dX8_advance_280 : decode cX8_advance 280 = .ok (.isub, 1) := by decide +kernel
theorem dX8_advance_281 : decode cX8_advance 281 = .ok (.iconst 3, 1) := by decide +kernel
theorem dX8_advance_282 : decode cX8_advance 282 = .ok (.if_icmp .le 7, 3) := by decide +kernel
theorem dX8_advance_285 : decode cX8_advance 285 = .ok (.iconst 0, 1) := by decide +kernel
theorem dX8_advance_286 : decode cX8_advance 286 = .ok (.goto 4, 3) := by decide +kernel
theorem dX8_advance_289 : decode cX8_advance 289 = .ok (.iconst 3, 1) := by decide +kernel
theorem dX8_advance_290 : decode cX8_advance 290 = .ok (.putfield 139, 3) := by decide +kernel
theorem dX8_advance_293 : decode cX8_advance 293 = .ok (.goto 35, 3) := by decide +kernel
theorem dX8_advance_296 : decode cX8_advance 296 = .ok (.aload_n 0, 1) := by decide +kernel
theorem dX8_advance_297 : decode cX8_advance 297 = .ok (.aload_n 0, 1) := by decide +kernel
theorem dX8_advance_298 : decode cX8_advance 298 = .ok (.aload_n 0, 1) := by decide +kernel
theorem dX8_advance_299 : decode cX8_advance 299 = .ok (.getfield 128, 3) := by decide +kernel
theorem dX8_advance_302 : decode cX8_advance 302 = .ok (.invokevirtual 131, 3) := by decide +kernel
theorem dX8_advance_305 : decode cX8_advance 305 = .ok (.bipush 59, 2) := by decide +kernel
theorem dX8_advance_307 : decode cX8_advance 307 = .ok (.if_icmp .ne 7, 3) := by decide +kernel
theorem dX8_advance_310 : decode cX8_advance 310 = .ok (.iconst 4, 1) := by decide +kernel
theorem dX8_advance_311 : decode cX8_advance 311 = .ok (.goto 4, 3) := by decide +kernel
theorem dX8_advance_314 : decode cX8_advance 314 = .ok (.iconst 0, 1) := by decide +kernel
theorem dX8_advance_315 : decode cX8_advance 315 = .ok (.putfield 139, 3) := by decide +kernel
theorem dX8_advance_318 : decode cX8_advance 318 = .ok (.aload_n 0, 1) := by decide +kernel
theorem dX8_advance_319 : decode cX8_advance 319 = .ok (.dup, 1) := by decide +kernel
theorem dX8_advance_320 : decode cX8_advance 320 = .ok (.getfield 128, 3) := by decide +kernel
theorem dX8_advance_323 : decode cX8_advance 323 = .ok (.iconst 1, 1) := by decide +kernel
theorem dX8_advance_324 : decode cX8_advance 324 = .ok (.iadd, 1) := by decide +kernel
theorem dX8_advance_325 : decode cX8_advance 325 = .ok (.putfield 128, 3) := by decide +kernel
theorem dX8_advance_328 : decode cX8_advance 328 = .ok (.return_, 1) := by decide +kernel
theorem dX8_reserved_0 : decode cX8_reserved 0 = .ok (.aload_n 0, 1) := by decide +kernel
theorem dX8_reserved_1 : decode cX8_reserved 1 = .ok (.getfield 119, 3) := by decide +kernel
theorem dX8_reserved_4 : decode cX8_reserved 4 = .ok (.ifCond .gt 11, 3) := by decide +kernel
theorem dX8_reserved_7 : decode cX8_reserved 7 = .ok (.aload_n 0, 1) := by decide +kernel
theorem dX8_reserved_8 : decode cX8_reserved 8 = .ok (.getfield 139, 3) := by decide +kernel
theorem dX8_reserved_11 : decode cX8_reserved 11 = .ok (.iconst 2, 1) := by decide +kernel
theorem dX8_reserved_12 : decode cX8_reserved 12 = .ok (.if_icmp .eq 5, 3) := by decide +kernel
theorem dX8_reserved_15 : decode cX8_reserved 15 = .ok (.iconst (-1), 1) := by decide +kernel
theorem dX8_reserved_16 : decode cX8_reserved 16 = .ok (.ireturn, 1) := by decide +kernel
theorem dX8_reserved_17 : decode cX8_reserved 17 = .ok (.iconst 0, 1) := by decide +kernel
theorem dX8_reserved_18 : decode cX8_reserved 18 = .ok (.istore_n 1, 1) := by decide +kernel
theorem dX8_reserved_19 : decode cX8_reserved 19 = .ok (.iconst 1, 1) := by decide +kernel
theorem dX8_reserved_20 : decode cX8_reserved 20 = .ok (.istore_n 2, 1) := by decide +kernel
theorem dX8_reserved_21 : decode cX8_reserved 21 = .ok (.iload_n 2, 1) := by decide +kernel
theorem dX8_reserved_22 : decode cX8_reserved 22 = .ok (.ldc 153, 2) := by decide +kernel
theorem dX8_reserved_24 : decode cX8_reserved 24 = .ok (.invokevirtual 155, 3) := by decide +kernel
theorem dX8_reserved_27 : decode cX8_reserved 27 = .ok (.if_icmp .ge 100, 3) := by decide +kernel
theorem dX8_reserved_30 : decode cX8_reserved 30 = .ok (.iconst 0, 1) := by decide +kernel
theorem dX8_reserved_31 : decode cX8_reserved 31 = .ok (.istore_n 3, 1) := by decide +kernel
theorem dX8_reserved_32 : decode cX8_reserved 32 = .ok (.aload_n 0, 1) := by decide +kernel
theorem dX8_reserved_33 : decode cX8_reserved 33 = .ok (.getfield 125, 3) := by decide +kernel
theorem dX8_reserved_36 : decode cX8_reserved 36 = .ok (.iload_n 3, 1) := by decide +kernel
theorem dX8_reserved_37 : decode cX8_reserved 37 = .ok (.iadd, 1) := by decide +kernel
theorem dX8_reserved_38 : decode cX8_reserved 38 = .ok (.aload_n 0, 1) := by decide +kernel
theorem dX8_reserved_39 : decode cX8_reserved 39 = .ok (.getfield 128, 3) := by decide +kernel
theorem dX8_reserved_42 : decode cX8_reserved 42 = .ok (.if_icmp .ge 31, 3) := by decide +kernel
theorem dX8_reserved_45 : decode cX8_reserved 45 = .ok (.ldc 153, 2) := by decide +kernel
theorem dX8_reserved_47 : decode cX8_reserved 47 = .ok (.iload_n 2, 1) := by decide +kernel
theorem dX8_reserved_48 : decode cX8_reserved 48 = .ok (.iload_n 3, 1) := by decide +kernel
theorem dX8_reserved_49 : decode cX8_reserved 49 = .ok (.iadd, 1) := by decide +kernel
theorem dX8_reserved_50 : decode cX8_reserved 50 = .ok (.invokevirtual 161, 3) := by decide +kernel
theorem dX8_reserved_53 : decode cX8_reserved 53 = .ok (.aload_n 0, 1) := by decide +kernel
theorem dX8_reserved_54 : decode cX8_reserved 54 = .ok (.getfield 9, 3) := by decide +kernel
theorem dX8_reserved_57 : decode cX8_reserved 57 = .ok (.aload_n 0, 1) := by decide +kernel
theorem dX8_reserved_58 : decode cX8_reserved 58 = .ok (.getfield 125, 3) := by decide +kernel
theorem dX8_reserved_61 : decode cX8_reserved 61 = .ok (.iload_n 3, 1) := by decide +kernel
theorem dX8_reserved_62 : decode cX8_reserved 62 = .ok (.iadd, 1) := by decide +kernel
theorem dX8_reserved_63 : decode cX8_reserved 63 = .ok (.iaload, 1) := by decide +kernel
theorem dX8_reserved_64 : decode cX8_reserved 64 = .ok (.if_icmp .ne 9, 3) := by decide +kernel
theorem dX8_reserved_67 : decode cX8_reserved 67 = .ok (.iinc 3 1, 3) := by decide +kernel
theorem dX8_reserved_70 : decode cX8_reserved 70 = .ok (.goto (-38), 3) := by decide +kernel
theorem dX8_reserved_73 : decode cX8_reserved 73 = .ok (.aload_n 0, 1) := by decide +kernel
theorem dX8_reserved_74 : decode cX8_reserved 74 = .ok (.getfield 125, 3) := by decide +kernel
theorem dX8_reserved_77 : decode cX8_reserved 77 = .ok (.iload_n 3, 1) := by decide +kernel
theorem dX8_reserved_78 : decode cX8_reserved 78 = .ok (.iadd, 1) := by decide +kernel
theorem dX8_reserved_79 : decode cX8_reserved 79 = .ok (.aload_n 0, 1) := by decide +kernel
theorem dX8_reserved_80 : decode cX8_reserved 80 = .ok (.getfield 128, 3) := by decide +kernel
theorem dX8_reserved_83 : decode cX8_reserved 83 = .ok (.if_icmp .ne 18, 3) := by decide +kernel
theorem dX8_reserved_86 : decode cX8_reserved 86 = .ok (.ldc 153, 2) := by decide +kernel
theorem dX8_reserved_88 : decode cX8_reserved 88 = .ok (.iload_n 2, 1) := by decide +kernel
theorem dX8_reserved_89 : decode cX8_reserved 89 = .ok (.iload_n 3, 1) := by decide +kernel
theorem dX8_reserved_90 : decode cX8_reserved 90 = .ok (.iadd, 1) := by decide +kernel
theorem dX8_reserved_91 : decode cX8_reserved 91 = .ok (.invokevirtual 161, 3) := by decide +kernel
theorem dX8_reserved_94 : decode cX8_reserved 94 = .ok (.bipush 32, 2) := by decide +kernel
theorem dX8_reserved_96 : decode cX8_reserved 96 = .ok (.if_icmp .ne 5, 3) := by decide +kernel
theorem dX8_reserved_99 : decode cX8_reserved 99 = .ok (.iload_n 1, 1) := by decide +kernel
theorem dX8_reserved_100 : decode cX8_reserved 100 = .ok (.ireturn, 1) := by decide +kernel
theorem dX8_reserved_101 : decode cX8_reserved 101 = .ok (.ldc 153, 2) := by decide +kernel
theorem dX8_reserved_103 : decode cX8_reserved 103 = .ok (.iload_n 2, 1) := by decide +kernel
theorem dX8_reserved_104 : decode cX8_reserved 104 = .ok (.invokevirtual 161, 3) := by decide +kernel
theorem dX8_reserved_107 : decode cX8_reserved 107 = .ok (.bipush 32, 2) := by decide +kernel
theorem dX8_reserved_109 : decode cX8_reserved 109 = .ok (.if_icmp .eq 9, 3) := by decide +kernel
theorem dX8_reserved_112 : decode cX8_reserved 112 = .ok (.iinc 2 1, 3) := by decide +kernel
theorem dX8_reserved_115 : decode cX8_reserved 115 = .ok (.goto (-14), 3) := by decide +kernel
theorem dX8_reserved_118 : decode cX8_reserved 118 = .ok (.iinc 2 1, 3) := by decide +kernel
theorem dX8_reserved_121 : decode cX8_reserved 121 = .ok (.iinc 1 1, 3) := by decide +kernel
theorem dX8_reserved_124 : decode cX8_reserved 124 = .ok (.goto (-103), 3) := by decide +kernel
theorem dX8_reserved_127 : decode cX8_reserved 127 = .ok (.iconst (-1), 1) := by decide +kernel
theorem dX8_reserved_128 : decode cX8_reserved 128 = .ok (.ireturn, 1) := by decide +kernel
theorem dX8_keyword_0 : decode cX8_keyword 0 = .ok (.aload_n 0, 1) := by decide +kernel
theorem dX8_keyword_1 : decode cX8_keyword 1 = .ok (.invokevirtual 165, 3) := by decide +kernel
theorem dX8_keyword_4 : decode cX8_keyword 4 = .ok (.iload_n 1, 1) := by decide +kernel
theorem dX8_keyword_5 : decode cX8_keyword 5 = .ok (.if_icmp .eq 8, 3) := by decide +kernel
theorem dX8_keyword_8 : decode cX8_keyword 8 = .ok (.aload_n 0, 1) := by decide +kernel
theorem dX8_keyword_9 : decode cX8_keyword 9 = .ok (.iconst 1, 1) := by decide +kernel
theorem dX8_keyword_10 : decode cX8_keyword 10 = .ok (.invokevirtual 168, 3) := by decide +kernel
theorem dX8_keyword_13 : decode cX8_keyword 13 = .ok (.aload_n 0, 1) := by decide +kernel
theorem dX8_keyword_14 : decode cX8_keyword 14 = .ok (.invokevirtual 171, 3) := by decide +kernel
theorem dX8_keyword_17 : decode cX8_keyword 17 = .ok (.return_, 1) := by decide +kernel
theorem dX8_peek_0 : decode cX8_peek 0 = .ok (.aload_n 0, 1) := by decide +kernel
theorem dX8_peek_1 : decode cX8_peek 1 = .ok (.getfield 119, 3) := by decide +kernel
theorem dX8_peek_4 : decode cX8_peek 4 = .ok (.ifCond .le 5, 3) := by decide +kernel
theorem dX8_peek_7 : decode cX8_peek 7 = .ok (.iload_n 1, 1) := by decide +kernel
theorem dX8_peek_8 : decode cX8_peek 8 = .ok (.ireturn, 1) := by decide +kernel
theorem dX8_peek_9 : decode cX8_peek 9 = .ok (.aload_n 0, 1) := by decide +kernel
theorem dX8_peek_10 : decode cX8_peek 10 = .ok (.getfield 139, 3) := by decide +kernel
theorem dX8_peek_13 : decode cX8_peek 13 = .ok (.iconst 3, 1) := by decide +kernel
theorem dX8_peek_14 : decode cX8_peek 14 = .ok (.if_icmp .eq 11, 3) := by decide +kernel
theorem dX8_peek_17 : decode cX8_peek 17 = .ok (.aload_n 0, 1) := by decide +kernel
theorem dX8_peek_18 : decode cX8_peek 18 = .ok (.iconst 1, 1) := by decide +kernel
theorem dX8_peek_19 : decode cX8_peek 19 = .ok (.invokevirtual 168, 3) := by decide +kernel
theorem dX8_peek_22 : decode cX8_peek 22 = .ok (.goto 20, 3) := by decide +kernel
theorem dX8_peek_25 : decode cX8_peek 25 = .ok (.aload_n 0, 1) := by decide +kernel
theorem dX8_peek_26 : decode cX8_peek 26 = .ok (.getfield 150, 3) := by decide +kernel
theorem dX8_peek_29 : decode cX8_peek 29 = .ok (.iload_n 1, 1) := by decide +kernel
theorem dX8_peek_30 : decode cX8_peek 30 = .ok (.iload_n 2, 1) := by decide +kernel
theorem dX8_peek_31 : decode cX8_peek 31 = .ok (.invokestatic 142, 3) := by decide +kernel
theorem dX8_peek_34 : decode cX8_peek 34 = .ok (.ifCond .ne 8, 3) := by decide +kernel
theorem dX8_peek_37 : decode cX8_peek 37 = .ok (.aload_n 0, 1) := by decide +kernel
theorem dX8_peek_38 : decode cX8_peek 38 = .ok (.iconst 2, 1) := by decide +kernel
theorem dX8_peek_39 : decode cX8_peek 39 = .ok (.invokevirtual 168, 3) := by decide +kernel
theorem dX8_peek_42 : decode cX8_peek 42 = .ok (.aload_n 0, 1) := by decide +kernel
theorem dX8_peek_43 : decode cX8_peek 43 = .ok (.getfield 119, 3) := by decide +kernel
theorem dX8_peek_46 : decode cX8_peek 46 = .ok (.ifCond .le 7, 3) := by decide +kernel
theorem dX8_peek_49 : decode cX8_peek 49 = .ok (.iload_n 1, 1) := by decide +kernel
theorem dX8_peek_50 : decode cX8_peek 50 = .ok (.goto 7, 3) := by decide +kernel
theorem dX8_peek_53 : decode cX8_peek 53 = .ok (.aload_n 0, 1) := by decide +kernel
theorem dX8_peek_54 : decode cX8_peek 54 = .ok (.getfield 150, 3) := by decide +kernel
theorem dX8_peek_57 : decode cX8_peek 57 = .ok (.ireturn, 1) := by decide +kernel
theorem dX8_number_0 : decode cX8_number 0 = .ok (.aload_n 0, 1) := by decide +kernel
theorem dX8_number_1 : decode cX8_number 1 = .ok (.iload_n 1, 1) := by decide +kernel
theorem dX8_number_2 : decode cX8_number 2 = .ok (.iload_n 2, 1) := by decide +kernel
theorem dX8_number_3 : decode cX8_number 3 = .ok (.invokevirtual 174, 3) := by decide +kernel
theorem dX8_number_6 : decode cX8_number 6 = .ok (.istore_n 3, 1) := by decide +kernel
theorem dX8_number_7 : decode cX8_number 7 = .ok (.aload_n 0, 1) := by decide +kernel
theorem dX8_number_8 : decode cX8_number 8 = .ok (.invokevirtual 171, 3) := by decide +kernel
theorem dX8_number_11 : decode cX8_number 11 = .ok (.iload_n 3, 1) := by decide +kernel
theorem dX8_number_12 : decode cX8_number 12 = .ok (.ireturn, 1) := by decide +kernel
theorem dX8_peekTrain_0 : decode cX8_peekTrain 0 = .ok (.aload_n 0, 1) := by decide +kernel
theorem dX8_peekTrain_1 : decode cX8_peekTrain 1 = .ok (.iconst 0, 1) := by decide +kernel
theorem dX8_peekTrain_2 : decode cX8_peekTrain 2 = .ok (.iconst 1, 1) := by decide +kernel
theorem dX8_peekTrain_3 : decode cX8_peekTrain 3 = .ok (.invokevirtual 174, 3) := by decide +kernel
theorem dX8_peekTrain_6 : decode cX8_peekTrain 6 = .ok (.istore_n 1, 1) := by decide +kernel
theorem dX8_peekTrain_7 : decode cX8_peekTrain 7 = .ok (.aload_n 0, 1) := by decide +kernel
theorem dX8_peekTrain_8 : decode cX8_peekTrain 8 = .ok (.getfield 119, 3) := by decide +kernel
theorem dX8_peekTrain_11 : decode cX8_peekTrain 11 = .ok (.ifCond .ne 17, 3) := by decide +kernel
theorem dX8_peekTrain_14 : decode cX8_peekTrain 14 = .ok (.aload_n 0, 1) := by decide +kernel
theorem dX8_peekTrain_15 : decode cX8_peekTrain 15 = .ok (.getfield 33, 3) := by decide +kernel
theorem dX8_peekTrain_18 : decode cX8_peekTrain 18 = .ok (.iload_n 1, 1) := by decide +kernel
theorem dX8_peekTrain_19 : decode cX8_peekTrain 19 = .ok (.baload, 1) := by decide +kernel
theorem dX8_peekTrain_20 : decode cX8_peekTrain 20 = .ok (.ifCond .ne 8, 3) := by decide +kernel
theorem dX8_peekTrain_23 : decode cX8_peekTrain 23 = .ok (.aload_n 0, 1) := by decide +kernel
theorem dX8_peekTrain_24 : decode cX8_peekTrain 24 = .ok (.iconst 2, 1) := by decide +kernel
theorem dX8_peekTrain_25 : decode cX8_peekTrain 25 = .ok (.invokevirtual 168, 3) := by decide +kernel
theorem dX8_peekTrain_28 : decode cX8_peekTrain 28 = .ok (.iload_n 1, 1) := by decide +kernel
theorem dX8_peekTrain_29 : decode cX8_peekTrain 29 = .ok (.ireturn, 1) := by decide +kernel
theorem dX8_mealBy_0 : decode cX8_mealBy 0 = .ok (.iconst 0, 1) := by decide +kernel
theorem dX8_mealBy_1 : decode cX8_mealBy 1 = .ok (.istore_n 3, 1) := by decide +kernel
theorem dX8_mealBy_2 : decode cX8_mealBy 2 = .ok (.iload_n 3, 1) := by decide +kernel
theorem dX8_mealBy_3 : decode cX8_mealBy 3 = .ok (.aload_n 0, 1) := by decide +kernel
theorem dX8_mealBy_4 : decode cX8_mealBy 4 = .ok (.getfield 20, 3) := by decide +kernel
theorem dX8_mealBy_7 : decode cX8_mealBy 7 = .ok (.bipush 36, 2) := by decide +kernel
theorem dX8_mealBy_9 : decode cX8_mealBy 9 = .ok (.iaload, 1) := by decide +kernel
theorem dX8_mealBy_10 : decode cX8_mealBy 10 = .ok (.if_icmp .ge 22, 3) := by decide +kernel
theorem dX8_mealBy_13 : decode cX8_mealBy 13 = .ok (.aload_n 0, 1) := by decide +kernel
theorem dX8_mealBy_14 : decode cX8_mealBy 14 = .ok (.getfield 29, 3) := by decide +kernel
theorem dX8_mealBy_17 : decode cX8_mealBy 17 = .ok (.iload_n 3, 1) := by decide +kernel
theorem dX8_mealBy_18 : decode cX8_mealBy 18 = .ok (.laload, 1) := by decide +kernel
theorem dX8_mealBy_19 : decode cX8_mealBy 19 = .ok (.lload_n 1, 1) := by decide +kernel
theorem dX8_mealBy_20 : decode cX8_mealBy 20 = .ok (.lcmp, 1) := by decide +kernel
theorem dX8_mealBy_21 : decode cX8_mealBy 21 = .ok (.ifCond .ne 5, 3) := by decide +kernel
theorem dX8_mealBy_24 : decode cX8_mealBy 24 = .ok (.iload_n 3, 1) := by decide +kernel
theorem dX8_mealBy_25 : decode cX8_mealBy 25 = .ok (.ireturn, 1) := by decide +kernel
theorem dX8_mealBy_26 : decode cX8_mealBy 26 = .ok (.iinc 3 1, 3) := by decide +kernel
theorem dX8_mealBy_29 : decode cX8_mealBy 29 = .ok (.goto (-27), 3) := by decide +kernel
theorem dX8_mealBy_32 : decode cX8_mealBy 32 = .ok (.iconst (-1), 1) := by decide +kernel
theorem dX8_mealBy_33 : decode cX8_mealBy 33 = .ok (.ireturn, 1) := by decide +kernel
theorem dX8_peekMeal_0 : decode cX8_peekMeal 0 = .ok (.aload_n 0, 1) := by decide +kernel
theorem dX8_peekMeal_1 : decode cX8_peekMeal 1 = .ok (.getfield 119, 3) := by decide +kernel
theorem dX8_peekMeal_4 : decode cX8_peekMeal 4 = .ok (.ifCond .le 5, 3) := by decide +kernel
theorem dX8_peekMeal_7 : decode cX8_peekMeal 7 = .ok (.iconst 0, 1) := by decide +kernel
theorem dX8_peekMeal_8 : decode cX8_peekMeal 8 = .ok (.ireturn, 1) := by decide +kernel
theorem dX8_peekMeal_9 : decode cX8_peekMeal 9 = .ok (.aload_n 0, 1) := by decide +kernel
theorem dX8_peekMeal_10 : decode cX8_peekMeal 10 = .ok (.getfield 139, 3) := by decide +kernel
theorem dX8_peekMeal_13 : decode cX8_peekMeal 13 = .ok (.iconst 2, 1) := by decide +kernel
theorem dX8_peekMeal_14 : decode cX8_peekMeal 14 = .ok (.if_icmp .ne 10, 3) := by decide +kernel
theorem dX8_peekMeal_17 : decode cX8_peekMeal 17 = .ok (.aload_n 0, 1) := by decide +kernel
theorem dX8_peekMeal_18 : decode cX8_peekMeal 18 = .ok (.invokevirtual 165, 3) := by decide +kernel
theorem dX8_peekMeal_21 : decode cX8_peekMeal 21 = .ok (.ifCond .lt 8, 3) := by decide +kernel
theorem dX8_peekMeal_24 : decode cX8_peekMeal 24 = .ok (.aload_n 0, 1) := by decide +kernel
theorem dX8_peekMeal_25 : decode cX8_peekMeal 25 = .ok (.iconst 1, 1) := by decide +kernel
theorem dX8_peekMeal_26 : decode cX8_peekMeal 26 = .ok (.invokevirtual 168, 3) := by decide +kernel
theorem dX8_peekMeal_29 : decode cX8_peekMeal 29 = .ok (.aload_n 0, 1) := by decide +kernel
theorem dX8_peekMeal_30 : decode cX8_peekMeal 30 = .ok (.aload_n 0, 1) := by decide +kernel
theorem dX8_peekMeal_31 : decode cX8_peekMeal 31 = .ok (.getfield 135, 3) := by decide +kernel
theorem dX8_peekMeal_34 : decode cX8_peekMeal 34 = .ok (.invokevirtual 178, 3) := by decide +kernel
theorem dX8_peekMeal_37 : decode cX8_peekMeal 37 = .ok (.istore_n 1, 1) := by decide +kernel
theorem dX8_peekMeal_38 : decode cX8_peekMeal 38 = .ok (.iload_n 1, 1) := by decide +kernel
theorem dX8_peekMeal_39 : decode cX8_peekMeal 39 = .ok (.ifCond .ge 8, 3) := by decide +kernel
theorem dX8_peekMeal_42 : decode cX8_peekMeal 42 = .ok (.aload_n 0, 1) := by decide +kernel
theorem dX8_peekMeal_43 : decode cX8_peekMeal 43 = .ok (.iconst 2, 1) := by decide +kernel
theorem dX8_peekMeal_44 : decode cX8_peekMeal 44 = .ok (.invokevirtual 168, 3) := by decide +kernel
theorem dX8_peekMeal_47 : decode cX8_peekMeal 47 = .ok (.aload_n 0, 1) := by decide +kernel
theorem dX8_peekMeal_48 : decode cX8_peekMeal 48 = .ok (.getfield 119, 3) := by decide +kernel
theorem dX8_peekMeal_51 : decode cX8_peekMeal 51 = .ok (.ifCond .le 7, 3) := by decide +kernel
theorem dX8_peekMeal_54 : decode cX8_peekMeal 54 = .ok (.iconst 0, 1) := by decide +kernel
theorem dX8_peekMeal_55 : decode cX8_peekMeal 55 = .ok (.goto 4, 3) := by decide +kernel
theorem dX8_peekMeal_58 : decode cX8_peekMeal 58 = .ok (.iload_n 1, 1) := by decide +kernel
theorem dX8_peekMeal_59 : decode cX8_peekMeal 59 = .ok (.ireturn, 1) := by decide +kernel
theorem dX8_readTrain_0 : decode cX8_readTrain 0 = .ok (.aload_n 0, 1) := by decide +kernel
theorem dX8_readTrain_1 : decode cX8_readTrain 1 = .ok (.invokevirtual 171, 3) := by decide +kernel
theorem dX8_readTrain_4 : decode cX8_readTrain 4 = .ok (.aload_n 0, 1) := by decide +kernel
theorem dX8_readTrain_5 : decode cX8_readTrain 5 = .ok (.iconst 0, 1) := by decide +kernel
theorem dX8_readTrain_6 : decode cX8_readTrain 6 = .ok (.iconst 1, 1) := by decide +kernel
theorem dX8_readTrain_7 : decode cX8_readTrain 7 = .ok (.invokevirtual 174, 3) := by decide +kernel
theorem dX8_readTrain_10 : decode cX8_readTrain 10 = .ok (.istore_n 1, 1) := by decide +kernel
theorem dX8_readTrain_11 : decode cX8_readTrain 11 = .ok (.aload_n 0, 1) := by decide +kernel
theorem dX8_readTrain_12 : decode cX8_readTrain 12 = .ok (.getfield 33, 3) := by decide +kernel
theorem dX8_readTrain_15 : decode cX8_readTrain 15 = .ok (.iload_n 1, 1) := by decide +kernel
theorem dX8_readTrain_16 : decode cX8_readTrain 16 = .ok (.baload, 1) := by decide +kernel
theorem dX8_readTrain_17 : decode cX8_readTrain 17 = .ok (.ifCond .eq 8, 3) := by decide +kernel
theorem dX8_readTrain_20 : decode cX8_readTrain 20 = .ok (.aload_n 0, 1) := by decide +kernel
theorem dX8_readTrain_21 : decode cX8_readTrain 21 = .ok (.iconst 3, 1) := by decide +kernel
theorem dX8_readTrain_22 : decode cX8_readTrain 22 = .ok (.invokevirtual 168, 3) := by decide +kernel
theorem dX8_readTrain_25 : decode cX8_readTrain 25 = .ok (.aload_n 0, 1) := by decide +kernel
theorem dX8_readTrain_26 : decode cX8_readTrain 26 = .ok (.invokevirtual 171, 3) := by decide +kernel
theorem dX8_readTrain_29 : decode cX8_readTrain 29 = .ok (.aload_n 0, 1) := by decide +kernel
theorem dX8_readTrain_30 : decode cX8_readTrain 30 = .ok (.bipush 7, 2) := by decide +kernel
theorem dX8_readTrain_32 : decode cX8_readTrain 32 = .ok (.invokevirtual 182, 3) := by decide +kernel
theorem dX8_readTrain_35 : decode cX8_readTrain 35 = .ok (.aload_n 0, 1) := by decide +kernel
theorem dX8_readTrain_36 : decode cX8_readTrain 36 = .ok (.iconst 0, 1) := by decide +kernel
theorem dX8_readTrain_37 : decode cX8_readTrain 37 = .ok (.sipush 900, 3) := by decide +kernel
theorem dX8_readTrain_40 : decode cX8_readTrain 40 = .ok (.invokevirtual 185, 3) := by decide +kernel
theorem dX8_readTrain_43 : decode cX8_readTrain 43 = .ok (.istore_n 2, 1) := by decide +kernel
theorem dX8_readTrain_44 : decode cX8_readTrain 44 = .ok (.aload_n 0, 1) := by decide +kernel
theorem dX8_readTrain_45 : decode cX8_readTrain 45 = .ok (.bipush 8, 2) := by decide +kernel
theorem dX8_readTrain_47 : decode cX8_readTrain 47 = .ok (.invokevirtual 182, 3) := by decide +kernel
theorem dX8_readTrain_50 : decode cX8_readTrain 50 = .ok (.aload_n 0, 1) := by decide +kernel
theorem dX8_readTrain_51 : decode cX8_readTrain 51 = .ok (.iload_n 2, 1) := by decide +kernel
theorem dX8_readTrain_52 : decode cX8_readTrain 52 = .ok (.sipush 999, 3) := by decide +kernel
theorem dX8_readTrain_55 : decode cX8_readTrain 55 = .ok (.invokevirtual 185, 3) := by decide +kernel
theorem dX8_readTrain_58 : decode cX8_readTrain 58 = .ok (.istore_n 3, 1) := by decide +kernel
theorem dX8_readTrain_59 : decode cX8_readTrain 59 = .ok (.aload_n 0, 1) := by decide +kernel
theorem dX8_readTrain_60 : decode cX8_readTrain 60 = .ok (.getfield 119, 3) := by decide +kernel
theorem dX8_readTrain_63 : decode cX8_readTrain 63 = .ok (.ifCond .le 4, 3) := by decide +kernel
theorem dX8_readTrain_66 : decode cX8_readTrain 66 = .ok (.return_, 1) := by decide +kernel
theorem dX8_readTrain_67 : decode cX8_readTrain 67 = .ok (.aload_n 0, 1) := by decide +kernel
theorem dX8_readTrain_68 : decode cX8_readTrain 68 = .ok (.getfield 33, 3) := by decide +kernel
theorem dX8_readTrain_71 : decode cX8_readTrain 71 = .ok (.iload_n 1, 1) := by decide +kernel
theorem dX8_readTrain_72 : decode cX8_readTrain 72 = .ok (.iconst 1, 1) := by decide +kernel
theorem dX8_readTrain_73 : decode cX8_readTrain 73 = .ok (.bastore, 1) := by decide +kernel
theorem dX8_readTrain_74 : decode cX8_readTrain 74 = .ok (.aload_n 0, 1) := by decide +kernel
theorem dX8_readTrain_75 : decode cX8_readTrain 75 = .ok (.getfield 20, 3) := by decide +kernel
theorem dX8_readTrain_78 : decode cX8_readTrain 78 = .ok (.iconst 0, 1) := by decide +kernel
theorem dX8_readTrain_79 : decode cX8_readTrain 79 = .ok (.iload_n 1, 1) := by decide +kernel
theorem dX8_readTrain_80 : decode cX8_readTrain 80 = .ok (.iadd, 1) := by decide +kernel
theorem dX8_readTrain_81 : decode cX8_readTrain 81 = .ok (.iload_n 2, 1) := by decide +kernel
theorem dX8_readTrain_82 : decode cX8_readTrain 82 = .ok (.iastore, 1) := by decide +kernel
theorem dX8_readTrain_83 : decode cX8_readTrain 83 = .ok (.aload_n 0, 1) := by decide +kernel
theorem dX8_readTrain_84 : decode cX8_readTrain 84 = .ok (.getfield 20, 3) := by decide +kernel
theorem dX8_readTrain_87 : decode cX8_readTrain 87 = .ok (.iconst 2, 1) := by decide +kernel
theorem dX8_readTrain_88 : decode cX8_readTrain 88 = .ok (.iload_n 1, 1) := by decide +kernel
theorem dX8_readTrain_89 : decode cX8_readTrain 89 = .ok (.iadd, 1) := by decide +kernel
theorem dX8_readTrain_90 : decode cX8_readTrain 90 = .ok (.iload_n 3, 1) := by decide +kernel
theorem dX8_readTrain_91 : decode cX8_readTrain 91 = .ok (.iastore, 1) := by decide +kernel
theorem dX8_readTrain_92 : decode cX8_readTrain 92 = .ok (.return_, 1) := by decide +kernel
theorem dX8_readCar_0 : decode cX8_readCar 0 = .ok (.aload_n 0, 1) := by decide +kernel
theorem dX8_readCar_1 : decode cX8_readCar 1 = .ok (.invokevirtual 171, 3) := by decide +kernel
theorem dX8_readCar_4 : decode cX8_readCar 4 = .ok (.aload_n 0, 1) := by decide +kernel
theorem dX8_readCar_5 : decode cX8_readCar 5 = .ok (.invokevirtual 188, 3) := by decide +kernel
theorem dX8_readCar_8 : decode cX8_readCar 8 = .ok (.istore_n 1, 1) := by decide +kernel
theorem dX8_readCar_9 : decode cX8_readCar 9 = .ok (.aload_n 0, 1) := by decide +kernel
theorem dX8_readCar_10 : decode cX8_readCar 10 = .ok (.getfield 20, 3) := by decide +kernel
theorem dX8_readCar_13 : decode cX8_readCar 13 = .ok (.iconst 4, 1) := by decide +kernel
theorem dX8_readCar_14 : decode cX8_readCar 14 = .ok (.iload_n 1, 1) := by decide +kernel
theorem dX8_readCar_15 : decode cX8_readCar 15 = .ok (.iadd, 1) := by decide +kernel
theorem dX8_readCar_16 : decode cX8_readCar 16 = .ok (.iaload, 1) := by decide +kernel
theorem dX8_readCar_17 : decode cX8_readCar 17 = .ok (.iconst 5, 1) := by decide +kernel
theorem dX8_readCar_18 : decode cX8_readCar 18 = .ok (.if_icmp .ne 8, 3) := by decide +kernel
theorem dX8_readCar_21 : decode cX8_readCar 21 = .ok (.aload_n 0, 1) := by decide +kernel
theorem dX8_readCar_22 : decode cX8_readCar 22 = .ok (.iconst 4, 1) := by decide +kernel
theorem dX8_readCar_23 : decode cX8_readCar 23 = .ok (.invokevirtual 168, 3) := by decide +kernel
theorem dX8_readCar_26 : decode cX8_readCar 26 = .ok (.aload_n 0, 1) := by decide +kernel
theorem dX8_readCar_27 : decode cX8_readCar 27 = .ok (.invokevirtual 171, 3) := by decide +kernel
theorem dX8_readCar_30 : decode cX8_readCar 30 = .ok (.aload_n 0, 1) := by decide +kernel
theorem dX8_readCar_31 : decode cX8_readCar 31 = .ok (.iconst 0, 1) := by decide +kernel
theorem dX8_readCar_32 : decode cX8_readCar 32 = .ok (.bipush 99, 2) := by decide +kernel
theorem dX8_readCar_34 : decode cX8_readCar 34 = .ok (.invokevirtual 185, 3) := by decide +kernel
theorem dX8_readCar_37 : decode cX8_readCar 37 = .ok (.istore_n 2, 1) := by decide +kernel
theorem dX8_readCar_38 : decode cX8_readCar 38 = .ok (.aload_n 0, 1) := by decide +kernel
theorem dX8_readCar_39 : decode cX8_readCar 39 = .ok (.iconst 0, 1) := by decide +kernel
theorem dX8_readCar_40 : decode cX8_readCar 40 = .ok (.bipush 99, 2) := by decide +kernel
theorem dX8_readCar_42 : decode cX8_readCar 42 = .ok (.invokevirtual 185, 3) := by decide +kernel
theorem dX8_readCar_45 : decode cX8_readCar 45 = .ok (.istore_n 3, 1) := by decide +kernel
theorem dX8_readCar_46 : decode cX8_readCar 46 = .ok (.aload_n 0, 1) := by decide +kernel
theorem dX8_readCar_47 : decode cX8_readCar 47 = .ok (.iconst 0, 1) := by decide +kernel
theorem dX8_readCar_48 : decode cX8_readCar 48 = .ok (.bipush 99, 2) := by decide +kernel
theorem dX8_readCar_50 : decode cX8_readCar 50 = .ok (.invokevirtual 185, 3) := by decide +kernel
theorem dX8_readCar_53 : decode cX8_readCar 53 = .ok (.istore 4, 2) := by decide +kernel
theorem dX8_readCar_55 : decode cX8_readCar 55 = .ok (.aload_n 0, 1) := by decide +kernel
theorem dX8_readCar_56 : decode cX8_readCar 56 = .ok (.getfield 119, 3) := by decide +kernel
theorem dX8_readCar_59 : decode cX8_readCar 59 = .ok (.ifCond .le 4, 3) := by decide +kernel
theorem dX8_readCar_62 : decode cX8_readCar 62 = .ok (.return_, 1) := by decide +kernel
theorem dX8_readCar_63 : decode cX8_readCar 63 = .ok (.iconst 5, 1) := by decide +kernel
theorem dX8_readCar_64 : decode cX8_readCar 64 = .ok (.iload_n 1, 1) := by decide +kernel
theorem dX8_readCar_65 : decode cX8_readCar 65 = .ok (.imul, 1) := by decide +kernel
theorem dX8_readCar_66 : decode cX8_readCar 66 = .ok (.aload_n 0, 1) := by decide +kernel
theorem dX8_readCar_67 : decode cX8_readCar 67 = .ok (.getfield 20, 3) := by decide +kernel
theorem dX8_readCar_70 : decode cX8_readCar 70 = .ok (.iconst 4, 1) := by decide +kernel
theorem dX8_readCar_71 : decode cX8_readCar 71 = .ok (.iload_n 1, 1) := by decide +kernel
theorem dX8_readCar_72 : decode cX8_readCar 72 = .ok (.iadd, 1) := by decide +kernel
theorem dX8_readCar_73 : decode cX8_readCar 73 = .ok (.iaload, 1) := by decide +kernel
theorem dX8_readCar_74 : decode cX8_readCar 74 = .ok (.iadd, 1) := by decide +kernel
theorem dX8_readCar_75 : decode cX8_readCar 75 = .ok (.istore 5, 2) := by decide +kernel
theorem dX8_readCar_77 : decode cX8_readCar 77 = .ok (.aload_n 0, 1) := by decide +kernel
theorem dX8_readCar_78 : decode cX8_readCar 78 = .ok (.getfield 20, 3) := by decide +kernel
theorem dX8_readCar_81 : decode cX8_readCar 81 = .ok (.bipush 6, 2) := by decide +kernel
theorem dX8_readCar_83 : decode cX8_readCar 83 = .ok (.iload 5, 2) := by decide +kernel
theorem dX8_readCar_85 : decode cX8_readCar 85 = .ok (.iadd, 1) := by decide +kernel
theorem dX8_readCar_86 : decode cX8_readCar 86 = .ok (.iload_n 2, 1) := by decide +kernel
theorem dX8_readCar_87 : decode cX8_readCar 87 = .ok (.iastore, 1) := by decide +kernel
theorem dX8_readCar_88 : decode cX8_readCar 88 = .ok (.aload_n 0, 1) := by decide +kernel
theorem dX8_readCar_89 : decode cX8_readCar 89 = .ok (.getfield 20, 3) := by decide +kernel
theorem dX8_readCar_92 : decode cX8_readCar 92 = .ok (.bipush 16, 2) := by decide +kernel
theorem dX8_readCar_94 : decode cX8_readCar 94 = .ok (.iload 5, 2) := by decide +kernel
theorem dX8_readCar_96 : decode cX8_readCar 96 = .ok (.iadd, 1) := by decide +kernel
theorem dX8_readCar_97 : decode cX8_readCar 97 = .ok (.iload_n 3, 1) := by decide +kernel
theorem dX8_readCar_98 : decode cX8_readCar 98 = .ok (.iastore, 1) := by decide +kernel
theorem dX8_readCar_99 : decode cX8_readCar 99 = .ok (.aload_n 0, 1) := by decide +kernel
theorem dX8_readCar_100 : decode cX8_readCar 100 = .ok (.getfield 20, 3) := by decide +kernel
theorem dX8_readCar_103 : decode cX8_readCar 103 = .ok (.bipush 26, 2) := by decide +kernel
theorem dX8_readCar_105 : decode cX8_readCar 105 = .ok (.iload 5, 2) := by decide +kernel
theorem dX8_readCar_107 : decode cX8_readCar 107 = .ok (.iadd, 1) := by decide +kernel
theorem dX8_readCar_108 : decode cX8_readCar 108 = .ok (.iload 4, 2) := by decide +kernel
theorem dX8_readCar_110 : decode cX8_readCar 110 = .ok (.iastore, 1) := by decide +kernel
theorem dX8_readCar_111 : decode cX8_readCar 111 = .ok (.aload_n 0, 1) := by decide +kernel
theorem dX8_readCar_112 : decode cX8_readCar 112 = .ok (.getfield 20, 3) := by decide +kernel
theorem dX8_readCar_115 : decode cX8_readCar 115 = .ok (.iconst 4, 1) := by decide +kernel
theorem dX8_readCar_116 : decode cX8_readCar 116 = .ok (.iload_n 1, 1) := by decide +kernel
theorem dX8_readCar_117 : decode cX8_readCar 117 = .ok (.iadd, 1) := by decide +kernel
theorem dX8_readCar_118 : decode cX8_readCar 118 = .ok (.dup2, 1) := by decide +kernel
theorem dX8_readCar_119 : decode cX8_readCar 119 = .ok (.iaload, 1) := by decide +kernel
theorem dX8_readCar_120 : decode cX8_readCar 120 = .ok (.iconst 1, 1) := by decide +kernel
theorem dX8_readCar_121 : decode cX8_readCar 121 = .ok (.iadd, 1) := by decide +kernel
theorem dX8_readCar_122 : decode cX8_readCar 122 = .ok (.iastore, 1) := by decide +kernel
theorem dX8_readCar_123 : decode cX8_readCar 123 = .ok (.return_, 1) := by decide +kernel
theorem dX8_readMeal_0 : decode cX8_readMeal 0 = .ok (.aload_n 0, 1) := by decide +kernel
theorem dX8_readMeal_1 : decode cX8_readMeal 1 = .ok (.getfield 20, 3) := by decide +kernel
theorem dX8_readMeal_4 : decode cX8_readMeal 4 = .ok (.bipush 36, 2) := by decide +kernel
theorem dX8_readMeal_6 : decode cX8_readMeal 6 = .ok (.iaload, 1) := by decide +kernel
theorem dX8_readMeal_7 : decode cX8_readMeal 7 = .ok (.istore_n 1, 1) := by decide +kernel
theorem dX8_readMeal_8 : decode cX8_readMeal 8 = .ok (.iload_n 1, 1) := by decide +kernel
theorem dX8_readMeal_9 : decode cX8_readMeal 9 = .ok (.iconst 4, 1) := by decide +kernel
theorem dX8_readMeal_10 : decode cX8_readMeal 10 = .ok (.if_icmp .ne 8, 3) := by decide +kernel
theorem dX8_readMeal_13 : decode cX8_readMeal 13 = .ok (.aload_n 0, 1) := by decide +kernel
theorem dX8_readMeal_14 : decode cX8_readMeal 14 = .ok (.iconst 4, 1) := by decide +kernel
theorem dX8_readMeal_15 : decode cX8_readMeal 15 = .ok (.invokevirtual 168, 3) := by decide +kernel
theorem dX8_readMeal_18 : decode cX8_readMeal 18 = .ok (.aload_n 0, 1) := by decide +kernel
theorem dX8_readMeal_19 : decode cX8_readMeal 19 = .ok (.invokevirtual 171, 3) := by decide +kernel
theorem dX8_readMeal_22 : decode cX8_readMeal 22 = .ok (.aload_n 0, 1) := by decide +kernel
theorem dX8_readMeal_23 : decode cX8_readMeal 23 = .ok (.getfield 119, 3) := by decide +kernel
theorem dX8_readMeal_26 : decode cX8_readMeal 26 = .ok (.ifCond .ne 23, 3) := by decide +kernel
theorem dX8_readMeal_29 : decode cX8_readMeal 29 = .ok (.aload_n 0, 1) := by decide +kernel
theorem dX8_readMeal_30 : decode cX8_readMeal 30 = .ok (.getfield 139, 3) := by decide +kernel
theorem dX8_readMeal_33 : decode cX8_readMeal 33 = .ok (.iconst 2, 1) := by decide +kernel
theorem dX8_readMeal_34 : decode cX8_readMeal 34 = .ok (.if_icmp .ne 10, 3) := by decide +kernel
theorem dX8_readMeal_37 : decode cX8_readMeal 37 = .ok (.aload_n 0, 1) := by decide +kernel
theorem dX8_readMeal_38 : decode cX8_readMeal 38 = .ok (.invokevirtual 165, 3) := by decide +kernel
theorem dX8_readMeal_41 : decode cX8_readMeal 41 = .ok (.ifCond .lt 8, 3) := by decide +kernel
theorem dX8_readMeal_44 : decode cX8_readMeal 44 = .ok (.aload_n 0, 1) := by decide +kernel
theorem dX8_readMeal_45 : decode cX8_readMeal 45 = .ok (.iconst 1, 1) := by decide +kernel
theorem dX8_readMeal_46 : decode cX8_readMeal 46 = .ok (.invokevirtual 168, 3) := by decide +kernel
theorem dX8_readMeal_49 : decode cX8_readMeal 49 = .ok (.aload_n 0, 1) := by decide +kernel
theorem dX8_readMeal_50 : decode cX8_readMeal 50 = .ok (.getfield 119, 3) := by decide +kernel
theorem dX8_readMeal_53 : decode cX8_readMeal 53 = .ok (.ifCond .ne 19, 3) := by decide +kernel
theorem dX8_readMeal_56 : decode cX8_readMeal 56 = .ok (.aload_n 0, 1) := by decide +kernel
theorem dX8_readMeal_57 : decode cX8_readMeal 57 = .ok (.aload_n 0, 1) := by decide +kernel
theorem dX8_readMeal_58 : decode cX8_readMeal 58 = .ok (.getfield 135, 3) := by decide +kernel
theorem dX8_readMeal_61 : decode cX8_readMeal 61 = .ok (.invokevirtual 178, 3) := by decide +kernel
theorem dX8_readMeal_64 : decode cX8_readMeal 64 = .ok (.ifCond .lt 8, 3) := by decide +kernel
theorem dX8_readMeal_67 : decode cX8_readMeal 67 = .ok (.aload_n 0, 1) := by decide +kernel
theorem dX8_readMeal_68 : decode cX8_readMeal 68 = .ok (.iconst 3, 1) := by decide +kernel
theorem dX8_readMeal_69 : decode cX8_readMeal 69 = .ok (.invokevirtual 168, 3) := by decide +kernel
theorem dX8_readMeal_72 : decode cX8_readMeal 72 = .ok (.aload_n 0, 1) := by decide +kernel
theorem dX8_readMeal_73 : decode cX8_readMeal 73 = .ok (.getfield 119, 3) := by decide +kernel
theorem dX8_readMeal_76 : decode cX8_readMeal 76 = .ok (.ifCond .le 4, 3) := by decide +kernel
theorem dX8_readMeal_79 : decode cX8_readMeal 79 = .ok (.return_, 1) := by decide +kernel
theorem dX8_readMeal_80 : decode cX8_readMeal 80 = .ok (.aload_n 0, 1) := by decide +kernel
theorem dX8_readMeal_81 : decode cX8_readMeal 81 = .ok (.getfield 29, 3) := by decide +kernel
theorem dX8_readMeal_84 : decode cX8_readMeal 84 = .ok (.iload_n 1, 1) := by decide +kernel
theorem dX8_readMeal_85 : decode cX8_readMeal 85 = .ok (.aload_n 0, 1) := by decide +kernel
theorem dX8_readMeal_86 : decode cX8_readMeal 86 = .ok (.getfield 135, 3) := by decide +kernel
theorem dX8_readMeal_89 : decode cX8_readMeal 89 = .ok (.lastore, 1) := by decide +kernel
theorem dX8_readMeal_90 : decode cX8_readMeal 90 = .ok (.aload_n 0, 1) := by decide +kernel
theorem dX8_readMeal_91 : decode cX8_readMeal 91 = .ok (.invokevirtual 171, 3) := by decide +kernel
theorem dX8_readMeal_94 : decode cX8_readMeal 94 = .ok (.aload_n 0, 1) := by decide +kernel
theorem dX8_readMeal_95 : decode cX8_readMeal 95 = .ok (.getfield 20, 3) := by decide +kernel
theorem dX8_readMeal_98 : decode cX8_readMeal 98 = .ok (.bipush 37, 2) := by decide +kernel
theorem dX8_readMeal_100 : decode cX8_readMeal 100 = .ok (.iload_n 1, 1) := by decide +kernel
theorem dX8_readMeal_101 : decode cX8_readMeal 101 = .ok (.iadd, 1) := by decide +kernel
theorem dX8_readMeal_102 : decode cX8_readMeal 102 = .ok (.aload_n 0, 1) := by decide +kernel
theorem dX8_readMeal_103 : decode cX8_readMeal 103 = .ok (.iconst 0, 1) := by decide +kernel
theorem dX8_readMeal_104 : decode cX8_readMeal 104 = .ok (.bipush 20, 2) := by decide +kernel
theorem dX8_readMeal_106 : decode cX8_readMeal 106 = .ok (.invokevirtual 185, 3) := by decide +kernel
theorem dX8_readMeal_109 : decode cX8_readMeal 109 = .ok (.iastore, 1) := by decide +kernel
theorem dX8_readMeal_110 : decode cX8_readMeal 110 = .ok (.aload_n 0, 1) := by decide +kernel
theorem dX8_readMeal_111 : decode cX8_readMeal 111 = .ok (.getfield 20, 3) := by decide +kernel
theorem dX8_readMeal_114 : decode cX8_readMeal 114 = .ok (.bipush 41, 2) := by decide +kernel
theorem dX8_readMeal_116 : decode cX8_readMeal 116 = .ok (.iload_n 1, 1) := by decide +kernel
theorem dX8_readMeal_117 : decode cX8_readMeal 117 = .ok (.iadd, 1) := by decide +kernel
theorem dX8_readMeal_118 : decode cX8_readMeal 118 = .ok (.aload_n 0, 1) := by decide +kernel
theorem dX8_readMeal_119 : decode cX8_readMeal 119 = .ok (.iconst 0, 1) := by decide +kernel
theorem dX8_readMeal_120 : decode cX8_readMeal 120 = .ok (.bipush 20, 2) := by decide +kernel
theorem dX8_readMeal_122 : decode cX8_readMeal 122 = .ok (.invokevirtual 185, 3) := by decide +kernel
theorem dX8_readMeal_125 : decode cX8_readMeal 125 = .ok (.iastore, 1) := by decide +kernel
theorem dX8_readMeal_126 : decode cX8_readMeal 126 = .ok (.aload_n 0, 1) := by decide +kernel
theorem dX8_readMeal_127 : decode cX8_readMeal 127 = .ok (.getfield 20, 3) := by decide +kernel
theorem dX8_readMeal_130 : decode cX8_readMeal 130 = .ok (.bipush 36, 2) := by decide +kernel
theorem dX8_readMeal_132 : decode cX8_readMeal 132 = .ok (.dup2, 1) := by decide +kernel
theorem dX8_readMeal_133 : decode cX8_readMeal 133 = .ok (.iaload, 1) := by decide +kernel
theorem dX8_readMeal_134 : decode cX8_readMeal 134 = .ok (.iconst 1, 1) := by decide +kernel
theorem dX8_readMeal_135 : decode cX8_readMeal 135 = .ok (.iadd, 1) := by decide +kernel
theorem dX8_readMeal_136 : decode cX8_readMeal 136 = .ok (.iastore, 1) := by decide +kernel
theorem dX8_readMeal_137 : decode cX8_readMeal 137 = .ok (.return_, 1) := by decide +kernel
theorem dX8_readKitchen_0 : decode cX8_readKitchen 0 = .ok (.aload_n 0, 1) := by decide +kernel
theorem dX8_readKitchen_1 : decode cX8_readKitchen 1 = .ok (.getfield 20, 3) := by decide +kernel
theorem dX8_readKitchen_4 : decode cX8_readKitchen 4 = .ok (.bipush 45, 2) := by decide +kernel
theorem dX8_readKitchen_6 : decode cX8_readKitchen 6 = .ok (.iaload, 1) := by decide +kernel
theorem dX8_readKitchen_7 : decode cX8_readKitchen 7 = .ok (.istore_n 1, 1) := by decide +kernel
theorem dX8_readKitchen_8 : decode cX8_readKitchen 8 = .ok (.iload_n 1, 1) := by decide +kernel
theorem dX8_readKitchen_9 : decode cX8_readKitchen 9 = .ok (.iconst 3, 1) := by decide +kernel
theorem dX8_readKitchen_10 : decode cX8_readKitchen 10 = .ok (.if_icmp .ne 8, 3) := by decide +kernel
theorem dX8_readKitchen_13 : decode cX8_readKitchen 13 = .ok (.aload_n 0, 1) := by decide +kernel
theorem dX8_readKitchen_14 : decode cX8_readKitchen 14 = .ok (.iconst 4, 1) := by decide +kernel
theorem dX8_readKitchen_15 : decode cX8_readKitchen 15 = .ok (.invokevirtual 168, 3) := by decide +kernel
theorem dX8_readKitchen_18 : decode cX8_readKitchen 18 = .ok (.aload_n 0, 1) := by decide +kernel
theorem dX8_readKitchen_19 : decode cX8_readKitchen 19 = .ok (.invokevirtual 171, 3) := by decide +kernel
theorem dX8_readKitchen_22 : decode cX8_readKitchen 22 = .ok (.aload_n 0, 1) := by decide +kernel
theorem dX8_readKitchen_23 : decode cX8_readKitchen 23 = .ok (.iconst 0, 1) := by decide +kernel
theorem dX8_readKitchen_24 : decode cX8_readKitchen 24 = .ok (.bipush 99, 2) := by decide +kernel
theorem dX8_readKitchen_26 : decode cX8_readKitchen 26 = .ok (.invokevirtual 185, 3) := by decide +kernel
theorem dX8_readKitchen_29 : decode cX8_readKitchen 29 = .ok (.istore_n 2, 1) := by decide +kernel
theorem dX8_readKitchen_30 : decode cX8_readKitchen 30 = .ok (.aload_n 0, 1) := by decide +kernel
theorem dX8_readKitchen_31 : decode cX8_readKitchen 31 = .ok (.getfield 119, 3) := by decide +kernel
theorem dX8_readKitchen_34 : decode cX8_readKitchen 34 = .ok (.ifCond .le 4, 3) := by decide +kernel
theorem dX8_readKitchen_37 : decode cX8_readKitchen 37 = .ok (.return_, 1) := by decide +kernel
theorem dX8_readKitchen_38 : decode cX8_readKitchen 38 = .ok (.aload_n 0, 1) := by decide +kernel
theorem dX8_readKitchen_39 : decode cX8_readKitchen 39 = .ok (.getfield 20, 3) := by decide +kernel
theorem dX8_readKitchen_42 : decode cX8_readKitchen 42 = .ok (.bipush 46, 2) := by decide +kernel
theorem dX8_readKitchen_44 : decode cX8_readKitchen 44 = .ok (.iload_n 1, 1) := by decide +kernel
theorem dX8_readKitchen_45 : decode cX8_readKitchen 45 = .ok (.iadd, 1) := by decide +kernel
theorem dX8_readKitchen_46 : decode cX8_readKitchen 46 = .ok (.iload_n 2, 1) := by decide +kernel
theorem dX8_readKitchen_47 : decode cX8_readKitchen 47 = .ok (.iastore, 1) := by decide +kernel
theorem dX8_readKitchen_48 : decode cX8_readKitchen 48 = .ok (.aload_n 0, 1) := by decide +kernel
theorem dX8_readKitchen_49 : decode cX8_readKitchen 49 = .ok (.getfield 20, 3) := by decide +kernel
theorem dX8_readKitchen_52 : decode cX8_readKitchen 52 = .ok (.bipush 45, 2) := by decide +kernel
theorem dX8_readKitchen_54 : decode cX8_readKitchen 54 = .ok (.dup2, 1) := by decide +kernel
theorem dX8_readKitchen_55 : decode cX8_readKitchen 55 = .ok (.iaload, 1) := by decide +kernel
theorem dX8_readKitchen_56 : decode cX8_readKitchen 56 = .ok (.iconst 1, 1) := by decide +kernel
theorem dX8_readKitchen_57 : decode cX8_readKitchen 57 = .ok (.iadd, 1) := by decide +kernel
theorem dX8_readKitchen_58 : decode cX8_readKitchen 58 = .ok (.iastore, 1) := by decide +kernel
theorem dX8_readKitchen_59 : decode cX8_readKitchen 59 = .ok (.return_, 1) := by decide +kernel
theorem dX8_readStock_0 : decode cX8_readStock 0 = .ok (.aload_n 0, 1) := by decide +kernel
theorem dX8_readStock_1 : decode cX8_readStock 1 = .ok (.invokevirtual 171, 3) := by decide +kernel
theorem dX8_readStock_4 : decode cX8_readStock 4 = .ok (.aload_n 0, 1) := by decide +kernel
theorem dX8_readStock_5 : decode cX8_readStock 5 = .ok (.iconst 0, 1) := by decide +kernel
theorem dX8_readStock_6 : decode cX8_readStock 6 = .ok (.aload_n 0, 1) := by decide +kernel
theorem dX8_readStock_7 : decode cX8_readStock 7 = .ok (.getfield 20, 3) := by decide +kernel
theorem dX8_readStock_10 : decode cX8_readStock 10 = .ok (.bipush 45, 2) := by decide +kernel
theorem dX8_readStock_12 : decode cX8_readStock 12 = .ok (.iaload, 1) := by decide +kernel
theorem dX8_readStock_13 : decode cX8_readStock 13 = .ok (.iconst 1, 1) := by decide +kernel
theorem dX8_readStock_14 : decode cX8_readStock 14 = .ok (.isub, 1) := by decide +kernel
theorem dX8_readStock_15 : decode cX8_readStock 15 = .ok (.invokevirtual 185, 3) := by decide +kernel
theorem dX8_readStock_18 : decode cX8_readStock 18 = .ok (.istore_n 1, 1) := by decide +kernel
theorem dX8_readStock_19 : decode cX8_readStock 19 = .ok (.aload_n 0, 1) := by decide +kernel
theorem dX8_readStock_20 : decode cX8_readStock 20 = .ok (.invokevirtual 191, 3) := by decide +kernel
theorem dX8_readStock_23 : decode cX8_readStock 23 = .ok (.istore_n 2, 1) := by decide +kernel
theorem dX8_readStock_24 : decode cX8_readStock 24 = .ok (.aload_n 0, 1) := by decide +kernel
theorem dX8_readStock_25 : decode cX8_readStock 25 = .ok (.getfield 119, 3) := by decide +kernel
theorem dX8_readStock_28 : decode cX8_readStock 28 = .ok (.ifCond .ne 21, 3) := by decide +kernel
theorem dX8_readStock_31 : decode cX8_readStock 31 = .ok (.aload_n 0, 1) := by decide +kernel
theorem dX8_readStock_32 : decode cX8_readStock 32 = .ok (.getfield 37, 3) := by decide +kernel
theorem dX8_readStock_35 : decode cX8_readStock 35 = .ok (.iconst 4, 1) := by decide +kernel
theorem dX8_readStock_36 : decode cX8_readStock 36 = .ok (.iload_n 1, 1) := by decide +kernel
theorem dX8_readStock_37 : decode cX8_readStock 37 = .ok (.imul, 1) := by decide +kernel
theorem dX8_readStock_38 : decode cX8_readStock 38 = .ok (.iload_n 2, 1) := by decide +kernel
theorem dX8_readStock_39 : decode cX8_readStock 39 = .ok (.iadd, 1) := by decide +kernel
theorem dX8_readStock_40 : decode cX8_readStock 40 = .ok (.baload, 1) := by decide +kernel
theorem dX8_readStock_41 : decode cX8_readStock 41 = .ok (.ifCond .eq 8, 3) := by decide +kernel
theorem dX8_readStock_44 : decode cX8_readStock 44 = .ok (.aload_n 0, 1) := by decide +kernel
theorem dX8_readStock_45 : decode cX8_readStock 45 = .ok (.iconst 3, 1) := by decide +kernel
theorem dX8_readStock_46 : decode cX8_readStock 46 = .ok (.invokevirtual 168, 3) := by decide +kernel
theorem dX8_readStock_49 : decode cX8_readStock 49 = .ok (.aload_n 0, 1) := by decide +kernel
theorem dX8_readStock_50 : decode cX8_readStock 50 = .ok (.invokevirtual 171, 3) := by decide +kernel
theorem dX8_readStock_53 : decode cX8_readStock 53 = .ok (.aload_n 0, 1) := by decide +kernel
theorem dX8_readStock_54 : decode cX8_readStock 54 = .ok (.iconst 0, 1) := by decide +kernel
theorem dX8_readStock_55 : decode cX8_readStock 55 = .ok (.sipush 999, 3) := by decide +kernel
theorem dX8_readStock_58 : decode cX8_readStock 58 = .ok (.invokevirtual 185, 3) := by decide +kernel
theorem dX8_readStock_61 : decode cX8_readStock 61 = .ok (.istore_n 3, 1) := by decide +kernel
theorem dX8_readStock_62 : decode cX8_readStock 62 = .ok (.aload_n 0, 1) := by decide +kernel
theorem dX8_readStock_63 : decode cX8_readStock 63 = .ok (.getfield 119, 3) := by decide +kernel
theorem dX8_readStock_66 : decode cX8_readStock 66 = .ok (.ifCond .le 4, 3) := by decide +kernel
theorem dX8_readStock_69 : decode cX8_readStock 69 = .ok (.return_, 1) := by decide +kernel
theorem dX8_readStock_70 : decode cX8_readStock 70 = .ok (.aload_n 0, 1) := by decide +kernel
theorem dX8_readStock_71 : decode cX8_readStock 71 = .ok (.getfield 37, 3) := by decide +kernel
theorem dX8_readStock_74 : decode cX8_readStock 74 = .ok (.iconst 4, 1) := by decide +kernel
theorem dX8_readStock_75 : decode cX8_readStock 75 = .ok (.iload_n 1, 1) := by decide +kernel
theorem dX8_readStock_76 : decode cX8_readStock 76 = .ok (.imul, 1) := by decide +kernel
theorem dX8_readStock_77 : decode cX8_readStock 77 = .ok (.iload_n 2, 1) := by decide +kernel
theorem dX8_readStock_78 : decode cX8_readStock 78 = .ok (.iadd, 1) := by decide +kernel
theorem dX8_readStock_79 : decode cX8_readStock 79 = .ok (.iconst 1, 1) := by decide +kernel
theorem dX8_readStock_80 : decode cX8_readStock 80 = .ok (.bastore, 1) := by decide +kernel
theorem dX8_readStock_81 : decode cX8_readStock 81 = .ok (.aload_n 0, 1) := by decide +kernel
theorem dX8_readStock_82 : decode cX8_readStock 82 = .ok (.getfield 20, 3) := by decide +kernel
theorem dX8_readStock_85 : decode cX8_readStock 85 = .ok (.bipush 49, 2) := by decide +kernel
theorem dX8_readStock_87 : decode cX8_readStock 87 = .ok (.iconst 4, 1) := by decide +kernel
theorem dX8_readStock_88 : decode cX8_readStock 88 = .ok (.iload_n 1, 1) := by decide +kernel
theorem dX8_readStock_89 : decode cX8_readStock 89 = .ok (.imul, 1) := by decide +kernel
theorem dX8_readStock_90 : decode cX8_readStock 90 = .ok (.iadd, 1) := by decide +kernel
theorem dX8_readStock_91 : decode cX8_readStock 91 = .ok (.iload_n 2, 1) := by decide +kernel
theorem dX8_readStock_92 : decode cX8_readStock 92 = .ok (.iadd, 1) := by decide +kernel
theorem dX8_readStock_93 : decode cX8_readStock 93 = .ok (.iload_n 3, 1) := by decide +kernel
theorem dX8_readStock_94 : decode cX8_readStock 94 = .ok (.iastore, 1) := by decide +kernel
theorem dX8_readStock_95 : decode cX8_readStock 95 = .ok (.return_, 1) := by decide +kernel
theorem dX8_readTrolley_0 : decode cX8_readTrolley 0 = .ok (.aload_n 0, 1) := by decide +kernel
theorem dX8_readTrolley_1 : decode cX8_readTrolley 1 = .ok (.getfield 20, 3) := by decide +kernel
theorem dX8_readTrolley_4 : decode cX8_readTrolley 4 = .ok (.bipush 61, 2) := by decide +kernel
theorem dX8_readTrolley_6 : decode cX8_readTrolley 6 = .ok (.iaload, 1) := by decide +kernel
theorem dX8_readTrolley_7 : decode cX8_readTrolley 7 = .ok (.istore_n 1, 1) := by decide +kernel
theorem dX8_readTrolley_8 : decode cX8_readTrolley 8 = .ok (.iload_n 1, 1) := by decide +kernel
theorem dX8_readTrolley_9 : decode cX8_readTrolley 9 = .ok (.iconst 5, 1) := by decide +kernel
theorem dX8_readTrolley_10 : decode cX8_readTrolley 10 = .ok (.if_icmp .ne 8, 3) := by decide +kernel
theorem dX8_readTrolley_13 : decode cX8_readTrolley 13 = .ok (.aload_n 0, 1) := by decide +kernel
theorem dX8_readTrolley_14 : decode cX8_readTrolley 14 = .ok (.iconst 4, 1) := by decide +kernel
theorem dX8_readTrolley_15 : decode cX8_readTrolley 15 = .ok (.invokevirtual 168, 3) := by decide +kernel
theorem dX8_readTrolley_18 : decode cX8_readTrolley 18 = .ok (.aload_n 0, 1) := by decide +kernel
theorem dX8_readTrolley_19 : decode cX8_readTrolley 19 = .ok (.invokevirtual 171, 3) := by decide +kernel
theorem dX8_readTrolley_22 : decode cX8_readTrolley 22 = .ok (.aload_n 0, 1) := by decide +kernel
theorem dX8_readTrolley_23 : decode cX8_readTrolley 23 = .ok (.iconst 0, 1) := by decide +kernel
theorem dX8_readTrolley_24 : decode cX8_readTrolley 24 = .ok (.aload_n 0, 1) := by decide +kernel
theorem dX8_readTrolley_25 : decode cX8_readTrolley 25 = .ok (.getfield 20, 3) := by decide +kernel
theorem dX8_readTrolley_28 : decode cX8_readTrolley 28 = .ok (.bipush 45, 2) := by decide +kernel
theorem dX8_readTrolley_30 : decode cX8_readTrolley 30 = .ok (.iaload, 1) := by decide +kernel
theorem dX8_readTrolley_31 : decode cX8_readTrolley 31 = .ok (.iconst 1, 1) := by decide +kernel
theorem dX8_readTrolley_32 : decode cX8_readTrolley 32 = .ok (.isub, 1) := by decide +kernel
theorem dX8_readTrolley_33 : decode cX8_readTrolley 33 = .ok (.invokevirtual 185, 3) := by decide +kernel
theorem dX8_readTrolley_36 : decode cX8_readTrolley 36 = .ok (.istore_n 2, 1) := by decide +kernel
theorem dX8_readTrolley_37 : decode cX8_readTrolley 37 = .ok (.aload_n 0, 1) := by decide +kernel
theorem dX8_readTrolley_38 : decode cX8_readTrolley 38 = .ok (.iconst 1, 1) := by decide +kernel
theorem dX8_readTrolley_39 : decode cX8_readTrolley 39 = .ok (.bipush 99, 2) := by decide +kernel
theorem dX8_readTrolley_41 : decode cX8_readTrolley 41 = .ok (.invokevirtual 185, 3) := by decide +kernel
theorem dX8_readTrolley_44 : decode cX8_readTrolley 44 = .ok (.istore_n 3, 1) := by decide +kernel
theorem dX8_readTrolley_45 : decode cX8_readTrolley 45 = .ok (.aload_n 0, 1) := by decide +kernel
theorem dX8_readTrolley_46 : decode cX8_readTrolley 46 = .ok (.iconst 1, 1) := by decide +kernel
theorem dX8_readTrolley_47 : decode cX8_readTrolley 47 = .ok (.bipush 9, 2) := by decide +kernel
theorem dX8_readTrolley_49 : decode cX8_readTrolley 49 = .ok (.invokevirtual 185, 3) := by decide +kernel
theorem dX8_readTrolley_52 : decode cX8_readTrolley 52 = .ok (.istore 4, 2) := by decide +kernel
theorem dX8_readTrolley_54 : decode cX8_readTrolley 54 = .ok (.aload_n 0, 1) := by decide +kernel
theorem dX8_readTrolley_55 : decode cX8_readTrolley 55 = .ok (.iconst 1, 1) := by decide +kernel
theorem dX8_readTrolley_56 : decode cX8_readTrolley 56 = .ok (.iconst 5, 1) := by decide +kernel
theorem dX8_readTrolley_57 : decode cX8_readTrolley 57 = .ok (.invokevirtual 185, 3) := by decide +kernel
theorem dX8_readTrolley_60 : decode cX8_readTrolley 60 = .ok (.istore 5, 2) := by decide +kernel
theorem dX8_readTrolley_62 : decode cX8_readTrolley 62 = .ok (.aload_n 0, 1) := by decide +kernel
theorem dX8_readTrolley_63 : decode cX8_readTrolley 63 = .ok (.iconst 1, 1) := by decide +kernel
theorem dX8_readTrolley_64 : decode cX8_readTrolley 64 = .ok (.iconst 5, 1) := by decide +kernel
theorem dX8_readTrolley_65 : decode cX8_readTrolley 65 = .ok (.invokevirtual 185, 3) := by decide +kernel
theorem dX8_readTrolley_68 : decode cX8_readTrolley 68 = .ok (.istore 6, 2) := by decide +kernel
theorem dX8_readTrolley_70 : decode cX8_readTrolley 70 = .ok (.aload_n 0, 1) := by decide +kernel
theorem dX8_readTrolley_71 : decode cX8_readTrolley 71 = .ok (.getfield 119, 3) := by decide +kernel
theorem dX8_readTrolley_74 : decode cX8_readTrolley 74 = .ok (.ifCond .le 4, 3) := by decide +kernel
theorem dX8_readTrolley_77 : decode cX8_readTrolley 77 = .ok (.return_, 1) := by decide +kernel
theorem dX8_readTrolley_78 : decode cX8_readTrolley 78 = .ok (.bipush 62, 2) := by decide +kernel
theorem dX8_readTrolley_80 : decode cX8_readTrolley 80 = .ok (.iconst 5, 1) := by decide +kernel
theorem dX8_readTrolley_81 : decode cX8_readTrolley 81 = .ok (.iload_n 1, 1) := by decide +kernel
theorem dX8_readTrolley_82 : decode cX8_readTrolley 82 = .ok (.imul, 1) := by decide +kernel
theorem dX8_readTrolley_83 : decode cX8_readTrolley 83 = .ok (.iadd, 1) := by decide +kernel
theorem dX8_readTrolley_84 : decode cX8_readTrolley 84 = .ok (.istore 7, 2) := by decide +kernel
theorem dX8_readTrolley_86 : decode cX8_readTrolley 86 = .ok (.aload_n 0, 1) := by decide +kernel
theorem dX8_readTrolley_87 : decode cX8_readTrolley 87 = .ok (.getfield 20, 3) := by decide +kernel
theorem dX8_readTrolley_90 : decode cX8_readTrolley 90 = .ok (.iload 7, 2) := by decide +kernel
theorem dX8_readTrolley_92 : decode cX8_readTrolley 92 = .ok (.iconst 0, 1) := by decide +kernel
theorem dX8_readTrolley_93 : decode cX8_readTrolley 93 = .ok (.iadd, 1) := by decide +kernel
theorem dX8_readTrolley_94 : decode cX8_readTrolley 94 = .ok (.iload_n 2, 1) := by decide +kernel
theorem dX8_readTrolley_95 : decode cX8_readTrolley 95 = .ok (.iastore, 1) := by decide +kernel
theorem dX8_readTrolley_96 : decode cX8_readTrolley 96 = .ok (.aload_n 0, 1) := by decide +kernel
theorem dX8_readTrolley_97 : decode cX8_readTrolley 97 = .ok (.getfield 20, 3) := by decide +kernel
theorem dX8_readTrolley_100 : decode cX8_readTrolley 100 = .ok (.iload 7, 2) := by decide +kernel
theorem dX8_readTrolley_102 : decode cX8_readTrolley 102 = .ok (.iconst 1, 1) := by decide +kernel
theorem dX8_readTrolley_103 : decode cX8_readTrolley 103 = .ok (.iadd, 1) := by decide +kernel
theorem dX8_readTrolley_104 : decode cX8_readTrolley 104 = .ok (.iload_n 3, 1) := by decide +kernel
theorem dX8_readTrolley_105 : decode cX8_readTrolley 105 = .ok (.iastore, 1) := by decide +kernel
theorem dX8_readTrolley_106 : decode cX8_readTrolley 106 = .ok (.aload_n 0, 1) := by decide +kernel
theorem dX8_readTrolley_107 : decode cX8_readTrolley 107 = .ok (.getfield 20, 3) := by decide +kernel
theorem dX8_readTrolley_110 : decode cX8_readTrolley 110 = .ok (.iload 7, 2) := by decide +kernel
theorem dX8_readTrolley_112 : decode cX8_readTrolley 112 = .ok (.iconst 2, 1) := by decide +kernel
theorem dX8_readTrolley_113 : decode cX8_readTrolley 113 = .ok (.iadd, 1) := by decide +kernel
theorem dX8_readTrolley_114 : decode cX8_readTrolley 114 = .ok (.iload 4, 2) := by decide +kernel
theorem dX8_readTrolley_116 : decode cX8_readTrolley 116 = .ok (.iastore, 1) := by decide +kernel
theorem dX8_readTrolley_117 : decode cX8_readTrolley 117 = .ok (.aload_n 0, 1) := by decide +kernel
theorem dX8_readTrolley_118 : decode cX8_readTrolley 118 = .ok (.getfield 20, 3) := by decide +kernel
theorem dX8_readTrolley_121 : decode cX8_readTrolley 121 = .ok (.iload 7, 2) := by decide +kernel
theorem dX8_readTrolley_123 : decode cX8_readTrolley 123 = .ok (.iconst 3, 1) := by decide +kernel
theorem dX8_readTrolley_124 : decode cX8_readTrolley 124 = .ok (.iadd, 1) := by decide +kernel
theorem dX8_readTrolley_125 : decode cX8_readTrolley 125 = .ok (.iload 5, 2) := by decide +kernel
theorem dX8_readTrolley_127 : decode cX8_readTrolley 127 = .ok (.iastore, 1) := by decide +kernel
theorem dX8_readTrolley_128 : decode cX8_readTrolley 128 = .ok (.aload_n 0, 1) := by decide +kernel
theorem dX8_readTrolley_129 : decode cX8_readTrolley 129 = .ok (.getfield 20, 3) := by decide +kernel
theorem dX8_readTrolley_132 : decode cX8_readTrolley 132 = .ok (.iload 7, 2) := by decide +kernel
theorem dX8_readTrolley_134 : decode cX8_readTrolley 134 = .ok (.iconst 4, 1) := by decide +kernel
theorem dX8_readTrolley_135 : decode cX8_readTrolley 135 = .ok (.iadd, 1) := by decide +kernel
theorem dX8_readTrolley_136 : decode cX8_readTrolley 136 = .ok (.iload 6, 2) := by decide +kernel
theorem dX8_readTrolley_138 : decode cX8_readTrolley 138 = .ok (.iastore, 1) := by decide +kernel
theorem dX8_readTrolley_139 : decode cX8_readTrolley 139 = .ok (.aload_n 0, 1) := by decide +kernel
theorem dX8_readTrolley_140 : decode cX8_readTrolley 140 = .ok (.getfield 20, 3) := by decide +kernel
theorem dX8_readTrolley_143 : decode cX8_readTrolley 143 = .ok (.bipush 61, 2) := by decide +kernel
theorem dX8_readTrolley_145 : decode cX8_readTrolley 145 = .ok (.dup2, 1) := by decide +kernel
theorem dX8_readTrolley_146 : decode cX8_readTrolley 146 = .ok (.iaload, 1) := by decide +kernel
theorem dX8_readTrolley_147 : decode cX8_readTrolley 147 = .ok (.iconst 1, 1) := by decide +kernel
theorem dX8_readTrolley_148 : decode cX8_readTrolley 148 = .ok (.iadd, 1) := by decide +kernel
theorem dX8_readTrolley_149 : decode cX8_readTrolley 149 = .ok (.iastore, 1) := by decide +kernel
theorem dX8_readTrolley_150 : decode cX8_readTrolley 150 = .ok (.return_, 1) := by decide +kernel
theorem dX8_jobsOf_0 : decode cX8_jobsOf 0 = .ok (.iconst 0, 1) := by decide +kernel
theorem dX8_jobsOf_1 : decode cX8_jobsOf 1 = .ok (.istore_n 2, 1) := by decide +kernel
theorem dX8_jobsOf_2 : decode cX8_jobsOf 2 = .ok (.iconst 0, 1) := by decide +kernel
theorem dX8_jobsOf_3 : decode cX8_jobsOf 3 = .ok (.istore_n 3, 1) := by decide +kernel
theorem dX8_jobsOf_4 : decode cX8_jobsOf 4 = .ok (.iload_n 3, 1) := by decide +kernel
theorem dX8_jobsOf_5 : decode cX8_jobsOf 5 = .ok (.aload_n 0, 1) := by decide +kernel
theorem dX8_jobsOf_6 : decode cX8_jobsOf 6 = .ok (.bipush 87, 2) := by decide +kernel
theorem dX8_jobsOf_8 : decode cX8_jobsOf 8 = .ok (.iaload, 1) := by decide +kernel
theorem dX8_jobsOf_9 : decode cX8_jobsOf 9 = .ok (.if_icmp .ge 31, 3) := by decide +kernel
theorem dX8_jobsOf_12 : decode cX8_jobsOf 12 = .ok (.iload_n 2, 1) := by decide +kernel
theorem dX8_jobsOf_13 : decode cX8_jobsOf 13 = .ok (.aload_n 0, 1) := by decide +kernel
theorem dX8_jobsOf_14 : decode cX8_jobsOf 14 = .ok (.bipush 88, 2) := by decide +kernel
theorem dX8_jobsOf_16 : decode cX8_jobsOf 16 = .ok (.iconst 5, 1) := by decide +kernel
theorem dX8_jobsOf_17 : decode cX8_jobsOf 17 = .ok (.iload_n 3, 1) := by decide +kernel
theorem dX8_jobsOf_18 : decode cX8_jobsOf 18 = .ok (.imul, 1) := by decide +kernel
theorem dX8_jobsOf_19 : decode cX8_jobsOf 19 = .ok (.iadd, 1) := by decide +kernel
theorem dX8_jobsOf_20 : decode cX8_jobsOf 20 = .ok (.iconst 0, 1) := by decide +kernel
theorem dX8_jobsOf_21 : decode cX8_jobsOf 21 = .ok (.iadd, 1) := by decide +kernel
theorem dX8_jobsOf_22 : decode cX8_jobsOf 22 = .ok (.iaload, 1) := by decide +kernel
theorem dX8_jobsOf_23 : decode cX8_jobsOf 23 = .ok (.iload_n 1, 1) := by decide +kernel
theorem dX8_jobsOf_24 : decode cX8_jobsOf 24 = .ok (.if_icmp .ne 7, 3) := by decide +kernel
theorem dX8_jobsOf_27 : decode cX8_jobsOf 27 = .ok (.iconst 1, 1) := by decide +kernel
theorem dX8_jobsOf_28 : decode cX8_jobsOf 28 = .ok (.goto 4, 3) := by decide +kernel
theorem dX8_jobsOf_31 : decode cX8_jobsOf 31 = .ok (.iconst 0, 1) := by decide +kernel
theorem dX8_jobsOf_32 : decode cX8_jobsOf 32 = .ok (.iadd, 1) := by decide +kernel
theorem dX8_jobsOf_33 : decode cX8_jobsOf 33 = .ok (.istore_n 2, 1) := by decide +kernel
theorem dX8_jobsOf_34 : decode cX8_jobsOf 34 = .ok (.iinc 3 1, 3) := by decide +kernel
theorem dX8_jobsOf_37 : decode cX8_jobsOf 37 = .ok (.goto (-33), 3) := by decide +kernel
theorem dX8_jobsOf_40 : decode cX8_jobsOf 40 = .ok (.iload_n 2, 1) := by decide +kernel
theorem dX8_jobsOf_41 : decode cX8_jobsOf 41 = .ok (.ireturn, 1) := by decide +kernel
theorem dX8_layJob_0 : decode cX8_layJob 0 = .ok (.bipush 88, 2) := by decide +kernel
theorem dX8_layJob_2 : decode cX8_layJob 2 = .ok (.iconst 5, 1) := by decide +kernel
theorem dX8_layJob_3 : decode cX8_layJob 3 = .ok (.iload_n 1, 1) := by decide +kernel
theorem dX8_layJob_4 : decode cX8_layJob 4 = .ok (.imul, 1) := by decide +kernel
theorem dX8_layJob_5 : decode cX8_layJob 5 = .ok (.iadd, 1) := by decide +kernel
theorem dX8_layJob_6 : decode cX8_layJob 6 = .ok (.istore 7, 2) := by decide +kernel
theorem dX8_layJob_8 : decode cX8_layJob 8 = .ok (.aload_n 0, 1) := by decide +kernel
theorem dX8_layJob_9 : decode cX8_layJob 9 = .ok (.iload 7, 2) := by decide +kernel
theorem dX8_layJob_11 : decode cX8_layJob 11 = .ok (.iconst 0, 1) := by decide +kernel
theorem dX8_layJob_12 : decode cX8_layJob 12 = .ok (.iadd, 1) := by decide +kernel
theorem dX8_layJob_13 : decode cX8_layJob 13 = .ok (.iload_n 2, 1) := by decide +kernel
theorem dX8_layJob_14 : decode cX8_layJob 14 = .ok (.iastore, 1) := by decide +kernel
theorem dX8_layJob_15 : decode cX8_layJob 15 = .ok (.aload_n 0, 1) := by decide +kernel
theorem dX8_layJob_16 : decode cX8_layJob 16 = .ok (.iload 7, 2) := by decide +kernel
theorem dX8_layJob_18 : decode cX8_layJob 18 = .ok (.iconst 1, 1) := by decide +kernel
theorem dX8_layJob_19 : decode cX8_layJob 19 = .ok (.iadd, 1) := by decide +kernel
theorem dX8_layJob_20 : decode cX8_layJob 20 = .ok (.iload_n 3, 1) := by decide +kernel
theorem dX8_layJob_21 : decode cX8_layJob 21 = .ok (.iastore, 1) := by decide +kernel
theorem dX8_layJob_22 : decode cX8_layJob 22 = .ok (.aload_n 0, 1) := by decide +kernel
theorem dX8_layJob_23 : decode cX8_layJob 23 = .ok (.iload 7, 2) := by decide +kernel
theorem dX8_layJob_25 : decode cX8_layJob 25 = .ok (.iconst 2, 1) := by decide +kernel
theorem dX8_layJob_26 : decode cX8_layJob 26 = .ok (.iadd, 1) := by decide +kernel
theorem dX8_layJob_27 : decode cX8_layJob 27 = .ok (.iload 4, 2) := by decide +kernel
theorem dX8_layJob_29 : decode cX8_layJob 29 = .ok (.iastore, 1) := by decide +kernel
theorem dX8_layJob_30 : decode cX8_layJob 30 = .ok (.aload_n 0, 1) := by decide +kernel
theorem dX8_layJob_31 : decode cX8_layJob 31 = .ok (.iload 7, 2) := by decide +kernel
theorem dX8_layJob_33 : decode cX8_layJob 33 = .ok (.iconst 3, 1) := by decide +kernel
theorem dX8_layJob_34 : decode cX8_layJob 34 = .ok (.iadd, 1) := by decide +kernel
theorem dX8_layJob_35 : decode cX8_layJob 35 = .ok (.iload 5, 2) := by decide +kernel
theorem dX8_layJob_37 : decode cX8_layJob 37 = .ok (.iastore, 1) := by decide +kernel
theorem dX8_layJob_38 : decode cX8_layJob 38 = .ok (.aload_n 0, 1) := by decide +kernel
theorem dX8_layJob_39 : decode cX8_layJob 39 = .ok (.iload 7, 2) := by decide +kernel
theorem dX8_layJob_41 : decode cX8_layJob 41 = .ok (.iconst 4, 1) := by decide +kernel
theorem dX8_layJob_42 : decode cX8_layJob 42 = .ok (.iadd, 1) := by decide +kernel
theorem dX8_layJob_43 : decode cX8_layJob 43 = .ok (.iload 6, 2) := by decide +kernel
theorem dX8_layJob_45 : decode cX8_layJob 45 = .ok (.iastore, 1) := by decide +kernel
theorem dX8_layJob_46 : decode cX8_layJob 46 = .ok (.return_, 1) := by decide +kernel
theorem dX8_readJob_0 : decode cX8_readJob 0 = .ok (.aload_n 0, 1) := by decide +kernel
theorem dX8_readJob_1 : decode cX8_readJob 1 = .ok (.getfield 20, 3) := by decide +kernel
theorem dX8_readJob_4 : decode cX8_readJob 4 = .ok (.bipush 87, 2) := by decide +kernel
theorem dX8_readJob_6 : decode cX8_readJob 6 = .ok (.iaload, 1) := by decide +kernel
theorem dX8_readJob_7 : decode cX8_readJob 7 = .ok (.bipush 20, 2) := by decide +kernel
theorem dX8_readJob_9 : decode cX8_readJob 9 = .ok (.if_icmp .ne 8, 3) := by decide +kernel
theorem dX8_readJob_12 : decode cX8_readJob 12 = .ok (.aload_n 0, 1) := by decide +kernel
theorem dX8_readJob_13 : decode cX8_readJob 13 = .ok (.iconst 4, 1) := by decide +kernel
theorem dX8_readJob_14 : decode cX8_readJob 14 = .ok (.invokevirtual 168, 3) := by decide +kernel
theorem dX8_readJob_17 : decode cX8_readJob 17 = .ok (.aload_n 0, 1) := by decide +kernel
theorem dX8_readJob_18 : decode cX8_readJob 18 = .ok (.invokevirtual 171, 3) := by decide +kernel
theorem dX8_readJob_21 : decode cX8_readJob 21 = .ok (.aload_n 0, 1) := by decide +kernel
theorem dX8_readJob_22 : decode cX8_readJob 22 = .ok (.iconst 0, 1) := by decide +kernel
theorem dX8_readJob_23 : decode cX8_readJob 23 = .ok (.aload_n 0, 1) := by decide +kernel
theorem dX8_readJob_24 : decode cX8_readJob 24 = .ok (.getfield 20, 3) := by decide +kernel
theorem dX8_readJob_27 : decode cX8_readJob 27 = .ok (.bipush 61, 2) := by decide +kernel
theorem dX8_readJob_29 : decode cX8_readJob 29 = .ok (.iaload, 1) := by decide +kernel
theorem dX8_readJob_30 : decode cX8_readJob 30 = .ok (.iconst 1, 1) := by decide +kernel
theorem dX8_readJob_31 : decode cX8_readJob 31 = .ok (.isub, 1) := by decide +kernel
theorem dX8_readJob_32 : decode cX8_readJob 32 = .ok (.invokevirtual 174, 3) := by decide +kernel
theorem dX8_readJob_35 : decode cX8_readJob 35 = .ok (.istore_n 1, 1) := by decide +kernel
theorem dX8_readJob_36 : decode cX8_readJob 36 = .ok (.aload_n 0, 1) := by decide +kernel
theorem dX8_readJob_37 : decode cX8_readJob 37 = .ok (.getfield 119, 3) := by decide +kernel
theorem dX8_readJob_40 : decode cX8_readJob 40 = .ok (.ifCond .ne 21, 3) := by decide +kernel
theorem dX8_readJob_43 : decode cX8_readJob 43 = .ok (.aload_n 0, 1) := by decide +kernel
theorem dX8_readJob_44 : decode cX8_readJob 44 = .ok (.getfield 20, 3) := by decide +kernel
theorem dX8_readJob_47 : decode cX8_readJob 47 = .ok (.iload_n 1, 1) := by decide +kernel
theorem dX8_readJob_48 : decode cX8_readJob 48 = .ok (.invokestatic 194, 3) := by decide +kernel
theorem dX8_readJob_51 : decode cX8_readJob 51 = .ok (.bipush 8, 2) := by decide +kernel
theorem dX8_readJob_53 : decode cX8_readJob 53 = .ok (.if_icmp .ne 8, 3) := by decide +kernel
theorem dX8_readJob_56 : decode cX8_readJob 56 = .ok (.aload_n 0, 1) := by decide +kernel
theorem dX8_readJob_57 : decode cX8_readJob 57 = .ok (.iconst 4, 1) := by decide +kernel
theorem dX8_readJob_58 : decode cX8_readJob 58 = .ok (.invokevirtual 168, 3) := by decide +kernel
theorem dX8_readJob_61 : decode cX8_readJob 61 = .ok (.aload_n 0, 1) := by decide +kernel
theorem dX8_readJob_62 : decode cX8_readJob 62 = .ok (.invokevirtual 171, 3) := by decide +kernel
theorem dX8_readJob_65 : decode cX8_readJob 65 = .ok (.aload_n 0, 1) := by decide +kernel
theorem dX8_readJob_66 : decode cX8_readJob 66 = .ok (.invokevirtual 188, 3) := by decide +kernel
theorem dX8_readJob_69 : decode cX8_readJob 69 = .ok (.istore_n 2, 1) := by decide +kernel
theorem dX8_readJob_70 : decode cX8_readJob 70 = .ok (.aload_n 0, 1) := by decide +kernel
theorem dX8_readJob_71 : decode cX8_readJob 71 = .ok (.invokevirtual 171, 3) := by decide +kernel
theorem dX8_readJob_74 : decode cX8_readJob 74 = .ok (.aload_n 0, 1) := by decide +kernel
theorem dX8_readJob_75 : decode cX8_readJob 75 = .ok (.iconst 0, 1) := by decide +kernel
theorem dX8_readJob_76 : decode cX8_readJob 76 = .ok (.aload_n 0, 1) := by decide +kernel
theorem dX8_readJob_77 : decode cX8_readJob 77 = .ok (.getfield 20, 3) := by decide +kernel
theorem dX8_readJob_80 : decode cX8_readJob 80 = .ok (.iconst 4, 1) := by decide +kernel
theorem dX8_readJob_81 : decode cX8_readJob 81 = .ok (.iload_n 2, 1) := by decide +kernel
theorem dX8_readJob_82 : decode cX8_readJob 82 = .ok (.iadd, 1) := by decide +kernel
theorem dX8_readJob_83 : decode cX8_readJob 83 = .ok (.iaload, 1) := by decide +kernel
theorem dX8_readJob_84 : decode cX8_readJob 84 = .ok (.iconst 1, 1) := by decide +kernel
theorem dX8_readJob_85 : decode cX8_readJob 85 = .ok (.isub, 1) := by decide +kernel
theorem dX8_readJob_86 : decode cX8_readJob 86 = .ok (.invokevirtual 185, 3) := by decide +kernel
theorem dX8_readJob_89 : decode cX8_readJob 89 = .ok (.istore_n 3, 1) := by decide +kernel
theorem dX8_readJob_90 : decode cX8_readJob 90 = .ok (.aload_n 0, 1) := by decide +kernel
theorem dX8_readJob_91 : decode cX8_readJob 91 = .ok (.invokevirtual 191, 3) := by decide +kernel
theorem dX8_readJob_94 : decode cX8_readJob 94 = .ok (.istore 4, 2) := by decide +kernel
theorem dX8_readJob_96 : decode cX8_readJob 96 = .ok (.aload_n 0, 1) := by decide +kernel
theorem dX8_readJob_97 : decode cX8_readJob 97 = .ok (.invokevirtual 171, 3) := by decide +kernel
theorem dX8_readJob_100 : decode cX8_readJob 100 = .ok (.aload_n 0, 1) := by decide +kernel
theorem dX8_readJob_101 : decode cX8_readJob 101 = .ok (.iconst 1, 1) := by decide +kernel
theorem dX8_readJob_102 : decode cX8_readJob 102 = .ok (.bipush 99, 2) := by decide +kernel
theorem dX8_readJob_104 : decode cX8_readJob 104 = .ok (.invokevirtual 185, 3) := by decide +kernel
theorem dX8_readJob_107 : decode cX8_readJob 107 = .ok (.istore 5, 2) := by decide +kernel
theorem dX8_readJob_109 : decode cX8_readJob 109 = .ok (.aload_n 0, 1) := by decide +kernel
theorem dX8_readJob_110 : decode cX8_readJob 110 = .ok (.getfield 119, 3) := by decide +kernel
theorem dX8_readJob_113 : decode cX8_readJob 113 = .ok (.ifCond .le 4, 3) := by decide +kernel
theorem dX8_readJob_116 : decode cX8_readJob 116 = .ok (.return_, 1) := by decide +kernel
theorem dX8_readJob_117 : decode cX8_readJob 117 = .ok (.aload_n 0, 1) := by decide +kernel
theorem dX8_readJob_118 : decode cX8_readJob 118 = .ok (.getfield 20, 3) := by decide +kernel
theorem dX8_readJob_121 : decode cX8_readJob 121 = .ok (.aload_n 0, 1) := by decide +kernel
theorem dX8_readJob_122 : decode cX8_readJob 122 = .ok (.getfield 20, 3) := by decide +kernel
theorem dX8_readJob_125 : decode cX8_readJob 125 = .ok (.bipush 87, 2) := by decide +kernel
theorem dX8_readJob_127 : decode cX8_readJob 127 = .ok (.iaload, 1) := by decide +kernel
theorem dX8_readJob_128 : decode cX8_readJob 128 = .ok (.iload_n 1, 1) := by decide +kernel
theorem dX8_readJob_129 : decode cX8_readJob 129 = .ok (.iload_n 2, 1) := by decide +kernel
theorem dX8_readJob_130 : decode cX8_readJob 130 = .ok (.iload_n 3, 1) := by decide +kernel
theorem dX8_readJob_131 : decode cX8_readJob 131 = .ok (.iload 4, 2) := by decide +kernel
theorem dX8_readJob_133 : decode cX8_readJob 133 = .ok (.iload 5, 2) := by decide +kernel
theorem dX8_readJob_135 : decode cX8_readJob 135 = .ok (.invokestatic 198, 3) := by decide +kernel
theorem dX8_readJob_138 : decode cX8_readJob 138 = .ok (.aload_n 0, 1) := by decide +kernel
theorem dX8_readJob_139 : decode cX8_readJob 139 = .ok (.getfield 20, 3) := by decide +kernel
theorem dX8_readJob_142 : decode cX8_readJob 142 = .ok (.bipush 87, 2) := by decide +kernel
theorem dX8_readJob_144 : decode cX8_readJob 144 = .ok (.dup2, 1) := by decide +kernel
theorem dX8_readJob_145 : decode cX8_readJob 145 = .ok (.iaload, 1) := by decide +kernel
theorem dX8_readJob_146 : decode cX8_readJob 146 = .ok (.iconst 1, 1) := by decide +kernel
theorem dX8_readJob_147 : decode cX8_readJob 147 = .ok (.iadd, 1) := by decide +kernel
theorem dX8_readJob_148 : decode cX8_readJob 148 = .ok (.iastore, 1) := by decide +kernel
theorem dX8_readJob_149 : decode cX8_readJob 149 = .ok (.return_, 1) := by decide +kernel
theorem dX8_readLine_0 : decode cX8_readLine 0 = .ok (.aload_n 0, 1) := by decide +kernel
theorem dX8_readLine_1 : decode cX8_readLine 1 = .ok (.invokevirtual 165, 3) := by decide +kernel
theorem dX8_readLine_4 : decode cX8_readLine 4 = .ok (.tableswitch 93 0 6 #[44, 51, 58, 65, 72, 79, 86], 44) := by decide +kernel
theorem dX8_readLine_48 : decode cX8_readLine 48 = .ok (.aload_n 0, 1) := by decide +kernel
theorem dX8_readLine_49 : decode cX8_readLine 49 = .ok (.invokevirtual 202, 3) := by decide +kernel
theorem dX8_readLine_52 : decode cX8_readLine 52 = .ok (.goto 50, 3) := by decide +kernel
theorem dX8_readLine_55 : decode cX8_readLine 55 = .ok (.aload_n 0, 1) := by decide +kernel
theorem dX8_readLine_56 : decode cX8_readLine 56 = .ok (.invokevirtual 205, 3) := by decide +kernel
theorem dX8_readLine_59 : decode cX8_readLine 59 = .ok (.goto 43, 3) := by decide +kernel
theorem dX8_readLine_62 : decode cX8_readLine 62 = .ok (.aload_n 0, 1) := by decide +kernel
theorem dX8_readLine_63 : decode cX8_readLine 63 = .ok (.invokevirtual 208, 3) := by decide +kernel
theorem dX8_readLine_66 : decode cX8_readLine 66 = .ok (.goto 36, 3) := by decide +kernel
theorem dX8_readLine_69 : decode cX8_readLine 69 = .ok (.aload_n 0, 1) := by decide +kernel
theorem dX8_readLine_70 : decode cX8_readLine 70 = .ok (.invokevirtual 211, 3) := by decide +kernel
theorem dX8_readLine_73 : decode cX8_readLine 73 = .ok (.goto 29, 3) := by decide +kernel
theorem dX8_readLine_76 : decode cX8_readLine 76 = .ok (.aload_n 0, 1) := by decide +kernel
theorem dX8_readLine_77 : decode cX8_readLine 77 = .ok (.invokevirtual 214, 3) := by decide +kernel
theorem dX8_readLine_80 : decode cX8_readLine 80 = .ok (.goto 22, 3) := by decide +kernel
theorem dX8_readLine_83 : decode cX8_readLine 83 = .ok (.aload_n 0, 1) := by decide +kernel
theorem dX8_readLine_84 : decode cX8_readLine 84 = .ok (.invokevirtual 217, 3) := by decide +kernel
theorem dX8_readLine_87 : decode cX8_readLine 87 = .ok (.goto 15, 3) := by decide +kernel
theorem dX8_readLine_90 : decode cX8_readLine 90 = .ok (.aload_n 0, 1) := by decide +kernel
theorem dX8_readLine_91 : decode cX8_readLine 91 = .ok (.invokevirtual 220, 3) := by decide +kernel
theorem dX8_readLine_94 : decode cX8_readLine 94 = .ok (.goto 8, 3) := by decide +kernel
theorem dX8_readLine_97 : decode cX8_readLine 97 = .ok (.aload_n 0, 1) := by decide +kernel
theorem dX8_readLine_98 : decode cX8_readLine 98 = .ok (.iconst 1, 1) := by decide +kernel
theorem dX8_readLine_99 : decode cX8_readLine 99 = .ok (.invokevirtual 168, 3) := by decide +kernel
theorem dX8_readLine_102 : decode cX8_readLine 102 = .ok (.return_, 1) := by decide +kernel
theorem dX8_readText_0 : decode cX8_readText 0 = .ok (.iconst 0, 1) := by decide +kernel
theorem dX8_readText_1 : decode cX8_readText 1 = .ok (.istore_n 1, 1) := by decide +kernel
theorem dX8_readText_2 : decode cX8_readText 2 = .ok (.iload_n 1, 1) := by decide +kernel
theorem dX8_readText_3 : decode cX8_readText 3 = .ok (.sipush 188, 3) := by decide +kernel
theorem dX8_readText_6 : decode cX8_readText 6 = .ok (.if_icmp .ge 16, 3) := by decide +kernel
theorem dX8_readText_9 : decode cX8_readText 9 = .ok (.aload_n 0, 1) := by decide +kernel
theorem dX8_readText_10 : decode cX8_readText 10 = .ok (.getfield 20, 3) := by decide +kernel
theorem dX8_readText_13 : decode cX8_readText 13 = .ok (.iload_n 1, 1) := by decide +kernel
theorem dX8_readText_14 : decode cX8_readText 14 = .ok (.iconst 0, 1) := by decide +kernel
theorem dX8_readText_15 : decode cX8_readText 15 = .ok (.iastore, 1) := by decide +kernel
theorem dX8_readText_16 : decode cX8_readText 16 = .ok (.iinc 1 1, 3) := by decide +kernel
theorem dX8_readText_19 : decode cX8_readText 19 = .ok (.goto (-17), 3) := by decide +kernel
theorem dX8_readText_22 : decode cX8_readText 22 = .ok (.iconst 0, 1) := by decide +kernel
theorem dX8_readText_23 : decode cX8_readText 23 = .ok (.istore_n 1, 1) := by decide +kernel
theorem dX8_readText_24 : decode cX8_readText 24 = .ok (.iload_n 1, 1) := by decide +kernel
theorem dX8_readText_25 : decode cX8_readText 25 = .ok (.bipush 12, 2) := by decide +kernel
theorem dX8_readText_27 : decode cX8_readText 27 = .ok (.if_icmp .ge 16, 3) := by decide +kernel
theorem dX8_readText_30 : decode cX8_readText 30 = .ok (.aload_n 0, 1) := by decide +kernel
theorem dX8_readText_31 : decode cX8_readText 31 = .ok (.getfield 37, 3) := by decide +kernel
theorem dX8_readText_34 : decode cX8_readText 34 = .ok (.iload_n 1, 1) := by decide +kernel
theorem dX8_readText_35 : decode cX8_readText 35 = .ok (.iconst 0, 1) := by decide +kernel
theorem dX8_readText_36 : decode cX8_readText 36 = .ok (.bastore, 1) := by decide +kernel
theorem dX8_readText_37 : decode cX8_readText 37 = .ok (.iinc 1 1, 3) := by decide +kernel
theorem dX8_readText_40 : decode cX8_readText 40 = .ok (.goto (-16), 3) := by decide +kernel
theorem dX8_readText_43 : decode cX8_readText 43 = .ok (.aload_n 0, 1) := by decide +kernel
theorem dX8_readText_44 : decode cX8_readText 44 = .ok (.getfield 33, 3) := by decide +kernel
theorem dX8_readText_47 : decode cX8_readText 47 = .ok (.iconst 0, 1) := by decide +kernel
theorem dX8_readText_48 : decode cX8_readText 48 = .ok (.iconst 0, 1) := by decide +kernel
theorem dX8_readText_49 : decode cX8_readText 49 = .ok (.bastore, 1) := by decide +kernel
theorem dX8_readText_50 : decode cX8_readText 50 = .ok (.aload_n 0, 1) := by decide +kernel
theorem dX8_readText_51 : decode cX8_readText 51 = .ok (.getfield 33, 3) := by decide +kernel
theorem dX8_readText_54 : decode cX8_readText 54 = .ok (.iconst 1, 1) := by decide +kernel
theorem dX8_readText_55 : decode cX8_readText 55 = .ok (.iconst 0, 1) := by decide +kernel
theorem dX8_readText_56 : decode cX8_readText 56 = .ok (.bastore, 1) := by decide +kernel
theorem dX8_readText_57 : decode cX8_readText 57 = .ok (.aload_n 0, 1) := by decide +kernel
theorem dX8_readText_58 : decode cX8_readText 58 = .ok (.invokevirtual 171, 3) := by decide +kernel
theorem dX8_readText_61 : decode cX8_readText 61 = .ok (.aload_n 0, 1) := by decide +kernel
theorem dX8_readText_62 : decode cX8_readText 62 = .ok (.invokevirtual 223, 3) := by decide +kernel
theorem dX8_readText_65 : decode cX8_readText 65 = .ok (.aload_n 0, 1) := by decide +kernel
theorem dX8_readText_66 : decode cX8_readText 66 = .ok (.getfield 119, 3) := by decide +kernel
theorem dX8_readText_69 : decode cX8_readText 69 = .ok (.ifCond .ne 22, 3) := by decide +kernel
theorem dX8_readText_72 : decode cX8_readText 72 = .ok (.aload_n 0, 1) := by decide +kernel
theorem dX8_readText_73 : decode cX8_readText 73 = .ok (.getfield 139, 3) := by decide +kernel
theorem dX8_readText_76 : decode cX8_readText 76 = .ok (.iconst 4, 1) := by decide +kernel
theorem dX8_readText_77 : decode cX8_readText 77 = .ok (.if_icmp .ne 14, 3) := by decide +kernel
theorem dX8_readText_80 : decode cX8_readText 80 = .ok (.aload_n 0, 1) := by decide +kernel
theorem dX8_readText_81 : decode cX8_readText 81 = .ok (.invokevirtual 171, 3) := by decide +kernel
theorem dX8_readText_84 : decode cX8_readText 84 = .ok (.aload_n 0, 1) := by decide +kernel
theorem dX8_readText_85 : decode cX8_readText 85 = .ok (.invokevirtual 223, 3) := by decide +kernel
theorem dX8_readText_88 : decode cX8_readText 88 = .ok (.goto (-23), 3) := by decide +kernel
theorem dX8_readText_91 : decode cX8_readText 91 = .ok (.aload_n 0, 1) := by decide +kernel
theorem dX8_readText_92 : decode cX8_readText 92 = .ok (.getfield 119, 3) := by decide +kernel
theorem dX8_readText_95 : decode cX8_readText 95 = .ok (.ifCond .ne 16, 3) := by decide +kernel
theorem dX8_readText_98 : decode cX8_readText 98 = .ok (.aload_n 0, 1) := by decide +kernel
theorem dX8_readText_99 : decode cX8_readText 99 = .ok (.getfield 139, 3) := by decide +kernel
theorem dX8_readText_102 : decode cX8_readText 102 = .ok (.iconst 1, 1) := by decide +kernel
theorem dX8_readText_103 : decode cX8_readText 103 = .ok (.if_icmp .eq 8, 3) := by decide +kernel
theorem dX8_readText_106 : decode cX8_readText 106 = .ok (.aload_n 0, 1) := by decide +kernel
theorem dX8_readText_107 : decode cX8_readText 107 = .ok (.iconst 1, 1) := by decide +kernel
theorem dX8_readText_108 : decode cX8_readText 108 = .ok (.invokevirtual 168, 3) := by decide +kernel
theorem dX8_readText_111 : decode cX8_readText 111 = .ok (.iconst 0, 1) := by decide +kernel
theorem dX8_readText_112 : decode cX8_readText 112 = .ok (.istore_n 1, 1) := by decide +kernel
theorem dX8_readText_113 : decode cX8_readText 113 = .ok (.iload_n 1, 1) := by decide +kernel
theorem dX8_readText_114 : decode cX8_readText 114 = .ok (.iconst 2, 1) := by decide +kernel
theorem dX8_readText_115 : decode cX8_readText 115 = .ok (.if_icmp .ge 34, 3) := by decide +kernel
theorem dX8_readText_118 : decode cX8_readText 118 = .ok (.aload_n 0, 1) := by decide +kernel
theorem dX8_readText_119 : decode cX8_readText 119 = .ok (.getfield 33, 3) := by decide +kernel
theorem dX8_readText_122 : decode cX8_readText 122 = .ok (.iload_n 1, 1) := by decide +kernel
theorem dX8_readText_123 : decode cX8_readText 123 = .ok (.baload, 1) := by decide +kernel
theorem dX8_readText_124 : decode cX8_readText 124 = .ok (.ifCond .eq 14, 3) := by decide +kernel
theorem dX8_readText_127 : decode cX8_readText 127 = .ok (.aload_n 0, 1) := by decide +kernel
theorem dX8_readText_128 : decode cX8_readText 128 = .ok (.getfield 20, 3) := by decide +kernel
theorem dX8_readText_131 : decode cX8_readText 131 = .ok (.iconst 4, 1) := by decide +kernel
theorem dX8_readText_132 : decode cX8_readText 132 = .ok (.iload_n 1, 1) := by decide +kernel
theorem dX8_readText_133 : decode cX8_readText 133 = .ok (.iadd, 1) := by decide +kernel
theorem dX8_readText_134 : decode cX8_readText 134 = .ok (.iaload, 1) := by decide +kernel
theorem dX8_readText_135 : decode cX8_readText 135 = .ok (.ifCond .ne 8, 3) := by decide +kernel
theorem dX8_readText_138 : decode cX8_readText 138 = .ok (.aload_n 0, 1) := by decide +kernel
theorem dX8_readText_139 : decode cX8_readText 139 = .ok (.iconst 5, 1) := by decide +kernel
theorem dX8_readText_140 : decode cX8_readText 140 = .ok (.invokevirtual 168, 3) := by decide +kernel
theorem dX8_readText_143 : decode cX8_readText 143 = .ok (.iinc 1 1, 3) := by decide +kernel
theorem dX8_readText_146 : decode cX8_readText 146 = .ok (.goto (-33), 3) := by decide +kernel
theorem dX8_readText_149 : decode cX8_readText 149 = .ok (.aload_n 0, 1) := by decide +kernel
theorem dX8_readText_150 : decode cX8_readText 150 = .ok (.getfield 20, 3) := by decide +kernel
theorem dX8_readText_153 : decode cX8_readText 153 = .ok (.bipush 36, 2) := by decide +kernel
theorem dX8_readText_155 : decode cX8_readText 155 = .ok (.iaload, 1) := by decide +kernel
theorem dX8_readText_156 : decode cX8_readText 156 = .ok (.ifCond .eq 13, 3) := by decide +kernel
theorem dX8_readText_159 : decode cX8_readText 159 = .ok (.aload_n 0, 1) := by decide +kernel
theorem dX8_readText_160 : decode cX8_readText 160 = .ok (.getfield 20, 3) := by decide +kernel
theorem dX8_readText_163 : decode cX8_readText 163 = .ok (.bipush 61, 2) := by decide +kernel
theorem dX8_readText_165 : decode cX8_readText 165 = .ok (.iaload, 1) := by decide +kernel
theorem dX8_readText_166 : decode cX8_readText 166 = .ok (.ifCond .ne 8, 3) := by decide +kernel
theorem dX8_readText_169 : decode cX8_readText 169 = .ok (.aload_n 0, 1) := by decide +kernel
theorem dX8_readText_170 : decode cX8_readText 170 = .ok (.iconst 5, 1) := by decide +kernel
theorem dX8_readText_171 : decode cX8_readText 171 = .ok (.invokevirtual 168, 3) := by decide +kernel
theorem dX8_readText_174 : decode cX8_readText 174 = .ok (.return_, 1) := by decide +kernel
theorem dX8_load_0 : decode cX8_load 0 = .ok (.aload_n 0, 1) := by decide +kernel
theorem dX8_load_1 : decode cX8_load 1 = .ok (.iconst 0, 1) := by decide +kernel
theorem dX8_load_2 : decode cX8_load 2 = .ok (.putfield 103, 3) := by decide +kernel
theorem dX8_load_5 : decode cX8_load 5 = .ok (.iload_n 1, 1) := by decide +kernel
theorem dX8_load_6 : decode cX8_load 6 = .ok (.iconst 0, 1) := by decide +kernel
theorem dX8_load_7 : decode cX8_load 7 = .ok (.aload_n 0, 1) := by decide +kernel
theorem dX8_load_8 : decode cX8_load 8 = .ok (.getfield 112, 3) := by decide +kernel
theorem dX8_load_11 : decode cX8_load 11 = .ok (.invokestatic 142, 3) := by decide +kernel
theorem dX8_load_14 : decode cX8_load 14 = .ok (.ifCond .ne 9, 3) := by decide +kernel
theorem dX8_load_17 : decode cX8_load 17 = .ok (.aload_n 0, 1) := by decide +kernel
theorem dX8_load_18 : decode cX8_load 18 = .ok (.iconst 2, 1) := by decide +kernel
theorem dX8_load_19 : decode cX8_load 19 = .ok (.invokevirtual 226, 3) := by decide +kernel
theorem dX8_load_22 : decode cX8_load 22 = .ok (.ireturn, 1) := by decide +kernel
theorem dX8_load_23 : decode cX8_load 23 = .ok (.aload_n 0, 1) := by decide +kernel
theorem dX8_load_24 : decode cX8_load 24 = .ok (.iload_n 1, 1) := by decide +kernel
theorem dX8_load_25 : decode cX8_load 25 = .ok (.putfield 122, 3) := by decide +kernel
theorem dX8_load_28 : decode cX8_load 28 = .ok (.aload_n 0, 1) := by decide +kernel
theorem dX8_load_29 : decode cX8_load 29 = .ok (.iconst 0, 1) := by decide +kernel
theorem dX8_load_30 : decode cX8_load 30 = .ok (.putfield 112, 3) := by decide +kernel
theorem dX8_load_33 : decode cX8_load 33 = .ok (.aload_n 0, 1) := by decide +kernel
theorem dX8_load_34 : decode cX8_load 34 = .ok (.iconst 0, 1) := by decide +kernel
theorem dX8_load_35 : decode cX8_load 35 = .ok (.putfield 128, 3) := by decide +kernel
theorem dX8_load_38 : decode cX8_load 38 = .ok (.aload_n 0, 1) := by decide +kernel
theorem dX8_load_39 : decode cX8_load 39 = .ok (.iconst 0, 1) := by decide +kernel
theorem dX8_load_40 : decode cX8_load 40 = .ok (.putfield 119, 3) := by decide +kernel
theorem dX8_load_43 : decode cX8_load 43 = .ok (.aload_n 0, 1) := by decide +kernel
theorem dX8_load_44 : decode cX8_load 44 = .ok (.iconst (-1), 1) := by decide +kernel
theorem dX8_load_45 : decode cX8_load 45 = .ok (.putfield 13, 3) := by decide +kernel
theorem dX8_load_48 : decode cX8_load 48 = .ok (.aload_n 0, 1) := by decide +kernel
theorem dX8_load_49 : decode cX8_load 49 = .ok (.invokevirtual 229, 3) := by decide +kernel
theorem dX8_load_52 : decode cX8_load 52 = .ok (.aload_n 0, 1) := by decide +kernel
theorem dX8_load_53 : decode cX8_load 53 = .ok (.getfield 119, 3) := by decide +kernel
theorem dX8_load_56 : decode cX8_load 56 = .ok (.ifCond .le 9, 3) := by decide +kernel
theorem dX8_load_59 : decode cX8_load 59 = .ok (.aload_n 0, 1) := by decide +kernel
theorem dX8_load_60 : decode cX8_load 60 = .ok (.iconst 4, 1) := by decide +kernel
theorem dX8_load_61 : decode cX8_load 61 = .ok (.invokevirtual 226, 3) := by decide +kernel
theorem dX8_load_64 : decode cX8_load 64 = .ok (.ireturn, 1) := by decide +kernel
theorem dX8_load_65 : decode cX8_load 65 = .ok (.aload_n 0, 1) := by decide +kernel
theorem dX8_load_66 : decode cX8_load 66 = .ok (.getfield 20, 3) := by decide +kernel
theorem dX8_load_69 : decode cX8_load 69 = .ok (.iconst 0, 1) := by decide +kernel
theorem dX8_load_70 : decode cX8_load 70 = .ok (.aload_n 0, 1) := by decide +kernel
theorem dX8_load_71 : decode cX8_load 71 = .ok (.getfield 17, 3) := by decide +kernel
theorem dX8_load_74 : decode cX8_load 74 = .ok (.iconst 0, 1) := by decide +kernel
theorem dX8_load_75 : decode cX8_load 75 = .ok (.invokestatic 232, 3) := by decide +kernel
theorem dX8_load_78 : decode cX8_load 78 = .ok (.aload_n 0, 1) := by decide +kernel
theorem dX8_load_79 : decode cX8_load 79 = .ok (.iconst 1, 1) := by decide +kernel
theorem dX8_load_80 : decode cX8_load 80 = .ok (.putfield 236, 3) := by decide +kernel
theorem dX8_load_83 : decode cX8_load 83 = .ok (.aload_n 0, 1) := by decide +kernel
theorem dX8_load_84 : decode cX8_load 84 = .ok (.iconst 0, 1) := by decide +kernel
theorem dX8_load_85 : decode cX8_load 85 = .ok (.putfield 240, 3) := by decide +kernel
theorem dX8_load_88 : decode cX8_load 88 = .ok (.aload_n 0, 1) := by decide +kernel
theorem dX8_load_89 : decode cX8_load 89 = .ok (.iconst 0, 1) := by decide +kernel
theorem dX8_load_90 : decode cX8_load 90 = .ok (.putfield 243, 3) := by decide +kernel
theorem dX8_load_93 : decode cX8_load 93 = .ok (.aload_n 0, 1) := by decide +kernel
theorem dX8_load_94 : decode cX8_load 94 = .ok (.aload_n 0, 1) := by decide +kernel
theorem dX8_load_95 : decode cX8_load 95 = .ok (.getfield 17, 3) := by decide +kernel
theorem dX8_load_98 : decode cX8_load 98 = .ok (.bipush 87, 2) := by decide +kernel
theorem dX8_load_100 : decode cX8_load 100 = .ok (.iaload, 1) := by decide +kernel
theorem dX8_load_101 : decode cX8_load 101 = .ok (.invokevirtual 246, 3) := by decide +kernel
theorem dX8_load_104 : decode cX8_load 104 = .ok (.ireturn, 1) := by decide +kernel
theorem dX8_copy_0 : decode cX8_copy 0 = .ok (.iconst 0, 1) := by decide +kernel
theorem dX8_copy_1 : decode cX8_copy 1 = .ok (.istore 4, 2) := by decide +kernel
theorem dX8_copy_3 : decode cX8_copy 3 = .ok (.iload 4, 2) := by decide +kernel
theorem dX8_copy_5 : decode cX8_copy 5 = .ok (.sipush 188, 3) := by decide +kernel
theorem dX8_copy_8 : decode cX8_copy 8 = .ok (.if_icmp .ge 21, 3) := by decide +kernel
theorem dX8_copy_11 : decode cX8_copy 11 = .ok (.aload_n 2, 1) := by decide +kernel
theorem dX8_copy_12 : decode cX8_copy 12 = .ok (.iload_n 3, 1) := by decide +kernel
theorem dX8_copy_13 : decode cX8_copy 13 = .ok (.iload 4, 2) := by decide +kernel
theorem dX8_copy_15 : decode cX8_copy 15 = .ok (.iadd, 1) := by decide +kernel
theorem dX8_copy_16 : decode cX8_copy 16 = .ok (.aload_n 0, 1) := by decide +kernel
theorem dX8_copy_17 : decode cX8_copy 17 = .ok (.iload_n 1, 1) := by decide +kernel
theorem dX8_copy_18 : decode cX8_copy 18 = .ok (.iload 4, 2) := by decide +kernel
theorem dX8_copy_20 : decode cX8_copy 20 = .ok (.iadd, 1) := by decide +kernel
theorem dX8_copy_21 : decode cX8_copy 21 = .ok (.iaload, 1) := by decide +kernel
theorem dX8_copy_22 : decode cX8_copy 22 = .ok (.iastore, 1) := by decide +kernel
theorem dX8_copy_23 : decode cX8_copy 23 = .ok (.iinc 4 1, 3) := by decide +kernel
theorem dX8_copy_26 : decode cX8_copy 26 = .ok (.goto (-23), 3) := by decide +kernel
theorem dX8_copy_29 : decode cX8_copy 29 = .ok (.return_, 1) := by decide +kernel
theorem dX8_remember_0 : decode cX8_remember 0 = .ok (.aload_n 0, 1) := by decide +kernel
theorem dX8_remember_1 : decode cX8_remember 1 = .ok (.getfield 243, 3) := by decide +kernel
theorem dX8_remember_4 : decode cX8_remember 4 = .ok (.bipush 10, 2) := by decide +kernel
theorem dX8_remember_6 : decode cX8_remember 6 = .ok (.if_icmp .ne 48, 3) := by decide +kernel
theorem dX8_remember_9 : decode cX8_remember 9 = .ok (.sipush 188, 3) := by decide +kernel
theorem dX8_remember_12 : decode cX8_remember 12 = .ok (.istore_n 1, 1) := by decide +kernel
theorem dX8_remember_13 : decode cX8_remember 13 = .ok (.iload_n 1, 1) := by decide +kernel
theorem dX8_remember_14 : decode cX8_remember 14 = .ok (.aload_n 0, 1) := by decide +kernel
theorem dX8_remember_15 : decode cX8_remember 15 = .ok (.getfield 26, 3) := by decide +kernel
theorem dX8_remember_18 : decode cX8_remember 18 = .ok (.arraylength, 1) := by decide +kernel
theorem dX8_remember_19 : decode cX8_remember 19 = .ok (.if_icmp .ge 25, 3) := by decide +kernel
theorem dX8_remember_22 : decode cX8_remember 22 = .ok (.aload_n 0, 1) := by decide +kernel
theorem dX8_remember_23 : decode cX8_remember 23 = .ok (.getfield 26, 3) := by decide +kernel
theorem dX8_remember_26 : decode cX8_remember 26 = .ok (.iload_n 1, 1) := by decide +kernel
theorem dX8_remember_27 : decode cX8_remember 27 = .ok (.sipush 188, 3) := by decide +kernel
theorem dX8_remember_30 : decode cX8_remember 30 = .ok (.isub, 1) := by decide +kernel
theorem dX8_remember_31 : decode cX8_remember 31 = .ok (.aload_n 0, 1) := by decide +kernel
theorem dX8_remember_32 : decode cX8_remember 32 = .ok (.getfield 26, 3) := by decide +kernel
theorem dX8_remember_35 : decode cX8_remember 35 = .ok (.iload_n 1, 1) := by decide +kernel
theorem dX8_remember_36 : decode cX8_remember 36 = .ok (.iaload, 1) := by decide +kernel
theorem dX8_remember_37 : decode cX8_remember 37 = .ok (.iastore, 1) := by decide +kernel
theorem dX8_remember_38 : decode cX8_remember 38 = .ok (.iinc 1 1, 3) := by decide +kernel
theorem dX8_remember_41 : decode cX8_remember 41 = .ok (.goto (-28), 3) := by decide +kernel
theorem dX8_remember_44 : decode cX8_remember 44 = .ok (.aload_n 0, 1) := by decide +kernel
theorem dX8_remember_45 : decode cX8_remember 45 = .ok (.dup, 1) := by decide +kernel
theorem dX8_remember_46 : decode cX8_remember 46 = .ok (.getfield 243, 3) := by decide +kernel
theorem dX8_remember_49 : decode cX8_remember 49 = .ok (.iconst 1, 1) := by decide +kernel
theorem dX8_remember_50 : decode cX8_remember 50 = .ok (.isub, 1) := by decide +kernel
theorem dX8_remember_51 : decode cX8_remember 51 = .ok (.putfield 243, 3) := by decide +kernel
theorem dX8_remember_54 : decode cX8_remember 54 = .ok (.aload_n 0, 1) := by decide +kernel
theorem dX8_remember_55 : decode cX8_remember 55 = .ok (.getfield 17, 3) := by decide +kernel
theorem dX8_remember_58 : decode cX8_remember 58 = .ok (.iconst 0, 1) := by decide +kernel
theorem dX8_remember_59 : decode cX8_remember 59 = .ok (.aload_n 0, 1) := by decide +kernel
theorem dX8_remember_60 : decode cX8_remember 60 = .ok (.getfield 26, 3) := by decide +kernel
theorem dX8_remember_63 : decode cX8_remember 63 = .ok (.sipush 188, 3) := by decide +kernel
theorem dX8_remember_66 : decode cX8_remember 66 = .ok (.aload_n 0, 1) := by decide +kernel
theorem dX8_remember_67 : decode cX8_remember 67 = .ok (.getfield 243, 3) := by decide +kernel
theorem dX8_remember_70 : decode cX8_remember 70 = .ok (.imul, 1) := by decide +kernel
theorem dX8_remember_71 : decode cX8_remember 71 = .ok (.invokestatic 232, 3) := by decide +kernel
theorem dX8_remember_74 : decode cX8_remember 74 = .ok (.aload_n 0, 1) := by decide +kernel
theorem dX8_remember_75 : decode cX8_remember 75 = .ok (.dup, 1) := by decide +kernel
theorem dX8_remember_76 : decode cX8_remember 76 = .ok (.getfield 243, 3) := by decide +kernel
theorem dX8_remember_79 : decode cX8_remember 79 = .ok (.iconst 1, 1) := by decide +kernel
theorem dX8_remember_80 : decode cX8_remember 80 = .ok (.iadd, 1) := by decide +kernel
theorem dX8_remember_81 : decode cX8_remember 81 = .ok (.putfield 243, 3) := by decide +kernel
theorem dX8_remember_84 : decode cX8_remember 84 = .ok (.return_, 1) := by decide +kernel
theorem dX8_isTrainNow_0 : decode cX8_isTrainNow 0 = .ok (.aload_n 0, 1) := by decide +kernel
theorem dX8_isTrainNow_1 : decode cX8_isTrainNow 1 = .ok (.getfield 236, 3) := by decide +kernel
theorem dX8_isTrainNow_4 : decode cX8_isTrainNow 4 = .ok (.ifCond .eq 16, 3) := by decide +kernel
theorem dX8_isTrainNow_7 : decode cX8_isTrainNow 7 = .ok (.iload_n 1, 1) := by decide +kernel
theorem dX8_isTrainNow_8 : decode cX8_isTrainNow 8 = .ok (.iconst 0, 1) := by decide +kernel
theorem dX8_isTrainNow_9 : decode cX8_isTrainNow 9 = .ok (.iconst 1, 1) := by decide +kernel
theorem dX8_isTrainNow_10 : decode cX8_isTrainNow 10 = .ok (.invokestatic 142, 3) := by decide +kernel
theorem dX8_isTrainNow_13 : decode cX8_isTrainNow 13 = .ok (.ifCond .eq 7, 3) := by decide +kernel
theorem dX8_isTrainNow_16 : decode cX8_isTrainNow 16 = .ok (.iconst 1, 1) := by decide +kernel
theorem dX8_isTrainNow_17 : decode cX8_isTrainNow 17 = .ok (.goto 4, 3) := by decide +kernel
theorem dX8_isTrainNow_20 : decode cX8_isTrainNow 20 = .ok (.iconst 0, 1) := by decide +kernel
theorem dX8_isTrainNow_21 : decode cX8_isTrainNow 21 = .ok (.ireturn, 1) := by decide +kernel
theorem dX8_isCar_0 : decode cX8_isCar 0 = .ok (.aload_n 0, 1) := by decide +kernel
theorem dX8_isCar_1 : decode cX8_isCar 1 = .ok (.iload_n 1, 1) := by decide +kernel
theorem dX8_isCar_2 : decode cX8_isCar 2 = .ok (.invokevirtual 249, 3) := by decide +kernel
theorem dX8_isCar_5 : decode cX8_isCar 5 = .ok (.ifCond .eq 25, 3) := by decide +kernel
theorem dX8_isCar_8 : decode cX8_isCar 8 = .ok (.iload_n 2, 1) := by decide +kernel
theorem dX8_isCar_9 : decode cX8_isCar 9 = .ok (.iconst 0, 1) := by decide +kernel
theorem dX8_isCar_10 : decode cX8_isCar 10 = .ok (.aload_n 0, 1) := by decide +kernel
theorem dX8_isCar_11 : decode cX8_isCar 11 = .ok (.getfield 17, 3) := by decide +kernel
theorem dX8_isCar_14 : decode cX8_isCar 14 = .ok (.iconst 4, 1) := by decide +kernel
theorem dX8_isCar_15 : decode cX8_isCar 15 = .ok (.iload_n 1, 1) := by decide +kernel
theorem dX8_isCar_16 : decode cX8_isCar 16 = .ok (.iadd, 1) := by decide +kernel
theorem dX8_isCar_17 : decode cX8_isCar 17 = .ok (.iaload, 1) := by decide +kernel
theorem dX8_isCar_18 : decode cX8_isCar 18 = .ok (.iconst 1, 1) := by decide +kernel
theorem dX8_isCar_19 : decode cX8_isCar 19 = .ok (.isub, 1) := by decide +kernel
theorem dX8_isCar_20 : decode cX8_isCar 20 = .ok (.invokestatic 142, 3) := by decide +kernel
theorem dX8_isCar_23 : decode cX8_isCar 23 = .ok (.ifCond .eq 7, 3) := by decide +kernel
theorem dX8_isCar_26 : decode cX8_isCar 26 = .ok (.iconst 1, 1) := by decide +kernel
theorem dX8_isCar_27 : decode cX8_isCar 27 = .ok (.goto 4, 3) := by decide +kernel
theorem dX8_isCar_30 : decode cX8_isCar 30 = .ok (.iconst 0, 1) := by decide +kernel
theorem dX8_isCar_31 : decode cX8_isCar 31 = .ok (.ireturn, 1) := by decide +kernel
theorem dX8_isMeal_0 : decode cX8_isMeal 0 = .ok (.aload_n 0, 1) := by decide +kernel
theorem dX8_isMeal_1 : decode cX8_isMeal 1 = .ok (.getfield 236, 3) := by decide +kernel
theorem dX8_isMeal_4 : decode cX8_isMeal 4 = .ok (.ifCond .eq 24, 3) := by decide +kernel
theorem dX8_isMeal_7 : decode cX8_isMeal 7 = .ok (.iload_n 1, 1) := by decide +kernel
theorem dX8_isMeal_8 : decode cX8_isMeal 8 = .ok (.iconst 0, 1) := by decide +kernel
theorem dX8_isMeal_9 : decode cX8_isMeal 9 = .ok (.aload_n 0, 1) := by decide +kernel
theorem dX8_isMeal_10 : decode cX8_isMeal 10 = .ok (.getfield 17, 3) := by decide +kernel
theorem dX8_isMeal_13 : decode cX8_isMeal 13 = .ok (.bipush 36, 2) := by decide +kernel
theorem dX8_isMeal_15 : decode cX8_isMeal 15 = .ok (.iaload, 1) := by decide +kernel
theorem dX8_isMeal_16 : decode cX8_isMeal 16 = .ok (.iconst 1, 1) := by decide +kernel
theorem dX8_isMeal_17 : decode cX8_isMeal 17 = .ok (.isub, 1) := by decide +kernel
theorem dX8_isMeal_18 : decode cX8_isMeal 18 = .ok (.invokestatic 142, 3) := by decide +kernel
theorem dX8_isMeal_21 : decode cX8_isMeal 21 = .ok (.ifCond .eq 7, 3) := by decide +kernel
theorem dX8_isMeal_24 : decode cX8_isMeal 24 = .ok (.iconst 1, 1) := by decide +kernel
theorem dX8_isMeal_25 : decode cX8_isMeal 25 = .ok (.goto 4, 3) := by decide +kernel
theorem dX8_isMeal_28 : decode cX8_isMeal 28 = .ok (.iconst 0, 1) := by decide +kernel
theorem dX8_isMeal_29 : decode cX8_isMeal 29 = .ok (.ireturn, 1) := by decide +kernel
theorem dX8_isKitchen_0 : decode cX8_isKitchen 0 = .ok (.aload_n 0, 1) := by decide +kernel
theorem dX8_isKitchen_1 : decode cX8_isKitchen 1 = .ok (.getfield 236, 3) := by decide +kernel
theorem dX8_isKitchen_4 : decode cX8_isKitchen 4 = .ok (.ifCond .eq 24, 3) := by decide +kernel
theorem dX8_isKitchen_7 : decode cX8_isKitchen 7 = .ok (.iload_n 1, 1) := by decide +kernel
theorem dX8_isKitchen_8 : decode cX8_isKitchen 8 = .ok (.iconst 0, 1) := by decide +kernel
theorem dX8_isKitchen_9 : decode cX8_isKitchen 9 = .ok (.aload_n 0, 1) := by decide +kernel
theorem dX8_isKitchen_10 : decode cX8_isKitchen 10 = .ok (.getfield 17, 3) := by decide +kernel
theorem dX8_isKitchen_13 : decode cX8_isKitchen 13 = .ok (.bipush 45, 2) := by decide +kernel
theorem dX8_isKitchen_15 : decode cX8_isKitchen 15 = .ok (.iaload, 1) := by decide +kernel
theorem dX8_isKitchen_16 : decode cX8_isKitchen 16 = .ok (.iconst 1, 1) := by decide +kernel
theorem dX8_isKitchen_17 : decode cX8_isKitchen 17 = .ok (.isub, 1) := by decide +kernel
theorem dX8_isKitchen_18 : decode cX8_isKitchen 18 = .ok (.invokestatic 142, 3) := by decide +kernel
theorem dX8_isKitchen_21 : decode cX8_isKitchen 21 = .ok (.ifCond .eq 7, 3) := by decide +kernel
theorem dX8_isKitchen_24 : decode cX8_isKitchen 24 = .ok (.iconst 1, 1) := by decide +kernel
theorem dX8_isKitchen_25 : decode cX8_isKitchen 25 = .ok (.goto 4, 3) := by decide +kernel
theorem dX8_isKitchen_28 : decode cX8_isKitchen 28 = .ok (.iconst 0, 1) := by decide +kernel
theorem dX8_isKitchen_29 : decode cX8_isKitchen 29 = .ok (.ireturn, 1) := by decide +kernel
theorem dX8_isTrolley_0 : decode cX8_isTrolley 0 = .ok (.aload_n 0, 1) := by decide +kernel
theorem dX8_isTrolley_1 : decode cX8_isTrolley 1 = .ok (.getfield 236, 3) := by decide +kernel
theorem dX8_isTrolley_4 : decode cX8_isTrolley 4 = .ok (.ifCond .eq 24, 3) := by decide +kernel
theorem dX8_isTrolley_7 : decode cX8_isTrolley 7 = .ok (.iload_n 1, 1) := by decide +kernel
theorem dX8_isTrolley_8 : decode cX8_isTrolley 8 = .ok (.iconst 0, 1) := by decide +kernel
theorem dX8_isTrolley_9 : decode cX8_isTrolley 9 = .ok (.aload_n 0, 1) := by decide +kernel
theorem dX8_isTrolley_10 : decode cX8_isTrolley 10 = .ok (.getfield 17, 3) := by decide +kernel
theorem dX8_isTrolley_13 : decode cX8_isTrolley 13 = .ok (.bipush 61, 2) := by decide +kernel
theorem dX8_isTrolley_15 : decode cX8_isTrolley 15 = .ok (.iaload, 1) := by decide +kernel
theorem dX8_isTrolley_16 : decode cX8_isTrolley 16 = .ok (.iconst 1, 1) := by decide +kernel
theorem dX8_isTrolley_17 : decode cX8_isTrolley 17 = .ok (.isub, 1) := by decide +kernel
theorem dX8_isTrolley_18 : decode cX8_isTrolley 18 = .ok (.invokestatic 142, 3) := by decide +kernel
theorem dX8_isTrolley_21 : decode cX8_isTrolley 21 = .ok (.ifCond .eq 7, 3) := by decide +kernel
theorem dX8_isTrolley_24 : decode cX8_isTrolley 24 = .ok (.iconst 1, 1) := by decide +kernel
theorem dX8_isTrolley_25 : decode cX8_isTrolley 25 = .ok (.goto 4, 3) := by decide +kernel
theorem dX8_isTrolley_28 : decode cX8_isTrolley 28 = .ok (.iconst 0, 1) := by decide +kernel
theorem dX8_isTrolley_29 : decode cX8_isTrolley 29 = .ok (.ireturn, 1) := by decide +kernel
theorem dX8_isJob_0 : decode cX8_isJob 0 = .ok (.aload_n 0, 1) := by decide +kernel
theorem dX8_isJob_1 : decode cX8_isJob 1 = .ok (.getfield 236, 3) := by decide +kernel
theorem dX8_isJob_4 : decode cX8_isJob 4 = .ok (.ifCond .eq 24, 3) := by decide +kernel
theorem dX8_isJob_7 : decode cX8_isJob 7 = .ok (.iload_n 1, 1) := by decide +kernel
theorem dX8_isJob_8 : decode cX8_isJob 8 = .ok (.iconst 0, 1) := by decide +kernel
theorem dX8_isJob_9 : decode cX8_isJob 9 = .ok (.aload_n 0, 1) := by decide +kernel
theorem dX8_isJob_10 : decode cX8_isJob 10 = .ok (.getfield 17, 3) := by decide +kernel
theorem dX8_isJob_13 : decode cX8_isJob 13 = .ok (.bipush 87, 2) := by decide +kernel
theorem dX8_isJob_15 : decode cX8_isJob 15 = .ok (.iaload, 1) := by decide +kernel
theorem dX8_isJob_16 : decode cX8_isJob 16 = .ok (.iconst 1, 1) := by decide +kernel
theorem dX8_isJob_17 : decode cX8_isJob 17 = .ok (.isub, 1) := by decide +kernel
theorem dX8_isJob_18 : decode cX8_isJob 18 = .ok (.invokestatic 142, 3) := by decide +kernel
theorem dX8_isJob_21 : decode cX8_isJob 21 = .ok (.ifCond .eq 7, 3) := by decide +kernel
theorem dX8_isJob_24 : decode cX8_isJob 24 = .ok (.iconst 1, 1) := by decide +kernel
theorem dX8_isJob_25 : decode cX8_isJob 25 = .ok (.goto 4, 3) := by decide +kernel
theorem dX8_isJob_28 : decode cX8_isJob 28 = .ok (.iconst 0, 1) := by decide +kernel
theorem dX8_isJob_29 : decode cX8_isJob 29 = .ok (.ireturn, 1) := by decide +kernel
theorem dX8_tell_0 : decode cX8_tell 0 = .ok (.aload_n 0, 1) := by decide +kernel
theorem dX8_tell_1 : decode cX8_tell 1 = .ok (.iconst 0, 1) := by decide +kernel
theorem dX8_tell_2 : decode cX8_tell 2 = .ok (.putfield 103, 3) := by decide +kernel
theorem dX8_tell_5 : decode cX8_tell 5 = .ok (.iload_n 1, 1) := by decide +kernel
theorem dX8_tell_6 : decode cX8_tell 6 = .ok (.ifCond .eq 16, 3) := by decide +kernel
theorem dX8_tell_9 : decode cX8_tell 9 = .ok (.aload_n 0, 1) := by decide +kernel
theorem dX8_tell_10 : decode cX8_tell 10 = .ok (.aload_n 0, 1) := by decide +kernel
theorem dX8_tell_11 : decode cX8_tell 11 = .ok (.getfield 17, 3) := by decide +kernel
theorem dX8_tell_14 : decode cX8_tell 14 = .ok (.iload_n 2, 1) := by decide +kernel
theorem dX8_tell_15 : decode cX8_tell 15 = .ok (.iaload, 1) := by decide +kernel
theorem dX8_tell_16 : decode cX8_tell 16 = .ok (.invokevirtual 246, 3) := by decide +kernel
theorem dX8_tell_19 : decode cX8_tell 19 = .ok (.goto 8, 3) := by decide +kernel
theorem dX8_tell_22 : decode cX8_tell 22 = .ok (.aload_n 0, 1) := by decide +kernel
theorem dX8_tell_23 : decode cX8_tell 23 = .ok (.iconst 1, 1) := by decide +kernel
theorem dX8_tell_24 : decode cX8_tell 24 = .ok (.invokevirtual 226, 3) := by decide +kernel
theorem dX8_tell_27 : decode cX8_tell 27 = .ok (.ireturn, 1) := by decide +kernel
theorem dX8_carCount_0 : decode cX8_carCount 0 = .ok (.aload_n 0, 1) := by decide +kernel
theorem dX8_carCount_1 : decode cX8_carCount 1 = .ok (.aload_n 0, 1) := by decide +kernel
theorem dX8_carCount_2 : decode cX8_carCount 2 = .ok (.iload_n 1, 1) := by decide +kernel
theorem dX8_carCount_3 : decode cX8_carCount 3 = .ok (.invokevirtual 249, 3) := by decide +kernel
theorem dX8_carCount_6 : decode cX8_carCount 6 = .ok (.aload_n 0, 1) := by decide +kernel
theorem dX8_carCount_7 : decode cX8_carCount 7 = .ok (.iload_n 1, 1) := by decide +kernel
theorem dX8_carCount_8 : decode cX8_carCount 8 = .ok (.invokevirtual 249, 3) := by decide +kernel
theorem dX8_carCount_11 : decode cX8_carCount 11 = .ok (.ifCond .eq 9, 3) := by decide +kernel
theorem dX8_carCount_14 : decode cX8_carCount 14 = .ok (.iconst 4, 1) := by decide +kernel
theorem dX8_carCount_15 : decode cX8_carCount 15 = .ok (.iload_n 1, 1) := by decide +kernel
theorem dX8_carCount_16 : decode cX8_carCount 16 = .ok (.iadd, 1) := by decide +kernel
theorem dX8_carCount_17 : decode cX8_carCount 17 = .ok (.goto 4, 3) := by decide +kernel
theorem dX8_carCount_20 : decode cX8_carCount 20 = .ok (.iconst 0, 1) := by decide +kernel
theorem dX8_carCount_21 : decode cX8_carCount 21 = .ok (.invokevirtual 253, 3) := by decide +kernel
theorem dX8_carCount_24 : decode cX8_carCount 24 = .ok (.ireturn, 1) := by decide +kernel
theorem dX8_mealCount_0 : decode cX8_mealCount 0 = .ok (.aload_n 0, 1) := by decide +kernel
theorem dX8_mealCount_1 : decode cX8_mealCount 1 = .ok (.aload_n 0, 1) := by decide +kernel
theorem dX8_mealCount_2 : decode cX8_mealCount 2 = .ok (.getfield 236, 3) := by decide +kernel
theorem dX8_mealCount_5 : decode cX8_mealCount 5 = .ok (.bipush 36, 2) := by decide +kernel
theorem dX8_mealCount_7 : decode cX8_mealCount 7 = .ok (.invokevirtual 253, 3) := by decide +kernel
theorem dX8_mealCount_10 : decode cX8_mealCount 10 = .ok (.ireturn, 1) := by decide +kernel
theorem dX8_trolleyCount_0 : decode cX8_trolleyCount 0 = .ok (.aload_n 0, 1) := by decide +kernel
theorem dX8_trolleyCount_1 : decode cX8_trolleyCount 1 = .ok (.aload_n 0, 1) := by decide +kernel
theorem dX8_trolleyCount_2 : decode cX8_trolleyCount 2 = .ok (.getfield 236, 3) := by decide +kernel
theorem dX8_trolleyCount_5 : decode cX8_trolleyCount 5 = .ok (.bipush 61, 2) := by decide +kernel
theorem dX8_trolleyCount_7 : decode cX8_trolleyCount 7 = .ok (.invokevirtual 253, 3) := by decide +kernel
theorem dX8_trolleyCount_10 : decode cX8_trolleyCount 10 = .ok (.ireturn, 1) := by decide +kernel
theorem dX8_jobCount_0 : decode cX8_jobCount 0 = .ok (.aload_n 0, 1) := by decide +kernel
theorem dX8_jobCount_1 : decode cX8_jobCount 1 = .ok (.aload_n 0, 1) := by decide +kernel
theorem dX8_jobCount_2 : decode cX8_jobCount 2 = .ok (.getfield 236, 3) := by decide +kernel
theorem dX8_jobCount_5 : decode cX8_jobCount 5 = .ok (.bipush 87, 2) := by decide +kernel
theorem dX8_jobCount_7 : decode cX8_jobCount 7 = .ok (.invokevirtual 253, 3) := by decide +kernel
theorem dX8_jobCount_10 : decode cX8_jobCount 10 = .ok (.ireturn, 1) := by decide +kernel
theorem dX8_departure_0 : decode cX8_departure 0 = .ok (.aload_n 0, 1) := by decide +kernel
theorem dX8_departure_1 : decode cX8_departure 1 = .ok (.aload_n 0, 1) := by decide +kernel
theorem dX8_departure_2 : decode cX8_departure 2 = .ok (.iload_n 1, 1) := by decide +kernel
theorem dX8_departure_3 : decode cX8_departure 3 = .ok (.invokevirtual 249, 3) := by decide +kernel
theorem dX8_departure_6 : decode cX8_departure 6 = .ok (.aload_n 0, 1) := by decide +kernel
theorem dX8_departure_7 : decode cX8_departure 7 = .ok (.iload_n 1, 1) := by decide +kernel
theorem dX8_departure_8 : decode cX8_departure 8 = .ok (.invokevirtual 249, 3) := by decide +kernel
theorem dX8_departure_11 : decode cX8_departure 11 = .ok (.ifCond .eq 9, 3) := by decide +kernel
theorem dX8_departure_14 : decode cX8_departure 14 = .ok (.iconst 2, 1) := by decide +kernel
theorem dX8_departure_15 : decode cX8_departure 15 = .ok (.iload_n 1, 1) := by decide +kernel
theorem dX8_departure_16 : decode cX8_departure 16 = .ok (.iadd, 1) := by decide +kernel
theorem dX8_departure_17 : decode cX8_departure 17 = .ok (.goto 4, 3) := by decide +kernel
theorem dX8_departure_20 : decode cX8_departure 20 = .ok (.iconst 0, 1) := by decide +kernel
theorem dX8_departure_21 : decode cX8_departure 21 = .ok (.invokevirtual 253, 3) := by decide +kernel
theorem dX8_departure_24 : decode cX8_departure 24 = .ok (.ireturn, 1) := by decide +kernel
theorem dX8_stock_0 : decode cX8_stock 0 = .ok (.aload_n 0, 1) := by decide +kernel
theorem dX8_stock_1 : decode cX8_stock 1 = .ok (.iload_n 1, 1) := by decide +kernel
theorem dX8_stock_2 : decode cX8_stock 2 = .ok (.invokevirtual 257, 3) := by decide +kernel
theorem dX8_stock_5 : decode cX8_stock 5 = .ok (.ifCond .eq 15, 3) := by decide +kernel
theorem dX8_stock_8 : decode cX8_stock 8 = .ok (.aload_n 0, 1) := by decide +kernel
theorem dX8_stock_9 : decode cX8_stock 9 = .ok (.iload_n 2, 1) := by decide +kernel
theorem dX8_stock_10 : decode cX8_stock 10 = .ok (.invokevirtual 260, 3) := by decide +kernel
theorem dX8_stock_13 : decode cX8_stock 13 = .ok (.ifCond .eq 7, 3) := by decide +kernel
theorem dX8_stock_16 : decode cX8_stock 16 = .ok (.iconst 1, 1) := by decide +kernel
theorem dX8_stock_17 : decode cX8_stock 17 = .ok (.goto 4, 3) := by decide +kernel
theorem dX8_stock_20 : decode cX8_stock 20 = .ok (.iconst 0, 1) := by decide +kernel
theorem dX8_stock_21 : decode cX8_stock 21 = .ok (.istore_n 3, 1) := by decide +kernel
theorem dX8_stock_22 : decode cX8_stock 22 = .ok (.aload_n 0, 1) := by decide +kernel
theorem dX8_stock_23 : decode cX8_stock 23 = .ok (.iload_n 3, 1) := by decide +kernel
theorem dX8_stock_24 : decode cX8_stock 24 = .ok (.iload_n 3, 1) := by decide +kernel
theorem dX8_stock_25 : decode cX8_stock 25 = .ok (.ifCond .eq 14, 3) := by decide +kernel
theorem dX8_stock_28 : decode cX8_stock 28 = .ok (.bipush 49, 2) := by decide +kernel
theorem dX8_stock_30 : decode cX8_stock 30 = .ok (.iconst 4, 1) := by decide +kernel
theorem dX8_stock_31 : decode cX8_stock 31 = .ok (.iload_n 1, 1) := by decide +kernel
theorem dX8_stock_32 : decode cX8_stock 32 = .ok (.imul, 1) := by decide +kernel
theorem dX8_stock_33 : decode cX8_stock 33 = .ok (.iadd, 1) := by decide +kernel
theorem dX8_stock_34 : decode cX8_stock 34 = .ok (.iload_n 2, 1) := by decide +kernel
theorem dX8_stock_35 : decode cX8_stock 35 = .ok (.iadd, 1) := by decide +kernel
theorem dX8_stock_36 : decode cX8_stock 36 = .ok (.goto 4, 3) := by decide +kernel
theorem dX8_stock_39 : decode cX8_stock 39 = .ok (.iconst 0, 1) := by decide +kernel
theorem dX8_stock_40 : decode cX8_stock 40 = .ok (.invokevirtual 253, 3) := by decide +kernel
theorem dX8_stock_43 : decode cX8_stock 43 = .ok (.ireturn, 1) := by decide +kernel
theorem dX8_demandOf_0 : decode cX8_demandOf 0 = .ok (.iconst 5, 1) := by decide +kernel
theorem dX8_demandOf_1 : decode cX8_demandOf 1 = .ok (.iload_n 1, 1) := by decide +kernel
theorem dX8_demandOf_2 : decode cX8_demandOf 2 = .ok (.imul, 1) := by decide +kernel
theorem dX8_demandOf_3 : decode cX8_demandOf 3 = .ok (.iload_n 2, 1) := by decide +kernel
theorem dX8_demandOf_4 : decode cX8_demandOf 4 = .ok (.iadd, 1) := by decide +kernel
theorem dX8_demandOf_5 : decode cX8_demandOf 5 = .ok (.istore 4, 2) := by decide +kernel
theorem dX8_demandOf_7 : decode cX8_demandOf 7 = .ok (.aload_n 0, 1) := by decide +kernel
theorem dX8_demandOf_8 : decode cX8_demandOf 8 = .ok (.getfield 17, 3) := by decide +kernel
theorem dX8_demandOf_11 : decode cX8_demandOf 11 = .ok (.bipush 16, 2) := by decide +kernel
theorem dX8_demandOf_13 : decode cX8_demandOf 13 = .ok (.iload 4, 2) := by decide +kernel
theorem dX8_demandOf_15 : decode cX8_demandOf 15 = .ok (.iadd, 1) := by decide +kernel
theorem dX8_demandOf_16 : decode cX8_demandOf 16 = .ok (.iaload, 1) := by decide +kernel
theorem dX8_demandOf_17 : decode cX8_demandOf 17 = .ok (.aload_n 0, 1) := by decide +kernel
theorem dX8_demandOf_18 : decode cX8_demandOf 18 = .ok (.getfield 17, 3) := by decide +kernel
theorem dX8_demandOf_21 : decode cX8_demandOf 21 = .ok (.bipush 37, 2) := by decide +kernel
theorem dX8_demandOf_23 : decode cX8_demandOf 23 = .ok (.iload_n 3, 1) := by decide +kernel
theorem dX8_demandOf_24 : decode cX8_demandOf 24 = .ok (.iadd, 1) := by decide +kernel
theorem dX8_demandOf_25 : decode cX8_demandOf 25 = .ok (.iaload, 1) := by decide +kernel
theorem dX8_demandOf_26 : decode cX8_demandOf 26 = .ok (.imul, 1) := by decide +kernel
theorem dX8_demandOf_27 : decode cX8_demandOf 27 = .ok (.aload_n 0, 1) := by decide +kernel
theorem dX8_demandOf_28 : decode cX8_demandOf 28 = .ok (.getfield 17, 3) := by decide +kernel
theorem dX8_demandOf_31 : decode cX8_demandOf 31 = .ok (.bipush 26, 2) := by decide +kernel
theorem dX8_demandOf_33 : decode cX8_demandOf 33 = .ok (.iload 4, 2) := by decide +kernel
theorem dX8_demandOf_35 : decode cX8_demandOf 35 = .ok (.iadd, 1) := by decide +kernel
theorem dX8_demandOf_36 : decode cX8_demandOf 36 = .ok (.iaload, 1) := by decide +kernel
theorem dX8_demandOf_37 : decode cX8_demandOf 37 = .ok (.aload_n 0, 1) := by decide +kernel
theorem dX8_demandOf_38 : decode cX8_demandOf 38 = .ok (.getfield 17, 3) := by decide +kernel
theorem dX8_demandOf_41 : decode cX8_demandOf 41 = .ok (.bipush 41, 2) := by decide +kernel
theorem dX8_demandOf_43 : decode cX8_demandOf 43 = .ok (.iload_n 3, 1) := by decide +kernel
theorem dX8_demandOf_44 : decode cX8_demandOf 44 = .ok (.iadd, 1) := by decide +kernel
theorem dX8_demandOf_45 : decode cX8_demandOf 45 = .ok (.iaload, 1) := by decide +kernel
theorem dX8_demandOf_46 : decode cX8_demandOf 46 = .ok (.imul, 1) := by decide +kernel
theorem dX8_demandOf_47 : decode cX8_demandOf 47 = .ok (.iadd, 1) := by decide +kernel
theorem dX8_demandOf_48 : decode cX8_demandOf 48 = .ok (.istore 5, 2) := by decide +kernel
theorem dX8_demandOf_50 : decode cX8_demandOf 50 = .ok (.iload 5, 2) := by decide +kernel
theorem dX8_demandOf_52 : decode cX8_demandOf 52 = .ok (.bipush 9, 2) := by decide +kernel
theorem dX8_demandOf_54 : decode cX8_demandOf 54 = .ok (.iadd, 1) := by decide +kernel
theorem dX8_demandOf_55 : decode cX8_demandOf 55 = .ok (.bipush 10, 2) := by decide +kernel
theorem dX8_demandOf_57 : decode cX8_demandOf 57 = .ok (.idiv, 1) := by decide +kernel
theorem dX8_demandOf_58 : decode cX8_demandOf 58 = .ok (.ireturn, 1) := by decide +kernel
theorem dX8_demandOfTrain_0 : decode cX8_demandOfTrain 0 = .ok (.iconst 0, 1) := by decide +kernel
theorem dX8_demandOfTrain_1 : decode cX8_demandOfTrain 1 = .ok (.istore_n 3, 1) := by decide +kernel
theorem dX8_demandOfTrain_2 : decode cX8_demandOfTrain 2 = .ok (.iconst 0, 1) := by decide +kernel
theorem dX8_demandOfTrain_3 : decode cX8_demandOfTrain 3 = .ok (.istore 4, 2) := by decide +kernel
theorem dX8_demandOfTrain_5 : decode cX8_demandOfTrain 5 = .ok (.iload 4, 2) := by decide +kernel
theorem dX8_demandOfTrain_7 : decode cX8_demandOfTrain 7 = .ok (.aload_n 0, 1) := by decide +kernel
theorem dX8_demandOfTrain_8 : decode cX8_demandOfTrain 8 = .ok (.getfield 17, 3) := by decide +kernel
theorem dX8_demandOfTrain_11 : decode cX8_demandOfTrain 11 = .ok (.iconst 4, 1) := by decide +kernel
theorem dX8_demandOfTrain_12 : decode cX8_demandOfTrain 12 = .ok (.iload_n 1, 1) := by decide +kernel
theorem dX8_demandOfTrain_13 : decode cX8_demandOfTrain 13 = .ok (.iadd, 1) := by decide +kernel
theorem dX8_demandOfTrain_14 : decode cX8_demandOfTrain 14 = .ok (.iaload, 1) := by decide +kernel
theorem dX8_demandOfTrain_15 : decode cX8_demandOfTrain 15 = .ok (.if_icmp .ge 20, 3) := by decide +kernel
theorem dX8_demandOfTrain_18 : decode cX8_demandOfTrain 18 = .ok (.iload_n 3, 1) := by decide +kernel
theorem dX8_demandOfTrain_19 : decode cX8_demandOfTrain 19 = .ok (.aload_n 0, 1) := by decide +kernel
theorem dX8_demandOfTrain_20 : decode cX8_demandOfTrain 20 = .ok (.iload_n 1, 1) := by decide +kernel
theorem dX8_demandOfTrain_21 : decode cX8_demandOfTrain 21 = .ok (.iload 4, 2) := by decide +kernel
theorem dX8_demandOfTrain_23 : decode cX8_demandOfTrain 23 = .ok (.iload_n 2, 1) := by decide +kernel
theorem dX8_demandOfTrain_24 : decode cX8_demandOfTrain 24 = .ok (.invokevirtual 263, 3) := by decide +kernel
theorem dX8_demandOfTrain_27 : decode cX8_demandOfTrain 27 = .ok (.iadd, 1) := by decide +kernel
theorem dX8_demandOfTrain_28 : decode cX8_demandOfTrain 28 = .ok (.istore_n 3, 1) := by decide +kernel
theorem dX8_demandOfTrain_29 : decode cX8_demandOfTrain 29 = .ok (.iinc 4 1, 3) := by decide +kernel
theorem dX8_demandOfTrain_32 : decode cX8_demandOfTrain 32 = .ok (.goto (-27), 3) := by decide +kernel
theorem dX8_demandOfTrain_35 : decode cX8_demandOfTrain 35 = .ok (.iload_n 3, 1) := by decide +kernel
theorem dX8_demandOfTrain_36 : decode cX8_demandOfTrain 36 = .ok (.ireturn, 1) := by decide +kernel
theorem dX8_demand_0 : decode cX8_demand 0 = .ok (.aload_n 0, 1) := by decide +kernel
theorem dX8_demand_1 : decode cX8_demand 1 = .ok (.iconst 0, 1) := by decide +kernel
theorem dX8_demand_2 : decode cX8_demand 2 = .ok (.putfield 103, 3) := by decide +kernel
theorem dX8_demand_5 : decode cX8_demand 5 = .ok (.aload_n 0, 1) := by decide +kernel
theorem dX8_demand_6 : decode cX8_demand 6 = .ok (.iload_n 1, 1) := by decide +kernel
theorem dX8_demand_7 : decode cX8_demand 7 = .ok (.iload_n 2, 1) := by decide +kernel
theorem dX8_demand_8 : decode cX8_demand 8 = .ok (.invokevirtual 267, 3) := by decide +kernel
theorem dX8_demand_11 : decode cX8_demand 11 = .ok (.ifCond .eq 25, 3) := by decide +kernel
theorem dX8_demand_14 : decode cX8_demand 14 = .ok (.aload_n 0, 1) := by decide +kernel
theorem dX8_demand_15 : decode cX8_demand 15 = .ok (.iload_n 3, 1) := by decide +kernel
theorem dX8_demand_16 : decode cX8_demand 16 = .ok (.invokevirtual 260, 3) := by decide +kernel
theorem dX8_demand_19 : decode cX8_demand 19 = .ok (.ifCond .eq 17, 3) := by decide +kernel
theorem dX8_demand_22 : decode cX8_demand 22 = .ok (.aload_n 0, 1) := by decide +kernel
theorem dX8_demand_23 : decode cX8_demand 23 = .ok (.aload_n 0, 1) := by decide +kernel
theorem dX8_demand_24 : decode cX8_demand 24 = .ok (.iload_n 1, 1) := by decide +kernel
theorem dX8_demand_25 : decode cX8_demand 25 = .ok (.iload_n 2, 1) := by decide +kernel
theorem dX8_demand_26 : decode cX8_demand 26 = .ok (.iload_n 3, 1) := by decide +kernel
theorem dX8_demand_27 : decode cX8_demand 27 = .ok (.invokevirtual 263, 3) := by decide +kernel
theorem dX8_demand_30 : decode cX8_demand 30 = .ok (.invokevirtual 246, 3) := by decide +kernel
theorem dX8_demand_33 : decode cX8_demand 33 = .ok (.goto 8, 3) := by decide +kernel
theorem dX8_demand_36 : decode cX8_demand 36 = .ok (.aload_n 0, 1) := by decide +kernel
theorem dX8_demand_37 : decode cX8_demand 37 = .ok (.iconst 1, 1) := by decide +kernel
theorem dX8_demand_38 : decode cX8_demand 38 = .ok (.invokevirtual 226, 3) := by decide +kernel
theorem dX8_demand_41 : decode cX8_demand 41 = .ok (.ireturn, 1) := by decide +kernel
theorem dX8_jobTrolley_0 : decode cX8_jobTrolley 0 = .ok (.aload_n 0, 1) := by decide +kernel
theorem dX8_jobTrolley_1 : decode cX8_jobTrolley 1 = .ok (.aload_n 0, 1) := by decide +kernel
theorem dX8_jobTrolley_2 : decode cX8_jobTrolley 2 = .ok (.iload_n 1, 1) := by decide +kernel
theorem dX8_jobTrolley_3 : decode cX8_jobTrolley 3 = .ok (.invokevirtual 271, 3) := by decide +kernel
theorem dX8_jobTrolley_6 : decode cX8_jobTrolley 6 = .ok (.aload_n 0, 1) := by decide +kernel
theorem dX8_jobTrolley_7 : decode cX8_jobTrolley 7 = .ok (.iload_n 1, 1) := by decide +kernel
theorem dX8_jobTrolley_8 : decode cX8_jobTrolley 8 = .ok (.invokevirtual 271, 3) := by decide +kernel
theorem dX8_jobTrolley_11 : decode cX8_jobTrolley 11 = .ok (.ifCond .eq 14, 3) := by decide +kernel
theorem dX8_jobTrolley_14 : decode cX8_jobTrolley 14 = .ok (.bipush 88, 2) := by decide +kernel
theorem dX8_jobTrolley_16 : decode cX8_jobTrolley 16 = .ok (.iconst 5, 1) := by decide +kernel
theorem dX8_jobTrolley_17 : decode cX8_jobTrolley 17 = .ok (.iload_n 1, 1) := by decide +kernel
theorem dX8_jobTrolley_18 : decode cX8_jobTrolley 18 = .ok (.imul, 1) := by decide +kernel
theorem dX8_jobTrolley_19 : decode cX8_jobTrolley 19 = .ok (.iadd, 1) := by decide +kernel
theorem dX8_jobTrolley_20 : decode cX8_jobTrolley 20 = .ok (.iconst 0, 1) := by decide +kernel
theorem dX8_jobTrolley_21 : decode cX8_jobTrolley 21 = .ok (.iadd, 1) := by decide +kernel
theorem dX8_jobTrolley_22 : decode cX8_jobTrolley 22 = .ok (.goto 4, 3) := by decide +kernel
theorem dX8_jobTrolley_25 : decode cX8_jobTrolley 25 = .ok (.iconst 0, 1) := by decide +kernel
theorem dX8_jobTrolley_26 : decode cX8_jobTrolley 26 = .ok (.invokevirtual 253, 3) := by decide +kernel
theorem dX8_jobTrolley_29 : decode cX8_jobTrolley 29 = .ok (.ireturn, 1) := by decide +kernel
theorem dX8_jobQuantity_0 : decode cX8_jobQuantity 0 = .ok (.aload_n 0, 1) := by decide +kernel
theorem dX8_jobQuantity_1 : decode cX8_jobQuantity 1 = .ok (.aload_n 0, 1) := by decide +kernel
theorem dX8_jobQuantity_2 : decode cX8_jobQuantity 2 = .ok (.iload_n 1, 1) := by decide +kernel
theorem dX8_jobQuantity_3 : decode cX8_jobQuantity 3 = .ok (.invokevirtual 271, 3) := by decide +kernel
theorem dX8_jobQuantity_6 : decode cX8_jobQuantity 6 = .ok (.aload_n 0, 1) := by decide +kernel
theorem dX8_jobQuantity_7 : decode cX8_jobQuantity 7 = .ok (.iload_n 1, 1) := by decide +kernel
theorem dX8_jobQuantity_8 : decode cX8_jobQuantity 8 = .ok (.invokevirtual 271, 3) := by decide +kernel
theorem dX8_jobQuantity_11 : decode cX8_jobQuantity 11 = .ok (.ifCond .eq 14, 3) := by decide +kernel
theorem dX8_jobQuantity_14 : decode cX8_jobQuantity 14 = .ok (.bipush 88, 2) := by decide +kernel
theorem dX8_jobQuantity_16 : decode cX8_jobQuantity 16 = .ok (.iconst 5, 1) := by decide +kernel
theorem dX8_jobQuantity_17 : decode cX8_jobQuantity 17 = .ok (.iload_n 1, 1) := by decide +kernel
theorem dX8_jobQuantity_18 : decode cX8_jobQuantity 18 = .ok (.imul, 1) := by decide +kernel
theorem dX8_jobQuantity_19 : decode cX8_jobQuantity 19 = .ok (.iadd, 1) := by decide +kernel
theorem dX8_jobQuantity_20 : decode cX8_jobQuantity 20 = .ok (.iconst 4, 1) := by decide +kernel
theorem dX8_jobQuantity_21 : decode cX8_jobQuantity 21 = .ok (.iadd, 1) := by decide +kernel
theorem dX8_jobQuantity_22 : decode cX8_jobQuantity 22 = .ok (.goto 4, 3) := by decide +kernel
theorem dX8_jobQuantity_25 : decode cX8_jobQuantity 25 = .ok (.iconst 0, 1) := by decide +kernel
theorem dX8_jobQuantity_26 : decode cX8_jobQuantity 26 = .ok (.invokevirtual 253, 3) := by decide +kernel
theorem dX8_jobQuantity_29 : decode cX8_jobQuantity 29 = .ok (.ireturn, 1) := by decide +kernel
theorem dX8_job_0 : decode cX8_job 0 = .ok (.aload_n 0, 1) := by decide +kernel
theorem dX8_job_1 : decode cX8_job 1 = .ok (.getfield 17, 3) := by decide +kernel
theorem dX8_job_4 : decode cX8_job 4 = .ok (.bipush 88, 2) := by decide +kernel
theorem dX8_job_6 : decode cX8_job 6 = .ok (.iconst 5, 1) := by decide +kernel
theorem dX8_job_7 : decode cX8_job 7 = .ok (.iload_n 1, 1) := by decide +kernel
theorem dX8_job_8 : decode cX8_job 8 = .ok (.imul, 1) := by decide +kernel
theorem dX8_job_9 : decode cX8_job 9 = .ok (.iadd, 1) := by decide +kernel
theorem dX8_job_10 : decode cX8_job 10 = .ok (.iload_n 2, 1) := by decide +kernel
theorem dX8_job_11 : decode cX8_job 11 = .ok (.iadd, 1) := by decide +kernel
theorem dX8_job_12 : decode cX8_job 12 = .ok (.iaload, 1) := by decide +kernel
theorem dX8_job_13 : decode cX8_job 13 = .ok (.ireturn, 1) := by decide +kernel
theorem dX8_trolley_0 : decode cX8_trolley 0 = .ok (.aload_n 0, 1) := by decide +kernel
theorem dX8_trolley_1 : decode cX8_trolley 1 = .ok (.getfield 17, 3) := by decide +kernel
theorem dX8_trolley_4 : decode cX8_trolley 4 = .ok (.bipush 62, 2) := by decide +kernel
theorem dX8_trolley_6 : decode cX8_trolley 6 = .ok (.iconst 5, 1) := by decide +kernel
theorem dX8_trolley_7 : decode cX8_trolley 7 = .ok (.iload_n 1, 1) := by decide +kernel
theorem dX8_trolley_8 : decode cX8_trolley 8 = .ok (.imul, 1) := by decide +kernel
theorem dX8_trolley_9 : decode cX8_trolley 9 = .ok (.iadd, 1) := by decide +kernel
theorem dX8_trolley_10 : decode cX8_trolley 10 = .ok (.iload_n 2, 1) := by decide +kernel
theorem dX8_trolley_11 : decode cX8_trolley 11 = .ok (.iadd, 1) := by decide +kernel
theorem dX8_trolley_12 : decode cX8_trolley 12 = .ok (.iaload, 1) := by decide +kernel
theorem dX8_trolley_13 : decode cX8_trolley 13 = .ok (.ireturn, 1) := by decide +kernel
theorem dX8_ceil_0 : decode cX8_ceil 0 = .ok (.iload_n 0, 1) := by decide +kernel
theorem dX8_ceil_1 : decode cX8_ceil 1 = .ok (.iload_n 1, 1) := by decide +kernel
theorem dX8_ceil_2 : decode cX8_ceil 2 = .ok (.iadd, 1) := by decide +kernel
theorem dX8_ceil_3 : decode cX8_ceil 3 = .ok (.iconst 1, 1) := by decide +kernel
theorem dX8_ceil_4 : decode cX8_ceil 4 = .ok (.isub, 1) := by decide +kernel
theorem dX8_ceil_5 : decode cX8_ceil 5 = .ok (.iload_n 1, 1) := by decide +kernel
theorem dX8_ceil_6 : decode cX8_ceil 6 = .ok (.idiv, 1) := by decide +kernel
theorem dX8_ceil_7 : decode cX8_ceil 7 = .ok (.ireturn, 1) := by decide +kernel
theorem dX8_walkOf_0 : decode cX8_walkOf 0 = .ok (.aload_n 0, 1) := by decide +kernel
theorem dX8_walkOf_1 : decode cX8_walkOf 1 = .ok (.iload_n 1, 1) := by decide +kernel
theorem dX8_walkOf_2 : decode cX8_walkOf 2 = .ok (.iconst 0, 1) := by decide +kernel
theorem dX8_walkOf_3 : decode cX8_walkOf 3 = .ok (.invokevirtual 274, 3) := by decide +kernel
theorem dX8_walkOf_6 : decode cX8_walkOf 6 = .ok (.istore_n 2, 1) := by decide +kernel
theorem dX8_walkOf_7 : decode cX8_walkOf 7 = .ok (.aload_n 0, 1) := by decide +kernel
theorem dX8_walkOf_8 : decode cX8_walkOf 8 = .ok (.getfield 17, 3) := by decide +kernel
theorem dX8_walkOf_11 : decode cX8_walkOf 11 = .ok (.bipush 46, 2) := by decide +kernel
theorem dX8_walkOf_13 : decode cX8_walkOf 13 = .ok (.aload_n 0, 1) := by decide +kernel
theorem dX8_walkOf_14 : decode cX8_walkOf 14 = .ok (.iload_n 2, 1) := by decide +kernel
theorem dX8_walkOf_15 : decode cX8_walkOf 15 = .ok (.iconst 0, 1) := by decide +kernel
theorem dX8_walkOf_16 : decode cX8_walkOf 16 = .ok (.invokevirtual 277, 3) := by decide +kernel
theorem dX8_walkOf_19 : decode cX8_walkOf 19 = .ok (.iadd, 1) := by decide +kernel
theorem dX8_walkOf_20 : decode cX8_walkOf 20 = .ok (.iaload, 1) := by decide +kernel
theorem dX8_walkOf_21 : decode cX8_walkOf 21 = .ok (.aload_n 0, 1) := by decide +kernel
theorem dX8_walkOf_22 : decode cX8_walkOf 22 = .ok (.getfield 17, 3) := by decide +kernel
theorem dX8_walkOf_25 : decode cX8_walkOf 25 = .ok (.bipush 6, 2) := by decide +kernel
theorem dX8_walkOf_27 : decode cX8_walkOf 27 = .ok (.iconst 5, 1) := by decide +kernel
theorem dX8_walkOf_28 : decode cX8_walkOf 28 = .ok (.aload_n 0, 1) := by decide +kernel
theorem dX8_walkOf_29 : decode cX8_walkOf 29 = .ok (.iload_n 1, 1) := by decide +kernel
theorem dX8_walkOf_30 : decode cX8_walkOf 30 = .ok (.iconst 1, 1) := by decide +kernel
theorem dX8_walkOf_31 : decode cX8_walkOf 31 = .ok (.invokevirtual 274, 3) := by decide +kernel
theorem dX8_walkOf_34 : decode cX8_walkOf 34 = .ok (.imul, 1) := by decide +kernel
theorem dX8_walkOf_35 : decode cX8_walkOf 35 = .ok (.iadd, 1) := by decide +kernel
theorem dX8_walkOf_36 : decode cX8_walkOf 36 = .ok (.aload_n 0, 1) := by decide +kernel
theorem dX8_walkOf_37 : decode cX8_walkOf 37 = .ok (.iload_n 1, 1) := by decide +kernel
theorem dX8_walkOf_38 : decode cX8_walkOf 38 = .ok (.iconst 2, 1) := by decide +kernel
theorem dX8_walkOf_39 : decode cX8_walkOf 39 = .ok (.invokevirtual 274, 3) := by decide +kernel
theorem dX8_walkOf_42 : decode cX8_walkOf 42 = .ok (.iadd, 1) := by decide +kernel
theorem dX8_walkOf_43 : decode cX8_walkOf 43 = .ok (.iaload, 1) := by decide +kernel
theorem dX8_walkOf_44 : decode cX8_walkOf 44 = .ok (.isub, 1) := by decide +kernel
theorem dX8_walkOf_45 : decode cX8_walkOf 45 = .ok (.invokestatic 280, 3) := by decide +kernel
theorem dX8_walkOf_48 : decode cX8_walkOf 48 = .ok (.aload_n 0, 1) := by decide +kernel
theorem dX8_walkOf_49 : decode cX8_walkOf 49 = .ok (.iload_n 2, 1) := by decide +kernel
theorem dX8_walkOf_50 : decode cX8_walkOf 50 = .ok (.iconst 2, 1) := by decide +kernel
theorem dX8_walkOf_51 : decode cX8_walkOf 51 = .ok (.invokevirtual 277, 3) := by decide +kernel
theorem dX8_walkOf_54 : decode cX8_walkOf 54 = .ok (.invokestatic 285, 3) := by decide +kernel
theorem dX8_walkOf_57 : decode cX8_walkOf 57 = .ok (.ireturn, 1) := by decide +kernel
theorem dX8_nextJob_0 : decode cX8_nextJob 0 = .ok (.iload_n 2, 1) := by decide +kernel
theorem dX8_nextJob_1 : decode cX8_nextJob 1 = .ok (.istore 4, 2) := by decide +kernel
theorem dX8_nextJob_3 : decode cX8_nextJob 3 = .ok (.iload 4, 2) := by decide +kernel
theorem dX8_nextJob_5 : decode cX8_nextJob 5 = .ok (.aload_n 0, 1) := by decide +kernel
theorem dX8_nextJob_6 : decode cX8_nextJob 6 = .ok (.getfield 17, 3) := by decide +kernel
theorem dX8_nextJob_9 : decode cX8_nextJob 9 = .ok (.bipush 87, 2) := by decide +kernel
theorem dX8_nextJob_11 : decode cX8_nextJob 11 = .ok (.iaload, 1) := by decide +kernel
theorem dX8_nextJob_12 : decode cX8_nextJob 12 = .ok (.if_icmp .ge 26, 3) := by decide +kernel
theorem dX8_nextJob_15 : decode cX8_nextJob 15 = .ok (.aload_n 0, 1) := by decide +kernel
theorem dX8_nextJob_16 : decode cX8_nextJob 16 = .ok (.iload 4, 2) := by decide +kernel
theorem dX8_nextJob_18 : decode cX8_nextJob 18 = .ok (.iconst 0, 1) := by decide +kernel
theorem dX8_nextJob_19 : decode cX8_nextJob 19 = .ok (.invokevirtual 274, 3) := by decide +kernel
theorem dX8_nextJob_22 : decode cX8_nextJob 22 = .ok (.iload_n 1, 1) := by decide +kernel
theorem dX8_nextJob_23 : decode cX8_nextJob 23 = .ok (.if_icmp .ne 9, 3) := by decide +kernel
theorem dX8_nextJob_26 : decode cX8_nextJob 26 = .ok (.iload 4, 2) := by decide +kernel
theorem dX8_nextJob_28 : decode cX8_nextJob 28 = .ok (.iload_n 3, 1) := by decide +kernel
theorem dX8_nextJob_29 : decode cX8_nextJob 29 = .ok (.if_icmp .ne 9, 3) := by decide +kernel
theorem dX8_nextJob_32 : decode cX8_nextJob 32 = .ok (.iinc 4 1, 3) := by decide +kernel
theorem dX8_nextJob_35 : decode cX8_nextJob 35 = .ok (.goto (-32), 3) := by decide +kernel
theorem dX8_nextJob_38 : decode cX8_nextJob 38 = .ok (.iload 4, 2) := by decide +kernel
theorem dX8_nextJob_40 : decode cX8_nextJob 40 = .ok (.ireturn, 1) := by decide +kernel
theorem dX8_bringsBack_0 : decode cX8_bringsBack 0 = .ok (.iconst 0, 1) := by decide +kernel
theorem dX8_bringsBack_1 : decode cX8_bringsBack 1 = .ok (.istore_n 2, 1) := by decide +kernel
theorem dX8_bringsBack_2 : decode cX8_bringsBack 2 = .ok (.iload_n 2, 1) := by decide +kernel
theorem dX8_bringsBack_3 : decode cX8_bringsBack 3 = .ok (.iconst 5, 1) := by decide +kernel
theorem dX8_bringsBack_4 : decode cX8_bringsBack 4 = .ok (.if_icmp .ge 58, 3) := by decide +kernel
theorem dX8_bringsBack_7 : decode cX8_bringsBack 7 = .ok (.aload_n 0, 1) := by decide +kernel
theorem dX8_bringsBack_8 : decode cX8_bringsBack 8 = .ok (.getfield 52, 3) := by decide +kernel
theorem dX8_bringsBack_11 : decode cX8_bringsBack 11 = .ok (.iload_n 2, 1) := by decide +kernel
theorem dX8_bringsBack_12 : decode cX8_bringsBack 12 = .ok (.iaload, 1) := by decide +kernel
theorem dX8_bringsBack_13 : decode cX8_bringsBack 13 = .ok (.ifCond .eq 43, 3) := by decide +kernel
theorem dX8_bringsBack_16 : decode cX8_bringsBack 16 = .ok (.aload_n 0, 1) := by decide +kernel
theorem dX8_bringsBack_17 : decode cX8_bringsBack 17 = .ok (.getfield 46, 3) := by decide +kernel
theorem dX8_bringsBack_20 : decode cX8_bringsBack 20 = .ok (.iload_n 2, 1) := by decide +kernel
theorem dX8_bringsBack_21 : decode cX8_bringsBack 21 = .ok (.iaload, 1) := by decide +kernel
theorem dX8_bringsBack_22 : decode cX8_bringsBack 22 = .ok (.iload_n 1, 1) := by decide +kernel
theorem dX8_bringsBack_23 : decode cX8_bringsBack 23 = .ok (.if_icmp .le 6, 3) := by decide +kernel
theorem dX8_bringsBack_26 : decode cX8_bringsBack 26 = .ok (.goto 30, 3) := by decide +kernel
theorem dX8_bringsBack_29 : decode cX8_bringsBack 29 = .ok (.aload_n 0, 1) := by decide +kernel
theorem dX8_bringsBack_30 : decode cX8_bringsBack 30 = .ok (.getfield 58, 3) := by decide +kernel
theorem dX8_bringsBack_33 : decode cX8_bringsBack 33 = .ok (.aload_n 0, 1) := by decide +kernel
theorem dX8_bringsBack_34 : decode cX8_bringsBack 34 = .ok (.getfield 49, 3) := by decide +kernel
theorem dX8_bringsBack_37 : decode cX8_bringsBack 37 = .ok (.iload_n 2, 1) := by decide +kernel
theorem dX8_bringsBack_38 : decode cX8_bringsBack 38 = .ok (.iaload, 1) := by decide +kernel
theorem dX8_bringsBack_39 : decode cX8_bringsBack 39 = .ok (.dup2, 1) := by decide +kernel
theorem dX8_bringsBack_40 : decode cX8_bringsBack 40 = .ok (.iaload, 1) := by decide +kernel
theorem dX8_bringsBack_41 : decode cX8_bringsBack 41 = .ok (.aload_n 0, 1) := by decide +kernel
theorem dX8_bringsBack_42 : decode cX8_bringsBack 42 = .ok (.getfield 52, 3) := by decide +kernel
theorem dX8_bringsBack_45 : decode cX8_bringsBack 45 = .ok (.iload_n 2, 1) := by decide +kernel
theorem dX8_bringsBack_46 : decode cX8_bringsBack 46 = .ok (.iaload, 1) := by decide +kernel
theorem dX8_bringsBack_47 : decode cX8_bringsBack 47 = .ok (.iadd, 1) := by decide +kernel
theorem dX8_bringsBack_48 : decode cX8_bringsBack 48 = .ok (.iastore, 1) := by decide +kernel
theorem dX8_bringsBack_49 : decode cX8_bringsBack 49 = .ok (.aload_n 0, 1) := by decide +kernel
theorem dX8_bringsBack_50 : decode cX8_bringsBack 50 = .ok (.getfield 52, 3) := by decide +kernel
theorem dX8_bringsBack_53 : decode cX8_bringsBack 53 = .ok (.iload_n 2, 1) := by decide +kernel
theorem dX8_bringsBack_54 : decode cX8_bringsBack 54 = .ok (.iconst 0, 1) := by decide +kernel
theorem dX8_bringsBack_55 : decode cX8_bringsBack 55 = .ok (.iastore, 1) := by decide +kernel
theorem dX8_bringsBack_56 : decode cX8_bringsBack 56 = .ok (.iinc 2 1, 3) := by decide +kernel
theorem dX8_bringsBack_59 : decode cX8_bringsBack 59 = .ok (.goto (-57), 3) := by decide +kernel
theorem dX8_bringsBack_62 : decode cX8_bringsBack 62 = .ok (.return_, 1) := by decide +kernel
theorem dX8_starts_0 : decode cX8_starts 0 = .ok (.aload_n 0, 1) := by decide +kernel
theorem dX8_starts_1 : decode cX8_starts 1 = .ok (.getfield 40, 3) := by decide +kernel
theorem dX8_starts_4 : decode cX8_starts 4 = .ok (.iload_n 1, 1) := by decide +kernel
theorem dX8_starts_5 : decode cX8_starts 5 = .ok (.iaload, 1) := by decide +kernel
theorem dX8_starts_6 : decode cX8_starts 6 = .ok (.istore_n 3, 1) := by decide +kernel
theorem dX8_starts_7 : decode cX8_starts 7 = .ok (.iconst 4, 1) := by decide +kernel
theorem dX8_starts_8 : decode cX8_starts 8 = .ok (.aload_n 0, 1) := by decide +kernel
theorem dX8_starts_9 : decode cX8_starts 9 = .ok (.iload_n 1, 1) := by decide +kernel
theorem dX8_starts_10 : decode cX8_starts 10 = .ok (.iconst 0, 1) := by decide +kernel
theorem dX8_starts_11 : decode cX8_starts 11 = .ok (.invokevirtual 277, 3) := by decide +kernel
theorem dX8_starts_14 : decode cX8_starts 14 = .ok (.imul, 1) := by decide +kernel
theorem dX8_starts_15 : decode cX8_starts 15 = .ok (.aload_n 0, 1) := by decide +kernel
theorem dX8_starts_16 : decode cX8_starts 16 = .ok (.iload_n 3, 1) := by decide +kernel
theorem dX8_starts_17 : decode cX8_starts 17 = .ok (.iconst 3, 1) := by decide +kernel
theorem dX8_starts_18 : decode cX8_starts 18 = .ok (.invokevirtual 274, 3) := by decide +kernel
theorem dX8_starts_21 : decode cX8_starts 21 = .ok (.iadd, 1) := by decide +kernel
theorem dX8_starts_22 : decode cX8_starts 22 = .ok (.istore 4, 2) := by decide +kernel
theorem dX8_starts_24 : decode cX8_starts 24 = .ok (.aload_n 0, 1) := by decide +kernel
theorem dX8_starts_25 : decode cX8_starts 25 = .ok (.getfield 58, 3) := by decide +kernel
theorem dX8_starts_28 : decode cX8_starts 28 = .ok (.iload 4, 2) := by decide +kernel
theorem dX8_starts_30 : decode cX8_starts 30 = .ok (.iaload, 1) := by decide +kernel
theorem dX8_starts_31 : decode cX8_starts 31 = .ok (.aload_n 0, 1) := by decide +kernel
theorem dX8_starts_32 : decode cX8_starts 32 = .ok (.iload_n 1, 1) := by decide +kernel
theorem dX8_starts_33 : decode cX8_starts 33 = .ok (.iconst 1, 1) := by decide +kernel
theorem dX8_starts_34 : decode cX8_starts 34 = .ok (.invokevirtual 277, 3) := by decide +kernel
theorem dX8_starts_37 : decode cX8_starts 37 = .ok (.aload_n 0, 1) := by decide +kernel
theorem dX8_starts_38 : decode cX8_starts 38 = .ok (.iload_n 3, 1) := by decide +kernel
theorem dX8_starts_39 : decode cX8_starts 39 = .ok (.iconst 4, 1) := by decide +kernel
theorem dX8_starts_40 : decode cX8_starts 40 = .ok (.invokevirtual 274, 3) := by decide +kernel
theorem dX8_starts_43 : decode cX8_starts 43 = .ok (.invokestatic 288, 3) := by decide +kernel
theorem dX8_starts_46 : decode cX8_starts 46 = .ok (.invokestatic 288, 3) := by decide +kernel
theorem dX8_starts_49 : decode cX8_starts 49 = .ok (.istore 5, 2) := by decide +kernel
theorem dX8_starts_51 : decode cX8_starts 51 = .ok (.aload_n 0, 1) := by decide +kernel
theorem dX8_starts_52 : decode cX8_starts 52 = .ok (.getfield 64, 3) := by decide +kernel
theorem dX8_starts_55 : decode cX8_starts 55 = .ok (.iload_n 3, 1) := by decide +kernel
theorem dX8_starts_56 : decode cX8_starts 56 = .ok (.aload_n 0, 1) := by decide +kernel
theorem dX8_starts_57 : decode cX8_starts 57 = .ok (.getfield 43, 3) := by decide +kernel
theorem dX8_starts_60 : decode cX8_starts 60 = .ok (.iload_n 1, 1) := by decide +kernel
theorem dX8_starts_61 : decode cX8_starts 61 = .ok (.iaload, 1) := by decide +kernel
theorem dX8_starts_62 : decode cX8_starts 62 = .ok (.iastore, 1) := by decide +kernel
theorem dX8_starts_63 : decode cX8_starts 63 = .ok (.aload_n 0, 1) := by decide +kernel
theorem dX8_starts_64 : decode cX8_starts 64 = .ok (.getfield 67, 3) := by decide +kernel
theorem dX8_starts_67 : decode cX8_starts 67 = .ok (.iload_n 3, 1) := by decide +kernel
theorem dX8_starts_68 : decode cX8_starts 68 = .ok (.iload 5, 2) := by decide +kernel
theorem dX8_starts_70 : decode cX8_starts 70 = .ok (.iastore, 1) := by decide +kernel
theorem dX8_starts_71 : decode cX8_starts 71 = .ok (.aload_n 0, 1) := by decide +kernel
theorem dX8_starts_72 : decode cX8_starts 72 = .ok (.getfield 76, 3) := by decide +kernel
theorem dX8_starts_75 : decode cX8_starts 75 = .ok (.iload_n 3, 1) := by decide +kernel
theorem dX8_starts_76 : decode cX8_starts 76 = .ok (.iconst 0, 1) := by decide +kernel
theorem dX8_starts_77 : decode cX8_starts 77 = .ok (.iastore, 1) := by decide +kernel
theorem dX8_starts_78 : decode cX8_starts 78 = .ok (.iload 5, 2) := by decide +kernel
theorem dX8_starts_80 : decode cX8_starts 80 = .ok (.ifCond .ne 31, 3) := by decide +kernel
theorem dX8_starts_83 : decode cX8_starts 83 = .ok (.aload_n 0, 1) := by decide +kernel
theorem dX8_starts_84 : decode cX8_starts 84 = .ok (.getfield 79, 3) := by decide +kernel
theorem dX8_starts_87 : decode cX8_starts 87 = .ok (.iload_n 3, 1) := by decide +kernel
theorem dX8_starts_88 : decode cX8_starts 88 = .ok (.aload_n 0, 1) := by decide +kernel
theorem dX8_starts_89 : decode cX8_starts 89 = .ok (.getfield 43, 3) := by decide +kernel
theorem dX8_starts_92 : decode cX8_starts 92 = .ok (.iload_n 1, 1) := by decide +kernel
theorem dX8_starts_93 : decode cX8_starts 93 = .ok (.iaload, 1) := by decide +kernel
theorem dX8_starts_94 : decode cX8_starts 94 = .ok (.iastore, 1) := by decide +kernel
theorem dX8_starts_95 : decode cX8_starts 95 = .ok (.aload_n 0, 1) := by decide +kernel
theorem dX8_starts_96 : decode cX8_starts 96 = .ok (.getfield 40, 3) := by decide +kernel
theorem dX8_starts_99 : decode cX8_starts 99 = .ok (.iload_n 1, 1) := by decide +kernel
theorem dX8_starts_100 : decode cX8_starts 100 = .ok (.aload_n 0, 1) := by decide +kernel
theorem dX8_starts_101 : decode cX8_starts 101 = .ok (.iload_n 1, 1) := by decide +kernel
theorem dX8_starts_102 : decode cX8_starts 102 = .ok (.iload_n 3, 1) := by decide +kernel
theorem dX8_starts_103 : decode cX8_starts 103 = .ok (.iconst 1, 1) := by decide +kernel
theorem dX8_starts_104 : decode cX8_starts 104 = .ok (.iadd, 1) := by decide +kernel
theorem dX8_starts_105 : decode cX8_starts 105 = .ok (.iload_n 2, 1) := by decide +kernel
theorem dX8_starts_106 : decode cX8_starts 106 = .ok (.invokevirtual 291, 3) := by decide +kernel
theorem dX8_starts_109 : decode cX8_starts 109 = .ok (.iastore, 1) := by decide +kernel
theorem dX8_starts_110 : decode cX8_starts 110 = .ok (.return_, 1) := by decide +kernel
theorem dX8_starts_111 : decode cX8_starts 111 = .ok (.aload_n 0, 1) := by decide +kernel
theorem dX8_starts_112 : decode cX8_starts 112 = .ok (.getfield 58, 3) := by decide +kernel
theorem dX8_starts_115 : decode cX8_starts 115 = .ok (.iload 4, 2) := by decide +kernel
theorem dX8_starts_117 : decode cX8_starts 117 = .ok (.dup2, 1) := by decide +kernel
theorem dX8_starts_118 : decode cX8_starts 118 = .ok (.iaload, 1) := by decide +kernel
theorem dX8_starts_119 : decode cX8_starts 119 = .ok (.iload 5, 2) := by decide +kernel
theorem dX8_starts_121 : decode cX8_starts 121 = .ok (.isub, 1) := by decide +kernel
theorem dX8_starts_122 : decode cX8_starts 122 = .ok (.iastore, 1) := by decide +kernel
theorem dX8_starts_123 : decode cX8_starts 123 = .ok (.aload_n 0, 1) := by decide +kernel
theorem dX8_starts_124 : decode cX8_starts 124 = .ok (.getfield 55, 3) := by decide +kernel
theorem dX8_starts_127 : decode cX8_starts 127 = .ok (.iload_n 1, 1) := by decide +kernel
theorem dX8_starts_128 : decode cX8_starts 128 = .ok (.iconst 1, 1) := by decide +kernel
theorem dX8_starts_129 : decode cX8_starts 129 = .ok (.bastore, 1) := by decide +kernel
theorem dX8_starts_130 : decode cX8_starts 130 = .ok (.aload_n 0, 1) := by decide +kernel
theorem dX8_starts_131 : decode cX8_starts 131 = .ok (.getfield 43, 3) := by decide +kernel
theorem dX8_starts_134 : decode cX8_starts 134 = .ok (.iload_n 1, 1) := by decide +kernel
theorem dX8_starts_135 : decode cX8_starts 135 = .ok (.dup2, 1) := by decide +kernel
theorem dX8_starts_136 : decode cX8_starts 136 = .ok (.iaload, 1) := by decide +kernel
theorem dX8_starts_137 : decode cX8_starts 137 = .ok (.iload 5, 2) := by decide +kernel
theorem dX8_starts_139 : decode cX8_starts 139 = .ok (.aload_n 0, 1) := by decide +kernel
theorem dX8_starts_140 : decode cX8_starts 140 = .ok (.iload_n 1, 1) := by decide +kernel
theorem dX8_starts_141 : decode cX8_starts 141 = .ok (.iconst 3, 1) := by decide +kernel
theorem dX8_starts_142 : decode cX8_starts 142 = .ok (.invokevirtual 277, 3) := by decide +kernel
theorem dX8_starts_145 : decode cX8_starts 145 = .ok (.imul, 1) := by decide +kernel
theorem dX8_starts_146 : decode cX8_starts 146 = .ok (.aload_n 0, 1) := by decide +kernel
theorem dX8_starts_147 : decode cX8_starts 147 = .ok (.iload_n 3, 1) := by decide +kernel
theorem dX8_starts_148 : decode cX8_starts 148 = .ok (.invokevirtual 294, 3) := by decide +kernel
theorem dX8_starts_151 : decode cX8_starts 151 = .ok (.iadd, 1) := by decide +kernel
theorem dX8_starts_152 : decode cX8_starts 152 = .ok (.iadd, 1) := by decide +kernel
theorem dX8_starts_153 : decode cX8_starts 153 = .ok (.iastore, 1) := by decide +kernel
theorem dX8_starts_154 : decode cX8_starts 154 = .ok (.aload_n 0, 1) := by decide +kernel
theorem dX8_starts_155 : decode cX8_starts 155 = .ok (.getfield 70, 3) := by decide +kernel
theorem dX8_starts_158 : decode cX8_starts 158 = .ok (.iload_n 3, 1) := by decide +kernel
theorem dX8_starts_159 : decode cX8_starts 159 = .ok (.aload_n 0, 1) := by decide +kernel
theorem dX8_starts_160 : decode cX8_starts 160 = .ok (.getfield 43, 3) := by decide +kernel
theorem dX8_starts_163 : decode cX8_starts 163 = .ok (.iload_n 1, 1) := by decide +kernel
theorem dX8_starts_164 : decode cX8_starts 164 = .ok (.iaload, 1) := by decide +kernel
theorem dX8_starts_165 : decode cX8_starts 165 = .ok (.iastore, 1) := by decide +kernel
theorem dX8_starts_166 : decode cX8_starts 166 = .ok (.return_, 1) := by decide +kernel
theorem dX8_reaches_0 : decode cX8_reaches 0 = .ok (.aload_n 0, 1) := by decide +kernel
theorem dX8_reaches_1 : decode cX8_reaches 1 = .ok (.getfield 40, 3) := by decide +kernel
theorem dX8_reaches_4 : decode cX8_reaches 4 = .ok (.iload_n 1, 1) := by decide +kernel
theorem dX8_reaches_5 : decode cX8_reaches 5 = .ok (.iaload, 1) := by decide +kernel
theorem dX8_reaches_6 : decode cX8_reaches 6 = .ok (.istore_n 3, 1) := by decide +kernel
theorem dX8_reaches_7 : decode cX8_reaches 7 = .ok (.aload_n 0, 1) := by decide +kernel
theorem dX8_reaches_8 : decode cX8_reaches 8 = .ok (.iload_n 3, 1) := by decide +kernel
theorem dX8_reaches_9 : decode cX8_reaches 9 = .ok (.iconst 1, 1) := by decide +kernel
theorem dX8_reaches_10 : decode cX8_reaches 10 = .ok (.invokevirtual 274, 3) := by decide +kernel
theorem dX8_reaches_13 : decode cX8_reaches 13 = .ok (.istore 4, 2) := by decide +kernel
theorem dX8_reaches_15 : decode cX8_reaches 15 = .ok (.iconst 5, 1) := by decide +kernel
theorem dX8_reaches_16 : decode cX8_reaches 16 = .ok (.iload 4, 2) := by decide +kernel
theorem dX8_reaches_18 : decode cX8_reaches 18 = .ok (.imul, 1) := by decide +kernel
theorem dX8_reaches_19 : decode cX8_reaches 19 = .ok (.aload_n 0, 1) := by decide +kernel
theorem dX8_reaches_20 : decode cX8_reaches 20 = .ok (.iload_n 3, 1) := by decide +kernel
theorem dX8_reaches_21 : decode cX8_reaches 21 = .ok (.iconst 2, 1) := by decide +kernel
theorem dX8_reaches_22 : decode cX8_reaches 22 = .ok (.invokevirtual 274, 3) := by decide +kernel
theorem dX8_reaches_25 : decode cX8_reaches 25 = .ok (.iadd, 1) := by decide +kernel
theorem dX8_reaches_26 : decode cX8_reaches 26 = .ok (.istore 5, 2) := by decide +kernel
theorem dX8_reaches_28 : decode cX8_reaches 28 = .ok (.aload_n 0, 1) := by decide +kernel
theorem dX8_reaches_29 : decode cX8_reaches 29 = .ok (.getfield 43, 3) := by decide +kernel
theorem dX8_reaches_32 : decode cX8_reaches 32 = .ok (.iload_n 1, 1) := by decide +kernel
theorem dX8_reaches_33 : decode cX8_reaches 33 = .ok (.iaload, 1) := by decide +kernel
theorem dX8_reaches_34 : decode cX8_reaches 34 = .ok (.aload_n 0, 1) := by decide +kernel
theorem dX8_reaches_35 : decode cX8_reaches 35 = .ok (.getfield 17, 3) := by decide +kernel
theorem dX8_reaches_38 : decode cX8_reaches 38 = .ok (.iconst 0, 1) := by decide +kernel
theorem dX8_reaches_39 : decode cX8_reaches 39 = .ok (.iload 4, 2) := by decide +kernel
theorem dX8_reaches_41 : decode cX8_reaches 41 = .ok (.iadd, 1) := by decide +kernel
theorem dX8_reaches_42 : decode cX8_reaches 42 = .ok (.iaload, 1) := by decide +kernel
theorem dX8_reaches_43 : decode cX8_reaches 43 = .ok (.aload_n 0, 1) := by decide +kernel
theorem dX8_reaches_44 : decode cX8_reaches 44 = .ok (.getfield 61, 3) := by decide +kernel
theorem dX8_reaches_47 : decode cX8_reaches 47 = .ok (.iload 5, 2) := by decide +kernel
theorem dX8_reaches_49 : decode cX8_reaches 49 = .ok (.iaload, 1) := by decide +kernel
theorem dX8_reaches_50 : decode cX8_reaches 50 = .ok (.invokestatic 297, 3) := by decide +kernel
theorem dX8_reaches_53 : decode cX8_reaches 53 = .ok (.invokestatic 297, 3) := by decide +kernel
theorem dX8_reaches_56 : decode cX8_reaches 56 = .ok (.istore 6, 2) := by decide +kernel
theorem dX8_reaches_58 : decode cX8_reaches 58 = .ok (.iconst 0, 1) := by decide +kernel
theorem dX8_reaches_59 : decode cX8_reaches 59 = .ok (.aload_n 0, 1) := by decide +kernel
theorem dX8_reaches_60 : decode cX8_reaches 60 = .ok (.getfield 67, 3) := by decide +kernel
theorem dX8_reaches_63 : decode cX8_reaches 63 = .ok (.iload_n 3, 1) := by decide +kernel
theorem dX8_reaches_64 : decode cX8_reaches 64 = .ok (.iaload, 1) := by decide +kernel
theorem dX8_reaches_65 : decode cX8_reaches 65 = .ok (.aload_n 0, 1) := by decide +kernel
theorem dX8_reaches_66 : decode cX8_reaches 66 = .ok (.getfield 17, 3) := by decide +kernel
theorem dX8_reaches_69 : decode cX8_reaches 69 = .ok (.iconst 2, 1) := by decide +kernel
theorem dX8_reaches_70 : decode cX8_reaches 70 = .ok (.iload 4, 2) := by decide +kernel
theorem dX8_reaches_72 : decode cX8_reaches 72 = .ok (.iadd, 1) := by decide +kernel
theorem dX8_reaches_73 : decode cX8_reaches 73 = .ok (.iaload, 1) := by decide +kernel
theorem dX8_reaches_74 : decode cX8_reaches 74 = .ok (.iload 6, 2) := by decide +kernel
theorem dX8_reaches_76 : decode cX8_reaches 76 = .ok (.isub, 1) := by decide +kernel
theorem dX8_reaches_77 : decode cX8_reaches 77 = .ok (.aload_n 0, 1) := by decide +kernel
theorem dX8_reaches_78 : decode cX8_reaches 78 = .ok (.iload_n 1, 1) := by decide +kernel
theorem dX8_reaches_79 : decode cX8_reaches 79 = .ok (.iconst 4, 1) := by decide +kernel
theorem dX8_reaches_80 : decode cX8_reaches 80 = .ok (.invokevirtual 277, 3) := by decide +kernel
theorem dX8_reaches_83 : decode cX8_reaches 83 = .ok (.idiv, 1) := by decide +kernel
theorem dX8_reaches_84 : decode cX8_reaches 84 = .ok (.invokestatic 288, 3) := by decide +kernel
theorem dX8_reaches_87 : decode cX8_reaches 87 = .ok (.invokestatic 297, 3) := by decide +kernel
theorem dX8_reaches_90 : decode cX8_reaches 90 = .ok (.istore 7, 2) := by decide +kernel
theorem dX8_reaches_92 : decode cX8_reaches 92 = .ok (.aload_n 0, 1) := by decide +kernel
theorem dX8_reaches_93 : decode cX8_reaches 93 = .ok (.getfield 73, 3) := by decide +kernel
theorem dX8_reaches_96 : decode cX8_reaches 96 = .ok (.iload_n 3, 1) := by decide +kernel
theorem dX8_reaches_97 : decode cX8_reaches 97 = .ok (.iload 6, 2) := by decide +kernel
theorem dX8_reaches_99 : decode cX8_reaches 99 = .ok (.iastore, 1) := by decide +kernel
theorem dX8_reaches_100 : decode cX8_reaches 100 = .ok (.aload_n 0, 1) := by decide +kernel
theorem dX8_reaches_101 : decode cX8_reaches 101 = .ok (.getfield 76, 3) := by decide +kernel
theorem dX8_reaches_104 : decode cX8_reaches 104 = .ok (.iload_n 3, 1) := by decide +kernel
theorem dX8_reaches_105 : decode cX8_reaches 105 = .ok (.iload 7, 2) := by decide +kernel
theorem dX8_reaches_107 : decode cX8_reaches 107 = .ok (.iastore, 1) := by decide +kernel
theorem dX8_reaches_108 : decode cX8_reaches 108 = .ok (.aload_n 0, 1) := by decide +kernel
theorem dX8_reaches_109 : decode cX8_reaches 109 = .ok (.getfield 43, 3) := by decide +kernel
theorem dX8_reaches_112 : decode cX8_reaches 112 = .ok (.iload_n 1, 1) := by decide +kernel
theorem dX8_reaches_113 : decode cX8_reaches 113 = .ok (.iaload, 1) := by decide +kernel
theorem dX8_reaches_114 : decode cX8_reaches 114 = .ok (.istore 8, 2) := by decide +kernel
theorem dX8_reaches_116 : decode cX8_reaches 116 = .ok (.iload 7, 2) := by decide +kernel
theorem dX8_reaches_118 : decode cX8_reaches 118 = .ok (.ifCond .le 26, 3) := by decide +kernel
theorem dX8_reaches_121 : decode cX8_reaches 121 = .ok (.iload 6, 2) := by decide +kernel
theorem dX8_reaches_123 : decode cX8_reaches 123 = .ok (.iload 7, 2) := by decide +kernel
theorem dX8_reaches_125 : decode cX8_reaches 125 = .ok (.aload_n 0, 1) := by decide +kernel
theorem dX8_reaches_126 : decode cX8_reaches 126 = .ok (.iload_n 1, 1) := by decide +kernel
theorem dX8_reaches_127 : decode cX8_reaches 127 = .ok (.iconst 4, 1) := by decide +kernel
theorem dX8_reaches_128 : decode cX8_reaches 128 = .ok (.invokevirtual 277, 3) := by decide +kernel
theorem dX8_reaches_131 : decode cX8_reaches 131 = .ok (.imul, 1) := by decide +kernel
theorem dX8_reaches_132 : decode cX8_reaches 132 = .ok (.iadd, 1) := by decide +kernel
theorem dX8_reaches_133 : decode cX8_reaches 133 = .ok (.istore 8, 2) := by decide +kernel
theorem dX8_reaches_135 : decode cX8_reaches 135 = .ok (.aload_n 0, 1) := by decide +kernel
theorem dX8_reaches_136 : decode cX8_reaches 136 = .ok (.getfield 61, 3) := by decide +kernel
theorem dX8_reaches_139 : decode cX8_reaches 139 = .ok (.iload 5, 2) := by decide +kernel
theorem dX8_reaches_141 : decode cX8_reaches 141 = .ok (.iload 8, 2) := by decide +kernel
theorem dX8_reaches_143 : decode cX8_reaches 143 = .ok (.iastore, 1) := by decide +kernel
theorem dX8_reaches_144 : decode cX8_reaches 144 = .ok (.aload_n 0, 1) := by decide +kernel
theorem dX8_reaches_145 : decode cX8_reaches 145 = .ok (.getfield 79, 3) := by decide +kernel
theorem dX8_reaches_148 : decode cX8_reaches 148 = .ok (.iload_n 3, 1) := by decide +kernel
theorem dX8_reaches_149 : decode cX8_reaches 149 = .ok (.iload 8, 2) := by decide +kernel
theorem dX8_reaches_151 : decode cX8_reaches 151 = .ok (.aload_n 0, 1) := by decide +kernel
theorem dX8_reaches_152 : decode cX8_reaches 152 = .ok (.iload_n 3, 1) := by decide +kernel
theorem dX8_reaches_153 : decode cX8_reaches 153 = .ok (.invokevirtual 294, 3) := by decide +kernel
theorem dX8_reaches_156 : decode cX8_reaches 156 = .ok (.iadd, 1) := by decide +kernel
theorem dX8_reaches_157 : decode cX8_reaches 157 = .ok (.iastore, 1) := by decide +kernel
theorem dX8_reaches_158 : decode cX8_reaches 158 = .ok (.iconst 4, 1) := by decide +kernel
theorem dX8_reaches_159 : decode cX8_reaches 159 = .ok (.aload_n 0, 1) := by decide +kernel
theorem dX8_reaches_160 : decode cX8_reaches 160 = .ok (.iload_n 1, 1) := by decide +kernel
theorem dX8_reaches_161 : decode cX8_reaches 161 = .ok (.iconst 0, 1) := by decide +kernel
theorem dX8_reaches_162 : decode cX8_reaches 162 = .ok (.invokevirtual 277, 3) := by decide +kernel
theorem dX8_reaches_165 : decode cX8_reaches 165 = .ok (.imul, 1) := by decide +kernel
theorem dX8_reaches_166 : decode cX8_reaches 166 = .ok (.aload_n 0, 1) := by decide +kernel
theorem dX8_reaches_167 : decode cX8_reaches 167 = .ok (.iload_n 3, 1) := by decide +kernel
theorem dX8_reaches_168 : decode cX8_reaches 168 = .ok (.iconst 3, 1) := by decide +kernel
theorem dX8_reaches_169 : decode cX8_reaches 169 = .ok (.invokevirtual 274, 3) := by decide +kernel
theorem dX8_reaches_172 : decode cX8_reaches 172 = .ok (.iadd, 1) := by decide +kernel
theorem dX8_reaches_173 : decode cX8_reaches 173 = .ok (.istore 9, 2) := by decide +kernel
theorem dX8_reaches_175 : decode cX8_reaches 175 = .ok (.aload_n 0, 1) := by decide +kernel
theorem dX8_reaches_176 : decode cX8_reaches 176 = .ok (.getfield 67, 3) := by decide +kernel
theorem dX8_reaches_179 : decode cX8_reaches 179 = .ok (.iload_n 3, 1) := by decide +kernel
theorem dX8_reaches_180 : decode cX8_reaches 180 = .ok (.iaload, 1) := by decide +kernel
theorem dX8_reaches_181 : decode cX8_reaches 181 = .ok (.iload 7, 2) := by decide +kernel
theorem dX8_reaches_183 : decode cX8_reaches 183 = .ok (.isub, 1) := by decide +kernel
theorem dX8_reaches_184 : decode cX8_reaches 184 = .ok (.istore 10, 2) := by decide +kernel
theorem dX8_reaches_186 : decode cX8_reaches 186 = .ok (.aload_n 0, 1) := by decide +kernel
theorem dX8_reaches_187 : decode cX8_reaches 187 = .ok (.getfield 79, 3) := by decide +kernel
theorem dX8_reaches_190 : decode cX8_reaches 190 = .ok (.iload_n 3, 1) := by decide +kernel
theorem dX8_reaches_191 : decode cX8_reaches 191 = .ok (.iaload, 1) := by decide +kernel
theorem dX8_reaches_192 : decode cX8_reaches 192 = .ok (.aload_n 0, 1) := by decide +kernel
theorem dX8_reaches_193 : decode cX8_reaches 193 = .ok (.getfield 43, 3) := by decide +kernel
theorem dX8_reaches_196 : decode cX8_reaches 196 = .ok (.iload_n 1, 1) := by decide +kernel
theorem dX8_reaches_197 : decode cX8_reaches 197 = .ok (.iaload, 1) := by decide +kernel
theorem dX8_reaches_198 : decode cX8_reaches 198 = .ok (.if_icmp .ne 18, 3) := by decide +kernel
theorem dX8_reaches_201 : decode cX8_reaches 201 = .ok (.aload_n 0, 1) := by decide +kernel
theorem dX8_reaches_202 : decode cX8_reaches 202 = .ok (.getfield 58, 3) := by decide +kernel
theorem dX8_reaches_205 : decode cX8_reaches 205 = .ok (.iload 9, 2) := by decide +kernel
theorem dX8_reaches_207 : decode cX8_reaches 207 = .ok (.dup2, 1) := by decide +kernel
theorem dX8_reaches_208 : decode cX8_reaches 208 = .ok (.iaload, 1) := by decide +kernel
theorem dX8_reaches_209 : decode cX8_reaches 209 = .ok (.iload 10, 2) := by decide +kernel
theorem dX8_reaches_211 : decode cX8_reaches 211 = .ok (.iadd, 1) := by decide +kernel
theorem dX8_reaches_212 : decode cX8_reaches 212 = .ok (.iastore, 1) := by decide +kernel
theorem dX8_reaches_213 : decode cX8_reaches 213 = .ok (.goto 31, 3) := by decide +kernel
theorem dX8_reaches_216 : decode cX8_reaches 216 = .ok (.aload_n 0, 1) := by decide +kernel
theorem dX8_reaches_217 : decode cX8_reaches 217 = .ok (.getfield 46, 3) := by decide +kernel
theorem dX8_reaches_220 : decode cX8_reaches 220 = .ok (.iload_n 1, 1) := by decide +kernel
theorem dX8_reaches_221 : decode cX8_reaches 221 = .ok (.aload_n 0, 1) := by decide +kernel
theorem dX8_reaches_222 : decode cX8_reaches 222 = .ok (.getfield 79, 3) := by decide +kernel
theorem dX8_reaches_225 : decode cX8_reaches 225 = .ok (.iload_n 3, 1) := by decide +kernel
theorem dX8_reaches_226 : decode cX8_reaches 226 = .ok (.iaload, 1) := by decide +kernel
theorem dX8_reaches_227 : decode cX8_reaches 227 = .ok (.iastore, 1) := by decide +kernel
theorem dX8_reaches_228 : decode cX8_reaches 228 = .ok (.aload_n 0, 1) := by decide +kernel
theorem dX8_reaches_229 : decode cX8_reaches 229 = .ok (.getfield 49, 3) := by decide +kernel
theorem dX8_reaches_232 : decode cX8_reaches 232 = .ok (.iload_n 1, 1) := by decide +kernel
theorem dX8_reaches_233 : decode cX8_reaches 233 = .ok (.iload 9, 2) := by decide +kernel
theorem dX8_reaches_235 : decode cX8_reaches 235 = .ok (.iastore, 1) := by decide +kernel
theorem dX8_reaches_236 : decode cX8_reaches 236 = .ok (.aload_n 0, 1) := by decide +kernel
theorem dX8_reaches_237 : decode cX8_reaches 237 = .ok (.getfield 52, 3) := by decide +kernel
theorem dX8_reaches_240 : decode cX8_reaches 240 = .ok (.iload_n 1, 1) := by decide +kernel
theorem dX8_reaches_241 : decode cX8_reaches 241 = .ok (.iload 10, 2) := by decide +kernel
theorem dX8_reaches_243 : decode cX8_reaches 243 = .ok (.iastore, 1) := by decide +kernel
theorem dX8_reaches_244 : decode cX8_reaches 244 = .ok (.aload_n 0, 1) := by decide +kernel
theorem dX8_reaches_245 : decode cX8_reaches 245 = .ok (.getfield 55, 3) := by decide +kernel
theorem dX8_reaches_248 : decode cX8_reaches 248 = .ok (.iload_n 1, 1) := by decide +kernel
theorem dX8_reaches_249 : decode cX8_reaches 249 = .ok (.iconst 0, 1) := by decide +kernel
theorem dX8_reaches_250 : decode cX8_reaches 250 = .ok (.bastore, 1) := by decide +kernel
theorem dX8_reaches_251 : decode cX8_reaches 251 = .ok (.aload_n 0, 1) := by decide +kernel
theorem dX8_reaches_252 : decode cX8_reaches 252 = .ok (.getfield 43, 3) := by decide +kernel
theorem dX8_reaches_255 : decode cX8_reaches 255 = .ok (.iload_n 1, 1) := by decide +kernel
theorem dX8_reaches_256 : decode cX8_reaches 256 = .ok (.aload_n 0, 1) := by decide +kernel
theorem dX8_reaches_257 : decode cX8_reaches 257 = .ok (.getfield 79, 3) := by decide +kernel
theorem dX8_reaches_260 : decode cX8_reaches 260 = .ok (.iload_n 3, 1) := by decide +kernel
theorem dX8_reaches_261 : decode cX8_reaches 261 = .ok (.iaload, 1) := by decide +kernel
theorem dX8_reaches_262 : decode cX8_reaches 262 = .ok (.iastore, 1) := by decide +kernel
theorem dX8_reaches_263 : decode cX8_reaches 263 = .ok (.aload_n 0, 1) := by decide +kernel
theorem dX8_reaches_264 : decode cX8_reaches 264 = .ok (.getfield 40, 3) := by decide +kernel
theorem dX8_reaches_267 : decode cX8_reaches 267 = .ok (.iload_n 1, 1) := by decide +kernel
theorem dX8_reaches_268 : decode cX8_reaches 268 = .ok (.aload_n 0, 1) := by decide +kernel
theorem dX8_reaches_269 : decode cX8_reaches 269 = .ok (.iload_n 1, 1) := by decide +kernel
theorem dX8_reaches_270 : decode cX8_reaches 270 = .ok (.iload_n 3, 1) := by decide +kernel
theorem dX8_reaches_271 : decode cX8_reaches 271 = .ok (.iconst 1, 1) := by decide +kernel
theorem dX8_reaches_272 : decode cX8_reaches 272 = .ok (.iadd, 1) := by decide +kernel
theorem dX8_reaches_273 : decode cX8_reaches 273 = .ok (.iload_n 2, 1) := by decide +kernel
theorem dX8_reaches_274 : decode cX8_reaches 274 = .ok (.invokevirtual 291, 3) := by decide +kernel
theorem dX8_reaches_277 : decode cX8_reaches 277 = .ok (.iastore, 1) := by decide +kernel
theorem dX8_reaches_278 : decode cX8_reaches 278 = .ok (.return_, 1) := by decide +kernel
theorem dX8_go_0 : decode cX8_go 0 = .ok (.iconst 0, 1) := by decide +kernel
theorem dX8_go_1 : decode cX8_go 1 = .ok (.istore_n 3, 1) := by decide +kernel
theorem dX8_go_2 : decode cX8_go 2 = .ok (.iload_n 3, 1) := by decide +kernel
theorem dX8_go_3 : decode cX8_go 3 = .ok (.bipush 12, 2) := by decide +kernel
theorem dX8_go_5 : decode cX8_go 5 = .ok (.if_icmp .ge 24, 3) := by decide +kernel
theorem dX8_go_8 : decode cX8_go 8 = .ok (.aload_n 0, 1) := by decide +kernel
theorem dX8_go_9 : decode cX8_go 9 = .ok (.getfield 58, 3) := by decide +kernel
theorem dX8_go_12 : decode cX8_go 12 = .ok (.iload_n 3, 1) := by decide +kernel
theorem dX8_go_13 : decode cX8_go 13 = .ok (.aload_n 0, 1) := by decide +kernel
theorem dX8_go_14 : decode cX8_go 14 = .ok (.getfield 17, 3) := by decide +kernel
theorem dX8_go_17 : decode cX8_go 17 = .ok (.bipush 49, 2) := by decide +kernel
theorem dX8_go_19 : decode cX8_go 19 = .ok (.iload_n 3, 1) := by decide +kernel
theorem dX8_go_20 : decode cX8_go 20 = .ok (.iadd, 1) := by decide +kernel
theorem dX8_go_21 : decode cX8_go 21 = .ok (.iaload, 1) := by decide +kernel
theorem dX8_go_22 : decode cX8_go 22 = .ok (.iastore, 1) := by decide +kernel
theorem dX8_go_23 : decode cX8_go 23 = .ok (.iinc 3 1, 3) := by decide +kernel
theorem dX8_go_26 : decode cX8_go 26 = .ok (.goto (-24), 3) := by decide +kernel
theorem dX8_go_29 : decode cX8_go 29 = .ok (.iconst 0, 1) := by decide +kernel
theorem dX8_go_30 : decode cX8_go 30 = .ok (.istore_n 3, 1) := by decide +kernel
theorem dX8_go_31 : decode cX8_go 31 = .ok (.iload_n 3, 1) := by decide +kernel
theorem dX8_go_32 : decode cX8_go 32 = .ok (.bipush 10, 2) := by decide +kernel
theorem dX8_go_34 : decode cX8_go 34 = .ok (.if_icmp .ge 16, 3) := by decide +kernel
theorem dX8_go_37 : decode cX8_go 37 = .ok (.aload_n 0, 1) := by decide +kernel
theorem dX8_go_38 : decode cX8_go 38 = .ok (.getfield 61, 3) := by decide +kernel
theorem dX8_go_41 : decode cX8_go 41 = .ok (.iload_n 3, 1) := by decide +kernel
theorem dX8_go_42 : decode cX8_go 42 = .ok (.iconst 0, 1) := by decide +kernel
theorem dX8_go_43 : decode cX8_go 43 = .ok (.iastore, 1) := by decide +kernel
theorem dX8_go_44 : decode cX8_go 44 = .ok (.iinc 3 1, 3) := by decide +kernel
theorem dX8_go_47 : decode cX8_go 47 = .ok (.goto (-16), 3) := by decide +kernel
theorem dX8_go_50 : decode cX8_go 50 = .ok (.iconst 0, 1) := by decide +kernel
theorem dX8_go_51 : decode cX8_go 51 = .ok (.istore_n 3, 1) := by decide +kernel
theorem dX8_go_52 : decode cX8_go 52 = .ok (.iload_n 3, 1) := by decide +kernel
theorem dX8_go_53 : decode cX8_go 53 = .ok (.bipush 20, 2) := by decide +kernel
theorem dX8_go_55 : decode cX8_go 55 = .ok (.if_icmp .ge 23, 3) := by decide +kernel
theorem dX8_go_58 : decode cX8_go 58 = .ok (.aload_n 0, 1) := by decide +kernel
theorem dX8_go_59 : decode cX8_go 59 = .ok (.getfield 67, 3) := by decide +kernel
theorem dX8_go_62 : decode cX8_go 62 = .ok (.iload_n 3, 1) := by decide +kernel
theorem dX8_go_63 : decode cX8_go 63 = .ok (.iconst 0, 1) := by decide +kernel
theorem dX8_go_64 : decode cX8_go 64 = .ok (.iastore, 1) := by decide +kernel
theorem dX8_go_65 : decode cX8_go 65 = .ok (.aload_n 0, 1) := by decide +kernel
theorem dX8_go_66 : decode cX8_go 66 = .ok (.getfield 76, 3) := by decide +kernel
theorem dX8_go_69 : decode cX8_go 69 = .ok (.iload_n 3, 1) := by decide +kernel
theorem dX8_go_70 : decode cX8_go 70 = .ok (.iconst 0, 1) := by decide +kernel
theorem dX8_go_71 : decode cX8_go 71 = .ok (.iastore, 1) := by decide +kernel
theorem dX8_go_72 : decode cX8_go 72 = .ok (.iinc 3 1, 3) := by decide +kernel
theorem dX8_go_75 : decode cX8_go 75 = .ok (.goto (-23), 3) := by decide +kernel
theorem dX8_go_78 : decode cX8_go 78 = .ok (.iconst 0, 1) := by decide +kernel
theorem dX8_go_79 : decode cX8_go 79 = .ok (.istore_n 3, 1) := by decide +kernel
theorem dX8_go_80 : decode cX8_go 80 = .ok (.iload_n 3, 1) := by decide +kernel
theorem dX8_go_81 : decode cX8_go 81 = .ok (.iconst 5, 1) := by decide +kernel
theorem dX8_go_82 : decode cX8_go 82 = .ok (.if_icmp .ge 69, 3) := by decide +kernel
theorem dX8_go_85 : decode cX8_go 85 = .ok (.aload_n 0, 1) := by decide +kernel
theorem dX8_go_86 : decode cX8_go 86 = .ok (.getfield 40, 3) := by decide +kernel
theorem dX8_go_89 : decode cX8_go 89 = .ok (.iload_n 3, 1) := by decide +kernel
theorem dX8_go_90 : decode cX8_go 90 = .ok (.iload_n 3, 1) := by decide +kernel
theorem dX8_go_91 : decode cX8_go 91 = .ok (.aload_n 0, 1) := by decide +kernel
theorem dX8_go_92 : decode cX8_go 92 = .ok (.getfield 17, 3) := by decide +kernel
theorem dX8_go_95 : decode cX8_go 95 = .ok (.bipush 61, 2) := by decide +kernel
theorem dX8_go_97 : decode cX8_go 97 = .ok (.iaload, 1) := by decide +kernel
theorem dX8_go_98 : decode cX8_go 98 = .ok (.if_icmp .ge 18, 3) := by decide +kernel
theorem dX8_go_101 : decode cX8_go 101 = .ok (.iload_n 3, 1) := by decide +kernel
theorem dX8_go_102 : decode cX8_go 102 = .ok (.iload_n 1, 1) := by decide +kernel
theorem dX8_go_103 : decode cX8_go 103 = .ok (.if_icmp .eq 13, 3) := by decide +kernel
theorem dX8_go_106 : decode cX8_go 106 = .ok (.aload_n 0, 1) := by decide +kernel
theorem dX8_go_107 : decode cX8_go 107 = .ok (.iload_n 3, 1) := by decide +kernel
theorem dX8_go_108 : decode cX8_go 108 = .ok (.iconst 0, 1) := by decide +kernel
theorem dX8_go_109 : decode cX8_go 109 = .ok (.iload_n 2, 1) := by decide +kernel
theorem dX8_go_110 : decode cX8_go 110 = .ok (.invokevirtual 291, 3) := by decide +kernel
theorem dX8_go_113 : decode cX8_go 113 = .ok (.goto 10, 3) := by decide +kernel
theorem dX8_go_116 : decode cX8_go 116 = .ok (.aload_n 0, 1) := by decide +kernel
theorem dX8_go_117 : decode cX8_go 117 = .ok (.getfield 17, 3) := by decide +kernel
theorem dX8_go_120 : decode cX8_go 120 = .ok (.bipush 87, 2) := by decide +kernel
theorem dX8_go_122 : decode cX8_go 122 = .ok (.iaload, 1) := by decide +kernel
theorem dX8_go_123 : decode cX8_go 123 = .ok (.iastore, 1) := by decide +kernel
theorem dX8_go_124 : decode cX8_go 124 = .ok (.aload_n 0, 1) := by decide +kernel
theorem dX8_go_125 : decode cX8_go 125 = .ok (.getfield 43, 3) := by decide +kernel
theorem dX8_go_128 : decode cX8_go 128 = .ok (.iload_n 3, 1) := by decide +kernel
theorem dX8_go_129 : decode cX8_go 129 = .ok (.iconst 0, 1) := by decide +kernel
theorem dX8_go_130 : decode cX8_go 130 = .ok (.iastore, 1) := by decide +kernel
theorem dX8_go_131 : decode cX8_go 131 = .ok (.aload_n 0, 1) := by decide +kernel
theorem dX8_go_132 : decode cX8_go 132 = .ok (.getfield 52, 3) := by decide +kernel
theorem dX8_go_135 : decode cX8_go 135 = .ok (.iload_n 3, 1) := by decide +kernel
theorem dX8_go_136 : decode cX8_go 136 = .ok (.iconst 0, 1) := by decide +kernel
theorem dX8_go_137 : decode cX8_go 137 = .ok (.iastore, 1) := by decide +kernel
theorem dX8_go_138 : decode cX8_go 138 = .ok (.aload_n 0, 1) := by decide +kernel
theorem dX8_go_139 : decode cX8_go 139 = .ok (.getfield 55, 3) := by decide +kernel
theorem dX8_go_142 : decode cX8_go 142 = .ok (.iload_n 3, 1) := by decide +kernel
theorem dX8_go_143 : decode cX8_go 143 = .ok (.iconst 0, 1) := by decide +kernel
theorem dX8_go_144 : decode cX8_go 144 = .ok (.bastore, 1) := by decide +kernel
theorem dX8_go_145 : decode cX8_go 145 = .ok (.iinc 3 1, 3) := by decide +kernel
theorem dX8_go_148 : decode cX8_go 148 = .ok (.goto (-68), 3) := by decide +kernel
theorem dX8_go_151 : decode cX8_go 151 = .ok (.aload_n 0, 1) := by decide +kernel
theorem dX8_go_152 : decode cX8_go 152 = .ok (.invokevirtual 300, 3) := by decide +kernel
theorem dX8_go_155 : decode cX8_go 155 = .ok (.istore_n 3, 1) := by decide +kernel
theorem dX8_go_156 : decode cX8_go 156 = .ok (.iload_n 3, 1) := by decide +kernel
theorem dX8_go_157 : decode cX8_go 157 = .ok (.ifCond .lt 45, 3) := by decide +kernel
theorem dX8_go_160 : decode cX8_go 160 = .ok (.aload_n 0, 1) := by decide +kernel
theorem dX8_go_161 : decode cX8_go 161 = .ok (.aload_n 0, 1) := by decide +kernel
theorem dX8_go_162 : decode cX8_go 162 = .ok (.getfield 43, 3) := by decide +kernel
theorem dX8_go_165 : decode cX8_go 165 = .ok (.iload_n 3, 1) := by decide +kernel
theorem dX8_go_166 : decode cX8_go 166 = .ok (.iaload, 1) := by decide +kernel
theorem dX8_go_167 : decode cX8_go 167 = .ok (.invokevirtual 303, 3) := by decide +kernel
theorem dX8_go_170 : decode cX8_go 170 = .ok (.aload_n 0, 1) := by decide +kernel
theorem dX8_go_171 : decode cX8_go 171 = .ok (.getfield 55, 3) := by decide +kernel
theorem dX8_go_174 : decode cX8_go 174 = .ok (.iload_n 3, 1) := by decide +kernel
theorem dX8_go_175 : decode cX8_go 175 = .ok (.baload, 1) := by decide +kernel
theorem dX8_go_176 : decode cX8_go 176 = .ok (.ifCond .eq 12, 3) := by decide +kernel
theorem dX8_go_179 : decode cX8_go 179 = .ok (.aload_n 0, 1) := by decide +kernel
theorem dX8_go_180 : decode cX8_go 180 = .ok (.iload_n 3, 1) := by decide +kernel
theorem dX8_go_181 : decode cX8_go 181 = .ok (.iload_n 2, 1) := by decide +kernel
theorem dX8_go_182 : decode cX8_go 182 = .ok (.invokevirtual 306, 3) := by decide +kernel
theorem dX8_go_185 : decode cX8_go 185 = .ok (.goto 9, 3) := by decide +kernel
theorem dX8_go_188 : decode cX8_go 188 = .ok (.aload_n 0, 1) := by decide +kernel
theorem dX8_go_189 : decode cX8_go 189 = .ok (.iload_n 3, 1) := by decide +kernel
theorem dX8_go_190 : decode cX8_go 190 = .ok (.iload_n 2, 1) := by decide +kernel
theorem dX8_go_191 : decode cX8_go 191 = .ok (.invokevirtual 310, 3) := by decide +kernel
theorem dX8_go_194 : decode cX8_go 194 = .ok (.aload_n 0, 1) := by decide +kernel
theorem dX8_go_195 : decode cX8_go 195 = .ok (.invokevirtual 300, 3) := by decide +kernel
theorem dX8_go_198 : decode cX8_go 198 = .ok (.istore_n 3, 1) := by decide +kernel
theorem dX8_go_199 : decode cX8_go 199 = .ok (.goto (-43), 3) := by decide +kernel
theorem dX8_go_202 : decode cX8_go 202 = .ok (.aload_n 0, 1) := by decide +kernel
theorem dX8_go_203 : decode cX8_go 203 = .ok (.ldc_w 313, 3) := by decide +kernel
theorem dX8_go_206 : decode cX8_go 206 = .ok (.invokevirtual 303, 3) := by decide +kernel
theorem dX8_go_209 : decode cX8_go 209 = .ok (.return_, 1) := by decide +kernel
theorem dX8_first_0 : decode cX8_first 0 = .ok (.iconst (-1), 1) := by decide +kernel
theorem dX8_first_1 : decode cX8_first 1 = .ok (.istore_n 1, 1) := by decide +kernel
theorem dX8_first_2 : decode cX8_first 2 = .ok (.iconst 0, 1) := by decide +kernel
theorem dX8_first_3 : decode cX8_first 3 = .ok (.istore_n 2, 1) := by decide +kernel
theorem dX8_first_4 : decode cX8_first 4 = .ok (.iload_n 2, 1) := by decide +kernel
theorem dX8_first_5 : decode cX8_first 5 = .ok (.iconst 5, 1) := by decide +kernel
theorem dX8_first_6 : decode cX8_first 6 = .ok (.if_icmp .ge 46, 3) := by decide +kernel
theorem dX8_first_9 : decode cX8_first 9 = .ok (.aload_n 0, 1) := by decide +kernel
theorem dX8_first_10 : decode cX8_first 10 = .ok (.getfield 40, 3) := by decide +kernel
theorem dX8_first_13 : decode cX8_first 13 = .ok (.iload_n 2, 1) := by decide +kernel
theorem dX8_first_14 : decode cX8_first 14 = .ok (.iaload, 1) := by decide +kernel
theorem dX8_first_15 : decode cX8_first 15 = .ok (.aload_n 0, 1) := by decide +kernel
theorem dX8_first_16 : decode cX8_first 16 = .ok (.getfield 17, 3) := by decide +kernel
theorem dX8_first_19 : decode cX8_first 19 = .ok (.bipush 87, 2) := by decide +kernel
theorem dX8_first_21 : decode cX8_first 21 = .ok (.iaload, 1) := by decide +kernel
theorem dX8_first_22 : decode cX8_first 22 = .ok (.if_icmp .ge 24, 3) := by decide +kernel
theorem dX8_first_25 : decode cX8_first 25 = .ok (.iload_n 1, 1) := by decide +kernel
theorem dX8_first_26 : decode cX8_first 26 = .ok (.ifCond .lt 18, 3) := by decide +kernel
theorem dX8_first_29 : decode cX8_first 29 = .ok (.aload_n 0, 1) := by decide +kernel
theorem dX8_first_30 : decode cX8_first 30 = .ok (.getfield 43, 3) := by decide +kernel
theorem dX8_first_33 : decode cX8_first 33 = .ok (.iload_n 2, 1) := by decide +kernel
theorem dX8_first_34 : decode cX8_first 34 = .ok (.iaload, 1) := by decide +kernel
theorem dX8_first_35 : decode cX8_first 35 = .ok (.aload_n 0, 1) := by decide +kernel
theorem dX8_first_36 : decode cX8_first 36 = .ok (.getfield 43, 3) := by decide +kernel
theorem dX8_first_39 : decode cX8_first 39 = .ok (.iload_n 1, 1) := by decide +kernel
theorem dX8_first_40 : decode cX8_first 40 = .ok (.iaload, 1) := by decide +kernel
theorem dX8_first_41 : decode cX8_first 41 = .ok (.if_icmp .ge 5, 3) := by decide +kernel
theorem dX8_first_44 : decode cX8_first 44 = .ok (.iload_n 2, 1) := by decide +kernel
theorem dX8_first_45 : decode cX8_first 45 = .ok (.istore_n 1, 1) := by decide +kernel
theorem dX8_first_46 : decode cX8_first 46 = .ok (.iinc 2 1, 3) := by decide +kernel
theorem dX8_first_49 : decode cX8_first 49 = .ok (.goto (-45), 3) := by decide +kernel
theorem dX8_first_52 : decode cX8_first 52 = .ok (.iload_n 1, 1) := by decide +kernel
theorem dX8_first_53 : decode cX8_first 53 = .ok (.ireturn, 1) := by decide +kernel
theorem dX8_goAll_0 : decode cX8_goAll 0 = .ok (.aload_n 0, 1) := by decide +kernel
theorem dX8_goAll_1 : decode cX8_goAll 1 = .ok (.iconst (-1), 1) := by decide +kernel
theorem dX8_goAll_2 : decode cX8_goAll 2 = .ok (.iconst (-1), 1) := by decide +kernel
theorem dX8_goAll_3 : decode cX8_goAll 3 = .ok (.invokevirtual 314, 3) := by decide +kernel
theorem dX8_goAll_6 : decode cX8_goAll 6 = .ok (.return_, 1) := by decide +kernel
theorem dX8_total_0 : decode cX8_total 0 = .ok (.iconst 0, 1) := by decide +kernel
theorem dX8_total_1 : decode cX8_total 1 = .ok (.istore_n 1, 1) := by decide +kernel
theorem dX8_total_2 : decode cX8_total 2 = .ok (.iconst 0, 1) := by decide +kernel
theorem dX8_total_3 : decode cX8_total 3 = .ok (.istore_n 2, 1) := by decide +kernel
theorem dX8_total_4 : decode cX8_total 4 = .ok (.iload_n 2, 1) := by decide +kernel
theorem dX8_total_5 : decode cX8_total 5 = .ok (.aload_n 0, 1) := by decide +kernel
theorem dX8_total_6 : decode cX8_total 6 = .ok (.getfield 17, 3) := by decide +kernel
theorem dX8_total_9 : decode cX8_total 9 = .ok (.bipush 87, 2) := by decide +kernel
theorem dX8_total_11 : decode cX8_total 11 = .ok (.iaload, 1) := by decide +kernel
theorem dX8_total_12 : decode cX8_total 12 = .ok (.if_icmp .ge 18, 3) := by decide +kernel
theorem dX8_total_15 : decode cX8_total 15 = .ok (.iload_n 1, 1) := by decide +kernel
theorem dX8_total_16 : decode cX8_total 16 = .ok (.aload_n 0, 1) := by decide +kernel
theorem dX8_total_17 : decode cX8_total 17 = .ok (.getfield 76, 3) := by decide +kernel
theorem dX8_total_20 : decode cX8_total 20 = .ok (.iload_n 2, 1) := by decide +kernel
theorem dX8_total_21 : decode cX8_total 21 = .ok (.iaload, 1) := by decide +kernel
theorem dX8_total_22 : decode cX8_total 22 = .ok (.iadd, 1) := by decide +kernel
theorem dX8_total_23 : decode cX8_total 23 = .ok (.istore_n 1, 1) := by decide +kernel
theorem dX8_total_24 : decode cX8_total 24 = .ok (.iinc 2 1, 3) := by decide +kernel
theorem dX8_total_27 : decode cX8_total 27 = .ok (.goto (-23), 3) := by decide +kernel
theorem dX8_total_30 : decode cX8_total 30 = .ok (.iload_n 1, 1) := by decide +kernel
theorem dX8_total_31 : decode cX8_total 31 = .ok (.ireturn, 1) := by decide +kernel
theorem dX8_goesFor_0 : decode cX8_goesFor 0 = .ok (.aload_n 0, 1) := by decide +kernel
theorem dX8_goesFor_1 : decode cX8_goesFor 1 = .ok (.iconst 0, 1) := by decide +kernel
theorem dX8_goesFor_2 : decode cX8_goesFor 2 = .ok (.putfield 103, 3) := by decide +kernel
theorem dX8_goesFor_5 : decode cX8_goesFor 5 = .ok (.iload_n 1, 1) := by decide +kernel
theorem dX8_goesFor_6 : decode cX8_goesFor 6 = .ok (.ifCond .eq 7, 3) := by decide +kernel
theorem dX8_goesFor_9 : decode cX8_goesFor 9 = .ok (.aload_n 0, 1) := by decide +kernel
theorem dX8_goesFor_10 : decode cX8_goesFor 10 = .ok (.invokevirtual 317, 3) := by decide +kernel
theorem dX8_goesFor_13 : decode cX8_goesFor 13 = .ok (.iload_n 1, 1) := by decide +kernel
theorem dX8_goesFor_14 : decode cX8_goesFor 14 = .ok (.ireturn, 1) := by decide +kernel
theorem dX8_startTime_0 : decode cX8_startTime 0 = .ok (.aload_n 0, 1) := by decide +kernel
theorem dX8_startTime_1 : decode cX8_startTime 1 = .ok (.aload_n 0, 1) := by decide +kernel
theorem dX8_startTime_2 : decode cX8_startTime 2 = .ok (.iload_n 1, 1) := by decide +kernel
theorem dX8_startTime_3 : decode cX8_startTime 3 = .ok (.invokevirtual 271, 3) := by decide +kernel
theorem dX8_startTime_6 : decode cX8_startTime 6 = .ok (.invokevirtual 320, 3) := by decide +kernel
theorem dX8_startTime_9 : decode cX8_startTime 9 = .ok (.ifCond .eq 16, 3) := by decide +kernel
theorem dX8_startTime_12 : decode cX8_startTime 12 = .ok (.aload_n 0, 1) := by decide +kernel
theorem dX8_startTime_13 : decode cX8_startTime 13 = .ok (.aload_n 0, 1) := by decide +kernel
theorem dX8_startTime_14 : decode cX8_startTime 14 = .ok (.getfield 64, 3) := by decide +kernel
theorem dX8_startTime_17 : decode cX8_startTime 17 = .ok (.iload_n 1, 1) := by decide +kernel
theorem dX8_startTime_18 : decode cX8_startTime 18 = .ok (.iaload, 1) := by decide +kernel
theorem dX8_startTime_19 : decode cX8_startTime 19 = .ok (.invokevirtual 246, 3) := by decide +kernel
theorem dX8_startTime_22 : decode cX8_startTime 22 = .ok (.goto 8, 3) := by decide +kernel
theorem dX8_startTime_25 : decode cX8_startTime 25 = .ok (.aload_n 0, 1) := by decide +kernel
theorem dX8_startTime_26 : decode cX8_startTime 26 = .ok (.iconst 1, 1) := by decide +kernel
theorem dX8_startTime_27 : decode cX8_startTime 27 = .ok (.invokevirtual 226, 3) := by decide +kernel
theorem dX8_startTime_30 : decode cX8_startTime 30 = .ok (.ireturn, 1) := by decide +kernel
theorem dX8_loaded_0 : decode cX8_loaded 0 = .ok (.aload_n 0, 1) := by decide +kernel
theorem dX8_loaded_1 : decode cX8_loaded 1 = .ok (.aload_n 0, 1) := by decide +kernel
theorem dX8_loaded_2 : decode cX8_loaded 2 = .ok (.iload_n 1, 1) := by decide +kernel
theorem dX8_loaded_3 : decode cX8_loaded 3 = .ok (.invokevirtual 271, 3) := by decide +kernel
theorem dX8_loaded_6 : decode cX8_loaded 6 = .ok (.invokevirtual 320, 3) := by decide +kernel
theorem dX8_loaded_9 : decode cX8_loaded 9 = .ok (.ifCond .eq 16, 3) := by decide +kernel
theorem dX8_loaded_12 : decode cX8_loaded 12 = .ok (.aload_n 0, 1) := by decide +kernel
theorem dX8_loaded_13 : decode cX8_loaded 13 = .ok (.aload_n 0, 1) := by decide +kernel
theorem dX8_loaded_14 : decode cX8_loaded 14 = .ok (.getfield 67, 3) := by decide +kernel
theorem dX8_loaded_17 : decode cX8_loaded 17 = .ok (.iload_n 1, 1) := by decide +kernel
theorem dX8_loaded_18 : decode cX8_loaded 18 = .ok (.iaload, 1) := by decide +kernel
theorem dX8_loaded_19 : decode cX8_loaded 19 = .ok (.invokevirtual 246, 3) := by decide +kernel
theorem dX8_loaded_22 : decode cX8_loaded 22 = .ok (.goto 8, 3) := by decide +kernel
theorem dX8_loaded_25 : decode cX8_loaded 25 = .ok (.aload_n 0, 1) := by decide +kernel
theorem dX8_loaded_26 : decode cX8_loaded 26 = .ok (.iconst 1, 1) := by decide +kernel
theorem dX8_loaded_27 : decode cX8_loaded 27 = .ok (.invokevirtual 226, 3) := by decide +kernel
theorem dX8_loaded_30 : decode cX8_loaded 30 = .ok (.ireturn, 1) := by decide +kernel
theorem dX8_unloaded_0 : decode cX8_unloaded 0 = .ok (.aload_n 0, 1) := by decide +kernel
theorem dX8_unloaded_1 : decode cX8_unloaded 1 = .ok (.aload_n 0, 1) := by decide +kernel
theorem dX8_unloaded_2 : decode cX8_unloaded 2 = .ok (.iload_n 1, 1) := by decide +kernel
theorem dX8_unloaded_3 : decode cX8_unloaded 3 = .ok (.invokevirtual 271, 3) := by decide +kernel
theorem dX8_unloaded_6 : decode cX8_unloaded 6 = .ok (.invokevirtual 320, 3) := by decide +kernel
theorem dX8_unloaded_9 : decode cX8_unloaded 9 = .ok (.ifCond .eq 16, 3) := by decide +kernel
theorem dX8_unloaded_12 : decode cX8_unloaded 12 = .ok (.aload_n 0, 1) := by decide +kernel
theorem dX8_unloaded_13 : decode cX8_unloaded 13 = .ok (.aload_n 0, 1) := by decide +kernel
theorem dX8_unloaded_14 : decode cX8_unloaded 14 = .ok (.getfield 76, 3) := by decide +kernel
theorem dX8_unloaded_17 : decode cX8_unloaded 17 = .ok (.iload_n 1, 1) := by decide +kernel
theorem dX8_unloaded_18 : decode cX8_unloaded 18 = .ok (.iaload, 1) := by decide +kernel
theorem dX8_unloaded_19 : decode cX8_unloaded 19 = .ok (.invokevirtual 246, 3) := by decide +kernel
theorem dX8_unloaded_22 : decode cX8_unloaded 22 = .ok (.goto 8, 3) := by decide +kernel
theorem dX8_unloaded_25 : decode cX8_unloaded 25 = .ok (.aload_n 0, 1) := by decide +kernel
theorem dX8_unloaded_26 : decode cX8_unloaded 26 = .ok (.iconst 1, 1) := by decide +kernel
theorem dX8_unloaded_27 : decode cX8_unloaded 27 = .ok (.invokevirtual 226, 3) := by decide +kernel
theorem dX8_unloaded_30 : decode cX8_unloaded 30 = .ok (.ireturn, 1) := by decide +kernel
theorem dX8_unloadTime_0 : decode cX8_unloadTime 0 = .ok (.aload_n 0, 1) := by decide +kernel
theorem dX8_unloadTime_1 : decode cX8_unloadTime 1 = .ok (.aload_n 0, 1) := by decide +kernel
theorem dX8_unloadTime_2 : decode cX8_unloadTime 2 = .ok (.iload_n 1, 1) := by decide +kernel
theorem dX8_unloadTime_3 : decode cX8_unloadTime 3 = .ok (.invokevirtual 271, 3) := by decide +kernel
theorem dX8_unloadTime_6 : decode cX8_unloadTime 6 = .ok (.invokevirtual 320, 3) := by decide +kernel
theorem dX8_unloadTime_9 : decode cX8_unloadTime 9 = .ok (.ifCond .ne 9, 3) := by decide +kernel
theorem dX8_unloadTime_12 : decode cX8_unloadTime 12 = .ok (.aload_n 0, 1) := by decide +kernel
theorem dX8_unloadTime_13 : decode cX8_unloadTime 13 = .ok (.iconst 1, 1) := by decide +kernel
theorem dX8_unloadTime_14 : decode cX8_unloadTime 14 = .ok (.invokevirtual 226, 3) := by decide +kernel
theorem dX8_unloadTime_17 : decode cX8_unloadTime 17 = .ok (.ireturn, 1) := by decide +kernel
theorem dX8_unloadTime_18 : decode cX8_unloadTime 18 = .ok (.aload_n 0, 1) := by decide +kernel
theorem dX8_unloadTime_19 : decode cX8_unloadTime 19 = .ok (.getfield 76, 3) := by decide +kernel
theorem dX8_unloadTime_22 : decode cX8_unloadTime 22 = .ok (.iload_n 1, 1) := by decide +kernel
theorem dX8_unloadTime_23 : decode cX8_unloadTime 23 = .ok (.iaload, 1) := by decide +kernel
theorem dX8_unloadTime_24 : decode cX8_unloadTime 24 = .ok (.ifCond .le 16, 3) := by decide +kernel
theorem dX8_unloadTime_27 : decode cX8_unloadTime 27 = .ok (.aload_n 0, 1) := by decide +kernel
theorem dX8_unloadTime_28 : decode cX8_unloadTime 28 = .ok (.aload_n 0, 1) := by decide +kernel
theorem dX8_unloadTime_29 : decode cX8_unloadTime 29 = .ok (.getfield 73, 3) := by decide +kernel
theorem dX8_unloadTime_32 : decode cX8_unloadTime 32 = .ok (.iload_n 1, 1) := by decide +kernel
theorem dX8_unloadTime_33 : decode cX8_unloadTime 33 = .ok (.iaload, 1) := by decide +kernel
theorem dX8_unloadTime_34 : decode cX8_unloadTime 34 = .ok (.invokevirtual 246, 3) := by decide +kernel
theorem dX8_unloadTime_37 : decode cX8_unloadTime 37 = .ok (.goto 9, 3) := by decide +kernel
theorem dX8_unloadTime_40 : decode cX8_unloadTime 40 = .ok (.aload_n 0, 1) := by decide +kernel
theorem dX8_unloadTime_41 : decode cX8_unloadTime 41 = .ok (.bipush 6, 2) := by decide +kernel
theorem dX8_unloadTime_43 : decode cX8_unloadTime 43 = .ok (.invokevirtual 226, 3) := by decide +kernel
theorem dX8_unloadTime_46 : decode cX8_unloadTime 46 = .ok (.ireturn, 1) := by decide +kernel
theorem dX8_finishTime_0 : decode cX8_finishTime 0 = .ok (.aload_n 0, 1) := by decide +kernel
theorem dX8_finishTime_1 : decode cX8_finishTime 1 = .ok (.aload_n 0, 1) := by decide +kernel
theorem dX8_finishTime_2 : decode cX8_finishTime 2 = .ok (.iload_n 1, 1) := by decide +kernel
theorem dX8_finishTime_3 : decode cX8_finishTime 3 = .ok (.invokevirtual 271, 3) := by decide +kernel
theorem dX8_finishTime_6 : decode cX8_finishTime 6 = .ok (.invokevirtual 320, 3) := by decide +kernel
theorem dX8_finishTime_9 : decode cX8_finishTime 9 = .ok (.ifCond .eq 16, 3) := by decide +kernel
theorem dX8_finishTime_12 : decode cX8_finishTime 12 = .ok (.aload_n 0, 1) := by decide +kernel
theorem dX8_finishTime_13 : decode cX8_finishTime 13 = .ok (.aload_n 0, 1) := by decide +kernel
theorem dX8_finishTime_14 : decode cX8_finishTime 14 = .ok (.getfield 79, 3) := by decide +kernel
theorem dX8_finishTime_17 : decode cX8_finishTime 17 = .ok (.iload_n 1, 1) := by decide +kernel
theorem dX8_finishTime_18 : decode cX8_finishTime 18 = .ok (.iaload, 1) := by decide +kernel
theorem dX8_finishTime_19 : decode cX8_finishTime 19 = .ok (.invokevirtual 246, 3) := by decide +kernel
theorem dX8_finishTime_22 : decode cX8_finishTime 22 = .ok (.goto 8, 3) := by decide +kernel
theorem dX8_finishTime_25 : decode cX8_finishTime 25 = .ok (.aload_n 0, 1) := by decide +kernel
theorem dX8_finishTime_26 : decode cX8_finishTime 26 = .ok (.iconst 1, 1) := by decide +kernel
theorem dX8_finishTime_27 : decode cX8_finishTime 27 = .ok (.invokevirtual 226, 3) := by decide +kernel
theorem dX8_finishTime_30 : decode cX8_finishTime 30 = .ok (.ireturn, 1) := by decide +kernel
theorem dX8_deliveredTo_0 : decode cX8_deliveredTo 0 = .ok (.iconst 0, 1) := by decide +kernel
theorem dX8_deliveredTo_1 : decode cX8_deliveredTo 1 = .ok (.istore 4, 2) := by decide +kernel
theorem dX8_deliveredTo_3 : decode cX8_deliveredTo 3 = .ok (.iconst 0, 1) := by decide +kernel
theorem dX8_deliveredTo_4 : decode cX8_deliveredTo 4 = .ok (.istore 5, 2) := by decide +kernel
theorem dX8_deliveredTo_6 : decode cX8_deliveredTo 6 = .ok (.iload 5, 2) := by decide +kernel
theorem dX8_deliveredTo_8 : decode cX8_deliveredTo 8 = .ok (.aload_n 0, 1) := by decide +kernel
theorem dX8_deliveredTo_9 : decode cX8_deliveredTo 9 = .ok (.getfield 17, 3) := by decide +kernel
theorem dX8_deliveredTo_12 : decode cX8_deliveredTo 12 = .ok (.bipush 87, 2) := by decide +kernel
theorem dX8_deliveredTo_14 : decode cX8_deliveredTo 14 = .ok (.iaload, 1) := by decide +kernel
theorem dX8_deliveredTo_15 : decode cX8_deliveredTo 15 = .ok (.if_icmp .ge 58, 3) := by decide +kernel
theorem dX8_deliveredTo_18 : decode cX8_deliveredTo 18 = .ok (.iload 4, 2) := by decide +kernel
theorem dX8_deliveredTo_20 : decode cX8_deliveredTo 20 = .ok (.aload_n 0, 1) := by decide +kernel
theorem dX8_deliveredTo_21 : decode cX8_deliveredTo 21 = .ok (.iload 5, 2) := by decide +kernel
theorem dX8_deliveredTo_23 : decode cX8_deliveredTo 23 = .ok (.iconst 1, 1) := by decide +kernel
theorem dX8_deliveredTo_24 : decode cX8_deliveredTo 24 = .ok (.invokevirtual 274, 3) := by decide +kernel
theorem dX8_deliveredTo_27 : decode cX8_deliveredTo 27 = .ok (.iload_n 1, 1) := by decide +kernel
theorem dX8_deliveredTo_28 : decode cX8_deliveredTo 28 = .ok (.if_icmp .ne 35, 3) := by decide +kernel
theorem dX8_deliveredTo_31 : decode cX8_deliveredTo 31 = .ok (.aload_n 0, 1) := by decide +kernel
theorem dX8_deliveredTo_32 : decode cX8_deliveredTo 32 = .ok (.iload 5, 2) := by decide +kernel
theorem dX8_deliveredTo_34 : decode cX8_deliveredTo 34 = .ok (.iconst 2, 1) := by decide +kernel
theorem dX8_deliveredTo_35 : decode cX8_deliveredTo 35 = .ok (.invokevirtual 274, 3) := by decide +kernel
theorem dX8_deliveredTo_38 : decode cX8_deliveredTo 38 = .ok (.iload_n 2, 1) := by decide +kernel
theorem dX8_deliveredTo_39 : decode cX8_deliveredTo 39 = .ok (.if_icmp .ne 24, 3) := by decide +kernel
theorem dX8_deliveredTo_42 : decode cX8_deliveredTo 42 = .ok (.aload_n 0, 1) := by decide +kernel
theorem dX8_deliveredTo_43 : decode cX8_deliveredTo 43 = .ok (.iload 5, 2) := by decide +kernel
theorem dX8_deliveredTo_45 : decode cX8_deliveredTo 45 = .ok (.iconst 3, 1) := by decide +kernel
theorem dX8_deliveredTo_46 : decode cX8_deliveredTo 46 = .ok (.invokevirtual 274, 3) := by decide +kernel
theorem dX8_deliveredTo_49 : decode cX8_deliveredTo 49 = .ok (.iload_n 3, 1) := by decide +kernel
theorem dX8_deliveredTo_50 : decode cX8_deliveredTo 50 = .ok (.if_icmp .ne 13, 3) := by decide +kernel
theorem dX8_deliveredTo_53 : decode cX8_deliveredTo 53 = .ok (.aload_n 0, 1) := by decide +kernel
theorem dX8_deliveredTo_54 : decode cX8_deliveredTo 54 = .ok (.getfield 76, 3) := by decide +kernel
theorem dX8_deliveredTo_57 : decode cX8_deliveredTo 57 = .ok (.iload 5, 2) := by decide +kernel
theorem dX8_deliveredTo_59 : decode cX8_deliveredTo 59 = .ok (.iaload, 1) := by decide +kernel
theorem dX8_deliveredTo_60 : decode cX8_deliveredTo 60 = .ok (.goto 4, 3) := by decide +kernel
theorem dX8_deliveredTo_63 : decode cX8_deliveredTo 63 = .ok (.iconst 0, 1) := by decide +kernel
theorem dX8_deliveredTo_64 : decode cX8_deliveredTo 64 = .ok (.iadd, 1) := by decide +kernel
theorem dX8_deliveredTo_65 : decode cX8_deliveredTo 65 = .ok (.istore 4, 2) := by decide +kernel
theorem dX8_deliveredTo_67 : decode cX8_deliveredTo 67 = .ok (.iinc 5 1, 3) := by decide +kernel
theorem dX8_deliveredTo_70 : decode cX8_deliveredTo 70 = .ok (.goto (-64), 3) := by decide +kernel
theorem dX8_deliveredTo_73 : decode cX8_deliveredTo 73 = .ok (.iload 4, 2) := by decide +kernel
theorem dX8_deliveredTo_75 : decode cX8_deliveredTo 75 = .ok (.ireturn, 1) := by decide +kernel
theorem dX8_deliveredToTrain_0 : decode cX8_deliveredToTrain 0 = .ok (.iconst 0, 1) := by decide +kernel
theorem dX8_deliveredToTrain_1 : decode cX8_deliveredToTrain 1 = .ok (.istore_n 3, 1) := by decide +kernel
theorem dX8_deliveredToTrain_2 : decode cX8_deliveredToTrain 2 = .ok (.iconst 0, 1) := by decide +kernel
theorem dX8_deliveredToTrain_3 : decode cX8_deliveredToTrain 3 = .ok (.istore 4, 2) := by decide +kernel
theorem dX8_deliveredToTrain_5 : decode cX8_deliveredToTrain 5 = .ok (.iload 4, 2) := by decide +kernel
theorem dX8_deliveredToTrain_7 : decode cX8_deliveredToTrain 7 = .ok (.aload_n 0, 1) := by decide +kernel
theorem dX8_deliveredToTrain_8 : decode cX8_deliveredToTrain 8 = .ok (.getfield 17, 3) := by decide +kernel
theorem dX8_deliveredToTrain_11 : decode cX8_deliveredToTrain 11 = .ok (.iconst 4, 1) := by decide +kernel
theorem dX8_deliveredToTrain_12 : decode cX8_deliveredToTrain 12 = .ok (.iload_n 1, 1) := by decide +kernel
theorem dX8_deliveredToTrain_13 : decode cX8_deliveredToTrain 13 = .ok (.iadd, 1) := by decide +kernel
theorem dX8_deliveredToTrain_14 : decode cX8_deliveredToTrain 14 = .ok (.iaload, 1) := by decide +kernel
theorem dX8_deliveredToTrain_15 : decode cX8_deliveredToTrain 15 = .ok (.if_icmp .ge 20, 3) := by decide +kernel
theorem dX8_deliveredToTrain_18 : decode cX8_deliveredToTrain 18 = .ok (.iload_n 3, 1) := by decide +kernel
theorem dX8_deliveredToTrain_19 : decode cX8_deliveredToTrain 19 = .ok (.aload_n 0, 1) := by decide +kernel
theorem dX8_deliveredToTrain_20 : decode cX8_deliveredToTrain 20 = .ok (.iload_n 1, 1) := by decide +kernel
theorem dX8_deliveredToTrain_21 : decode cX8_deliveredToTrain 21 = .ok (.iload 4, 2) := by decide +kernel
theorem dX8_deliveredToTrain_23 : decode cX8_deliveredToTrain 23 = .ok (.iload_n 2, 1) := by decide +kernel
theorem dX8_deliveredToTrain_24 : decode cX8_deliveredToTrain 24 = .ok (.invokevirtual 324, 3) := by decide +kernel
theorem dX8_deliveredToTrain_27 : decode cX8_deliveredToTrain 27 = .ok (.iadd, 1) := by decide +kernel
theorem dX8_deliveredToTrain_28 : decode cX8_deliveredToTrain 28 = .ok (.istore_n 3, 1) := by decide +kernel
theorem dX8_deliveredToTrain_29 : decode cX8_deliveredToTrain 29 = .ok (.iinc 4 1, 3) := by decide +kernel
theorem dX8_deliveredToTrain_32 : decode cX8_deliveredToTrain 32 = .ok (.goto (-27), 3) := by decide +kernel
theorem dX8_deliveredToTrain_35 : decode cX8_deliveredToTrain 35 = .ok (.iload_n 3, 1) := by decide +kernel
theorem dX8_deliveredToTrain_36 : decode cX8_deliveredToTrain 36 = .ok (.ireturn, 1) := by decide +kernel
theorem dX8_delivered_0 : decode cX8_delivered 0 = .ok (.aload_n 0, 1) := by decide +kernel
theorem dX8_delivered_1 : decode cX8_delivered 1 = .ok (.aload_n 0, 1) := by decide +kernel
theorem dX8_delivered_2 : decode cX8_delivered 2 = .ok (.iload_n 1, 1) := by decide +kernel
theorem dX8_delivered_3 : decode cX8_delivered 3 = .ok (.iload_n 2, 1) := by decide +kernel
theorem dX8_delivered_4 : decode cX8_delivered 4 = .ok (.invokevirtual 267, 3) := by decide +kernel
theorem dX8_delivered_7 : decode cX8_delivered 7 = .ok (.ifCond .eq 15, 3) := by decide +kernel
theorem dX8_delivered_10 : decode cX8_delivered 10 = .ok (.aload_n 0, 1) := by decide +kernel
theorem dX8_delivered_11 : decode cX8_delivered 11 = .ok (.iload_n 3, 1) := by decide +kernel
theorem dX8_delivered_12 : decode cX8_delivered 12 = .ok (.invokevirtual 260, 3) := by decide +kernel
theorem dX8_delivered_15 : decode cX8_delivered 15 = .ok (.ifCond .eq 7, 3) := by decide +kernel
theorem dX8_delivered_18 : decode cX8_delivered 18 = .ok (.iconst 1, 1) := by decide +kernel
theorem dX8_delivered_19 : decode cX8_delivered 19 = .ok (.goto 4, 3) := by decide +kernel
theorem dX8_delivered_22 : decode cX8_delivered 22 = .ok (.iconst 0, 1) := by decide +kernel
theorem dX8_delivered_23 : decode cX8_delivered 23 = .ok (.invokevirtual 320, 3) := by decide +kernel
theorem dX8_delivered_26 : decode cX8_delivered 26 = .ok (.ifCond .eq 17, 3) := by decide +kernel
theorem dX8_delivered_29 : decode cX8_delivered 29 = .ok (.aload_n 0, 1) := by decide +kernel
theorem dX8_delivered_30 : decode cX8_delivered 30 = .ok (.aload_n 0, 1) := by decide +kernel
theorem dX8_delivered_31 : decode cX8_delivered 31 = .ok (.iload_n 1, 1) := by decide +kernel
theorem dX8_delivered_32 : decode cX8_delivered 32 = .ok (.iload_n 2, 1) := by decide +kernel
theorem dX8_delivered_33 : decode cX8_delivered 33 = .ok (.iload_n 3, 1) := by decide +kernel
theorem dX8_delivered_34 : decode cX8_delivered 34 = .ok (.invokevirtual 324, 3) := by decide +kernel
theorem dX8_delivered_37 : decode cX8_delivered 37 = .ok (.invokevirtual 246, 3) := by decide +kernel
theorem dX8_delivered_40 : decode cX8_delivered 40 = .ok (.goto 8, 3) := by decide +kernel
theorem dX8_delivered_43 : decode cX8_delivered 43 = .ok (.aload_n 0, 1) := by decide +kernel
theorem dX8_delivered_44 : decode cX8_delivered 44 = .ok (.iconst 1, 1) := by decide +kernel
theorem dX8_delivered_45 : decode cX8_delivered 45 = .ok (.invokevirtual 226, 3) := by decide +kernel
theorem dX8_delivered_48 : decode cX8_delivered 48 = .ok (.ireturn, 1) := by decide +kernel
theorem dX8_deliveredTotal_0 : decode cX8_deliveredTotal 0 = .ok (.aload_n 0, 1) := by decide +kernel
theorem dX8_deliveredTotal_1 : decode cX8_deliveredTotal 1 = .ok (.aload_n 0, 1) := by decide +kernel
theorem dX8_deliveredTotal_2 : decode cX8_deliveredTotal 2 = .ok (.getfield 236, 3) := by decide +kernel
theorem dX8_deliveredTotal_5 : decode cX8_deliveredTotal 5 = .ok (.invokevirtual 320, 3) := by decide +kernel
theorem dX8_deliveredTotal_8 : decode cX8_deliveredTotal 8 = .ok (.ifCond .eq 14, 3) := by decide +kernel
theorem dX8_deliveredTotal_11 : decode cX8_deliveredTotal 11 = .ok (.aload_n 0, 1) := by decide +kernel
theorem dX8_deliveredTotal_12 : decode cX8_deliveredTotal 12 = .ok (.aload_n 0, 1) := by decide +kernel
theorem dX8_deliveredTotal_13 : decode cX8_deliveredTotal 13 = .ok (.invokevirtual 327, 3) := by decide +kernel
theorem dX8_deliveredTotal_16 : decode cX8_deliveredTotal 16 = .ok (.invokevirtual 246, 3) := by decide +kernel
theorem dX8_deliveredTotal_19 : decode cX8_deliveredTotal 19 = .ok (.goto 8, 3) := by decide +kernel
theorem dX8_deliveredTotal_22 : decode cX8_deliveredTotal 22 = .ok (.aload_n 0, 1) := by decide +kernel
theorem dX8_deliveredTotal_23 : decode cX8_deliveredTotal 23 = .ok (.iconst 1, 1) := by decide +kernel
theorem dX8_deliveredTotal_24 : decode cX8_deliveredTotal 24 = .ok (.invokevirtual 226, 3) := by decide +kernel
theorem dX8_deliveredTotal_27 : decode cX8_deliveredTotal 27 = .ok (.ireturn, 1) := by decide +kernel
theorem dX8_leftBehind_0 : decode cX8_leftBehind 0 = .ok (.aload_n 0, 1) := by decide +kernel
theorem dX8_leftBehind_1 : decode cX8_leftBehind 1 = .ok (.aload_n 0, 1) := by decide +kernel
theorem dX8_leftBehind_2 : decode cX8_leftBehind 2 = .ok (.iload_n 1, 1) := by decide +kernel
theorem dX8_leftBehind_3 : decode cX8_leftBehind 3 = .ok (.invokevirtual 330, 3) := by decide +kernel
theorem dX8_leftBehind_6 : decode cX8_leftBehind 6 = .ok (.invokevirtual 320, 3) := by decide +kernel
theorem dX8_leftBehind_9 : decode cX8_leftBehind 9 = .ok (.ifCond .ne 9, 3) := by decide +kernel
theorem dX8_leftBehind_12 : decode cX8_leftBehind 12 = .ok (.aload_n 0, 1) := by decide +kernel
theorem dX8_leftBehind_13 : decode cX8_leftBehind 13 = .ok (.iconst 1, 1) := by decide +kernel
theorem dX8_leftBehind_14 : decode cX8_leftBehind 14 = .ok (.invokevirtual 226, 3) := by decide +kernel
theorem dX8_leftBehind_17 : decode cX8_leftBehind 17 = .ok (.ireturn, 1) := by decide +kernel
theorem dX8_leftBehind_18 : decode cX8_leftBehind 18 = .ok (.iconst 0, 1) := by decide +kernel
theorem dX8_leftBehind_19 : decode cX8_leftBehind 19 = .ok (.istore_n 2, 1) := by decide +kernel
theorem dX8_leftBehind_20 : decode cX8_leftBehind 20 = .ok (.iconst 0, 1) := by decide +kernel
theorem dX8_leftBehind_21 : decode cX8_leftBehind 21 = .ok (.istore_n 3, 1) := by decide +kernel
theorem dX8_leftBehind_22 : decode cX8_leftBehind 22 = .ok (.iload_n 3, 1) := by decide +kernel
theorem dX8_leftBehind_23 : decode cX8_leftBehind 23 = .ok (.aload_n 0, 1) := by decide +kernel
theorem dX8_leftBehind_24 : decode cX8_leftBehind 24 = .ok (.getfield 17, 3) := by decide +kernel
theorem dX8_leftBehind_27 : decode cX8_leftBehind 27 = .ok (.bipush 87, 2) := by decide +kernel
theorem dX8_leftBehind_29 : decode cX8_leftBehind 29 = .ok (.iaload, 1) := by decide +kernel
theorem dX8_leftBehind_30 : decode cX8_leftBehind 30 = .ok (.if_icmp .ge 39, 3) := by decide +kernel
theorem dX8_leftBehind_33 : decode cX8_leftBehind 33 = .ok (.iload_n 2, 1) := by decide +kernel
theorem dX8_leftBehind_34 : decode cX8_leftBehind 34 = .ok (.aload_n 0, 1) := by decide +kernel
theorem dX8_leftBehind_35 : decode cX8_leftBehind 35 = .ok (.iload_n 3, 1) := by decide +kernel
theorem dX8_leftBehind_36 : decode cX8_leftBehind 36 = .ok (.iconst 0, 1) := by decide +kernel
theorem dX8_leftBehind_37 : decode cX8_leftBehind 37 = .ok (.invokevirtual 274, 3) := by decide +kernel
theorem dX8_leftBehind_40 : decode cX8_leftBehind 40 = .ok (.iload_n 1, 1) := by decide +kernel
theorem dX8_leftBehind_41 : decode cX8_leftBehind 41 = .ok (.if_icmp .ne 19, 3) := by decide +kernel
theorem dX8_leftBehind_44 : decode cX8_leftBehind 44 = .ok (.aload_n 0, 1) := by decide +kernel
theorem dX8_leftBehind_45 : decode cX8_leftBehind 45 = .ok (.getfield 67, 3) := by decide +kernel
theorem dX8_leftBehind_48 : decode cX8_leftBehind 48 = .ok (.iload_n 3, 1) := by decide +kernel
theorem dX8_leftBehind_49 : decode cX8_leftBehind 49 = .ok (.iaload, 1) := by decide +kernel
theorem dX8_leftBehind_50 : decode cX8_leftBehind 50 = .ok (.aload_n 0, 1) := by decide +kernel
theorem dX8_leftBehind_51 : decode cX8_leftBehind 51 = .ok (.getfield 76, 3) := by decide +kernel
theorem dX8_leftBehind_54 : decode cX8_leftBehind 54 = .ok (.iload_n 3, 1) := by decide +kernel
theorem dX8_leftBehind_55 : decode cX8_leftBehind 55 = .ok (.iaload, 1) := by decide +kernel
theorem dX8_leftBehind_56 : decode cX8_leftBehind 56 = .ok (.isub, 1) := by decide +kernel
theorem dX8_leftBehind_57 : decode cX8_leftBehind 57 = .ok (.goto 4, 3) := by decide +kernel
theorem dX8_leftBehind_60 : decode cX8_leftBehind 60 = .ok (.iconst 0, 1) := by decide +kernel
theorem dX8_leftBehind_61 : decode cX8_leftBehind 61 = .ok (.iadd, 1) := by decide +kernel
theorem dX8_leftBehind_62 : decode cX8_leftBehind 62 = .ok (.istore_n 2, 1) := by decide +kernel
theorem dX8_leftBehind_63 : decode cX8_leftBehind 63 = .ok (.iinc 3 1, 3) := by decide +kernel
theorem dX8_leftBehind_66 : decode cX8_leftBehind 66 = .ok (.goto (-44), 3) := by decide +kernel
theorem dX8_leftBehind_69 : decode cX8_leftBehind 69 = .ok (.aload_n 0, 1) := by decide +kernel
theorem dX8_leftBehind_70 : decode cX8_leftBehind 70 = .ok (.iload_n 2, 1) := by decide +kernel
theorem dX8_leftBehind_71 : decode cX8_leftBehind 71 = .ok (.invokevirtual 246, 3) := by decide +kernel
theorem dX8_leftBehind_74 : decode cX8_leftBehind 74 = .ok (.ireturn, 1) := by decide +kernel
theorem dX8_finalStock_0 : decode cX8_finalStock 0 = .ok (.aload_n 0, 1) := by decide +kernel
theorem dX8_finalStock_1 : decode cX8_finalStock 1 = .ok (.aload_n 0, 1) := by decide +kernel
theorem dX8_finalStock_2 : decode cX8_finalStock 2 = .ok (.iload_n 1, 1) := by decide +kernel
theorem dX8_finalStock_3 : decode cX8_finalStock 3 = .ok (.invokevirtual 257, 3) := by decide +kernel
theorem dX8_finalStock_6 : decode cX8_finalStock 6 = .ok (.ifCond .eq 15, 3) := by decide +kernel
theorem dX8_finalStock_9 : decode cX8_finalStock 9 = .ok (.aload_n 0, 1) := by decide +kernel
theorem dX8_finalStock_10 : decode cX8_finalStock 10 = .ok (.iload_n 2, 1) := by decide +kernel
theorem dX8_finalStock_11 : decode cX8_finalStock 11 = .ok (.invokevirtual 260, 3) := by decide +kernel
theorem dX8_finalStock_14 : decode cX8_finalStock 14 = .ok (.ifCond .eq 7, 3) := by decide +kernel
theorem dX8_finalStock_17 : decode cX8_finalStock 17 = .ok (.iconst 1, 1) := by decide +kernel
theorem dX8_finalStock_18 : decode cX8_finalStock 18 = .ok (.goto 4, 3) := by decide +kernel
theorem dX8_finalStock_21 : decode cX8_finalStock 21 = .ok (.iconst 0, 1) := by decide +kernel
theorem dX8_finalStock_22 : decode cX8_finalStock 22 = .ok (.invokevirtual 320, 3) := by decide +kernel
theorem dX8_finalStock_25 : decode cX8_finalStock 25 = .ok (.ifCond .eq 20, 3) := by decide +kernel
theorem dX8_finalStock_28 : decode cX8_finalStock 28 = .ok (.aload_n 0, 1) := by decide +kernel
theorem dX8_finalStock_29 : decode cX8_finalStock 29 = .ok (.aload_n 0, 1) := by decide +kernel
theorem dX8_finalStock_30 : decode cX8_finalStock 30 = .ok (.getfield 58, 3) := by decide +kernel
theorem dX8_finalStock_33 : decode cX8_finalStock 33 = .ok (.iconst 4, 1) := by decide +kernel
theorem dX8_finalStock_34 : decode cX8_finalStock 34 = .ok (.iload_n 1, 1) := by decide +kernel
theorem dX8_finalStock_35 : decode cX8_finalStock 35 = .ok (.imul, 1) := by decide +kernel
theorem dX8_finalStock_36 : decode cX8_finalStock 36 = .ok (.iload_n 2, 1) := by decide +kernel
theorem dX8_finalStock_37 : decode cX8_finalStock 37 = .ok (.iadd, 1) := by decide +kernel
theorem dX8_finalStock_38 : decode cX8_finalStock 38 = .ok (.iaload, 1) := by decide +kernel
theorem dX8_finalStock_39 : decode cX8_finalStock 39 = .ok (.invokevirtual 246, 3) := by decide +kernel
theorem dX8_finalStock_42 : decode cX8_finalStock 42 = .ok (.goto 8, 3) := by decide +kernel
theorem dX8_finalStock_45 : decode cX8_finalStock 45 = .ok (.aload_n 0, 1) := by decide +kernel
theorem dX8_finalStock_46 : decode cX8_finalStock 46 = .ok (.iconst 1, 1) := by decide +kernel
theorem dX8_finalStock_47 : decode cX8_finalStock 47 = .ok (.invokevirtual 226, 3) := by decide +kernel
theorem dX8_finalStock_50 : decode cX8_finalStock 50 = .ok (.ireturn, 1) := by decide +kernel
theorem dX8_shortage_0 : decode cX8_shortage 0 = .ok (.aload_n 0, 1) := by decide +kernel
theorem dX8_shortage_1 : decode cX8_shortage 1 = .ok (.aload_n 0, 1) := by decide +kernel
theorem dX8_shortage_2 : decode cX8_shortage 2 = .ok (.iload_n 1, 1) := by decide +kernel
theorem dX8_shortage_3 : decode cX8_shortage 3 = .ok (.iload_n 2, 1) := by decide +kernel
theorem dX8_shortage_4 : decode cX8_shortage 4 = .ok (.invokevirtual 267, 3) := by decide +kernel
theorem dX8_shortage_7 : decode cX8_shortage 7 = .ok (.ifCond .eq 15, 3) := by decide +kernel
theorem dX8_shortage_10 : decode cX8_shortage 10 = .ok (.aload_n 0, 1) := by decide +kernel
theorem dX8_shortage_11 : decode cX8_shortage 11 = .ok (.iload_n 3, 1) := by decide +kernel
theorem dX8_shortage_12 : decode cX8_shortage 12 = .ok (.invokevirtual 260, 3) := by decide +kernel
theorem dX8_shortage_15 : decode cX8_shortage 15 = .ok (.ifCond .eq 7, 3) := by decide +kernel
theorem dX8_shortage_18 : decode cX8_shortage 18 = .ok (.iconst 1, 1) := by decide +kernel
theorem dX8_shortage_19 : decode cX8_shortage 19 = .ok (.goto 4, 3) := by decide +kernel
theorem dX8_shortage_22 : decode cX8_shortage 22 = .ok (.iconst 0, 1) := by decide +kernel
theorem dX8_shortage_23 : decode cX8_shortage 23 = .ok (.invokevirtual 320, 3) := by decide +kernel
theorem dX8_shortage_26 : decode cX8_shortage 26 = .ok (.ifCond .ne 9, 3) := by decide +kernel
theorem dX8_shortage_29 : decode cX8_shortage 29 = .ok (.aload_n 0, 1) := by decide +kernel
theorem dX8_shortage_30 : decode cX8_shortage 30 = .ok (.iconst 1, 1) := by decide +kernel
theorem dX8_shortage_31 : decode cX8_shortage 31 = .ok (.invokevirtual 226, 3) := by decide +kernel
theorem dX8_shortage_34 : decode cX8_shortage 34 = .ok (.ireturn, 1) := by decide +kernel
theorem dX8_shortage_35 : decode cX8_shortage 35 = .ok (.aload_n 0, 1) := by decide +kernel
theorem dX8_shortage_36 : decode cX8_shortage 36 = .ok (.iconst 0, 1) := by decide +kernel
theorem dX8_shortage_37 : decode cX8_shortage 37 = .ok (.aload_n 0, 1) := by decide +kernel
theorem dX8_shortage_38 : decode cX8_shortage 38 = .ok (.iload_n 1, 1) := by decide +kernel
theorem dX8_shortage_39 : decode cX8_shortage 39 = .ok (.iload_n 2, 1) := by decide +kernel
theorem dX8_shortage_40 : decode cX8_shortage 40 = .ok (.iload_n 3, 1) := by decide +kernel
theorem dX8_shortage_41 : decode cX8_shortage 41 = .ok (.invokevirtual 263, 3) := by decide +kernel
theorem dX8_shortage_44 : decode cX8_shortage 44 = .ok (.aload_n 0, 1) := by decide +kernel
theorem dX8_shortage_45 : decode cX8_shortage 45 = .ok (.iload_n 1, 1) := by decide +kernel
theorem dX8_shortage_46 : decode cX8_shortage 46 = .ok (.iload_n 2, 1) := by decide +kernel
theorem dX8_shortage_47 : decode cX8_shortage 47 = .ok (.iload_n 3, 1) := by decide +kernel
theorem dX8_shortage_48 : decode cX8_shortage 48 = .ok (.invokevirtual 324, 3) := by decide +kernel
theorem dX8_shortage_51 : decode cX8_shortage 51 = .ok (.isub, 1) := by decide +kernel
theorem dX8_shortage_52 : decode cX8_shortage 52 = .ok (.invokestatic 297, 3) := by decide +kernel
theorem dX8_shortage_55 : decode cX8_shortage 55 = .ok (.invokevirtual 246, 3) := by decide +kernel
theorem dX8_shortage_58 : decode cX8_shortage 58 = .ok (.ireturn, 1) := by decide +kernel
theorem dX8_longestWait_0 : decode cX8_longestWait 0 = .ok (.aload_n 0, 1) := by decide +kernel
theorem dX8_longestWait_1 : decode cX8_longestWait 1 = .ok (.aload_n 0, 1) := by decide +kernel
theorem dX8_longestWait_2 : decode cX8_longestWait 2 = .ok (.iload_n 1, 1) := by decide +kernel
theorem dX8_longestWait_3 : decode cX8_longestWait 3 = .ok (.invokevirtual 330, 3) := by decide +kernel
theorem dX8_longestWait_6 : decode cX8_longestWait 6 = .ok (.invokevirtual 320, 3) := by decide +kernel
theorem dX8_longestWait_9 : decode cX8_longestWait 9 = .ok (.ifCond .ne 9, 3) := by decide +kernel
theorem dX8_longestWait_12 : decode cX8_longestWait 12 = .ok (.aload_n 0, 1) := by decide +kernel
theorem dX8_longestWait_13 : decode cX8_longestWait 13 = .ok (.iconst 1, 1) := by decide +kernel
theorem dX8_longestWait_14 : decode cX8_longestWait 14 = .ok (.invokevirtual 226, 3) := by decide +kernel
theorem dX8_longestWait_17 : decode cX8_longestWait 17 = .ok (.ireturn, 1) := by decide +kernel
theorem dX8_longestWait_18 : decode cX8_longestWait 18 = .ok (.iconst 0, 1) := by decide +kernel
theorem dX8_longestWait_19 : decode cX8_longestWait 19 = .ok (.istore_n 2, 1) := by decide +kernel
theorem dX8_longestWait_20 : decode cX8_longestWait 20 = .ok (.iconst 0, 1) := by decide +kernel
theorem dX8_longestWait_21 : decode cX8_longestWait 21 = .ok (.istore_n 3, 1) := by decide +kernel
theorem dX8_longestWait_22 : decode cX8_longestWait 22 = .ok (.iload_n 3, 1) := by decide +kernel
theorem dX8_longestWait_23 : decode cX8_longestWait 23 = .ok (.aload_n 0, 1) := by decide +kernel
theorem dX8_longestWait_24 : decode cX8_longestWait 24 = .ok (.getfield 17, 3) := by decide +kernel
theorem dX8_longestWait_27 : decode cX8_longestWait 27 = .ok (.bipush 87, 2) := by decide +kernel
theorem dX8_longestWait_29 : decode cX8_longestWait 29 = .ok (.iaload, 1) := by decide +kernel
theorem dX8_longestWait_30 : decode cX8_longestWait 30 = .ok (.if_icmp .ge 46, 3) := by decide +kernel
theorem dX8_longestWait_33 : decode cX8_longestWait 33 = .ok (.aload_n 0, 1) := by decide +kernel
theorem dX8_longestWait_34 : decode cX8_longestWait 34 = .ok (.iload_n 3, 1) := by decide +kernel
theorem dX8_longestWait_35 : decode cX8_longestWait 35 = .ok (.iconst 0, 1) := by decide +kernel
theorem dX8_longestWait_36 : decode cX8_longestWait 36 = .ok (.invokevirtual 274, 3) := by decide +kernel
theorem dX8_longestWait_39 : decode cX8_longestWait 39 = .ok (.iload_n 1, 1) := by decide +kernel
theorem dX8_longestWait_40 : decode cX8_longestWait 40 = .ok (.if_icmp .ne 30, 3) := by decide +kernel
theorem dX8_longestWait_43 : decode cX8_longestWait 43 = .ok (.aload_n 0, 1) := by decide +kernel
theorem dX8_longestWait_44 : decode cX8_longestWait 44 = .ok (.getfield 76, 3) := by decide +kernel
theorem dX8_longestWait_47 : decode cX8_longestWait 47 = .ok (.iload_n 3, 1) := by decide +kernel
theorem dX8_longestWait_48 : decode cX8_longestWait 48 = .ok (.iaload, 1) := by decide +kernel
theorem dX8_longestWait_49 : decode cX8_longestWait 49 = .ok (.ifCond .le 21, 3) := by decide +kernel
theorem dX8_longestWait_52 : decode cX8_longestWait 52 = .ok (.iload_n 2, 1) := by decide +kernel
theorem dX8_longestWait_53 : decode cX8_longestWait 53 = .ok (.aload_n 0, 1) := by decide +kernel
theorem dX8_longestWait_54 : decode cX8_longestWait 54 = .ok (.getfield 73, 3) := by decide +kernel
theorem dX8_longestWait_57 : decode cX8_longestWait 57 = .ok (.iload_n 3, 1) := by decide +kernel
theorem dX8_longestWait_58 : decode cX8_longestWait 58 = .ok (.iaload, 1) := by decide +kernel
theorem dX8_longestWait_59 : decode cX8_longestWait 59 = .ok (.aload_n 0, 1) := by decide +kernel
theorem dX8_longestWait_60 : decode cX8_longestWait 60 = .ok (.getfield 70, 3) := by decide +kernel
theorem dX8_longestWait_63 : decode cX8_longestWait 63 = .ok (.iload_n 3, 1) := by decide +kernel
theorem dX8_longestWait_64 : decode cX8_longestWait 64 = .ok (.iaload, 1) := by decide +kernel
theorem dX8_longestWait_65 : decode cX8_longestWait 65 = .ok (.isub, 1) := by decide +kernel
theorem dX8_longestWait_66 : decode cX8_longestWait 66 = .ok (.invokestatic 297, 3) := by decide +kernel
theorem dX8_longestWait_69 : decode cX8_longestWait 69 = .ok (.istore_n 2, 1) := by decide +kernel
theorem dX8_longestWait_70 : decode cX8_longestWait 70 = .ok (.iinc 3 1, 3) := by decide +kernel
theorem dX8_longestWait_73 : decode cX8_longestWait 73 = .ok (.goto (-51), 3) := by decide +kernel
theorem dX8_longestWait_76 : decode cX8_longestWait 76 = .ok (.aload_n 0, 1) := by decide +kernel
theorem dX8_longestWait_77 : decode cX8_longestWait 77 = .ok (.iload_n 2, 1) := by decide +kernel
theorem dX8_longestWait_78 : decode cX8_longestWait 78 = .ok (.invokevirtual 246, 3) := by decide +kernel
theorem dX8_longestWait_81 : decode cX8_longestWait 81 = .ok (.ireturn, 1) := by decide +kernel
theorem dX8_doorBusy_0 : decode cX8_doorBusy 0 = .ok (.aload_n 0, 1) := by decide +kernel
theorem dX8_doorBusy_1 : decode cX8_doorBusy 1 = .ok (.aload_n 0, 1) := by decide +kernel
theorem dX8_doorBusy_2 : decode cX8_doorBusy 2 = .ok (.iload_n 1, 1) := by decide +kernel
theorem dX8_doorBusy_3 : decode cX8_doorBusy 3 = .ok (.iload_n 2, 1) := by decide +kernel
theorem dX8_doorBusy_4 : decode cX8_doorBusy 4 = .ok (.invokevirtual 267, 3) := by decide +kernel
theorem dX8_doorBusy_7 : decode cX8_doorBusy 7 = .ok (.invokevirtual 320, 3) := by decide +kernel
theorem dX8_doorBusy_10 : decode cX8_doorBusy 10 = .ok (.ifCond .ne 9, 3) := by decide +kernel
theorem dX8_doorBusy_13 : decode cX8_doorBusy 13 = .ok (.aload_n 0, 1) := by decide +kernel
theorem dX8_doorBusy_14 : decode cX8_doorBusy 14 = .ok (.iconst 1, 1) := by decide +kernel
theorem dX8_doorBusy_15 : decode cX8_doorBusy 15 = .ok (.invokevirtual 226, 3) := by decide +kernel
theorem dX8_doorBusy_18 : decode cX8_doorBusy 18 = .ok (.ireturn, 1) := by decide +kernel
theorem dX8_doorBusy_19 : decode cX8_doorBusy 19 = .ok (.iconst 0, 1) := by decide +kernel
theorem dX8_doorBusy_20 : decode cX8_doorBusy 20 = .ok (.istore_n 3, 1) := by decide +kernel
theorem dX8_doorBusy_21 : decode cX8_doorBusy 21 = .ok (.iconst 0, 1) := by decide +kernel
theorem dX8_doorBusy_22 : decode cX8_doorBusy 22 = .ok (.istore 4, 2) := by decide +kernel
theorem dX8_doorBusy_24 : decode cX8_doorBusy 24 = .ok (.iload 4, 2) := by decide +kernel
theorem dX8_doorBusy_26 : decode cX8_doorBusy 26 = .ok (.aload_n 0, 1) := by decide +kernel
theorem dX8_doorBusy_27 : decode cX8_doorBusy 27 = .ok (.getfield 17, 3) := by decide +kernel
theorem dX8_doorBusy_30 : decode cX8_doorBusy 30 = .ok (.bipush 87, 2) := by decide +kernel
theorem dX8_doorBusy_32 : decode cX8_doorBusy 32 = .ok (.iaload, 1) := by decide +kernel
theorem dX8_doorBusy_33 : decode cX8_doorBusy 33 = .ok (.if_icmp .ge 54, 3) := by decide +kernel
theorem dX8_doorBusy_36 : decode cX8_doorBusy 36 = .ok (.aload_n 0, 1) := by decide +kernel
theorem dX8_doorBusy_37 : decode cX8_doorBusy 37 = .ok (.iload 4, 2) := by decide +kernel
theorem dX8_doorBusy_39 : decode cX8_doorBusy 39 = .ok (.iconst 1, 1) := by decide +kernel
theorem dX8_doorBusy_40 : decode cX8_doorBusy 40 = .ok (.invokevirtual 274, 3) := by decide +kernel
theorem dX8_doorBusy_43 : decode cX8_doorBusy 43 = .ok (.iload_n 1, 1) := by decide +kernel
theorem dX8_doorBusy_44 : decode cX8_doorBusy 44 = .ok (.if_icmp .ne 37, 3) := by decide +kernel
theorem dX8_doorBusy_47 : decode cX8_doorBusy 47 = .ok (.aload_n 0, 1) := by decide +kernel
theorem dX8_doorBusy_48 : decode cX8_doorBusy 48 = .ok (.iload 4, 2) := by decide +kernel
theorem dX8_doorBusy_50 : decode cX8_doorBusy 50 = .ok (.iconst 2, 1) := by decide +kernel
theorem dX8_doorBusy_51 : decode cX8_doorBusy 51 = .ok (.invokevirtual 274, 3) := by decide +kernel
theorem dX8_doorBusy_54 : decode cX8_doorBusy 54 = .ok (.iload_n 2, 1) := by decide +kernel
theorem dX8_doorBusy_55 : decode cX8_doorBusy 55 = .ok (.if_icmp .ne 26, 3) := by decide +kernel
theorem dX8_doorBusy_58 : decode cX8_doorBusy 58 = .ok (.iload_n 3, 1) := by decide +kernel
theorem dX8_doorBusy_59 : decode cX8_doorBusy 59 = .ok (.aload_n 0, 1) := by decide +kernel
theorem dX8_doorBusy_60 : decode cX8_doorBusy 60 = .ok (.getfield 76, 3) := by decide +kernel
theorem dX8_doorBusy_63 : decode cX8_doorBusy 63 = .ok (.iload 4, 2) := by decide +kernel
theorem dX8_doorBusy_65 : decode cX8_doorBusy 65 = .ok (.iaload, 1) := by decide +kernel
theorem dX8_doorBusy_66 : decode cX8_doorBusy 66 = .ok (.aload_n 0, 1) := by decide +kernel
theorem dX8_doorBusy_67 : decode cX8_doorBusy 67 = .ok (.aload_n 0, 1) := by decide +kernel
theorem dX8_doorBusy_68 : decode cX8_doorBusy 68 = .ok (.iload 4, 2) := by decide +kernel
theorem dX8_doorBusy_70 : decode cX8_doorBusy 70 = .ok (.iconst 0, 1) := by decide +kernel
theorem dX8_doorBusy_71 : decode cX8_doorBusy 71 = .ok (.invokevirtual 274, 3) := by decide +kernel
theorem dX8_doorBusy_74 : decode cX8_doorBusy 74 = .ok (.iconst 4, 1) := by decide +kernel
theorem dX8_doorBusy_75 : decode cX8_doorBusy 75 = .ok (.invokevirtual 277, 3) := by decide +kernel
theorem dX8_doorBusy_78 : decode cX8_doorBusy 78 = .ok (.imul, 1) := by decide +kernel
theorem dX8_doorBusy_79 : decode cX8_doorBusy 79 = .ok (.iadd, 1) := by decide +kernel
theorem dX8_doorBusy_80 : decode cX8_doorBusy 80 = .ok (.istore_n 3, 1) := by decide +kernel
theorem dX8_doorBusy_81 : decode cX8_doorBusy 81 = .ok (.iinc 4 1, 3) := by decide +kernel
theorem dX8_doorBusy_84 : decode cX8_doorBusy 84 = .ok (.goto (-60), 3) := by decide +kernel
theorem dX8_doorBusy_87 : decode cX8_doorBusy 87 = .ok (.aload_n 0, 1) := by decide +kernel
theorem dX8_doorBusy_88 : decode cX8_doorBusy 88 = .ok (.iload_n 3, 1) := by decide +kernel
theorem dX8_doorBusy_89 : decode cX8_doorBusy 89 = .ok (.invokevirtual 246, 3) := by decide +kernel
theorem dX8_doorBusy_92 : decode cX8_doorBusy 92 = .ok (.ireturn, 1) := by decide +kernel
theorem dX8_isDoing_0 : decode cX8_isDoing 0 = .ok (.iload_n 3, 1) := by decide +kernel
theorem dX8_isDoing_1 : decode cX8_isDoing 1 = .ok (.iload 4, 2) := by decide +kernel
theorem dX8_isDoing_3 : decode cX8_isDoing 3 = .ok (.if_icmp .gt 5, 3) := by decide +kernel
theorem dX8_isDoing_6 : decode cX8_isDoing 6 = .ok (.iconst 0, 1) := by decide +kernel
theorem dX8_isDoing_7 : decode cX8_isDoing 7 = .ok (.ireturn, 1) := by decide +kernel
theorem dX8_isDoing_8 : decode cX8_isDoing 8 = .ok (.aload_n 0, 1) := by decide +kernel
theorem dX8_isDoing_9 : decode cX8_isDoing 9 = .ok (.iload_n 1, 1) := by decide +kernel
theorem dX8_isDoing_10 : decode cX8_isDoing 10 = .ok (.putfield 333, 3) := by decide +kernel
theorem dX8_isDoing_13 : decode cX8_isDoing 13 = .ok (.aload_n 0, 1) := by decide +kernel
theorem dX8_isDoing_14 : decode cX8_isDoing 14 = .ok (.iload_n 2, 1) := by decide +kernel
theorem dX8_isDoing_15 : decode cX8_isDoing 15 = .ok (.putfield 336, 3) := by decide +kernel
theorem dX8_isDoing_18 : decode cX8_isDoing 18 = .ok (.iconst 1, 1) := by decide +kernel
theorem dX8_isDoing_19 : decode cX8_isDoing 19 = .ok (.ireturn, 1) := by decide +kernel
theorem dX8_findDoing_0 : decode cX8_findDoing 0 = .ok (.aload_n 0, 1) := by decide +kernel
theorem dX8_findDoing_1 : decode cX8_findDoing 1 = .ok (.iconst 0, 1) := by decide +kernel
theorem dX8_findDoing_2 : decode cX8_findDoing 2 = .ok (.putfield 333, 3) := by decide +kernel
theorem dX8_findDoing_5 : decode cX8_findDoing 5 = .ok (.iconst 0, 1) := by decide +kernel
theorem dX8_findDoing_6 : decode cX8_findDoing 6 = .ok (.istore_n 3, 1) := by decide +kernel
theorem dX8_findDoing_7 : decode cX8_findDoing 7 = .ok (.iload_n 3, 1) := by decide +kernel
theorem dX8_findDoing_8 : decode cX8_findDoing 8 = .ok (.aload_n 0, 1) := by decide +kernel
theorem dX8_findDoing_9 : decode cX8_findDoing 9 = .ok (.getfield 17, 3) := by decide +kernel
theorem dX8_findDoing_12 : decode cX8_findDoing 12 = .ok (.bipush 87, 2) := by decide +kernel
theorem dX8_findDoing_14 : decode cX8_findDoing 14 = .ok (.iaload, 1) := by decide +kernel
theorem dX8_findDoing_15 : decode cX8_findDoing 15 = .ok (.if_icmp .ge 151, 3) := by decide +kernel
theorem dX8_findDoing_18 : decode cX8_findDoing 18 = .ok (.aload_n 0, 1) := by decide +kernel
theorem dX8_findDoing_19 : decode cX8_findDoing 19 = .ok (.iload_n 3, 1) := by decide +kernel
theorem dX8_findDoing_20 : decode cX8_findDoing 20 = .ok (.iconst 0, 1) := by decide +kernel
theorem dX8_findDoing_21 : decode cX8_findDoing 21 = .ok (.invokevirtual 274, 3) := by decide +kernel
theorem dX8_findDoing_24 : decode cX8_findDoing 24 = .ok (.iload_n 1, 1) := by decide +kernel
theorem dX8_findDoing_25 : decode cX8_findDoing 25 = .ok (.if_icmp .ne 135, 3) := by decide +kernel
theorem dX8_findDoing_28 : decode cX8_findDoing 28 = .ok (.aload_n 0, 1) := by decide +kernel
theorem dX8_findDoing_29 : decode cX8_findDoing 29 = .ok (.getfield 67, 3) := by decide +kernel
theorem dX8_findDoing_32 : decode cX8_findDoing 32 = .ok (.iload_n 3, 1) := by decide +kernel
theorem dX8_findDoing_33 : decode cX8_findDoing 33 = .ok (.iaload, 1) := by decide +kernel
theorem dX8_findDoing_34 : decode cX8_findDoing 34 = .ok (.ifCond .ne 6, 3) := by decide +kernel
theorem dX8_findDoing_37 : decode cX8_findDoing 37 = .ok (.goto 123, 3) := by decide +kernel
theorem dX8_findDoing_40 : decode cX8_findDoing 40 = .ok (.aload_n 0, 1) := by decide +kernel
theorem dX8_findDoing_41 : decode cX8_findDoing 41 = .ok (.iconst 1, 1) := by decide +kernel
theorem dX8_findDoing_42 : decode cX8_findDoing 42 = .ok (.iload_n 3, 1) := by decide +kernel
theorem dX8_findDoing_43 : decode cX8_findDoing 43 = .ok (.aload_n 0, 1) := by decide +kernel
theorem dX8_findDoing_44 : decode cX8_findDoing 44 = .ok (.getfield 64, 3) := by decide +kernel
theorem dX8_findDoing_47 : decode cX8_findDoing 47 = .ok (.iload_n 3, 1) := by decide +kernel
theorem dX8_findDoing_48 : decode cX8_findDoing 48 = .ok (.iaload, 1) := by decide +kernel
theorem dX8_findDoing_49 : decode cX8_findDoing 49 = .ok (.aload_n 0, 1) := by decide +kernel
theorem dX8_findDoing_50 : decode cX8_findDoing 50 = .ok (.getfield 67, 3) := by decide +kernel
theorem dX8_findDoing_53 : decode cX8_findDoing 53 = .ok (.iload_n 3, 1) := by decide +kernel
theorem dX8_findDoing_54 : decode cX8_findDoing 54 = .ok (.iaload, 1) := by decide +kernel
theorem dX8_findDoing_55 : decode cX8_findDoing 55 = .ok (.aload_n 0, 1) := by decide +kernel
theorem dX8_findDoing_56 : decode cX8_findDoing 56 = .ok (.iload_n 1, 1) := by decide +kernel
theorem dX8_findDoing_57 : decode cX8_findDoing 57 = .ok (.iconst 3, 1) := by decide +kernel
theorem dX8_findDoing_58 : decode cX8_findDoing 58 = .ok (.invokevirtual 277, 3) := by decide +kernel
theorem dX8_findDoing_61 : decode cX8_findDoing 61 = .ok (.imul, 1) := by decide +kernel
theorem dX8_findDoing_62 : decode cX8_findDoing 62 = .ok (.iadd, 1) := by decide +kernel
theorem dX8_findDoing_63 : decode cX8_findDoing 63 = .ok (.iload_n 2, 1) := by decide +kernel
theorem dX8_findDoing_64 : decode cX8_findDoing 64 = .ok (.invokevirtual 339, 3) := by decide +kernel
theorem dX8_findDoing_67 : decode cX8_findDoing 67 = .ok (.ifCond .ne 19, 3) := by decide +kernel
theorem dX8_findDoing_70 : decode cX8_findDoing 70 = .ok (.aload_n 0, 1) := by decide +kernel
theorem dX8_findDoing_71 : decode cX8_findDoing 71 = .ok (.iconst 2, 1) := by decide +kernel
theorem dX8_findDoing_72 : decode cX8_findDoing 72 = .ok (.iload_n 3, 1) := by decide +kernel
theorem dX8_findDoing_73 : decode cX8_findDoing 73 = .ok (.aload_n 0, 1) := by decide +kernel
theorem dX8_findDoing_74 : decode cX8_findDoing 74 = .ok (.getfield 70, 3) := by decide +kernel
theorem dX8_findDoing_77 : decode cX8_findDoing 77 = .ok (.iload_n 3, 1) := by decide +kernel
theorem dX8_findDoing_78 : decode cX8_findDoing 78 = .ok (.iaload, 1) := by decide +kernel
theorem dX8_findDoing_79 : decode cX8_findDoing 79 = .ok (.iload_n 2, 1) := by decide +kernel
theorem dX8_findDoing_80 : decode cX8_findDoing 80 = .ok (.invokevirtual 339, 3) := by decide +kernel
theorem dX8_findDoing_83 : decode cX8_findDoing 83 = .ok (.ifCond .eq 4, 3) := by decide +kernel
theorem dX8_findDoing_86 : decode cX8_findDoing 86 = .ok (.return_, 1) := by decide +kernel
theorem dX8_findDoing_87 : decode cX8_findDoing 87 = .ok (.aload_n 0, 1) := by decide +kernel
theorem dX8_findDoing_88 : decode cX8_findDoing 88 = .ok (.getfield 76, 3) := by decide +kernel
theorem dX8_findDoing_91 : decode cX8_findDoing 91 = .ok (.iload_n 3, 1) := by decide +kernel
theorem dX8_findDoing_92 : decode cX8_findDoing 92 = .ok (.iaload, 1) := by decide +kernel
theorem dX8_findDoing_93 : decode cX8_findDoing 93 = .ok (.ifCond .le 50, 3) := by decide +kernel
theorem dX8_findDoing_96 : decode cX8_findDoing 96 = .ok (.aload_n 0, 1) := by decide +kernel
theorem dX8_findDoing_97 : decode cX8_findDoing 97 = .ok (.iconst 3, 1) := by decide +kernel
theorem dX8_findDoing_98 : decode cX8_findDoing 98 = .ok (.iload_n 3, 1) := by decide +kernel
theorem dX8_findDoing_99 : decode cX8_findDoing 99 = .ok (.aload_n 0, 1) := by decide +kernel
theorem dX8_findDoing_100 : decode cX8_findDoing 100 = .ok (.getfield 73, 3) := by decide +kernel
theorem dX8_findDoing_103 : decode cX8_findDoing 103 = .ok (.iload_n 3, 1) := by decide +kernel
theorem dX8_findDoing_104 : decode cX8_findDoing 104 = .ok (.iaload, 1) := by decide +kernel
theorem dX8_findDoing_105 : decode cX8_findDoing 105 = .ok (.iload_n 2, 1) := by decide +kernel
theorem dX8_findDoing_106 : decode cX8_findDoing 106 = .ok (.invokevirtual 339, 3) := by decide +kernel
theorem dX8_findDoing_109 : decode cX8_findDoing 109 = .ok (.ifCond .ne 33, 3) := by decide +kernel
theorem dX8_findDoing_112 : decode cX8_findDoing 112 = .ok (.aload_n 0, 1) := by decide +kernel
theorem dX8_findDoing_113 : decode cX8_findDoing 113 = .ok (.iconst 4, 1) := by decide +kernel
theorem dX8_findDoing_114 : decode cX8_findDoing 114 = .ok (.iload_n 3, 1) := by decide +kernel
theorem dX8_findDoing_115 : decode cX8_findDoing 115 = .ok (.aload_n 0, 1) := by decide +kernel
theorem dX8_findDoing_116 : decode cX8_findDoing 116 = .ok (.getfield 73, 3) := by decide +kernel
theorem dX8_findDoing_119 : decode cX8_findDoing 119 = .ok (.iload_n 3, 1) := by decide +kernel
theorem dX8_findDoing_120 : decode cX8_findDoing 120 = .ok (.iaload, 1) := by decide +kernel
theorem dX8_findDoing_121 : decode cX8_findDoing 121 = .ok (.aload_n 0, 1) := by decide +kernel
theorem dX8_findDoing_122 : decode cX8_findDoing 122 = .ok (.getfield 76, 3) := by decide +kernel
theorem dX8_findDoing_125 : decode cX8_findDoing 125 = .ok (.iload_n 3, 1) := by decide +kernel
theorem dX8_findDoing_126 : decode cX8_findDoing 126 = .ok (.iaload, 1) := by decide +kernel
theorem dX8_findDoing_127 : decode cX8_findDoing 127 = .ok (.aload_n 0, 1) := by decide +kernel
theorem dX8_findDoing_128 : decode cX8_findDoing 128 = .ok (.iload_n 1, 1) := by decide +kernel
theorem dX8_findDoing_129 : decode cX8_findDoing 129 = .ok (.iconst 4, 1) := by decide +kernel
theorem dX8_findDoing_130 : decode cX8_findDoing 130 = .ok (.invokevirtual 277, 3) := by decide +kernel
theorem dX8_findDoing_133 : decode cX8_findDoing 133 = .ok (.imul, 1) := by decide +kernel
theorem dX8_findDoing_134 : decode cX8_findDoing 134 = .ok (.iadd, 1) := by decide +kernel
theorem dX8_findDoing_135 : decode cX8_findDoing 135 = .ok (.iload_n 2, 1) := by decide +kernel
theorem dX8_findDoing_136 : decode cX8_findDoing 136 = .ok (.invokevirtual 339, 3) := by decide +kernel
theorem dX8_findDoing_139 : decode cX8_findDoing 139 = .ok (.ifCond .eq 4, 3) := by decide +kernel
theorem dX8_findDoing_142 : decode cX8_findDoing 142 = .ok (.return_, 1) := by decide +kernel
theorem dX8_findDoing_143 : decode cX8_findDoing 143 = .ok (.aload_n 0, 1) := by decide +kernel
theorem dX8_findDoing_144 : decode cX8_findDoing 144 = .ok (.iconst 5, 1) := by decide +kernel
theorem dX8_findDoing_145 : decode cX8_findDoing 145 = .ok (.iload_n 3, 1) := by decide +kernel
theorem dX8_findDoing_146 : decode cX8_findDoing 146 = .ok (.aload_n 0, 1) := by decide +kernel
theorem dX8_findDoing_147 : decode cX8_findDoing 147 = .ok (.getfield 79, 3) := by decide +kernel
theorem dX8_findDoing_150 : decode cX8_findDoing 150 = .ok (.iload_n 3, 1) := by decide +kernel
theorem dX8_findDoing_151 : decode cX8_findDoing 151 = .ok (.iaload, 1) := by decide +kernel
theorem dX8_findDoing_152 : decode cX8_findDoing 152 = .ok (.iload_n 2, 1) := by decide +kernel
theorem dX8_findDoing_153 : decode cX8_findDoing 153 = .ok (.invokevirtual 339, 3) := by decide +kernel
theorem dX8_findDoing_156 : decode cX8_findDoing 156 = .ok (.ifCond .eq 4, 3) := by decide +kernel
theorem dX8_findDoing_159 : decode cX8_findDoing 159 = .ok (.return_, 1) := by decide +kernel
theorem dX8_findDoing_160 : decode cX8_findDoing 160 = .ok (.iinc 3 1, 3) := by decide +kernel
theorem dX8_findDoing_163 : decode cX8_findDoing 163 = .ok (.goto (-156), 3) := by decide +kernel
theorem dX8_findDoing_166 : decode cX8_findDoing 166 = .ok (.return_, 1) := by decide +kernel
theorem dX8_stateAt_0 : decode cX8_stateAt 0 = .ok (.aload_n 0, 1) := by decide +kernel
theorem dX8_stateAt_1 : decode cX8_stateAt 1 = .ok (.iconst 0, 1) := by decide +kernel
theorem dX8_stateAt_2 : decode cX8_stateAt 2 = .ok (.putfield 103, 3) := by decide +kernel
theorem dX8_stateAt_5 : decode cX8_stateAt 5 = .ok (.aload_n 0, 1) := by decide +kernel
theorem dX8_stateAt_6 : decode cX8_stateAt 6 = .ok (.iload_n 1, 1) := by decide +kernel
theorem dX8_stateAt_7 : decode cX8_stateAt 7 = .ok (.invokevirtual 330, 3) := by decide +kernel
theorem dX8_stateAt_10 : decode cX8_stateAt 10 = .ok (.ifCond .ne 9, 3) := by decide +kernel
theorem dX8_stateAt_13 : decode cX8_stateAt 13 = .ok (.aload_n 0, 1) := by decide +kernel
theorem dX8_stateAt_14 : decode cX8_stateAt 14 = .ok (.iconst 1, 1) := by decide +kernel
theorem dX8_stateAt_15 : decode cX8_stateAt 15 = .ok (.invokevirtual 226, 3) := by decide +kernel
theorem dX8_stateAt_18 : decode cX8_stateAt 18 = .ok (.ireturn, 1) := by decide +kernel
theorem dX8_stateAt_19 : decode cX8_stateAt 19 = .ok (.iload_n 2, 1) := by decide +kernel
theorem dX8_stateAt_20 : decode cX8_stateAt 20 = .ok (.iconst 0, 1) := by decide +kernel
theorem dX8_stateAt_21 : decode cX8_stateAt 21 = .ok (.sipush 9999, 3) := by decide +kernel
theorem dX8_stateAt_24 : decode cX8_stateAt 24 = .ok (.invokestatic 142, 3) := by decide +kernel
theorem dX8_stateAt_27 : decode cX8_stateAt 27 = .ok (.ifCond .ne 9, 3) := by decide +kernel
theorem dX8_stateAt_30 : decode cX8_stateAt 30 = .ok (.aload_n 0, 1) := by decide +kernel
theorem dX8_stateAt_31 : decode cX8_stateAt 31 = .ok (.iconst 2, 1) := by decide +kernel
theorem dX8_stateAt_32 : decode cX8_stateAt 32 = .ok (.invokevirtual 226, 3) := by decide +kernel
theorem dX8_stateAt_35 : decode cX8_stateAt 35 = .ok (.ireturn, 1) := by decide +kernel
theorem dX8_stateAt_36 : decode cX8_stateAt 36 = .ok (.aload_n 0, 1) := by decide +kernel
theorem dX8_stateAt_37 : decode cX8_stateAt 37 = .ok (.invokevirtual 317, 3) := by decide +kernel
theorem dX8_stateAt_40 : decode cX8_stateAt 40 = .ok (.aload_n 0, 1) := by decide +kernel
theorem dX8_stateAt_41 : decode cX8_stateAt 41 = .ok (.iload_n 1, 1) := by decide +kernel
theorem dX8_stateAt_42 : decode cX8_stateAt 42 = .ok (.iload_n 2, 1) := by decide +kernel
theorem dX8_stateAt_43 : decode cX8_stateAt 43 = .ok (.invokevirtual 343, 3) := by decide +kernel
theorem dX8_stateAt_46 : decode cX8_stateAt 46 = .ok (.aload_n 0, 1) := by decide +kernel
theorem dX8_stateAt_47 : decode cX8_stateAt 47 = .ok (.aload_n 0, 1) := by decide +kernel
theorem dX8_stateAt_48 : decode cX8_stateAt 48 = .ok (.getfield 333, 3) := by decide +kernel
theorem dX8_stateAt_51 : decode cX8_stateAt 51 = .ok (.invokevirtual 246, 3) := by decide +kernel
theorem dX8_stateAt_54 : decode cX8_stateAt 54 = .ok (.ireturn, 1) := by decide +kernel
theorem dX8_mealsOn_0 : decode cX8_mealsOn 0 = .ok (.aload_n 0, 1) := by decide +kernel
theorem dX8_mealsOn_1 : decode cX8_mealsOn 1 = .ok (.iconst 0, 1) := by decide +kernel
theorem dX8_mealsOn_2 : decode cX8_mealsOn 2 = .ok (.putfield 103, 3) := by decide +kernel
theorem dX8_mealsOn_5 : decode cX8_mealsOn 5 = .ok (.aload_n 0, 1) := by decide +kernel
theorem dX8_mealsOn_6 : decode cX8_mealsOn 6 = .ok (.iload_n 1, 1) := by decide +kernel
theorem dX8_mealsOn_7 : decode cX8_mealsOn 7 = .ok (.invokevirtual 330, 3) := by decide +kernel
theorem dX8_mealsOn_10 : decode cX8_mealsOn 10 = .ok (.ifCond .ne 9, 3) := by decide +kernel
theorem dX8_mealsOn_13 : decode cX8_mealsOn 13 = .ok (.aload_n 0, 1) := by decide +kernel
theorem dX8_mealsOn_14 : decode cX8_mealsOn 14 = .ok (.iconst 1, 1) := by decide +kernel
theorem dX8_mealsOn_15 : decode cX8_mealsOn 15 = .ok (.invokevirtual 226, 3) := by decide +kernel
theorem dX8_mealsOn_18 : decode cX8_mealsOn 18 = .ok (.ireturn, 1) := by decide +kernel
theorem dX8_mealsOn_19 : decode cX8_mealsOn 19 = .ok (.iload_n 2, 1) := by decide +kernel
theorem dX8_mealsOn_20 : decode cX8_mealsOn 20 = .ok (.iconst 0, 1) := by decide +kernel
theorem dX8_mealsOn_21 : decode cX8_mealsOn 21 = .ok (.sipush 9999, 3) := by decide +kernel
theorem dX8_mealsOn_24 : decode cX8_mealsOn 24 = .ok (.invokestatic 142, 3) := by decide +kernel
theorem dX8_mealsOn_27 : decode cX8_mealsOn 27 = .ok (.ifCond .ne 9, 3) := by decide +kernel
theorem dX8_mealsOn_30 : decode cX8_mealsOn 30 = .ok (.aload_n 0, 1) := by decide +kernel
theorem dX8_mealsOn_31 : decode cX8_mealsOn 31 = .ok (.iconst 2, 1) := by decide +kernel
theorem dX8_mealsOn_32 : decode cX8_mealsOn 32 = .ok (.invokevirtual 226, 3) := by decide +kernel
theorem dX8_mealsOn_35 : decode cX8_mealsOn 35 = .ok (.ireturn, 1) := by decide +kernel
theorem dX8_mealsOn_36 : decode cX8_mealsOn 36 = .ok (.aload_n 0, 1) := by decide +kernel
theorem dX8_mealsOn_37 : decode cX8_mealsOn 37 = .ok (.invokevirtual 317, 3) := by decide +kernel
theorem dX8_mealsOn_40 : decode cX8_mealsOn 40 = .ok (.aload_n 0, 1) := by decide +kernel
theorem dX8_mealsOn_41 : decode cX8_mealsOn 41 = .ok (.iload_n 1, 1) := by decide +kernel
theorem dX8_mealsOn_42 : decode cX8_mealsOn 42 = .ok (.iload_n 2, 1) := by decide +kernel
theorem dX8_mealsOn_43 : decode cX8_mealsOn 43 = .ok (.invokevirtual 343, 3) := by decide +kernel
theorem dX8_mealsOn_46 : decode cX8_mealsOn 46 = .ok (.aload_n 0, 1) := by decide +kernel
theorem dX8_mealsOn_47 : decode cX8_mealsOn 47 = .ok (.getfield 336, 3) := by decide +kernel
theorem dX8_mealsOn_50 : decode cX8_mealsOn 50 = .ok (.istore_n 3, 1) := by decide +kernel
theorem dX8_mealsOn_51 : decode cX8_mealsOn 51 = .ok (.aload_n 0, 1) := by decide +kernel
theorem dX8_mealsOn_52 : decode cX8_mealsOn 52 = .ok (.getfield 333, 3) := by decide +kernel
theorem dX8_mealsOn_55 : decode cX8_mealsOn 55 = .ok (.tableswitch 108 0 5 #[37, 43, 108, 108, 63, 90], 37) := by decide +kernel
theorem dX8_mealsOn_92 : decode cX8_mealsOn 92 = .ok (.aload_n 0, 1) := by decide +kernel
theorem dX8_mealsOn_93 : decode cX8_mealsOn 93 = .ok (.iconst 0, 1) := by decide +kernel
theorem dX8_mealsOn_94 : decode cX8_mealsOn 94 = .ok (.invokevirtual 246, 3) := by decide +kernel
theorem dX8_mealsOn_97 : decode cX8_mealsOn 97 = .ok (.ireturn, 1) := by decide +kernel
theorem dX8_mealsOn_98 : decode cX8_mealsOn 98 = .ok (.aload_n 0, 1) := by decide +kernel
theorem dX8_mealsOn_99 : decode cX8_mealsOn 99 = .ok (.iload_n 2, 1) := by decide +kernel
theorem dX8_mealsOn_100 : decode cX8_mealsOn 100 = .ok (.aload_n 0, 1) := by decide +kernel
theorem dX8_mealsOn_101 : decode cX8_mealsOn 101 = .ok (.getfield 64, 3) := by decide +kernel
theorem dX8_mealsOn_104 : decode cX8_mealsOn 104 = .ok (.iload_n 3, 1) := by decide +kernel
theorem dX8_mealsOn_105 : decode cX8_mealsOn 105 = .ok (.iaload, 1) := by decide +kernel
theorem dX8_mealsOn_106 : decode cX8_mealsOn 106 = .ok (.isub, 1) := by decide +kernel
theorem dX8_mealsOn_107 : decode cX8_mealsOn 107 = .ok (.aload_n 0, 1) := by decide +kernel
theorem dX8_mealsOn_108 : decode cX8_mealsOn 108 = .ok (.iload_n 1, 1) := by decide +kernel
theorem dX8_mealsOn_109 : decode cX8_mealsOn 109 = .ok (.iconst 3, 1) := by decide +kernel
theorem dX8_mealsOn_110 : decode cX8_mealsOn 110 = .ok (.invokevirtual 277, 3) := by decide +kernel
theorem dX8_mealsOn_113 : decode cX8_mealsOn 113 = .ok (.idiv, 1) := by decide +kernel
theorem dX8_mealsOn_114 : decode cX8_mealsOn 114 = .ok (.invokevirtual 246, 3) := by decide +kernel
theorem dX8_mealsOn_117 : decode cX8_mealsOn 117 = .ok (.ireturn, 1) := by decide +kernel
theorem dX8_mealsOn_118 : decode cX8_mealsOn 118 = .ok (.aload_n 0, 1) := by decide +kernel
theorem dX8_mealsOn_119 : decode cX8_mealsOn 119 = .ok (.aload_n 0, 1) := by decide +kernel
theorem dX8_mealsOn_120 : decode cX8_mealsOn 120 = .ok (.getfield 67, 3) := by decide +kernel
theorem dX8_mealsOn_123 : decode cX8_mealsOn 123 = .ok (.iload_n 3, 1) := by decide +kernel
theorem dX8_mealsOn_124 : decode cX8_mealsOn 124 = .ok (.iaload, 1) := by decide +kernel
theorem dX8_mealsOn_125 : decode cX8_mealsOn 125 = .ok (.iload_n 2, 1) := by decide +kernel
theorem dX8_mealsOn_126 : decode cX8_mealsOn 126 = .ok (.aload_n 0, 1) := by decide +kernel
theorem dX8_mealsOn_127 : decode cX8_mealsOn 127 = .ok (.getfield 73, 3) := by decide +kernel
theorem dX8_mealsOn_130 : decode cX8_mealsOn 130 = .ok (.iload_n 3, 1) := by decide +kernel
theorem dX8_mealsOn_131 : decode cX8_mealsOn 131 = .ok (.iaload, 1) := by decide +kernel
theorem dX8_mealsOn_132 : decode cX8_mealsOn 132 = .ok (.isub, 1) := by decide +kernel
theorem dX8_mealsOn_133 : decode cX8_mealsOn 133 = .ok (.aload_n 0, 1) := by decide +kernel
theorem dX8_mealsOn_134 : decode cX8_mealsOn 134 = .ok (.iload_n 1, 1) := by decide +kernel
theorem dX8_mealsOn_135 : decode cX8_mealsOn 135 = .ok (.iconst 4, 1) := by decide +kernel
theorem dX8_mealsOn_136 : decode cX8_mealsOn 136 = .ok (.invokevirtual 277, 3) := by decide +kernel
theorem dX8_mealsOn_139 : decode cX8_mealsOn 139 = .ok (.idiv, 1) := by decide +kernel
theorem dX8_mealsOn_140 : decode cX8_mealsOn 140 = .ok (.isub, 1) := by decide +kernel
theorem dX8_mealsOn_141 : decode cX8_mealsOn 141 = .ok (.invokevirtual 246, 3) := by decide +kernel
theorem dX8_mealsOn_144 : decode cX8_mealsOn 144 = .ok (.ireturn, 1) := by decide +kernel
theorem dX8_mealsOn_145 : decode cX8_mealsOn 145 = .ok (.aload_n 0, 1) := by decide +kernel
theorem dX8_mealsOn_146 : decode cX8_mealsOn 146 = .ok (.aload_n 0, 1) := by decide +kernel
theorem dX8_mealsOn_147 : decode cX8_mealsOn 147 = .ok (.getfield 67, 3) := by decide +kernel
theorem dX8_mealsOn_150 : decode cX8_mealsOn 150 = .ok (.iload_n 3, 1) := by decide +kernel
theorem dX8_mealsOn_151 : decode cX8_mealsOn 151 = .ok (.iaload, 1) := by decide +kernel
theorem dX8_mealsOn_152 : decode cX8_mealsOn 152 = .ok (.aload_n 0, 1) := by decide +kernel
theorem dX8_mealsOn_153 : decode cX8_mealsOn 153 = .ok (.getfield 76, 3) := by decide +kernel
theorem dX8_mealsOn_156 : decode cX8_mealsOn 156 = .ok (.iload_n 3, 1) := by decide +kernel
theorem dX8_mealsOn_157 : decode cX8_mealsOn 157 = .ok (.iaload, 1) := by decide +kernel
theorem dX8_mealsOn_158 : decode cX8_mealsOn 158 = .ok (.isub, 1) := by decide +kernel
theorem dX8_mealsOn_159 : decode cX8_mealsOn 159 = .ok (.invokevirtual 246, 3) := by decide +kernel
theorem dX8_mealsOn_162 : decode cX8_mealsOn 162 = .ok (.ireturn, 1) := by decide +kernel
theorem dX8_mealsOn_163 : decode cX8_mealsOn 163 = .ok (.aload_n 0, 1) := by decide +kernel
theorem dX8_mealsOn_164 : decode cX8_mealsOn 164 = .ok (.aload_n 0, 1) := by decide +kernel
theorem dX8_mealsOn_165 : decode cX8_mealsOn 165 = .ok (.getfield 67, 3) := by decide +kernel
theorem dX8_mealsOn_168 : decode cX8_mealsOn 168 = .ok (.iload_n 3, 1) := by decide +kernel
theorem dX8_mealsOn_169 : decode cX8_mealsOn 169 = .ok (.iaload, 1) := by decide +kernel
theorem dX8_mealsOn_170 : decode cX8_mealsOn 170 = .ok (.invokevirtual 246, 3) := by decide +kernel
theorem dX8_mealsOn_173 : decode cX8_mealsOn 173 = .ok (.ireturn, 1) := by decide +kernel
theorem dX8_layBoth_0 : decode cX8_layBoth 0 = .ok (.aload_n 0, 1) := by decide +kernel
theorem dX8_layBoth_1 : decode cX8_layBoth 1 = .ok (.iconst 0, 1) := by decide +kernel
theorem dX8_layBoth_2 : decode cX8_layBoth 2 = .ok (.iload_n 1, 1) := by decide +kernel
theorem dX8_layBoth_3 : decode cX8_layBoth 3 = .ok (.invokevirtual 346, 3) := by decide +kernel
theorem dX8_layBoth_6 : decode cX8_layBoth 6 = .ok (.aload_n 0, 1) := by decide +kernel
theorem dX8_layBoth_7 : decode cX8_layBoth 7 = .ok (.iconst 1, 1) := by decide +kernel
theorem dX8_layBoth_8 : decode cX8_layBoth 8 = .ok (.iload_n 1, 1) := by decide +kernel
theorem dX8_layBoth_9 : decode cX8_layBoth 9 = .ok (.invokevirtual 346, 3) := by decide +kernel
theorem dX8_layBoth_12 : decode cX8_layBoth 12 = .ok (.iadd, 1) := by decide +kernel
theorem dX8_layBoth_13 : decode cX8_layBoth 13 = .ok (.istore_n 2, 1) := by decide +kernel
theorem dX8_layBoth_14 : decode cX8_layBoth 14 = .ok (.aload_n 0, 1) := by decide +kernel
theorem dX8_layBoth_15 : decode cX8_layBoth 15 = .ok (.iconst 0, 1) := by decide +kernel
theorem dX8_layBoth_16 : decode cX8_layBoth 16 = .ok (.iload_n 1, 1) := by decide +kernel
theorem dX8_layBoth_17 : decode cX8_layBoth 17 = .ok (.invokevirtual 349, 3) := by decide +kernel
theorem dX8_layBoth_20 : decode cX8_layBoth 20 = .ok (.aload_n 0, 1) := by decide +kernel
theorem dX8_layBoth_21 : decode cX8_layBoth 21 = .ok (.iconst 1, 1) := by decide +kernel
theorem dX8_layBoth_22 : decode cX8_layBoth 22 = .ok (.iload_n 1, 1) := by decide +kernel
theorem dX8_layBoth_23 : decode cX8_layBoth 23 = .ok (.invokevirtual 349, 3) := by decide +kernel
theorem dX8_layBoth_26 : decode cX8_layBoth 26 = .ok (.iadd, 1) := by decide +kernel
theorem dX8_layBoth_27 : decode cX8_layBoth 27 = .ok (.istore_n 3, 1) := by decide +kernel
theorem dX8_layBoth_28 : decode cX8_layBoth 28 = .ok (.iload_n 2, 1) := by decide +kernel
theorem dX8_layBoth_29 : decode cX8_layBoth 29 = .ok (.istore 4, 2) := by decide +kernel
theorem dX8_layBoth_31 : decode cX8_layBoth 31 = .ok (.iconst 0, 1) := by decide +kernel
theorem dX8_layBoth_32 : decode cX8_layBoth 32 = .ok (.istore 5, 2) := by decide +kernel
theorem dX8_layBoth_34 : decode cX8_layBoth 34 = .ok (.iload 5, 2) := by decide +kernel
theorem dX8_layBoth_36 : decode cX8_layBoth 36 = .ok (.bipush 10, 2) := by decide +kernel
theorem dX8_layBoth_38 : decode cX8_layBoth 38 = .ok (.if_icmp .ge 124, 3) := by decide +kernel
theorem dX8_layBoth_41 : decode cX8_layBoth 41 = .ok (.iload 5, 2) := by decide +kernel
theorem dX8_layBoth_43 : decode cX8_layBoth 43 = .ok (.iconst 5, 1) := by decide +kernel
theorem dX8_layBoth_44 : decode cX8_layBoth 44 = .ok (.irem, 1) := by decide +kernel
theorem dX8_layBoth_45 : decode cX8_layBoth 45 = .ok (.aload_n 0, 1) := by decide +kernel
theorem dX8_layBoth_46 : decode cX8_layBoth 46 = .ok (.getfield 17, 3) := by decide +kernel
theorem dX8_layBoth_49 : decode cX8_layBoth 49 = .ok (.iconst 4, 1) := by decide +kernel
theorem dX8_layBoth_50 : decode cX8_layBoth 50 = .ok (.iload 5, 2) := by decide +kernel
theorem dX8_layBoth_52 : decode cX8_layBoth 52 = .ok (.iconst 5, 1) := by decide +kernel
theorem dX8_layBoth_53 : decode cX8_layBoth 53 = .ok (.idiv, 1) := by decide +kernel
theorem dX8_layBoth_54 : decode cX8_layBoth 54 = .ok (.iadd, 1) := by decide +kernel
theorem dX8_layBoth_55 : decode cX8_layBoth 55 = .ok (.iaload, 1) := by decide +kernel
theorem dX8_layBoth_56 : decode cX8_layBoth 56 = .ok (.if_icmp .ge 7, 3) := by decide +kernel
theorem dX8_layBoth_59 : decode cX8_layBoth 59 = .ok (.iconst 1, 1) := by decide +kernel
theorem dX8_layBoth_60 : decode cX8_layBoth 60 = .ok (.goto 4, 3) := by decide +kernel
theorem dX8_layBoth_63 : decode cX8_layBoth 63 = .ok (.iconst 0, 1) := by decide +kernel
theorem dX8_layBoth_64 : decode cX8_layBoth 64 = .ok (.istore 6, 2) := by decide +kernel
theorem dX8_layBoth_66 : decode cX8_layBoth 66 = .ok (.iload 6, 2) := by decide +kernel
theorem dX8_layBoth_68 : decode cX8_layBoth 68 = .ok (.ifCond .eq 19, 3) := by decide +kernel
theorem dX8_layBoth_71 : decode cX8_layBoth 71 = .ok (.aload_n 0, 1) := by decide +kernel
theorem dX8_layBoth_72 : decode cX8_layBoth 72 = .ok (.iload 5, 2) := by decide +kernel
theorem dX8_layBoth_74 : decode cX8_layBoth 74 = .ok (.iconst 5, 1) := by decide +kernel
theorem dX8_layBoth_75 : decode cX8_layBoth 75 = .ok (.idiv, 1) := by decide +kernel
theorem dX8_layBoth_76 : decode cX8_layBoth 76 = .ok (.iload 5, 2) := by decide +kernel
theorem dX8_layBoth_78 : decode cX8_layBoth 78 = .ok (.iconst 5, 1) := by decide +kernel
theorem dX8_layBoth_79 : decode cX8_layBoth 79 = .ok (.irem, 1) := by decide +kernel
theorem dX8_layBoth_80 : decode cX8_layBoth 80 = .ok (.iload_n 1, 1) := by decide +kernel
theorem dX8_layBoth_81 : decode cX8_layBoth 81 = .ok (.invokevirtual 263, 3) := by decide +kernel
theorem dX8_layBoth_84 : decode cX8_layBoth 84 = .ok (.goto 4, 3) := by decide +kernel
theorem dX8_layBoth_87 : decode cX8_layBoth 87 = .ok (.iconst 0, 1) := by decide +kernel
theorem dX8_layBoth_88 : decode cX8_layBoth 88 = .ok (.istore 7, 2) := by decide +kernel
theorem dX8_layBoth_90 : decode cX8_layBoth 90 = .ok (.aload_n 0, 1) := by decide +kernel
theorem dX8_layBoth_91 : decode cX8_layBoth 91 = .ok (.getfield 82, 3) := by decide +kernel
theorem dX8_layBoth_94 : decode cX8_layBoth 94 = .ok (.iload 5, 2) := by decide +kernel
theorem dX8_layBoth_96 : decode cX8_layBoth 96 = .ok (.iload_n 2, 1) := by decide +kernel
theorem dX8_layBoth_97 : decode cX8_layBoth 97 = .ok (.iload_n 3, 1) := by decide +kernel
theorem dX8_layBoth_98 : decode cX8_layBoth 98 = .ok (.if_icmp .lt 8, 3) := by decide +kernel
theorem dX8_layBoth_101 : decode cX8_layBoth 101 = .ok (.iload 7, 2) := by decide +kernel
theorem dX8_layBoth_103 : decode cX8_layBoth 103 = .ok (.goto 9, 3) := by decide +kernel
theorem dX8_layBoth_106 : decode cX8_layBoth 106 = .ok (.iload_n 2, 1) := by decide +kernel
theorem dX8_layBoth_107 : decode cX8_layBoth 107 = .ok (.iload 7, 2) := by decide +kernel
theorem dX8_layBoth_109 : decode cX8_layBoth 109 = .ok (.imul, 1) := by decide +kernel
theorem dX8_layBoth_110 : decode cX8_layBoth 110 = .ok (.iload_n 3, 1) := by decide +kernel
theorem dX8_layBoth_111 : decode cX8_layBoth 111 = .ok (.idiv, 1) := by decide +kernel
theorem dX8_layBoth_112 : decode cX8_layBoth 112 = .ok (.iastore, 1) := by decide +kernel
theorem dX8_layBoth_113 : decode cX8_layBoth 113 = .ok (.aload_n 0, 1) := by decide +kernel
theorem dX8_layBoth_114 : decode cX8_layBoth 114 = .ok (.getfield 85, 3) := by decide +kernel
theorem dX8_layBoth_117 : decode cX8_layBoth 117 = .ok (.iload 5, 2) := by decide +kernel
theorem dX8_layBoth_119 : decode cX8_layBoth 119 = .ok (.iload 6, 2) := by decide +kernel
theorem dX8_layBoth_121 : decode cX8_layBoth 121 = .ok (.ifCond .ne 7, 3) := by decide +kernel
theorem dX8_layBoth_124 : decode cX8_layBoth 124 = .ok (.iconst (-1), 1) := by decide +kernel
theorem dX8_layBoth_125 : decode cX8_layBoth 125 = .ok (.goto 18, 3) := by decide +kernel
theorem dX8_layBoth_128 : decode cX8_layBoth 128 = .ok (.iload_n 2, 1) := by decide +kernel
theorem dX8_layBoth_129 : decode cX8_layBoth 129 = .ok (.iload_n 3, 1) := by decide +kernel
theorem dX8_layBoth_130 : decode cX8_layBoth 130 = .ok (.if_icmp .lt 7, 3) := by decide +kernel
theorem dX8_layBoth_133 : decode cX8_layBoth 133 = .ok (.iconst 0, 1) := by decide +kernel
theorem dX8_layBoth_134 : decode cX8_layBoth 134 = .ok (.goto 9, 3) := by decide +kernel
theorem dX8_layBoth_137 : decode cX8_layBoth 137 = .ok (.iload_n 2, 1) := by decide +kernel
theorem dX8_layBoth_138 : decode cX8_layBoth 138 = .ok (.iload 7, 2) := by decide +kernel
theorem dX8_layBoth_140 : decode cX8_layBoth 140 = .ok (.imul, 1) := by decide +kernel
theorem dX8_layBoth_141 : decode cX8_layBoth 141 = .ok (.iload_n 3, 1) := by decide +kernel
theorem dX8_layBoth_142 : decode cX8_layBoth 142 = .ok (.irem, 1) := by decide +kernel
theorem dX8_layBoth_143 : decode cX8_layBoth 143 = .ok (.iastore, 1) := by decide +kernel
theorem dX8_layBoth_144 : decode cX8_layBoth 144 = .ok (.iload 4, 2) := by decide +kernel
theorem dX8_layBoth_146 : decode cX8_layBoth 146 = .ok (.aload_n 0, 1) := by decide +kernel
theorem dX8_layBoth_147 : decode cX8_layBoth 147 = .ok (.getfield 82, 3) := by decide +kernel
theorem dX8_layBoth_150 : decode cX8_layBoth 150 = .ok (.iload 5, 2) := by decide +kernel
theorem dX8_layBoth_152 : decode cX8_layBoth 152 = .ok (.iaload, 1) := by decide +kernel
theorem dX8_layBoth_153 : decode cX8_layBoth 153 = .ok (.isub, 1) := by decide +kernel
theorem dX8_layBoth_154 : decode cX8_layBoth 154 = .ok (.istore 4, 2) := by decide +kernel
theorem dX8_layBoth_156 : decode cX8_layBoth 156 = .ok (.iinc 5 1, 3) := by decide +kernel
theorem dX8_layBoth_159 : decode cX8_layBoth 159 = .ok (.goto (-125), 3) := by decide +kernel
theorem dX8_layBoth_162 : decode cX8_layBoth 162 = .ok (.iload 4, 2) := by decide +kernel
theorem dX8_layBoth_164 : decode cX8_layBoth 164 = .ok (.ifCond .le 78, 3) := by decide +kernel
theorem dX8_layBoth_167 : decode cX8_layBoth 167 = .ok (.iload_n 2, 1) := by decide +kernel
theorem dX8_layBoth_168 : decode cX8_layBoth 168 = .ok (.iload_n 3, 1) := by decide +kernel
theorem dX8_layBoth_169 : decode cX8_layBoth 169 = .ok (.if_icmp .ge 73, 3) := by decide +kernel
theorem dX8_layBoth_172 : decode cX8_layBoth 172 = .ok (.iconst 0, 1) := by decide +kernel
theorem dX8_layBoth_173 : decode cX8_layBoth 173 = .ok (.istore 5, 2) := by decide +kernel
theorem dX8_layBoth_175 : decode cX8_layBoth 175 = .ok (.iconst 1, 1) := by decide +kernel
theorem dX8_layBoth_176 : decode cX8_layBoth 176 = .ok (.istore 6, 2) := by decide +kernel
theorem dX8_layBoth_178 : decode cX8_layBoth 178 = .ok (.iload 6, 2) := by decide +kernel
theorem dX8_layBoth_180 : decode cX8_layBoth 180 = .ok (.bipush 10, 2) := by decide +kernel
theorem dX8_layBoth_182 : decode cX8_layBoth 182 = .ok (.if_icmp .ge 35, 3) := by decide +kernel
theorem dX8_layBoth_185 : decode cX8_layBoth 185 = .ok (.aload_n 0, 1) := by decide +kernel
theorem dX8_layBoth_186 : decode cX8_layBoth 186 = .ok (.getfield 85, 3) := by decide +kernel
theorem dX8_layBoth_189 : decode cX8_layBoth 189 = .ok (.iload 6, 2) := by decide +kernel
theorem dX8_layBoth_191 : decode cX8_layBoth 191 = .ok (.iaload, 1) := by decide +kernel
theorem dX8_layBoth_192 : decode cX8_layBoth 192 = .ok (.aload_n 0, 1) := by decide +kernel
theorem dX8_layBoth_193 : decode cX8_layBoth 193 = .ok (.getfield 85, 3) := by decide +kernel
theorem dX8_layBoth_196 : decode cX8_layBoth 196 = .ok (.iload 5, 2) := by decide +kernel
theorem dX8_layBoth_198 : decode cX8_layBoth 198 = .ok (.iaload, 1) := by decide +kernel
theorem dX8_layBoth_199 : decode cX8_layBoth 199 = .ok (.if_icmp .le 8, 3) := by decide +kernel
theorem dX8_layBoth_202 : decode cX8_layBoth 202 = .ok (.iload 6, 2) := by decide +kernel
theorem dX8_layBoth_204 : decode cX8_layBoth 204 = .ok (.goto 5, 3) := by decide +kernel
theorem dX8_layBoth_207 : decode cX8_layBoth 207 = .ok (.iload 5, 2) := by decide +kernel
theorem dX8_layBoth_209 : decode cX8_layBoth 209 = .ok (.istore 5, 2) := by decide +kernel
theorem dX8_layBoth_211 : decode cX8_layBoth 211 = .ok (.iinc 6 1, 3) := by decide +kernel
theorem dX8_layBoth_214 : decode cX8_layBoth 214 = .ok (.goto (-36), 3) := by decide +kernel
theorem dX8_layBoth_217 : decode cX8_layBoth 217 = .ok (.aload_n 0, 1) := by decide +kernel
theorem dX8_layBoth_218 : decode cX8_layBoth 218 = .ok (.getfield 82, 3) := by decide +kernel
theorem dX8_layBoth_221 : decode cX8_layBoth 221 = .ok (.iload 5, 2) := by decide +kernel
theorem dX8_layBoth_223 : decode cX8_layBoth 223 = .ok (.dup2, 1) := by decide +kernel
theorem dX8_layBoth_224 : decode cX8_layBoth 224 = .ok (.iaload, 1) := by decide +kernel
theorem dX8_layBoth_225 : decode cX8_layBoth 225 = .ok (.iconst 1, 1) := by decide +kernel
theorem dX8_layBoth_226 : decode cX8_layBoth 226 = .ok (.iadd, 1) := by decide +kernel
theorem dX8_layBoth_227 : decode cX8_layBoth 227 = .ok (.iastore, 1) := by decide +kernel
theorem dX8_layBoth_228 : decode cX8_layBoth 228 = .ok (.aload_n 0, 1) := by decide +kernel
theorem dX8_layBoth_229 : decode cX8_layBoth 229 = .ok (.getfield 85, 3) := by decide +kernel
theorem dX8_layBoth_232 : decode cX8_layBoth 232 = .ok (.iload 5, 2) := by decide +kernel
theorem dX8_layBoth_234 : decode cX8_layBoth 234 = .ok (.iconst (-1), 1) := by decide +kernel
theorem dX8_layBoth_235 : decode cX8_layBoth 235 = .ok (.iastore, 1) := by decide +kernel
theorem dX8_layBoth_236 : decode cX8_layBoth 236 = .ok (.iinc 4 (-1), 3) := by decide +kernel
theorem dX8_layBoth_239 : decode cX8_layBoth 239 = .ok (.goto (-77), 3) := by decide +kernel
theorem dX8_layBoth_242 : decode cX8_layBoth 242 = .ok (.return_, 1) := by decide +kernel
theorem dX8_jointShare_0 : decode cX8_jointShare 0 = .ok (.aload_n 0, 1) := by decide +kernel
theorem dX8_jointShare_1 : decode cX8_jointShare 1 = .ok (.aload_n 0, 1) := by decide +kernel
theorem dX8_jointShare_2 : decode cX8_jointShare 2 = .ok (.iload_n 1, 1) := by decide +kernel
theorem dX8_jointShare_3 : decode cX8_jointShare 3 = .ok (.iload_n 2, 1) := by decide +kernel
theorem dX8_jointShare_4 : decode cX8_jointShare 4 = .ok (.invokevirtual 267, 3) := by decide +kernel
theorem dX8_jointShare_7 : decode cX8_jointShare 7 = .ok (.ifCond .eq 15, 3) := by decide +kernel
theorem dX8_jointShare_10 : decode cX8_jointShare 10 = .ok (.aload_n 0, 1) := by decide +kernel
theorem dX8_jointShare_11 : decode cX8_jointShare 11 = .ok (.iload_n 3, 1) := by decide +kernel
theorem dX8_jointShare_12 : decode cX8_jointShare 12 = .ok (.invokevirtual 260, 3) := by decide +kernel
theorem dX8_jointShare_15 : decode cX8_jointShare 15 = .ok (.ifCond .eq 7, 3) := by decide +kernel
theorem dX8_jointShare_18 : decode cX8_jointShare 18 = .ok (.iconst 1, 1) := by decide +kernel
theorem dX8_jointShare_19 : decode cX8_jointShare 19 = .ok (.goto 4, 3) := by decide +kernel
theorem dX8_jointShare_22 : decode cX8_jointShare 22 = .ok (.iconst 0, 1) := by decide +kernel
theorem dX8_jointShare_23 : decode cX8_jointShare 23 = .ok (.invokevirtual 320, 3) := by decide +kernel
theorem dX8_jointShare_26 : decode cX8_jointShare 26 = .ok (.ifCond .ne 9, 3) := by decide +kernel
theorem dX8_jointShare_29 : decode cX8_jointShare 29 = .ok (.aload_n 0, 1) := by decide +kernel
theorem dX8_jointShare_30 : decode cX8_jointShare 30 = .ok (.iconst 1, 1) := by decide +kernel
theorem dX8_jointShare_31 : decode cX8_jointShare 31 = .ok (.invokevirtual 226, 3) := by decide +kernel
theorem dX8_jointShare_34 : decode cX8_jointShare 34 = .ok (.ireturn, 1) := by decide +kernel
theorem dX8_jointShare_35 : decode cX8_jointShare 35 = .ok (.aload_n 0, 1) := by decide +kernel
theorem dX8_jointShare_36 : decode cX8_jointShare 36 = .ok (.iload_n 3, 1) := by decide +kernel
theorem dX8_jointShare_37 : decode cX8_jointShare 37 = .ok (.invokevirtual 352, 3) := by decide +kernel
theorem dX8_jointShare_40 : decode cX8_jointShare 40 = .ok (.aload_n 0, 1) := by decide +kernel
theorem dX8_jointShare_41 : decode cX8_jointShare 41 = .ok (.aload_n 0, 1) := by decide +kernel
theorem dX8_jointShare_42 : decode cX8_jointShare 42 = .ok (.getfield 82, 3) := by decide +kernel
theorem dX8_jointShare_45 : decode cX8_jointShare 45 = .ok (.iconst 5, 1) := by decide +kernel
theorem dX8_jointShare_46 : decode cX8_jointShare 46 = .ok (.iload_n 1, 1) := by decide +kernel
theorem dX8_jointShare_47 : decode cX8_jointShare 47 = .ok (.imul, 1) := by decide +kernel
theorem dX8_jointShare_48 : decode cX8_jointShare 48 = .ok (.iload_n 2, 1) := by decide +kernel
theorem dX8_jointShare_49 : decode cX8_jointShare 49 = .ok (.iadd, 1) := by decide +kernel
theorem dX8_jointShare_50 : decode cX8_jointShare 50 = .ok (.iaload, 1) := by decide +kernel
theorem dX8_jointShare_51 : decode cX8_jointShare 51 = .ok (.invokevirtual 246, 3) := by decide +kernel
theorem dX8_jointShare_54 : decode cX8_jointShare 54 = .ok (.ireturn, 1) := by decide +kernel
theorem dX8_layShares_0 : decode cX8_layShares 0 = .ok (.aload_n 0, 1) := by decide +kernel
theorem dX8_layShares_1 : decode cX8_layShares 1 = .ok (.iload_n 1, 1) := by decide +kernel
theorem dX8_layShares_2 : decode cX8_layShares 2 = .ok (.iload_n 2, 1) := by decide +kernel
theorem dX8_layShares_3 : decode cX8_layShares 3 = .ok (.invokevirtual 346, 3) := by decide +kernel
theorem dX8_layShares_6 : decode cX8_layShares 6 = .ok (.istore_n 3, 1) := by decide +kernel
theorem dX8_layShares_7 : decode cX8_layShares 7 = .ok (.aload_n 0, 1) := by decide +kernel
theorem dX8_layShares_8 : decode cX8_layShares 8 = .ok (.iload_n 1, 1) := by decide +kernel
theorem dX8_layShares_9 : decode cX8_layShares 9 = .ok (.iload_n 2, 1) := by decide +kernel
theorem dX8_layShares_10 : decode cX8_layShares 10 = .ok (.invokevirtual 349, 3) := by decide +kernel
theorem dX8_layShares_13 : decode cX8_layShares 13 = .ok (.istore 4, 2) := by decide +kernel
theorem dX8_layShares_15 : decode cX8_layShares 15 = .ok (.iload_n 3, 1) := by decide +kernel
theorem dX8_layShares_16 : decode cX8_layShares 16 = .ok (.istore 5, 2) := by decide +kernel
theorem dX8_layShares_18 : decode cX8_layShares 18 = .ok (.iconst 0, 1) := by decide +kernel
theorem dX8_layShares_19 : decode cX8_layShares 19 = .ok (.istore 6, 2) := by decide +kernel
theorem dX8_layShares_21 : decode cX8_layShares 21 = .ok (.iload 6, 2) := by decide +kernel
theorem dX8_layShares_23 : decode cX8_layShares 23 = .ok (.aload_n 0, 1) := by decide +kernel
theorem dX8_layShares_24 : decode cX8_layShares 24 = .ok (.getfield 17, 3) := by decide +kernel
theorem dX8_layShares_27 : decode cX8_layShares 27 = .ok (.iconst 4, 1) := by decide +kernel
theorem dX8_layShares_28 : decode cX8_layShares 28 = .ok (.iload_n 1, 1) := by decide +kernel
theorem dX8_layShares_29 : decode cX8_layShares 29 = .ok (.iadd, 1) := by decide +kernel
theorem dX8_layShares_30 : decode cX8_layShares 30 = .ok (.iaload, 1) := by decide +kernel
theorem dX8_layShares_31 : decode cX8_layShares 31 = .ok (.if_icmp .ge 80, 3) := by decide +kernel
theorem dX8_layShares_34 : decode cX8_layShares 34 = .ok (.aload_n 0, 1) := by decide +kernel
theorem dX8_layShares_35 : decode cX8_layShares 35 = .ok (.iload_n 1, 1) := by decide +kernel
theorem dX8_layShares_36 : decode cX8_layShares 36 = .ok (.iload 6, 2) := by decide +kernel
theorem dX8_layShares_38 : decode cX8_layShares 38 = .ok (.iload_n 2, 1) := by decide +kernel
theorem dX8_layShares_39 : decode cX8_layShares 39 = .ok (.invokevirtual 263, 3) := by decide +kernel
theorem dX8_layShares_42 : decode cX8_layShares 42 = .ok (.istore 7, 2) := by decide +kernel
theorem dX8_layShares_44 : decode cX8_layShares 44 = .ok (.aload_n 0, 1) := by decide +kernel
theorem dX8_layShares_45 : decode cX8_layShares 45 = .ok (.getfield 88, 3) := by decide +kernel
theorem dX8_layShares_48 : decode cX8_layShares 48 = .ok (.iload 6, 2) := by decide +kernel
theorem dX8_layShares_50 : decode cX8_layShares 50 = .ok (.iload_n 3, 1) := by decide +kernel
theorem dX8_layShares_51 : decode cX8_layShares 51 = .ok (.iload 4, 2) := by decide +kernel
theorem dX8_layShares_53 : decode cX8_layShares 53 = .ok (.if_icmp .lt 8, 3) := by decide +kernel
theorem dX8_layShares_56 : decode cX8_layShares 56 = .ok (.iload 7, 2) := by decide +kernel
theorem dX8_layShares_58 : decode cX8_layShares 58 = .ok (.goto 10, 3) := by decide +kernel
theorem dX8_layShares_61 : decode cX8_layShares 61 = .ok (.iload_n 3, 1) := by decide +kernel
theorem dX8_layShares_62 : decode cX8_layShares 62 = .ok (.iload 7, 2) := by decide +kernel
theorem dX8_layShares_64 : decode cX8_layShares 64 = .ok (.imul, 1) := by decide +kernel
theorem dX8_layShares_65 : decode cX8_layShares 65 = .ok (.iload 4, 2) := by decide +kernel
theorem dX8_layShares_67 : decode cX8_layShares 67 = .ok (.idiv, 1) := by decide +kernel
theorem dX8_layShares_68 : decode cX8_layShares 68 = .ok (.iastore, 1) := by decide +kernel
theorem dX8_layShares_69 : decode cX8_layShares 69 = .ok (.aload_n 0, 1) := by decide +kernel
theorem dX8_layShares_70 : decode cX8_layShares 70 = .ok (.getfield 91, 3) := by decide +kernel
theorem dX8_layShares_73 : decode cX8_layShares 73 = .ok (.iload 6, 2) := by decide +kernel
theorem dX8_layShares_75 : decode cX8_layShares 75 = .ok (.iload_n 3, 1) := by decide +kernel
theorem dX8_layShares_76 : decode cX8_layShares 76 = .ok (.iload 4, 2) := by decide +kernel
theorem dX8_layShares_78 : decode cX8_layShares 78 = .ok (.if_icmp .lt 7, 3) := by decide +kernel
theorem dX8_layShares_81 : decode cX8_layShares 81 = .ok (.iconst 0, 1) := by decide +kernel
theorem dX8_layShares_82 : decode cX8_layShares 82 = .ok (.goto 10, 3) := by decide +kernel
theorem dX8_layShares_85 : decode cX8_layShares 85 = .ok (.iload_n 3, 1) := by decide +kernel
theorem dX8_layShares_86 : decode cX8_layShares 86 = .ok (.iload 7, 2) := by decide +kernel
theorem dX8_layShares_88 : decode cX8_layShares 88 = .ok (.imul, 1) := by decide +kernel
theorem dX8_layShares_89 : decode cX8_layShares 89 = .ok (.iload 4, 2) := by decide +kernel
theorem dX8_layShares_91 : decode cX8_layShares 91 = .ok (.irem, 1) := by decide +kernel
theorem dX8_layShares_92 : decode cX8_layShares 92 = .ok (.iastore, 1) := by decide +kernel
theorem dX8_layShares_93 : decode cX8_layShares 93 = .ok (.iload 5, 2) := by decide +kernel
theorem dX8_layShares_95 : decode cX8_layShares 95 = .ok (.aload_n 0, 1) := by decide +kernel
theorem dX8_layShares_96 : decode cX8_layShares 96 = .ok (.getfield 88, 3) := by decide +kernel
theorem dX8_layShares_99 : decode cX8_layShares 99 = .ok (.iload 6, 2) := by decide +kernel
theorem dX8_layShares_101 : decode cX8_layShares 101 = .ok (.iaload, 1) := by decide +kernel
theorem dX8_layShares_102 : decode cX8_layShares 102 = .ok (.isub, 1) := by decide +kernel
theorem dX8_layShares_103 : decode cX8_layShares 103 = .ok (.istore 5, 2) := by decide +kernel
theorem dX8_layShares_105 : decode cX8_layShares 105 = .ok (.iinc 6 1, 3) := by decide +kernel
theorem dX8_layShares_108 : decode cX8_layShares 108 = .ok (.goto (-87), 3) := by decide +kernel
theorem dX8_layShares_111 : decode cX8_layShares 111 = .ok (.iload_n 3, 1) := by decide +kernel
theorem dX8_layShares_112 : decode cX8_layShares 112 = .ok (.iload 4, 2) := by decide +kernel
theorem dX8_layShares_114 : decode cX8_layShares 114 = .ok (.if_icmp .lt 4, 3) := by decide +kernel
theorem dX8_layShares_117 : decode cX8_layShares 117 = .ok (.return_, 1) := by decide +kernel
theorem dX8_layShares_118 : decode cX8_layShares 118 = .ok (.iload 5, 2) := by decide +kernel
theorem dX8_layShares_120 : decode cX8_layShares 120 = .ok (.ifCond .le 79, 3) := by decide +kernel
theorem dX8_layShares_123 : decode cX8_layShares 123 = .ok (.iconst 0, 1) := by decide +kernel
theorem dX8_layShares_124 : decode cX8_layShares 124 = .ok (.istore 6, 2) := by decide +kernel
theorem dX8_layShares_126 : decode cX8_layShares 126 = .ok (.iconst 1, 1) := by decide +kernel
theorem dX8_layShares_127 : decode cX8_layShares 127 = .ok (.istore 7, 2) := by decide +kernel
theorem dX8_layShares_129 : decode cX8_layShares 129 = .ok (.iload 7, 2) := by decide +kernel
theorem dX8_layShares_131 : decode cX8_layShares 131 = .ok (.aload_n 0, 1) := by decide +kernel
theorem dX8_layShares_132 : decode cX8_layShares 132 = .ok (.getfield 17, 3) := by decide +kernel
theorem dX8_layShares_135 : decode cX8_layShares 135 = .ok (.iconst 4, 1) := by decide +kernel
theorem dX8_layShares_136 : decode cX8_layShares 136 = .ok (.iload_n 1, 1) := by decide +kernel
theorem dX8_layShares_137 : decode cX8_layShares 137 = .ok (.iadd, 1) := by decide +kernel
theorem dX8_layShares_138 : decode cX8_layShares 138 = .ok (.iaload, 1) := by decide +kernel
theorem dX8_layShares_139 : decode cX8_layShares 139 = .ok (.if_icmp .ge 35, 3) := by decide +kernel
theorem dX8_layShares_142 : decode cX8_layShares 142 = .ok (.aload_n 0, 1) := by decide +kernel
theorem dX8_layShares_143 : decode cX8_layShares 143 = .ok (.getfield 91, 3) := by decide +kernel
theorem dX8_layShares_146 : decode cX8_layShares 146 = .ok (.iload 7, 2) := by decide +kernel
theorem dX8_layShares_148 : decode cX8_layShares 148 = .ok (.iaload, 1) := by decide +kernel
theorem dX8_layShares_149 : decode cX8_layShares 149 = .ok (.aload_n 0, 1) := by decide +kernel
theorem dX8_layShares_150 : decode cX8_layShares 150 = .ok (.getfield 91, 3) := by decide +kernel
theorem dX8_layShares_153 : decode cX8_layShares 153 = .ok (.iload 6, 2) := by decide +kernel
theorem dX8_layShares_155 : decode cX8_layShares 155 = .ok (.iaload, 1) := by decide +kernel
theorem dX8_layShares_156 : decode cX8_layShares 156 = .ok (.if_icmp .le 8, 3) := by decide +kernel
theorem dX8_layShares_159 : decode cX8_layShares 159 = .ok (.iload 7, 2) := by decide +kernel
theorem dX8_layShares_161 : decode cX8_layShares 161 = .ok (.goto 5, 3) := by decide +kernel
theorem dX8_layShares_164 : decode cX8_layShares 164 = .ok (.iload 6, 2) := by decide +kernel
theorem dX8_layShares_166 : decode cX8_layShares 166 = .ok (.istore 6, 2) := by decide +kernel
theorem dX8_layShares_168 : decode cX8_layShares 168 = .ok (.iinc 7 1, 3) := by decide +kernel
theorem dX8_layShares_171 : decode cX8_layShares 171 = .ok (.goto (-42), 3) := by decide +kernel
theorem dX8_layShares_174 : decode cX8_layShares 174 = .ok (.aload_n 0, 1) := by decide +kernel
theorem dX8_layShares_175 : decode cX8_layShares 175 = .ok (.getfield 88, 3) := by decide +kernel
theorem dX8_layShares_178 : decode cX8_layShares 178 = .ok (.iload 6, 2) := by decide +kernel
theorem dX8_layShares_180 : decode cX8_layShares 180 = .ok (.dup2, 1) := by decide +kernel
theorem dX8_layShares_181 : decode cX8_layShares 181 = .ok (.iaload, 1) := by decide +kernel
theorem dX8_layShares_182 : decode cX8_layShares 182 = .ok (.iconst 1, 1) := by decide +kernel
theorem dX8_layShares_183 : decode cX8_layShares 183 = .ok (.iadd, 1) := by decide +kernel
theorem dX8_layShares_184 : decode cX8_layShares 184 = .ok (.iastore, 1) := by decide +kernel
theorem dX8_layShares_185 : decode cX8_layShares 185 = .ok (.aload_n 0, 1) := by decide +kernel
theorem dX8_layShares_186 : decode cX8_layShares 186 = .ok (.getfield 91, 3) := by decide +kernel
theorem dX8_layShares_189 : decode cX8_layShares 189 = .ok (.iload 6, 2) := by decide +kernel
theorem dX8_layShares_191 : decode cX8_layShares 191 = .ok (.iconst (-1), 1) := by decide +kernel
theorem dX8_layShares_192 : decode cX8_layShares 192 = .ok (.iastore, 1) := by decide +kernel
theorem dX8_layShares_193 : decode cX8_layShares 193 = .ok (.iinc 5 (-1), 3) := by decide +kernel
theorem dX8_layShares_196 : decode cX8_layShares 196 = .ok (.goto (-78), 3) := by decide +kernel
theorem dX8_layShares_199 : decode cX8_layShares 199 = .ok (.return_, 1) := by decide +kernel
theorem dX8_share_0 : decode cX8_share 0 = .ok (.aload_n 0, 1) := by decide +kernel
theorem dX8_share_1 : decode cX8_share 1 = .ok (.aload_n 0, 1) := by decide +kernel
theorem dX8_share_2 : decode cX8_share 2 = .ok (.iload_n 1, 1) := by decide +kernel
theorem dX8_share_3 : decode cX8_share 3 = .ok (.iload_n 2, 1) := by decide +kernel
theorem dX8_share_4 : decode cX8_share 4 = .ok (.invokevirtual 267, 3) := by decide +kernel
theorem dX8_share_7 : decode cX8_share 7 = .ok (.ifCond .eq 15, 3) := by decide +kernel
theorem dX8_share_10 : decode cX8_share 10 = .ok (.aload_n 0, 1) := by decide +kernel
theorem dX8_share_11 : decode cX8_share 11 = .ok (.iload_n 3, 1) := by decide +kernel
theorem dX8_share_12 : decode cX8_share 12 = .ok (.invokevirtual 260, 3) := by decide +kernel
theorem dX8_share_15 : decode cX8_share 15 = .ok (.ifCond .eq 7, 3) := by decide +kernel
theorem dX8_share_18 : decode cX8_share 18 = .ok (.iconst 1, 1) := by decide +kernel
theorem dX8_share_19 : decode cX8_share 19 = .ok (.goto 4, 3) := by decide +kernel
theorem dX8_share_22 : decode cX8_share 22 = .ok (.iconst 0, 1) := by decide +kernel
theorem dX8_share_23 : decode cX8_share 23 = .ok (.invokevirtual 320, 3) := by decide +kernel
theorem dX8_share_26 : decode cX8_share 26 = .ok (.ifCond .ne 9, 3) := by decide +kernel
theorem dX8_share_29 : decode cX8_share 29 = .ok (.aload_n 0, 1) := by decide +kernel
theorem dX8_share_30 : decode cX8_share 30 = .ok (.iconst 1, 1) := by decide +kernel
theorem dX8_share_31 : decode cX8_share 31 = .ok (.invokevirtual 226, 3) := by decide +kernel
theorem dX8_share_34 : decode cX8_share 34 = .ok (.ireturn, 1) := by decide +kernel
theorem dX8_share_35 : decode cX8_share 35 = .ok (.aload_n 0, 1) := by decide +kernel
theorem dX8_share_36 : decode cX8_share 36 = .ok (.iload_n 1, 1) := by decide +kernel
theorem dX8_share_37 : decode cX8_share 37 = .ok (.iload_n 3, 1) := by decide +kernel
theorem dX8_share_38 : decode cX8_share 38 = .ok (.invokevirtual 355, 3) := by decide +kernel
theorem dX8_share_41 : decode cX8_share 41 = .ok (.aload_n 0, 1) := by decide +kernel
theorem dX8_share_42 : decode cX8_share 42 = .ok (.aload_n 0, 1) := by decide +kernel
theorem dX8_share_43 : decode cX8_share 43 = .ok (.getfield 88, 3) := by decide +kernel
theorem dX8_share_46 : decode cX8_share 46 = .ok (.iload_n 2, 1) := by decide +kernel
theorem dX8_share_47 : decode cX8_share 47 = .ok (.iaload, 1) := by decide +kernel
theorem dX8_share_48 : decode cX8_share 48 = .ok (.invokevirtual 246, 3) := by decide +kernel
theorem dX8_share_51 : decode cX8_share 51 = .ok (.ireturn, 1) := by decide +kernel
theorem dX8_carried_0 : decode cX8_carried 0 = .ok (.aload_n 0, 1) := by decide +kernel
theorem dX8_carried_1 : decode cX8_carried 1 = .ok (.aload_n 0, 1) := by decide +kernel
theorem dX8_carried_2 : decode cX8_carried 2 = .ok (.iload_n 1, 1) := by decide +kernel
theorem dX8_carried_3 : decode cX8_carried 3 = .ok (.invokevirtual 249, 3) := by decide +kernel
theorem dX8_carried_6 : decode cX8_carried 6 = .ok (.ifCond .eq 15, 3) := by decide +kernel
theorem dX8_carried_9 : decode cX8_carried 9 = .ok (.aload_n 0, 1) := by decide +kernel
theorem dX8_carried_10 : decode cX8_carried 10 = .ok (.iload_n 2, 1) := by decide +kernel
theorem dX8_carried_11 : decode cX8_carried 11 = .ok (.invokevirtual 260, 3) := by decide +kernel
theorem dX8_carried_14 : decode cX8_carried 14 = .ok (.ifCond .eq 7, 3) := by decide +kernel
theorem dX8_carried_17 : decode cX8_carried 17 = .ok (.iconst 1, 1) := by decide +kernel
theorem dX8_carried_18 : decode cX8_carried 18 = .ok (.goto 4, 3) := by decide +kernel
theorem dX8_carried_21 : decode cX8_carried 21 = .ok (.iconst 0, 1) := by decide +kernel
theorem dX8_carried_22 : decode cX8_carried 22 = .ok (.invokevirtual 320, 3) := by decide +kernel
theorem dX8_carried_25 : decode cX8_carried 25 = .ok (.ifCond .ne 9, 3) := by decide +kernel
theorem dX8_carried_28 : decode cX8_carried 28 = .ok (.aload_n 0, 1) := by decide +kernel
theorem dX8_carried_29 : decode cX8_carried 29 = .ok (.iconst 1, 1) := by decide +kernel
theorem dX8_carried_30 : decode cX8_carried 30 = .ok (.invokevirtual 226, 3) := by decide +kernel
theorem dX8_carried_33 : decode cX8_carried 33 = .ok (.ireturn, 1) := by decide +kernel
theorem dX8_carried_34 : decode cX8_carried 34 = .ok (.aload_n 0, 1) := by decide +kernel
theorem dX8_carried_35 : decode cX8_carried 35 = .ok (.iload_n 1, 1) := by decide +kernel
theorem dX8_carried_36 : decode cX8_carried 36 = .ok (.iload_n 2, 1) := by decide +kernel
theorem dX8_carried_37 : decode cX8_carried 37 = .ok (.invokevirtual 355, 3) := by decide +kernel
theorem dX8_carried_40 : decode cX8_carried 40 = .ok (.iconst 0, 1) := by decide +kernel
theorem dX8_carried_41 : decode cX8_carried 41 = .ok (.istore_n 3, 1) := by decide +kernel
theorem dX8_carried_42 : decode cX8_carried 42 = .ok (.iconst 0, 1) := by decide +kernel
theorem dX8_carried_43 : decode cX8_carried 43 = .ok (.istore 4, 2) := by decide +kernel
theorem dX8_carried_45 : decode cX8_carried 45 = .ok (.iload 4, 2) := by decide +kernel
theorem dX8_carried_47 : decode cX8_carried 47 = .ok (.aload_n 0, 1) := by decide +kernel
theorem dX8_carried_48 : decode cX8_carried 48 = .ok (.getfield 17, 3) := by decide +kernel
theorem dX8_carried_51 : decode cX8_carried 51 = .ok (.iconst 4, 1) := by decide +kernel
theorem dX8_carried_52 : decode cX8_carried 52 = .ok (.iload_n 1, 1) := by decide +kernel
theorem dX8_carried_53 : decode cX8_carried 53 = .ok (.iadd, 1) := by decide +kernel
theorem dX8_carried_54 : decode cX8_carried 54 = .ok (.iaload, 1) := by decide +kernel
theorem dX8_carried_55 : decode cX8_carried 55 = .ok (.if_icmp .ge 32, 3) := by decide +kernel
theorem dX8_carried_58 : decode cX8_carried 58 = .ok (.iload_n 3, 1) := by decide +kernel
theorem dX8_carried_59 : decode cX8_carried 59 = .ok (.iconst 0, 1) := by decide +kernel
theorem dX8_carried_60 : decode cX8_carried 60 = .ok (.aload_n 0, 1) := by decide +kernel
theorem dX8_carried_61 : decode cX8_carried 61 = .ok (.getfield 88, 3) := by decide +kernel
theorem dX8_carried_64 : decode cX8_carried 64 = .ok (.iload 4, 2) := by decide +kernel
theorem dX8_carried_66 : decode cX8_carried 66 = .ok (.iaload, 1) := by decide +kernel
theorem dX8_carried_67 : decode cX8_carried 67 = .ok (.aload_n 0, 1) := by decide +kernel
theorem dX8_carried_68 : decode cX8_carried 68 = .ok (.iload_n 1, 1) := by decide +kernel
theorem dX8_carried_69 : decode cX8_carried 69 = .ok (.iload 4, 2) := by decide +kernel
theorem dX8_carried_71 : decode cX8_carried 71 = .ok (.iload_n 2, 1) := by decide +kernel
theorem dX8_carried_72 : decode cX8_carried 72 = .ok (.invokevirtual 324, 3) := by decide +kernel
theorem dX8_carried_75 : decode cX8_carried 75 = .ok (.isub, 1) := by decide +kernel
theorem dX8_carried_76 : decode cX8_carried 76 = .ok (.invokestatic 297, 3) := by decide +kernel
theorem dX8_carried_79 : decode cX8_carried 79 = .ok (.iadd, 1) := by decide +kernel
theorem dX8_carried_80 : decode cX8_carried 80 = .ok (.istore_n 3, 1) := by decide +kernel
theorem dX8_carried_81 : decode cX8_carried 81 = .ok (.iinc 4 1, 3) := by decide +kernel
theorem dX8_carried_84 : decode cX8_carried 84 = .ok (.goto (-39), 3) := by decide +kernel
theorem dX8_carried_87 : decode cX8_carried 87 = .ok (.aload_n 0, 1) := by decide +kernel
theorem dX8_carried_88 : decode cX8_carried 88 = .ok (.iload_n 3, 1) := by decide +kernel
theorem dX8_carried_89 : decode cX8_carried 89 = .ok (.invokevirtual 246, 3) := by decide +kernel
theorem dX8_carried_92 : decode cX8_carried 92 = .ok (.ireturn, 1) := by decide +kernel
theorem dX8_layCoverage_0 : decode cX8_layCoverage 0 = .ok (.aload_n 0, 1) := by decide +kernel
theorem dX8_layCoverage_1 : decode cX8_layCoverage 1 = .ok (.iload_n 1, 1) := by decide +kernel
theorem dX8_layCoverage_2 : decode cX8_layCoverage 2 = .ok (.iload_n 2, 1) := by decide +kernel
theorem dX8_layCoverage_3 : decode cX8_layCoverage 3 = .ok (.invokevirtual 349, 3) := by decide +kernel
theorem dX8_layCoverage_6 : decode cX8_layCoverage 6 = .ok (.istore_n 3, 1) := by decide +kernel
theorem dX8_layCoverage_7 : decode cX8_layCoverage 7 = .ok (.aload_n 0, 1) := by decide +kernel
theorem dX8_layCoverage_8 : decode cX8_layCoverage 8 = .ok (.iload_n 3, 1) := by decide +kernel
theorem dX8_layCoverage_9 : decode cX8_layCoverage 9 = .ok (.ifCond .ne 7, 3) := by decide +kernel
theorem dX8_layCoverage_12 : decode cX8_layCoverage 12 = .ok (.iconst 1, 1) := by decide +kernel
theorem dX8_layCoverage_13 : decode cX8_layCoverage 13 = .ok (.goto 13, 3) := by decide +kernel
theorem dX8_layCoverage_16 : decode cX8_layCoverage 16 = .ok (.iload_n 3, 1) := by decide +kernel
theorem dX8_layCoverage_17 : decode cX8_layCoverage 17 = .ok (.aload_n 0, 1) := by decide +kernel
theorem dX8_layCoverage_18 : decode cX8_layCoverage 18 = .ok (.iload_n 1, 1) := by decide +kernel
theorem dX8_layCoverage_19 : decode cX8_layCoverage 19 = .ok (.iload_n 2, 1) := by decide +kernel
theorem dX8_layCoverage_20 : decode cX8_layCoverage 20 = .ok (.invokevirtual 346, 3) := by decide +kernel
theorem dX8_layCoverage_23 : decode cX8_layCoverage 23 = .ok (.invokestatic 288, 3) := by decide +kernel
theorem dX8_layCoverage_26 : decode cX8_layCoverage 26 = .ok (.putfield 358, 3) := by decide +kernel
theorem dX8_layCoverage_29 : decode cX8_layCoverage 29 = .ok (.aload_n 0, 1) := by decide +kernel
theorem dX8_layCoverage_30 : decode cX8_layCoverage 30 = .ok (.iload_n 3, 1) := by decide +kernel
theorem dX8_layCoverage_31 : decode cX8_layCoverage 31 = .ok (.ifCond .ne 7, 3) := by decide +kernel
theorem dX8_layCoverage_34 : decode cX8_layCoverage 34 = .ok (.iconst 1, 1) := by decide +kernel
theorem dX8_layCoverage_35 : decode cX8_layCoverage 35 = .ok (.goto 4, 3) := by decide +kernel
theorem dX8_layCoverage_38 : decode cX8_layCoverage 38 = .ok (.iload_n 3, 1) := by decide +kernel
theorem dX8_layCoverage_39 : decode cX8_layCoverage 39 = .ok (.putfield 361, 3) := by decide +kernel
theorem dX8_layCoverage_42 : decode cX8_layCoverage 42 = .ok (.aload_n 0, 1) := by decide +kernel
theorem dX8_layCoverage_43 : decode cX8_layCoverage 43 = .ok (.getfield 358, 3) := by decide +kernel
theorem dX8_layCoverage_46 : decode cX8_layCoverage 46 = .ok (.istore 4, 2) := by decide +kernel
theorem dX8_layCoverage_48 : decode cX8_layCoverage 48 = .ok (.aload_n 0, 1) := by decide +kernel
theorem dX8_layCoverage_49 : decode cX8_layCoverage 49 = .ok (.getfield 361, 3) := by decide +kernel
theorem dX8_layCoverage_52 : decode cX8_layCoverage 52 = .ok (.istore 5, 2) := by decide +kernel
theorem dX8_layCoverage_54 : decode cX8_layCoverage 54 = .ok (.iload 5, 2) := by decide +kernel
theorem dX8_layCoverage_56 : decode cX8_layCoverage 56 = .ok (.ifCond .eq 21, 3) := by decide +kernel
theorem dX8_layCoverage_59 : decode cX8_layCoverage 59 = .ok (.iload 4, 2) := by decide +kernel
theorem dX8_layCoverage_61 : decode cX8_layCoverage 61 = .ok (.iload 5, 2) := by decide +kernel
theorem dX8_layCoverage_63 : decode cX8_layCoverage 63 = .ok (.irem, 1) := by decide +kernel
theorem dX8_layCoverage_64 : decode cX8_layCoverage 64 = .ok (.istore 6, 2) := by decide +kernel
theorem dX8_layCoverage_66 : decode cX8_layCoverage 66 = .ok (.iload 5, 2) := by decide +kernel
theorem dX8_layCoverage_68 : decode cX8_layCoverage 68 = .ok (.istore 4, 2) := by decide +kernel
theorem dX8_layCoverage_70 : decode cX8_layCoverage 70 = .ok (.iload 6, 2) := by decide +kernel
theorem dX8_layCoverage_72 : decode cX8_layCoverage 72 = .ok (.istore 5, 2) := by decide +kernel
theorem dX8_layCoverage_74 : decode cX8_layCoverage 74 = .ok (.goto (-20), 3) := by decide +kernel
theorem dX8_layCoverage_77 : decode cX8_layCoverage 77 = .ok (.aload_n 0, 1) := by decide +kernel
theorem dX8_layCoverage_78 : decode cX8_layCoverage 78 = .ok (.dup, 1) := by decide +kernel
theorem dX8_layCoverage_79 : decode cX8_layCoverage 79 = .ok (.getfield 358, 3) := by decide +kernel
theorem dX8_layCoverage_82 : decode cX8_layCoverage 82 = .ok (.iload 4, 2) := by decide +kernel
theorem dX8_layCoverage_84 : decode cX8_layCoverage 84 = .ok (.idiv, 1) := by decide +kernel
theorem dX8_layCoverage_85 : decode cX8_layCoverage 85 = .ok (.putfield 358, 3) := by decide +kernel
theorem dX8_layCoverage_88 : decode cX8_layCoverage 88 = .ok (.aload_n 0, 1) := by decide +kernel
theorem dX8_layCoverage_89 : decode cX8_layCoverage 89 = .ok (.dup, 1) := by decide +kernel
theorem dX8_layCoverage_90 : decode cX8_layCoverage 90 = .ok (.getfield 361, 3) := by decide +kernel
theorem dX8_layCoverage_93 : decode cX8_layCoverage 93 = .ok (.iload 4, 2) := by decide +kernel
theorem dX8_layCoverage_95 : decode cX8_layCoverage 95 = .ok (.idiv, 1) := by decide +kernel
theorem dX8_layCoverage_96 : decode cX8_layCoverage 96 = .ok (.putfield 361, 3) := by decide +kernel
theorem dX8_layCoverage_99 : decode cX8_layCoverage 99 = .ok (.return_, 1) := by decide +kernel
theorem dX8_coverage_0 : decode cX8_coverage 0 = .ok (.aload_n 0, 1) := by decide +kernel
theorem dX8_coverage_1 : decode cX8_coverage 1 = .ok (.aload_n 0, 1) := by decide +kernel
theorem dX8_coverage_2 : decode cX8_coverage 2 = .ok (.iload_n 1, 1) := by decide +kernel
theorem dX8_coverage_3 : decode cX8_coverage 3 = .ok (.invokevirtual 249, 3) := by decide +kernel
theorem dX8_coverage_6 : decode cX8_coverage 6 = .ok (.ifCond .eq 15, 3) := by decide +kernel
theorem dX8_coverage_9 : decode cX8_coverage 9 = .ok (.aload_n 0, 1) := by decide +kernel
theorem dX8_coverage_10 : decode cX8_coverage 10 = .ok (.iload_n 2, 1) := by decide +kernel
theorem dX8_coverage_11 : decode cX8_coverage 11 = .ok (.invokevirtual 260, 3) := by decide +kernel
theorem dX8_coverage_14 : decode cX8_coverage 14 = .ok (.ifCond .eq 7, 3) := by decide +kernel
theorem dX8_coverage_17 : decode cX8_coverage 17 = .ok (.iconst 1, 1) := by decide +kernel
theorem dX8_coverage_18 : decode cX8_coverage 18 = .ok (.goto 4, 3) := by decide +kernel
theorem dX8_coverage_21 : decode cX8_coverage 21 = .ok (.iconst 0, 1) := by decide +kernel
theorem dX8_coverage_22 : decode cX8_coverage 22 = .ok (.invokevirtual 320, 3) := by decide +kernel
theorem dX8_coverage_25 : decode cX8_coverage 25 = .ok (.ifCond .ne 9, 3) := by decide +kernel
theorem dX8_coverage_28 : decode cX8_coverage 28 = .ok (.aload_n 0, 1) := by decide +kernel
theorem dX8_coverage_29 : decode cX8_coverage 29 = .ok (.iconst 1, 1) := by decide +kernel
theorem dX8_coverage_30 : decode cX8_coverage 30 = .ok (.invokevirtual 364, 3) := by decide +kernel
theorem dX8_coverage_33 : decode cX8_coverage 33 = .ok (.lreturn, 1) := by decide +kernel
theorem dX8_coverage_34 : decode cX8_coverage 34 = .ok (.aload_n 0, 1) := by decide +kernel
theorem dX8_coverage_35 : decode cX8_coverage 35 = .ok (.iload_n 1, 1) := by decide +kernel
theorem dX8_coverage_36 : decode cX8_coverage 36 = .ok (.iload_n 2, 1) := by decide +kernel
theorem dX8_coverage_37 : decode cX8_coverage 37 = .ok (.invokevirtual 368, 3) := by decide +kernel
theorem dX8_coverage_40 : decode cX8_coverage 40 = .ok (.aload_n 0, 1) := by decide +kernel
theorem dX8_coverage_41 : decode cX8_coverage 41 = .ok (.iload_n 3, 1) := by decide +kernel
theorem dX8_coverage_42 : decode cX8_coverage 42 = .ok (.ifCond .eq 10, 3) := by decide +kernel
theorem dX8_coverage_45 : decode cX8_coverage 45 = .ok (.aload_n 0, 1) := by decide +kernel
theorem dX8_coverage_46 : decode cX8_coverage 46 = .ok (.getfield 361, 3) := by decide +kernel
theorem dX8_coverage_49 : decode cX8_coverage 49 = .ok (.goto 7, 3) := by decide +kernel
theorem dX8_coverage_52 : decode cX8_coverage 52 = .ok (.aload_n 0, 1) := by decide +kernel
theorem dX8_coverage_53 : decode cX8_coverage 53 = .ok (.getfield 358, 3) := by decide +kernel
theorem dX8_coverage_56 : decode cX8_coverage 56 = .ok (.invokevirtual 246, 3) := by decide +kernel
theorem dX8_coverage_59 : decode cX8_coverage 59 = .ok (.i2l, 1) := by decide +kernel
theorem dX8_coverage_60 : decode cX8_coverage 60 = .ok (.lreturn, 1) := by decide +kernel
theorem dX8_leastCoverage_0 : decode cX8_leastCoverage 0 = .ok (.aload_n 0, 1) := by decide +kernel
theorem dX8_leastCoverage_1 : decode cX8_leastCoverage 1 = .ok (.aload_n 0, 1) := by decide +kernel
theorem dX8_leastCoverage_2 : decode cX8_leastCoverage 2 = .ok (.iload_n 1, 1) := by decide +kernel
theorem dX8_leastCoverage_3 : decode cX8_leastCoverage 3 = .ok (.invokevirtual 249, 3) := by decide +kernel
theorem dX8_leastCoverage_6 : decode cX8_leastCoverage 6 = .ok (.invokevirtual 320, 3) := by decide +kernel
theorem dX8_leastCoverage_9 : decode cX8_leastCoverage 9 = .ok (.ifCond .ne 9, 3) := by decide +kernel
theorem dX8_leastCoverage_12 : decode cX8_leastCoverage 12 = .ok (.aload_n 0, 1) := by decide +kernel
theorem dX8_leastCoverage_13 : decode cX8_leastCoverage 13 = .ok (.iconst 1, 1) := by decide +kernel
theorem dX8_leastCoverage_14 : decode cX8_leastCoverage 14 = .ok (.invokevirtual 364, 3) := by decide +kernel
theorem dX8_leastCoverage_17 : decode cX8_leastCoverage 17 = .ok (.lreturn, 1) := by decide +kernel
theorem dX8_leastCoverage_18 : decode cX8_leastCoverage 18 = .ok (.iconst 1, 1) := by decide +kernel
theorem dX8_leastCoverage_19 : decode cX8_leastCoverage 19 = .ok (.istore_n 3, 1) := by decide +kernel
theorem dX8_leastCoverage_20 : decode cX8_leastCoverage 20 = .ok (.iconst 1, 1) := by decide +kernel
theorem dX8_leastCoverage_21 : decode cX8_leastCoverage 21 = .ok (.istore 4, 2) := by decide +kernel
theorem dX8_leastCoverage_23 : decode cX8_leastCoverage 23 = .ok (.iconst 0, 1) := by decide +kernel
theorem dX8_leastCoverage_24 : decode cX8_leastCoverage 24 = .ok (.istore 5, 2) := by decide +kernel
theorem dX8_leastCoverage_26 : decode cX8_leastCoverage 26 = .ok (.iload 5, 2) := by decide +kernel
theorem dX8_leastCoverage_28 : decode cX8_leastCoverage 28 = .ok (.aload_n 0, 1) := by decide +kernel
theorem dX8_leastCoverage_29 : decode cX8_leastCoverage 29 = .ok (.getfield 17, 3) := by decide +kernel
theorem dX8_leastCoverage_32 : decode cX8_leastCoverage 32 = .ok (.bipush 36, 2) := by decide +kernel
theorem dX8_leastCoverage_34 : decode cX8_leastCoverage 34 = .ok (.iaload, 1) := by decide +kernel
theorem dX8_leastCoverage_35 : decode cX8_leastCoverage 35 = .ok (.if_icmp .ge 46, 3) := by decide +kernel
theorem dX8_leastCoverage_38 : decode cX8_leastCoverage 38 = .ok (.aload_n 0, 1) := by decide +kernel
theorem dX8_leastCoverage_39 : decode cX8_leastCoverage 39 = .ok (.iload_n 1, 1) := by decide +kernel
theorem dX8_leastCoverage_40 : decode cX8_leastCoverage 40 = .ok (.iload 5, 2) := by decide +kernel
theorem dX8_leastCoverage_42 : decode cX8_leastCoverage 42 = .ok (.invokevirtual 368, 3) := by decide +kernel
theorem dX8_leastCoverage_45 : decode cX8_leastCoverage 45 = .ok (.aload_n 0, 1) := by decide +kernel
theorem dX8_leastCoverage_46 : decode cX8_leastCoverage 46 = .ok (.getfield 358, 3) := by decide +kernel
theorem dX8_leastCoverage_49 : decode cX8_leastCoverage 49 = .ok (.iload 4, 2) := by decide +kernel
theorem dX8_leastCoverage_51 : decode cX8_leastCoverage 51 = .ok (.imul, 1) := by decide +kernel
theorem dX8_leastCoverage_52 : decode cX8_leastCoverage 52 = .ok (.iload_n 3, 1) := by decide +kernel
theorem dX8_leastCoverage_53 : decode cX8_leastCoverage 53 = .ok (.aload_n 0, 1) := by decide +kernel
theorem dX8_leastCoverage_54 : decode cX8_leastCoverage 54 = .ok (.getfield 361, 3) := by decide +kernel
theorem dX8_leastCoverage_57 : decode cX8_leastCoverage 57 = .ok (.imul, 1) := by decide +kernel
theorem dX8_leastCoverage_58 : decode cX8_leastCoverage 58 = .ok (.if_icmp .lt 6, 3) := by decide +kernel
theorem dX8_leastCoverage_61 : decode cX8_leastCoverage 61 = .ok (.goto 14, 3) := by decide +kernel
theorem dX8_leastCoverage_64 : decode cX8_leastCoverage 64 = .ok (.aload_n 0, 1) := by decide +kernel
theorem dX8_leastCoverage_65 : decode cX8_leastCoverage 65 = .ok (.getfield 358, 3) := by decide +kernel
theorem dX8_leastCoverage_68 : decode cX8_leastCoverage 68 = .ok (.istore_n 3, 1) := by decide +kernel
theorem dX8_leastCoverage_69 : decode cX8_leastCoverage 69 = .ok (.aload_n 0, 1) := by decide +kernel
theorem dX8_leastCoverage_70 : decode cX8_leastCoverage 70 = .ok (.getfield 361, 3) := by decide +kernel
theorem dX8_leastCoverage_73 : decode cX8_leastCoverage 73 = .ok (.istore 4, 2) := by decide +kernel
theorem dX8_leastCoverage_75 : decode cX8_leastCoverage 75 = .ok (.iinc 5 1, 3) := by decide +kernel
theorem dX8_leastCoverage_78 : decode cX8_leastCoverage 78 = .ok (.goto (-52), 3) := by decide +kernel
theorem dX8_leastCoverage_81 : decode cX8_leastCoverage 81 = .ok (.aload_n 0, 1) := by decide +kernel
theorem dX8_leastCoverage_82 : decode cX8_leastCoverage 82 = .ok (.iload_n 2, 1) := by decide +kernel
theorem dX8_leastCoverage_83 : decode cX8_leastCoverage 83 = .ok (.ifCond .eq 8, 3) := by decide +kernel
theorem dX8_leastCoverage_86 : decode cX8_leastCoverage 86 = .ok (.iload 4, 2) := by decide +kernel
theorem dX8_leastCoverage_88 : decode cX8_leastCoverage 88 = .ok (.goto 4, 3) := by decide +kernel
theorem dX8_leastCoverage_91 : decode cX8_leastCoverage 91 = .ok (.iload_n 3, 1) := by decide +kernel
theorem dX8_leastCoverage_92 : decode cX8_leastCoverage 92 = .ok (.invokevirtual 246, 3) := by decide +kernel
theorem dX8_leastCoverage_95 : decode cX8_leastCoverage 95 = .ok (.i2l, 1) := by decide +kernel
theorem dX8_leastCoverage_96 : decode cX8_leastCoverage 96 = .ok (.lreturn, 1) := by decide +kernel
theorem dX8_betterServed_0 : decode cX8_betterServed 0 = .ok (.aload_n 0, 1) := by decide +kernel
theorem dX8_betterServed_1 : decode cX8_betterServed 1 = .ok (.aload_n 0, 1) := by decide +kernel
theorem dX8_betterServed_2 : decode cX8_betterServed 2 = .ok (.iload_n 1, 1) := by decide +kernel
theorem dX8_betterServed_3 : decode cX8_betterServed 3 = .ok (.invokevirtual 260, 3) := by decide +kernel
theorem dX8_betterServed_6 : decode cX8_betterServed 6 = .ok (.invokevirtual 320, 3) := by decide +kernel
theorem dX8_betterServed_9 : decode cX8_betterServed 9 = .ok (.ifCond .ne 9, 3) := by decide +kernel
theorem dX8_betterServed_12 : decode cX8_betterServed 12 = .ok (.aload_n 0, 1) := by decide +kernel
theorem dX8_betterServed_13 : decode cX8_betterServed 13 = .ok (.iconst 1, 1) := by decide +kernel
theorem dX8_betterServed_14 : decode cX8_betterServed 14 = .ok (.invokevirtual 226, 3) := by decide +kernel
theorem dX8_betterServed_17 : decode cX8_betterServed 17 = .ok (.ireturn, 1) := by decide +kernel
theorem dX8_betterServed_18 : decode cX8_betterServed 18 = .ok (.aload_n 0, 1) := by decide +kernel
theorem dX8_betterServed_19 : decode cX8_betterServed 19 = .ok (.iconst 0, 1) := by decide +kernel
theorem dX8_betterServed_20 : decode cX8_betterServed 20 = .ok (.iload_n 1, 1) := by decide +kernel
theorem dX8_betterServed_21 : decode cX8_betterServed 21 = .ok (.invokevirtual 368, 3) := by decide +kernel
theorem dX8_betterServed_24 : decode cX8_betterServed 24 = .ok (.aload_n 0, 1) := by decide +kernel
theorem dX8_betterServed_25 : decode cX8_betterServed 25 = .ok (.getfield 358, 3) := by decide +kernel
theorem dX8_betterServed_28 : decode cX8_betterServed 28 = .ok (.istore_n 2, 1) := by decide +kernel
theorem dX8_betterServed_29 : decode cX8_betterServed 29 = .ok (.aload_n 0, 1) := by decide +kernel
theorem dX8_betterServed_30 : decode cX8_betterServed 30 = .ok (.getfield 361, 3) := by decide +kernel
theorem dX8_betterServed_33 : decode cX8_betterServed 33 = .ok (.istore_n 3, 1) := by decide +kernel
theorem dX8_betterServed_34 : decode cX8_betterServed 34 = .ok (.aload_n 0, 1) := by decide +kernel
theorem dX8_betterServed_35 : decode cX8_betterServed 35 = .ok (.iconst 1, 1) := by decide +kernel
theorem dX8_betterServed_36 : decode cX8_betterServed 36 = .ok (.iload_n 1, 1) := by decide +kernel
theorem dX8_betterServed_37 : decode cX8_betterServed 37 = .ok (.invokevirtual 368, 3) := by decide +kernel
theorem dX8_betterServed_40 : decode cX8_betterServed 40 = .ok (.aload_n 0, 1) := by decide +kernel
theorem dX8_betterServed_41 : decode cX8_betterServed 41 = .ok (.iload_n 2, 1) := by decide +kernel
theorem dX8_betterServed_42 : decode cX8_betterServed 42 = .ok (.aload_n 0, 1) := by decide +kernel
theorem dX8_betterServed_43 : decode cX8_betterServed 43 = .ok (.getfield 361, 3) := by decide +kernel
theorem dX8_betterServed_46 : decode cX8_betterServed 46 = .ok (.imul, 1) := by decide +kernel
theorem dX8_betterServed_47 : decode cX8_betterServed 47 = .ok (.aload_n 0, 1) := by decide +kernel
theorem dX8_betterServed_48 : decode cX8_betterServed 48 = .ok (.getfield 358, 3) := by decide +kernel
theorem dX8_betterServed_51 : decode cX8_betterServed 51 = .ok (.iload_n 3, 1) := by decide +kernel
theorem dX8_betterServed_52 : decode cX8_betterServed 52 = .ok (.imul, 1) := by decide +kernel
theorem dX8_betterServed_53 : decode cX8_betterServed 53 = .ok (.if_icmp .ne 7, 3) := by decide +kernel
theorem dX8_betterServed_56 : decode cX8_betterServed 56 = .ok (.iconst (-1), 1) := by decide +kernel
theorem dX8_betterServed_57 : decode cX8_betterServed 57 = .ok (.goto 23, 3) := by decide +kernel
theorem dX8_betterServed_60 : decode cX8_betterServed 60 = .ok (.iload_n 2, 1) := by decide +kernel
theorem dX8_betterServed_61 : decode cX8_betterServed 61 = .ok (.aload_n 0, 1) := by decide +kernel
theorem dX8_betterServed_62 : decode cX8_betterServed 62 = .ok (.getfield 361, 3) := by decide +kernel
theorem dX8_betterServed_65 : decode cX8_betterServed 65 = .ok (.imul, 1) := by decide +kernel
theorem dX8_betterServed_66 : decode cX8_betterServed 66 = .ok (.aload_n 0, 1) := by decide +kernel
theorem dX8_betterServed_67 : decode cX8_betterServed 67 = .ok (.getfield 358, 3) := by decide +kernel
theorem dX8_betterServed_70 : decode cX8_betterServed 70 = .ok (.iload_n 3, 1) := by decide +kernel
theorem dX8_betterServed_71 : decode cX8_betterServed 71 = .ok (.imul, 1) := by decide +kernel
theorem dX8_betterServed_72 : decode cX8_betterServed 72 = .ok (.if_icmp .le 7, 3) := by decide +kernel
theorem dX8_betterServed_75 : decode cX8_betterServed 75 = .ok (.iconst 0, 1) := by decide +kernel
theorem dX8_betterServed_76 : decode cX8_betterServed 76 = .ok (.goto 4, 3) := by decide +kernel
theorem dX8_betterServed_79 : decode cX8_betterServed 79 = .ok (.iconst 1, 1) := by decide +kernel
theorem dX8_betterServed_80 : decode cX8_betterServed 80 = .ok (.invokevirtual 246, 3) := by decide +kernel
theorem dX8_betterServed_83 : decode cX8_betterServed 83 = .ok (.ireturn, 1) := by decide +kernel
theorem dX8_carriedBy_0 : decode cX8_carriedBy 0 = .ok (.aload_n 0, 1) := by decide +kernel
theorem dX8_carriedBy_1 : decode cX8_carriedBy 1 = .ok (.iload_n 1, 1) := by decide +kernel
theorem dX8_carriedBy_2 : decode cX8_carriedBy 2 = .ok (.iconst 4, 1) := by decide +kernel
theorem dX8_carriedBy_3 : decode cX8_carriedBy 3 = .ok (.invokevirtual 274, 3) := by decide +kernel
theorem dX8_carriedBy_6 : decode cX8_carriedBy 6 = .ok (.aload_n 0, 1) := by decide +kernel
theorem dX8_carriedBy_7 : decode cX8_carriedBy 7 = .ok (.aload_n 0, 1) := by decide +kernel
theorem dX8_carriedBy_8 : decode cX8_carriedBy 8 = .ok (.iload_n 1, 1) := by decide +kernel
theorem dX8_carriedBy_9 : decode cX8_carriedBy 9 = .ok (.iconst 0, 1) := by decide +kernel
theorem dX8_carriedBy_10 : decode cX8_carriedBy 10 = .ok (.invokevirtual 274, 3) := by decide +kernel
theorem dX8_carriedBy_13 : decode cX8_carriedBy 13 = .ok (.iconst 1, 1) := by decide +kernel
theorem dX8_carriedBy_14 : decode cX8_carriedBy 14 = .ok (.invokevirtual 277, 3) := by decide +kernel
theorem dX8_carriedBy_17 : decode cX8_carriedBy 17 = .ok (.invokestatic 288, 3) := by decide +kernel
theorem dX8_carriedBy_20 : decode cX8_carriedBy 20 = .ok (.ireturn, 1) := by decide +kernel
theorem dX8_endOf_0 : decode cX8_endOf 0 = .ok (.aload_n 0, 1) := by decide +kernel
theorem dX8_endOf_1 : decode cX8_endOf 1 = .ok (.iload_n 2, 1) := by decide +kernel
theorem dX8_endOf_2 : decode cX8_endOf 2 = .ok (.iconst 0, 1) := by decide +kernel
theorem dX8_endOf_3 : decode cX8_endOf 3 = .ok (.invokevirtual 274, 3) := by decide +kernel
theorem dX8_endOf_6 : decode cX8_endOf 6 = .ok (.istore_n 3, 1) := by decide +kernel
theorem dX8_endOf_7 : decode cX8_endOf 7 = .ok (.aload_n 0, 1) := by decide +kernel
theorem dX8_endOf_8 : decode cX8_endOf 8 = .ok (.iload_n 2, 1) := by decide +kernel
theorem dX8_endOf_9 : decode cX8_endOf 9 = .ok (.invokevirtual 371, 3) := by decide +kernel
theorem dX8_endOf_12 : decode cX8_endOf 12 = .ok (.istore 4, 2) := by decide +kernel
theorem dX8_endOf_14 : decode cX8_endOf 14 = .ok (.iload_n 1, 1) := by decide +kernel
theorem dX8_endOf_15 : decode cX8_endOf 15 = .ok (.iload 4, 2) := by decide +kernel
theorem dX8_endOf_17 : decode cX8_endOf 17 = .ok (.aload_n 0, 1) := by decide +kernel
theorem dX8_endOf_18 : decode cX8_endOf 18 = .ok (.iload_n 3, 1) := by decide +kernel
theorem dX8_endOf_19 : decode cX8_endOf 19 = .ok (.iconst 3, 1) := by decide +kernel
theorem dX8_endOf_20 : decode cX8_endOf 20 = .ok (.invokevirtual 277, 3) := by decide +kernel
theorem dX8_endOf_23 : decode cX8_endOf 23 = .ok (.imul, 1) := by decide +kernel
theorem dX8_endOf_24 : decode cX8_endOf 24 = .ok (.iadd, 1) := by decide +kernel
theorem dX8_endOf_25 : decode cX8_endOf 25 = .ok (.aload_n 0, 1) := by decide +kernel
theorem dX8_endOf_26 : decode cX8_endOf 26 = .ok (.iload_n 2, 1) := by decide +kernel
theorem dX8_endOf_27 : decode cX8_endOf 27 = .ok (.invokevirtual 294, 3) := by decide +kernel
theorem dX8_endOf_30 : decode cX8_endOf 30 = .ok (.iadd, 1) := by decide +kernel
theorem dX8_endOf_31 : decode cX8_endOf 31 = .ok (.istore 5, 2) := by decide +kernel
theorem dX8_endOf_33 : decode cX8_endOf 33 = .ok (.iload 5, 2) := by decide +kernel
theorem dX8_endOf_35 : decode cX8_endOf 35 = .ok (.aload_n 0, 1) := by decide +kernel
theorem dX8_endOf_36 : decode cX8_endOf 36 = .ok (.getfield 17, 3) := by decide +kernel
theorem dX8_endOf_39 : decode cX8_endOf 39 = .ok (.iconst 0, 1) := by decide +kernel
theorem dX8_endOf_40 : decode cX8_endOf 40 = .ok (.aload_n 0, 1) := by decide +kernel
theorem dX8_endOf_41 : decode cX8_endOf 41 = .ok (.iload_n 2, 1) := by decide +kernel
theorem dX8_endOf_42 : decode cX8_endOf 42 = .ok (.iconst 1, 1) := by decide +kernel
theorem dX8_endOf_43 : decode cX8_endOf 43 = .ok (.invokevirtual 274, 3) := by decide +kernel
theorem dX8_endOf_46 : decode cX8_endOf 46 = .ok (.iadd, 1) := by decide +kernel
theorem dX8_endOf_47 : decode cX8_endOf 47 = .ok (.iaload, 1) := by decide +kernel
theorem dX8_endOf_48 : decode cX8_endOf 48 = .ok (.invokestatic 297, 3) := by decide +kernel
theorem dX8_endOf_51 : decode cX8_endOf 51 = .ok (.iload 4, 2) := by decide +kernel
theorem dX8_endOf_53 : decode cX8_endOf 53 = .ok (.aload_n 0, 1) := by decide +kernel
theorem dX8_endOf_54 : decode cX8_endOf 54 = .ok (.iload_n 3, 1) := by decide +kernel
theorem dX8_endOf_55 : decode cX8_endOf 55 = .ok (.iconst 4, 1) := by decide +kernel
theorem dX8_endOf_56 : decode cX8_endOf 56 = .ok (.invokevirtual 277, 3) := by decide +kernel
theorem dX8_endOf_59 : decode cX8_endOf 59 = .ok (.imul, 1) := by decide +kernel
theorem dX8_endOf_60 : decode cX8_endOf 60 = .ok (.iadd, 1) := by decide +kernel
theorem dX8_endOf_61 : decode cX8_endOf 61 = .ok (.istore 6, 2) := by decide +kernel
theorem dX8_endOf_63 : decode cX8_endOf 63 = .ok (.iload 6, 2) := by decide +kernel
theorem dX8_endOf_65 : decode cX8_endOf 65 = .ok (.aload_n 0, 1) := by decide +kernel
theorem dX8_endOf_66 : decode cX8_endOf 66 = .ok (.getfield 17, 3) := by decide +kernel
theorem dX8_endOf_69 : decode cX8_endOf 69 = .ok (.iconst 2, 1) := by decide +kernel
theorem dX8_endOf_70 : decode cX8_endOf 70 = .ok (.aload_n 0, 1) := by decide +kernel
theorem dX8_endOf_71 : decode cX8_endOf 71 = .ok (.iload_n 2, 1) := by decide +kernel
theorem dX8_endOf_72 : decode cX8_endOf 72 = .ok (.iconst 1, 1) := by decide +kernel
theorem dX8_endOf_73 : decode cX8_endOf 73 = .ok (.invokevirtual 274, 3) := by decide +kernel
theorem dX8_endOf_76 : decode cX8_endOf 76 = .ok (.iadd, 1) := by decide +kernel
theorem dX8_endOf_77 : decode cX8_endOf 77 = .ok (.iaload, 1) := by decide +kernel
theorem dX8_endOf_78 : decode cX8_endOf 78 = .ok (.if_icmp .le 9, 3) := by decide +kernel
theorem dX8_endOf_81 : decode cX8_endOf 81 = .ok (.ldc_w 313, 3) := by decide +kernel
theorem dX8_endOf_84 : decode cX8_endOf 84 = .ok (.goto 11, 3) := by decide +kernel
theorem dX8_endOf_87 : decode cX8_endOf 87 = .ok (.iload 6, 2) := by decide +kernel
theorem dX8_endOf_89 : decode cX8_endOf 89 = .ok (.aload_n 0, 1) := by decide +kernel
theorem dX8_endOf_90 : decode cX8_endOf 90 = .ok (.iload_n 2, 1) := by decide +kernel
theorem dX8_endOf_91 : decode cX8_endOf 91 = .ok (.invokevirtual 294, 3) := by decide +kernel
theorem dX8_endOf_94 : decode cX8_endOf 94 = .ok (.iadd, 1) := by decide +kernel
theorem dX8_endOf_95 : decode cX8_endOf 95 = .ok (.ireturn, 1) := by decide +kernel
theorem dX8_layOwn_0 : decode cX8_layOwn 0 = .ok (.aload_n 0, 1) := by decide +kernel
theorem dX8_layOwn_1 : decode cX8_layOwn 1 = .ok (.iconst 0, 1) := by decide +kernel
theorem dX8_layOwn_2 : decode cX8_layOwn 2 = .ok (.putfield 374, 3) := by decide +kernel
theorem dX8_layOwn_5 : decode cX8_layOwn 5 = .ok (.iconst 0, 1) := by decide +kernel
theorem dX8_layOwn_6 : decode cX8_layOwn 6 = .ok (.istore_n 2, 1) := by decide +kernel
theorem dX8_layOwn_7 : decode cX8_layOwn 7 = .ok (.iload_n 2, 1) := by decide +kernel
theorem dX8_layOwn_8 : decode cX8_layOwn 8 = .ok (.aload_n 0, 1) := by decide +kernel
theorem dX8_layOwn_9 : decode cX8_layOwn 9 = .ok (.getfield 17, 3) := by decide +kernel
theorem dX8_layOwn_12 : decode cX8_layOwn 12 = .ok (.bipush 87, 2) := by decide +kernel
theorem dX8_layOwn_14 : decode cX8_layOwn 14 = .ok (.iaload, 1) := by decide +kernel
theorem dX8_layOwn_15 : decode cX8_layOwn 15 = .ok (.if_icmp .ge 42, 3) := by decide +kernel
theorem dX8_layOwn_18 : decode cX8_layOwn 18 = .ok (.aload_n 0, 1) := by decide +kernel
theorem dX8_layOwn_19 : decode cX8_layOwn 19 = .ok (.iload_n 2, 1) := by decide +kernel
theorem dX8_layOwn_20 : decode cX8_layOwn 20 = .ok (.iconst 0, 1) := by decide +kernel
theorem dX8_layOwn_21 : decode cX8_layOwn 21 = .ok (.invokevirtual 274, 3) := by decide +kernel
theorem dX8_layOwn_24 : decode cX8_layOwn 24 = .ok (.iload_n 1, 1) := by decide +kernel
theorem dX8_layOwn_25 : decode cX8_layOwn 25 = .ok (.if_icmp .eq 6, 3) := by decide +kernel
theorem dX8_layOwn_28 : decode cX8_layOwn 28 = .ok (.goto 23, 3) := by decide +kernel
theorem dX8_layOwn_31 : decode cX8_layOwn 31 = .ok (.aload_n 0, 1) := by decide +kernel
theorem dX8_layOwn_32 : decode cX8_layOwn 32 = .ok (.getfield 94, 3) := by decide +kernel
theorem dX8_layOwn_35 : decode cX8_layOwn 35 = .ok (.aload_n 0, 1) := by decide +kernel
theorem dX8_layOwn_36 : decode cX8_layOwn 36 = .ok (.getfield 374, 3) := by decide +kernel
theorem dX8_layOwn_39 : decode cX8_layOwn 39 = .ok (.iload_n 2, 1) := by decide +kernel
theorem dX8_layOwn_40 : decode cX8_layOwn 40 = .ok (.iastore, 1) := by decide +kernel
theorem dX8_layOwn_41 : decode cX8_layOwn 41 = .ok (.aload_n 0, 1) := by decide +kernel
theorem dX8_layOwn_42 : decode cX8_layOwn 42 = .ok (.dup, 1) := by decide +kernel
theorem dX8_layOwn_43 : decode cX8_layOwn 43 = .ok (.getfield 374, 3) := by decide +kernel
theorem dX8_layOwn_46 : decode cX8_layOwn 46 = .ok (.iconst 1, 1) := by decide +kernel
theorem dX8_layOwn_47 : decode cX8_layOwn 47 = .ok (.iadd, 1) := by decide +kernel
theorem dX8_layOwn_48 : decode cX8_layOwn 48 = .ok (.putfield 374, 3) := by decide +kernel
theorem dX8_layOwn_51 : decode cX8_layOwn 51 = .ok (.iinc 2 1, 3) := by decide +kernel
theorem dX8_layOwn_54 : decode cX8_layOwn 54 = .ok (.goto (-47), 3) := by decide +kernel
theorem dX8_layOwn_57 : decode cX8_layOwn 57 = .ok (.return_, 1) := by decide +kernel
theorem dX8_layEnds_0 : decode cX8_layEnds 0 = .ok (.aload_n 0, 1) := by decide +kernel
theorem dX8_layEnds_1 : decode cX8_layEnds 1 = .ok (.getfield 97, 3) := by decide +kernel
theorem dX8_layEnds_4 : decode cX8_layEnds 4 = .ok (.iconst 0, 1) := by decide +kernel
theorem dX8_layEnds_5 : decode cX8_layEnds 5 = .ok (.iload_n 1, 1) := by decide +kernel
theorem dX8_layEnds_6 : decode cX8_layEnds 6 = .ok (.iastore, 1) := by decide +kernel
theorem dX8_layEnds_7 : decode cX8_layEnds 7 = .ok (.iconst 1, 1) := by decide +kernel
theorem dX8_layEnds_8 : decode cX8_layEnds 8 = .ok (.istore_n 2, 1) := by decide +kernel
theorem dX8_layEnds_9 : decode cX8_layEnds 9 = .ok (.iload_n 2, 1) := by decide +kernel
theorem dX8_layEnds_10 : decode cX8_layEnds 10 = .ok (.iconst 1, 1) := by decide +kernel
theorem dX8_layEnds_11 : decode cX8_layEnds 11 = .ok (.aload_n 0, 1) := by decide +kernel
theorem dX8_layEnds_12 : decode cX8_layEnds 12 = .ok (.getfield 374, 3) := by decide +kernel
theorem dX8_layEnds_15 : decode cX8_layEnds 15 = .ok (.ishl, 1) := by decide +kernel
theorem dX8_layEnds_16 : decode cX8_layEnds 16 = .ok (.if_icmp .ge 96, 3) := by decide +kernel
theorem dX8_layEnds_19 : decode cX8_layEnds 19 = .ok (.aload_n 0, 1) := by decide +kernel
theorem dX8_layEnds_20 : decode cX8_layEnds 20 = .ok (.getfield 97, 3) := by decide +kernel
theorem dX8_layEnds_23 : decode cX8_layEnds 23 = .ok (.iload_n 2, 1) := by decide +kernel
theorem dX8_layEnds_24 : decode cX8_layEnds 24 = .ok (.ldc_w 313, 3) := by decide +kernel
theorem dX8_layEnds_27 : decode cX8_layEnds 27 = .ok (.iastore, 1) := by decide +kernel
theorem dX8_layEnds_28 : decode cX8_layEnds 28 = .ok (.iconst 0, 1) := by decide +kernel
theorem dX8_layEnds_29 : decode cX8_layEnds 29 = .ok (.istore_n 3, 1) := by decide +kernel
theorem dX8_layEnds_30 : decode cX8_layEnds 30 = .ok (.iload_n 3, 1) := by decide +kernel
theorem dX8_layEnds_31 : decode cX8_layEnds 31 = .ok (.aload_n 0, 1) := by decide +kernel
theorem dX8_layEnds_32 : decode cX8_layEnds 32 = .ok (.getfield 374, 3) := by decide +kernel
theorem dX8_layEnds_35 : decode cX8_layEnds 35 = .ok (.if_icmp .ge 71, 3) := by decide +kernel
theorem dX8_layEnds_38 : decode cX8_layEnds 38 = .ok (.iload_n 2, 1) := by decide +kernel
theorem dX8_layEnds_39 : decode cX8_layEnds 39 = .ok (.iload_n 3, 1) := by decide +kernel
theorem dX8_layEnds_40 : decode cX8_layEnds 40 = .ok (.ishr, 1) := by decide +kernel
theorem dX8_layEnds_41 : decode cX8_layEnds 41 = .ok (.iconst 1, 1) := by decide +kernel
theorem dX8_layEnds_42 : decode cX8_layEnds 42 = .ok (.iand, 1) := by decide +kernel
theorem dX8_layEnds_43 : decode cX8_layEnds 43 = .ok (.ifCond .eq 57, 3) := by decide +kernel
theorem dX8_layEnds_46 : decode cX8_layEnds 46 = .ok (.aload_n 0, 1) := by decide +kernel
theorem dX8_layEnds_47 : decode cX8_layEnds 47 = .ok (.getfield 97, 3) := by decide +kernel
theorem dX8_layEnds_50 : decode cX8_layEnds 50 = .ok (.iload_n 2, 1) := by decide +kernel
theorem dX8_layEnds_51 : decode cX8_layEnds 51 = .ok (.iconst 1, 1) := by decide +kernel
theorem dX8_layEnds_52 : decode cX8_layEnds 52 = .ok (.iload_n 3, 1) := by decide +kernel
theorem dX8_layEnds_53 : decode cX8_layEnds 53 = .ok (.ishl, 1) := by decide +kernel
theorem dX8_layEnds_54 : decode cX8_layEnds 54 = .ok (.ixor, 1) := by decide +kernel
theorem dX8_layEnds_55 : decode cX8_layEnds 55 = .ok (.iaload, 1) := by decide +kernel
theorem dX8_layEnds_56 : decode cX8_layEnds 56 = .ok (.ldc_w 313, 3) := by decide +kernel
theorem dX8_layEnds_59 : decode cX8_layEnds 59 = .ok (.if_icmp .ne 6, 3) := by decide +kernel
theorem dX8_layEnds_62 : decode cX8_layEnds 62 = .ok (.goto 38, 3) := by decide +kernel
theorem dX8_layEnds_65 : decode cX8_layEnds 65 = .ok (.aload_n 0, 1) := by decide +kernel
theorem dX8_layEnds_66 : decode cX8_layEnds 66 = .ok (.getfield 97, 3) := by decide +kernel
theorem dX8_layEnds_69 : decode cX8_layEnds 69 = .ok (.iload_n 2, 1) := by decide +kernel
theorem dX8_layEnds_70 : decode cX8_layEnds 70 = .ok (.aload_n 0, 1) := by decide +kernel
theorem dX8_layEnds_71 : decode cX8_layEnds 71 = .ok (.getfield 97, 3) := by decide +kernel
theorem dX8_layEnds_74 : decode cX8_layEnds 74 = .ok (.iload_n 2, 1) := by decide +kernel
theorem dX8_layEnds_75 : decode cX8_layEnds 75 = .ok (.iaload, 1) := by decide +kernel
theorem dX8_layEnds_76 : decode cX8_layEnds 76 = .ok (.aload_n 0, 1) := by decide +kernel
theorem dX8_layEnds_77 : decode cX8_layEnds 77 = .ok (.aload_n 0, 1) := by decide +kernel
theorem dX8_layEnds_78 : decode cX8_layEnds 78 = .ok (.getfield 97, 3) := by decide +kernel
theorem dX8_layEnds_81 : decode cX8_layEnds 81 = .ok (.iload_n 2, 1) := by decide +kernel
theorem dX8_layEnds_82 : decode cX8_layEnds 82 = .ok (.iconst 1, 1) := by decide +kernel
theorem dX8_layEnds_83 : decode cX8_layEnds 83 = .ok (.iload_n 3, 1) := by decide +kernel
theorem dX8_layEnds_84 : decode cX8_layEnds 84 = .ok (.ishl, 1) := by decide +kernel
theorem dX8_layEnds_85 : decode cX8_layEnds 85 = .ok (.ixor, 1) := by decide +kernel
theorem dX8_layEnds_86 : decode cX8_layEnds 86 = .ok (.iaload, 1) := by decide +kernel
theorem dX8_layEnds_87 : decode cX8_layEnds 87 = .ok (.aload_n 0, 1) := by decide +kernel
theorem dX8_layEnds_88 : decode cX8_layEnds 88 = .ok (.getfield 94, 3) := by decide +kernel
theorem dX8_layEnds_91 : decode cX8_layEnds 91 = .ok (.iload_n 3, 1) := by decide +kernel
theorem dX8_layEnds_92 : decode cX8_layEnds 92 = .ok (.iaload, 1) := by decide +kernel
theorem dX8_layEnds_93 : decode cX8_layEnds 93 = .ok (.invokevirtual 377, 3) := by decide +kernel
theorem dX8_layEnds_96 : decode cX8_layEnds 96 = .ok (.invokestatic 288, 3) := by decide +kernel
theorem dX8_layEnds_99 : decode cX8_layEnds 99 = .ok (.iastore, 1) := by decide +kernel
theorem dX8_layEnds_100 : decode cX8_layEnds 100 = .ok (.iinc 3 1, 3) := by decide +kernel
theorem dX8_layEnds_103 : decode cX8_layEnds 103 = .ok (.goto (-73), 3) := by decide +kernel
theorem dX8_layEnds_106 : decode cX8_layEnds 106 = .ok (.iinc 2 1, 3) := by decide +kernel
theorem dX8_layEnds_109 : decode cX8_layEnds 109 = .ok (.goto (-100), 3) := by decide +kernel
theorem dX8_layEnds_112 : decode cX8_layEnds 112 = .ok (.return_, 1) := by decide +kernel
theorem dX8_bestOf_0 : decode cX8_bestOf 0 = .ok (.aload_n 0, 1) := by decide +kernel
theorem dX8_bestOf_1 : decode cX8_bestOf 1 = .ok (.iload_n 1, 1) := by decide +kernel
theorem dX8_bestOf_2 : decode cX8_bestOf 2 = .ok (.invokevirtual 380, 3) := by decide +kernel
theorem dX8_bestOf_5 : decode cX8_bestOf 5 = .ok (.aload_n 0, 1) := by decide +kernel
theorem dX8_bestOf_6 : decode cX8_bestOf 6 = .ok (.iconst 0, 1) := by decide +kernel
theorem dX8_bestOf_7 : decode cX8_bestOf 7 = .ok (.invokevirtual 383, 3) := by decide +kernel
theorem dX8_bestOf_10 : decode cX8_bestOf 10 = .ok (.iconst 0, 1) := by decide +kernel
theorem dX8_bestOf_11 : decode cX8_bestOf 11 = .ok (.istore_n 2, 1) := by decide +kernel
theorem dX8_bestOf_12 : decode cX8_bestOf 12 = .ok (.aload_n 0, 1) := by decide +kernel
theorem dX8_bestOf_13 : decode cX8_bestOf 13 = .ok (.iconst 0, 1) := by decide +kernel
theorem dX8_bestOf_14 : decode cX8_bestOf 14 = .ok (.putfield 386, 3) := by decide +kernel
theorem dX8_bestOf_17 : decode cX8_bestOf 17 = .ok (.iconst 1, 1) := by decide +kernel
theorem dX8_bestOf_18 : decode cX8_bestOf 18 = .ok (.istore_n 3, 1) := by decide +kernel
theorem dX8_bestOf_19 : decode cX8_bestOf 19 = .ok (.iload_n 3, 1) := by decide +kernel
theorem dX8_bestOf_20 : decode cX8_bestOf 20 = .ok (.iconst 1, 1) := by decide +kernel
theorem dX8_bestOf_21 : decode cX8_bestOf 21 = .ok (.aload_n 0, 1) := by decide +kernel
theorem dX8_bestOf_22 : decode cX8_bestOf 22 = .ok (.getfield 374, 3) := by decide +kernel
theorem dX8_bestOf_25 : decode cX8_bestOf 25 = .ok (.ishl, 1) := by decide +kernel
theorem dX8_bestOf_26 : decode cX8_bestOf 26 = .ok (.if_icmp .ge 88, 3) := by decide +kernel
theorem dX8_bestOf_29 : decode cX8_bestOf 29 = .ok (.aload_n 0, 1) := by decide +kernel
theorem dX8_bestOf_30 : decode cX8_bestOf 30 = .ok (.getfield 97, 3) := by decide +kernel
theorem dX8_bestOf_33 : decode cX8_bestOf 33 = .ok (.iload_n 3, 1) := by decide +kernel
theorem dX8_bestOf_34 : decode cX8_bestOf 34 = .ok (.iaload, 1) := by decide +kernel
theorem dX8_bestOf_35 : decode cX8_bestOf 35 = .ok (.ldc_w 313, 3) := by decide +kernel
theorem dX8_bestOf_38 : decode cX8_bestOf 38 = .ok (.if_icmp .ne 6, 3) := by decide +kernel
theorem dX8_bestOf_41 : decode cX8_bestOf 41 = .ok (.goto 67, 3) := by decide +kernel
theorem dX8_bestOf_44 : decode cX8_bestOf 44 = .ok (.iconst 0, 1) := by decide +kernel
theorem dX8_bestOf_45 : decode cX8_bestOf 45 = .ok (.istore 4, 2) := by decide +kernel
theorem dX8_bestOf_47 : decode cX8_bestOf 47 = .ok (.iconst 0, 1) := by decide +kernel
theorem dX8_bestOf_48 : decode cX8_bestOf 48 = .ok (.istore 5, 2) := by decide +kernel
theorem dX8_bestOf_50 : decode cX8_bestOf 50 = .ok (.iload 5, 2) := by decide +kernel
theorem dX8_bestOf_52 : decode cX8_bestOf 52 = .ok (.aload_n 0, 1) := by decide +kernel
theorem dX8_bestOf_53 : decode cX8_bestOf 53 = .ok (.getfield 374, 3) := by decide +kernel
theorem dX8_bestOf_56 : decode cX8_bestOf 56 = .ok (.if_icmp .ge 32, 3) := by decide +kernel
theorem dX8_bestOf_59 : decode cX8_bestOf 59 = .ok (.iload 4, 2) := by decide +kernel
theorem dX8_bestOf_61 : decode cX8_bestOf 61 = .ok (.iload_n 3, 1) := by decide +kernel
theorem dX8_bestOf_62 : decode cX8_bestOf 62 = .ok (.iload 5, 2) := by decide +kernel
theorem dX8_bestOf_64 : decode cX8_bestOf 64 = .ok (.ishr, 1) := by decide +kernel
theorem dX8_bestOf_65 : decode cX8_bestOf 65 = .ok (.iconst 1, 1) := by decide +kernel
theorem dX8_bestOf_66 : decode cX8_bestOf 66 = .ok (.iand, 1) := by decide +kernel
theorem dX8_bestOf_67 : decode cX8_bestOf 67 = .ok (.aload_n 0, 1) := by decide +kernel
theorem dX8_bestOf_68 : decode cX8_bestOf 68 = .ok (.aload_n 0, 1) := by decide +kernel
theorem dX8_bestOf_69 : decode cX8_bestOf 69 = .ok (.getfield 94, 3) := by decide +kernel
theorem dX8_bestOf_72 : decode cX8_bestOf 72 = .ok (.iload 5, 2) := by decide +kernel
theorem dX8_bestOf_74 : decode cX8_bestOf 74 = .ok (.iaload, 1) := by decide +kernel
theorem dX8_bestOf_75 : decode cX8_bestOf 75 = .ok (.invokevirtual 371, 3) := by decide +kernel
theorem dX8_bestOf_78 : decode cX8_bestOf 78 = .ok (.imul, 1) := by decide +kernel
theorem dX8_bestOf_79 : decode cX8_bestOf 79 = .ok (.iadd, 1) := by decide +kernel
theorem dX8_bestOf_80 : decode cX8_bestOf 80 = .ok (.istore 4, 2) := by decide +kernel
theorem dX8_bestOf_82 : decode cX8_bestOf 82 = .ok (.iinc 5 1, 3) := by decide +kernel
theorem dX8_bestOf_85 : decode cX8_bestOf 85 = .ok (.goto (-35), 3) := by decide +kernel
theorem dX8_bestOf_88 : decode cX8_bestOf 88 = .ok (.iload 4, 2) := by decide +kernel
theorem dX8_bestOf_90 : decode cX8_bestOf 90 = .ok (.aload_n 0, 1) := by decide +kernel
theorem dX8_bestOf_91 : decode cX8_bestOf 91 = .ok (.getfield 386, 3) := by decide +kernel
theorem dX8_bestOf_94 : decode cX8_bestOf 94 = .ok (.if_icmp .gt 6, 3) := by decide +kernel
theorem dX8_bestOf_97 : decode cX8_bestOf 97 = .ok (.goto 11, 3) := by decide +kernel
theorem dX8_bestOf_100 : decode cX8_bestOf 100 = .ok (.iload_n 3, 1) := by decide +kernel
theorem dX8_bestOf_101 : decode cX8_bestOf 101 = .ok (.istore_n 2, 1) := by decide +kernel
theorem dX8_bestOf_102 : decode cX8_bestOf 102 = .ok (.aload_n 0, 1) := by decide +kernel
theorem dX8_bestOf_103 : decode cX8_bestOf 103 = .ok (.iload 4, 2) := by decide +kernel
theorem dX8_bestOf_105 : decode cX8_bestOf 105 = .ok (.putfield 386, 3) := by decide +kernel
theorem dX8_bestOf_108 : decode cX8_bestOf 108 = .ok (.iinc 3 1, 3) := by decide +kernel
theorem dX8_bestOf_111 : decode cX8_bestOf 111 = .ok (.goto (-92), 3) := by decide +kernel
theorem dX8_bestOf_114 : decode cX8_bestOf 114 = .ok (.iload_n 2, 1) := by decide +kernel
theorem dX8_bestOf_115 : decode cX8_bestOf 115 = .ok (.ireturn, 1) := by decide +kernel
theorem dX8_layOrder_0 : decode cX8_layOrder 0 = .ok (.aload_n 0, 1) := by decide +kernel
theorem dX8_layOrder_1 : decode cX8_layOrder 1 = .ok (.iload_n 1, 1) := by decide +kernel
theorem dX8_layOrder_2 : decode cX8_layOrder 2 = .ok (.invokevirtual 389, 3) := by decide +kernel
theorem dX8_layOrder_5 : decode cX8_layOrder 5 = .ok (.istore_n 2, 1) := by decide +kernel
theorem dX8_layOrder_6 : decode cX8_layOrder 6 = .ok (.iconst 0, 1) := by decide +kernel
theorem dX8_layOrder_7 : decode cX8_layOrder 7 = .ok (.istore_n 3, 1) := by decide +kernel
theorem dX8_layOrder_8 : decode cX8_layOrder 8 = .ok (.aload_n 0, 1) := by decide +kernel
theorem dX8_layOrder_9 : decode cX8_layOrder 9 = .ok (.iconst 0, 1) := by decide +kernel
theorem dX8_layOrder_10 : decode cX8_layOrder 10 = .ok (.putfield 392, 3) := by decide +kernel
theorem dX8_layOrder_13 : decode cX8_layOrder 13 = .ok (.iload_n 2, 1) := by decide +kernel
theorem dX8_layOrder_14 : decode cX8_layOrder 14 = .ok (.ifCond .eq 142, 3) := by decide +kernel
theorem dX8_layOrder_17 : decode cX8_layOrder 17 = .ok (.iconst 0, 1) := by decide +kernel
theorem dX8_layOrder_18 : decode cX8_layOrder 18 = .ok (.istore 4, 2) := by decide +kernel
theorem dX8_layOrder_20 : decode cX8_layOrder 20 = .ok (.iconst 0, 1) := by decide +kernel
theorem dX8_layOrder_21 : decode cX8_layOrder 21 = .ok (.istore 5, 2) := by decide +kernel
theorem dX8_layOrder_23 : decode cX8_layOrder 23 = .ok (.iload 5, 2) := by decide +kernel
theorem dX8_layOrder_25 : decode cX8_layOrder 25 = .ok (.ifCond .ne 82, 3) := by decide +kernel
theorem dX8_layOrder_28 : decode cX8_layOrder 28 = .ok (.iload_n 2, 1) := by decide +kernel
theorem dX8_layOrder_29 : decode cX8_layOrder 29 = .ok (.iload 4, 2) := by decide +kernel
theorem dX8_layOrder_31 : decode cX8_layOrder 31 = .ok (.ishr, 1) := by decide +kernel
theorem dX8_layOrder_32 : decode cX8_layOrder 32 = .ok (.iconst 1, 1) := by decide +kernel
theorem dX8_layOrder_33 : decode cX8_layOrder 33 = .ok (.iand, 1) := by decide +kernel
theorem dX8_layOrder_34 : decode cX8_layOrder 34 = .ok (.iconst 1, 1) := by decide +kernel
theorem dX8_layOrder_35 : decode cX8_layOrder 35 = .ok (.if_icmp .ne 18, 3) := by decide +kernel
theorem dX8_layOrder_38 : decode cX8_layOrder 38 = .ok (.aload_n 0, 1) := by decide +kernel
theorem dX8_layOrder_39 : decode cX8_layOrder 39 = .ok (.iload_n 3, 1) := by decide +kernel
theorem dX8_layOrder_40 : decode cX8_layOrder 40 = .ok (.aload_n 0, 1) := by decide +kernel
theorem dX8_layOrder_41 : decode cX8_layOrder 41 = .ok (.getfield 94, 3) := by decide +kernel
theorem dX8_layOrder_44 : decode cX8_layOrder 44 = .ok (.iload 4, 2) := by decide +kernel
theorem dX8_layOrder_46 : decode cX8_layOrder 46 = .ok (.iaload, 1) := by decide +kernel
theorem dX8_layOrder_47 : decode cX8_layOrder 47 = .ok (.invokevirtual 377, 3) := by decide +kernel
theorem dX8_layOrder_50 : decode cX8_layOrder 50 = .ok (.goto 6, 3) := by decide +kernel
theorem dX8_layOrder_53 : decode cX8_layOrder 53 = .ok (.ldc_w 313, 3) := by decide +kernel
theorem dX8_layOrder_56 : decode cX8_layOrder 56 = .ok (.istore 6, 2) := by decide +kernel
theorem dX8_layOrder_58 : decode cX8_layOrder 58 = .ok (.iload 6, 2) := by decide +kernel
theorem dX8_layOrder_60 : decode cX8_layOrder 60 = .ok (.ldc_w 313, 3) := by decide +kernel
theorem dX8_layOrder_63 : decode cX8_layOrder 63 = .ok (.if_icmp .ge 33, 3) := by decide +kernel
theorem dX8_layOrder_66 : decode cX8_layOrder 66 = .ok (.aload_n 0, 1) := by decide +kernel
theorem dX8_layOrder_67 : decode cX8_layOrder 67 = .ok (.iload 6, 2) := by decide +kernel
theorem dX8_layOrder_69 : decode cX8_layOrder 69 = .ok (.invokevirtual 383, 3) := by decide +kernel
theorem dX8_layOrder_72 : decode cX8_layOrder 72 = .ok (.aload_n 0, 1) := by decide +kernel
theorem dX8_layOrder_73 : decode cX8_layOrder 73 = .ok (.getfield 97, 3) := by decide +kernel
theorem dX8_layOrder_76 : decode cX8_layOrder 76 = .ok (.iload_n 2, 1) := by decide +kernel
theorem dX8_layOrder_77 : decode cX8_layOrder 77 = .ok (.iconst 1, 1) := by decide +kernel
theorem dX8_layOrder_78 : decode cX8_layOrder 78 = .ok (.iload 4, 2) := by decide +kernel
theorem dX8_layOrder_80 : decode cX8_layOrder 80 = .ok (.ishl, 1) := by decide +kernel
theorem dX8_layOrder_81 : decode cX8_layOrder 81 = .ok (.ixor, 1) := by decide +kernel
theorem dX8_layOrder_82 : decode cX8_layOrder 82 = .ok (.iaload, 1) := by decide +kernel
theorem dX8_layOrder_83 : decode cX8_layOrder 83 = .ok (.ldc_w 313, 3) := by decide +kernel
theorem dX8_layOrder_86 : decode cX8_layOrder 86 = .ok (.if_icmp .ge 7, 3) := by decide +kernel
theorem dX8_layOrder_89 : decode cX8_layOrder 89 = .ok (.iconst 1, 1) := by decide +kernel
theorem dX8_layOrder_90 : decode cX8_layOrder 90 = .ok (.goto 4, 3) := by decide +kernel
theorem dX8_layOrder_93 : decode cX8_layOrder 93 = .ok (.iconst 0, 1) := by decide +kernel
theorem dX8_layOrder_94 : decode cX8_layOrder 94 = .ok (.istore 5, 2) := by decide +kernel
theorem dX8_layOrder_96 : decode cX8_layOrder 96 = .ok (.iload 5, 2) := by decide +kernel
theorem dX8_layOrder_98 : decode cX8_layOrder 98 = .ok (.ifCond .ne 6, 3) := by decide +kernel
theorem dX8_layOrder_101 : decode cX8_layOrder 101 = .ok (.iinc 4 1, 3) := by decide +kernel
theorem dX8_layOrder_104 : decode cX8_layOrder 104 = .ok (.goto (-81), 3) := by decide +kernel
theorem dX8_layOrder_107 : decode cX8_layOrder 107 = .ok (.aload_n 0, 1) := by decide +kernel
theorem dX8_layOrder_108 : decode cX8_layOrder 108 = .ok (.iload_n 3, 1) := by decide +kernel
theorem dX8_layOrder_109 : decode cX8_layOrder 109 = .ok (.aload_n 0, 1) := by decide +kernel
theorem dX8_layOrder_110 : decode cX8_layOrder 110 = .ok (.getfield 94, 3) := by decide +kernel
theorem dX8_layOrder_113 : decode cX8_layOrder 113 = .ok (.iload 4, 2) := by decide +kernel
theorem dX8_layOrder_115 : decode cX8_layOrder 115 = .ok (.iaload, 1) := by decide +kernel
theorem dX8_layOrder_116 : decode cX8_layOrder 116 = .ok (.invokevirtual 377, 3) := by decide +kernel
theorem dX8_layOrder_119 : decode cX8_layOrder 119 = .ok (.istore_n 3, 1) := by decide +kernel
theorem dX8_layOrder_120 : decode cX8_layOrder 120 = .ok (.iload_n 2, 1) := by decide +kernel
theorem dX8_layOrder_121 : decode cX8_layOrder 121 = .ok (.iconst 1, 1) := by decide +kernel
theorem dX8_layOrder_122 : decode cX8_layOrder 122 = .ok (.iload 4, 2) := by decide +kernel
theorem dX8_layOrder_124 : decode cX8_layOrder 124 = .ok (.ishl, 1) := by decide +kernel
theorem dX8_layOrder_125 : decode cX8_layOrder 125 = .ok (.ixor, 1) := by decide +kernel
theorem dX8_layOrder_126 : decode cX8_layOrder 126 = .ok (.istore_n 2, 1) := by decide +kernel
theorem dX8_layOrder_127 : decode cX8_layOrder 127 = .ok (.aload_n 0, 1) := by decide +kernel
theorem dX8_layOrder_128 : decode cX8_layOrder 128 = .ok (.getfield 100, 3) := by decide +kernel
theorem dX8_layOrder_131 : decode cX8_layOrder 131 = .ok (.aload_n 0, 1) := by decide +kernel
theorem dX8_layOrder_132 : decode cX8_layOrder 132 = .ok (.getfield 392, 3) := by decide +kernel
theorem dX8_layOrder_135 : decode cX8_layOrder 135 = .ok (.aload_n 0, 1) := by decide +kernel
theorem dX8_layOrder_136 : decode cX8_layOrder 136 = .ok (.getfield 94, 3) := by decide +kernel
theorem dX8_layOrder_139 : decode cX8_layOrder 139 = .ok (.iload 4, 2) := by decide +kernel
theorem dX8_layOrder_141 : decode cX8_layOrder 141 = .ok (.iaload, 1) := by decide +kernel
theorem dX8_layOrder_142 : decode cX8_layOrder 142 = .ok (.iastore, 1) := by decide +kernel
theorem dX8_layOrder_143 : decode cX8_layOrder 143 = .ok (.aload_n 0, 1) := by decide +kernel
theorem dX8_layOrder_144 : decode cX8_layOrder 144 = .ok (.dup, 1) := by decide +kernel
theorem dX8_layOrder_145 : decode cX8_layOrder 145 = .ok (.getfield 392, 3) := by decide +kernel
theorem dX8_layOrder_148 : decode cX8_layOrder 148 = .ok (.iconst 1, 1) := by decide +kernel
theorem dX8_layOrder_149 : decode cX8_layOrder 149 = .ok (.iadd, 1) := by decide +kernel
theorem dX8_layOrder_150 : decode cX8_layOrder 150 = .ok (.putfield 392, 3) := by decide +kernel
theorem dX8_layOrder_153 : decode cX8_layOrder 153 = .ok (.goto (-140), 3) := by decide +kernel
theorem dX8_layOrder_156 : decode cX8_layOrder 156 = .ok (.return_, 1) := by decide +kernel
theorem dX8_bestSet_0 : decode cX8_bestSet 0 = .ok (.aload_n 0, 1) := by decide +kernel
theorem dX8_bestSet_1 : decode cX8_bestSet 1 = .ok (.iconst 0, 1) := by decide +kernel
theorem dX8_bestSet_2 : decode cX8_bestSet 2 = .ok (.putfield 103, 3) := by decide +kernel
theorem dX8_bestSet_5 : decode cX8_bestSet 5 = .ok (.aload_n 0, 1) := by decide +kernel
theorem dX8_bestSet_6 : decode cX8_bestSet 6 = .ok (.iload_n 1, 1) := by decide +kernel
theorem dX8_bestSet_7 : decode cX8_bestSet 7 = .ok (.invokevirtual 330, 3) := by decide +kernel
theorem dX8_bestSet_10 : decode cX8_bestSet 10 = .ok (.ifCond .eq 15, 3) := by decide +kernel
theorem dX8_bestSet_13 : decode cX8_bestSet 13 = .ok (.aload_n 0, 1) := by decide +kernel
theorem dX8_bestSet_14 : decode cX8_bestSet 14 = .ok (.aload_n 0, 1) := by decide +kernel
theorem dX8_bestSet_15 : decode cX8_bestSet 15 = .ok (.iload_n 1, 1) := by decide +kernel
theorem dX8_bestSet_16 : decode cX8_bestSet 16 = .ok (.invokevirtual 389, 3) := by decide +kernel
theorem dX8_bestSet_19 : decode cX8_bestSet 19 = .ok (.invokevirtual 246, 3) := by decide +kernel
theorem dX8_bestSet_22 : decode cX8_bestSet 22 = .ok (.goto 8, 3) := by decide +kernel
theorem dX8_bestSet_25 : decode cX8_bestSet 25 = .ok (.aload_n 0, 1) := by decide +kernel
theorem dX8_bestSet_26 : decode cX8_bestSet 26 = .ok (.iconst 1, 1) := by decide +kernel
theorem dX8_bestSet_27 : decode cX8_bestSet 27 = .ok (.invokevirtual 226, 3) := by decide +kernel
theorem dX8_bestSet_30 : decode cX8_bestSet 30 = .ok (.ireturn, 1) := by decide +kernel
theorem dX8_bestMeals_0 : decode cX8_bestMeals 0 = .ok (.aload_n 0, 1) := by decide +kernel
theorem dX8_bestMeals_1 : decode cX8_bestMeals 1 = .ok (.iconst 0, 1) := by decide +kernel
theorem dX8_bestMeals_2 : decode cX8_bestMeals 2 = .ok (.putfield 103, 3) := by decide +kernel
theorem dX8_bestMeals_5 : decode cX8_bestMeals 5 = .ok (.aload_n 0, 1) := by decide +kernel
theorem dX8_bestMeals_6 : decode cX8_bestMeals 6 = .ok (.iload_n 1, 1) := by decide +kernel
theorem dX8_bestMeals_7 : decode cX8_bestMeals 7 = .ok (.invokevirtual 330, 3) := by decide +kernel
theorem dX8_bestMeals_10 : decode cX8_bestMeals 10 = .ok (.ifCond .ne 9, 3) := by decide +kernel
theorem dX8_bestMeals_13 : decode cX8_bestMeals 13 = .ok (.aload_n 0, 1) := by decide +kernel
theorem dX8_bestMeals_14 : decode cX8_bestMeals 14 = .ok (.iconst 1, 1) := by decide +kernel
theorem dX8_bestMeals_15 : decode cX8_bestMeals 15 = .ok (.invokevirtual 226, 3) := by decide +kernel
theorem dX8_bestMeals_18 : decode cX8_bestMeals 18 = .ok (.ireturn, 1) := by decide +kernel
theorem dX8_bestMeals_19 : decode cX8_bestMeals 19 = .ok (.aload_n 0, 1) := by decide +kernel
theorem dX8_bestMeals_20 : decode cX8_bestMeals 20 = .ok (.iload_n 1, 1) := by decide +kernel
theorem dX8_bestMeals_21 : decode cX8_bestMeals 21 = .ok (.invokevirtual 389, 3) := by decide +kernel
theorem dX8_bestMeals_24 : decode cX8_bestMeals 24 = .ok (.istore_n 2, 1) := by decide +kernel
theorem dX8_bestMeals_25 : decode cX8_bestMeals 25 = .ok (.aload_n 0, 1) := by decide +kernel
theorem dX8_bestMeals_26 : decode cX8_bestMeals 26 = .ok (.iload_n 2, 1) := by decide +kernel
theorem dX8_bestMeals_27 : decode cX8_bestMeals 27 = .ok (.ifCond .ne 7, 3) := by decide +kernel
theorem dX8_bestMeals_30 : decode cX8_bestMeals 30 = .ok (.iconst 0, 1) := by decide +kernel
theorem dX8_bestMeals_31 : decode cX8_bestMeals 31 = .ok (.goto 7, 3) := by decide +kernel
theorem dX8_bestMeals_34 : decode cX8_bestMeals 34 = .ok (.aload_n 0, 1) := by decide +kernel
theorem dX8_bestMeals_35 : decode cX8_bestMeals 35 = .ok (.getfield 386, 3) := by decide +kernel
theorem dX8_bestMeals_38 : decode cX8_bestMeals 38 = .ok (.invokevirtual 246, 3) := by decide +kernel
theorem dX8_bestMeals_41 : decode cX8_bestMeals 41 = .ok (.ireturn, 1) := by decide +kernel
theorem dX8_bestOrder_0 : decode cX8_bestOrder 0 = .ok (.aload_n 0, 1) := by decide +kernel
theorem dX8_bestOrder_1 : decode cX8_bestOrder 1 = .ok (.iconst 0, 1) := by decide +kernel
theorem dX8_bestOrder_2 : decode cX8_bestOrder 2 = .ok (.putfield 103, 3) := by decide +kernel
theorem dX8_bestOrder_5 : decode cX8_bestOrder 5 = .ok (.aload_n 0, 1) := by decide +kernel
theorem dX8_bestOrder_6 : decode cX8_bestOrder 6 = .ok (.iload_n 1, 1) := by decide +kernel
theorem dX8_bestOrder_7 : decode cX8_bestOrder 7 = .ok (.invokevirtual 330, 3) := by decide +kernel
theorem dX8_bestOrder_10 : decode cX8_bestOrder 10 = .ok (.ifCond .ne 9, 3) := by decide +kernel
theorem dX8_bestOrder_13 : decode cX8_bestOrder 13 = .ok (.aload_n 0, 1) := by decide +kernel
theorem dX8_bestOrder_14 : decode cX8_bestOrder 14 = .ok (.iconst 1, 1) := by decide +kernel
theorem dX8_bestOrder_15 : decode cX8_bestOrder 15 = .ok (.invokevirtual 226, 3) := by decide +kernel
theorem dX8_bestOrder_18 : decode cX8_bestOrder 18 = .ok (.ireturn, 1) := by decide +kernel
theorem dX8_bestOrder_19 : decode cX8_bestOrder 19 = .ok (.aload_n 0, 1) := by decide +kernel
theorem dX8_bestOrder_20 : decode cX8_bestOrder 20 = .ok (.iload_n 1, 1) := by decide +kernel
theorem dX8_bestOrder_21 : decode cX8_bestOrder 21 = .ok (.invokevirtual 395, 3) := by decide +kernel
theorem dX8_bestOrder_24 : decode cX8_bestOrder 24 = .ok (.iload_n 2, 1) := by decide +kernel
theorem dX8_bestOrder_25 : decode cX8_bestOrder 25 = .ok (.iconst 0, 1) := by decide +kernel
theorem dX8_bestOrder_26 : decode cX8_bestOrder 26 = .ok (.aload_n 0, 1) := by decide +kernel
theorem dX8_bestOrder_27 : decode cX8_bestOrder 27 = .ok (.getfield 392, 3) := by decide +kernel
theorem dX8_bestOrder_30 : decode cX8_bestOrder 30 = .ok (.iconst 1, 1) := by decide +kernel
theorem dX8_bestOrder_31 : decode cX8_bestOrder 31 = .ok (.isub, 1) := by decide +kernel
theorem dX8_bestOrder_32 : decode cX8_bestOrder 32 = .ok (.invokestatic 142, 3) := by decide +kernel
theorem dX8_bestOrder_35 : decode cX8_bestOrder 35 = .ok (.ifCond .eq 16, 3) := by decide +kernel
theorem dX8_bestOrder_38 : decode cX8_bestOrder 38 = .ok (.aload_n 0, 1) := by decide +kernel
theorem dX8_bestOrder_39 : decode cX8_bestOrder 39 = .ok (.aload_n 0, 1) := by decide +kernel
theorem dX8_bestOrder_40 : decode cX8_bestOrder 40 = .ok (.getfield 100, 3) := by decide +kernel
theorem dX8_bestOrder_43 : decode cX8_bestOrder 43 = .ok (.iload_n 2, 1) := by decide +kernel
theorem dX8_bestOrder_44 : decode cX8_bestOrder 44 = .ok (.iaload, 1) := by decide +kernel
theorem dX8_bestOrder_45 : decode cX8_bestOrder 45 = .ok (.invokevirtual 246, 3) := by decide +kernel
theorem dX8_bestOrder_48 : decode cX8_bestOrder 48 = .ok (.goto 9, 3) := by decide +kernel
theorem dX8_bestOrder_51 : decode cX8_bestOrder 51 = .ok (.aload_n 0, 1) := by decide +kernel
theorem dX8_bestOrder_52 : decode cX8_bestOrder 52 = .ok (.bipush 6, 2) := by decide +kernel
theorem dX8_bestOrder_54 : decode cX8_bestOrder 54 = .ok (.invokevirtual 226, 3) := by decide +kernel
theorem dX8_bestOrder_57 : decode cX8_bestOrder 57 = .ok (.ireturn, 1) := by decide +kernel
theorem dX8_leastSpeed_0 : decode cX8_leastSpeed 0 = .ok (.aload_n 0, 1) := by decide +kernel
theorem dX8_leastSpeed_1 : decode cX8_leastSpeed 1 = .ok (.iconst 0, 1) := by decide +kernel
theorem dX8_leastSpeed_2 : decode cX8_leastSpeed 2 = .ok (.putfield 103, 3) := by decide +kernel
theorem dX8_leastSpeed_5 : decode cX8_leastSpeed 5 = .ok (.aload_n 0, 1) := by decide +kernel
theorem dX8_leastSpeed_6 : decode cX8_leastSpeed 6 = .ok (.iload_n 1, 1) := by decide +kernel
theorem dX8_leastSpeed_7 : decode cX8_leastSpeed 7 = .ok (.invokevirtual 330, 3) := by decide +kernel
theorem dX8_leastSpeed_10 : decode cX8_leastSpeed 10 = .ok (.ifCond .ne 9, 3) := by decide +kernel
theorem dX8_leastSpeed_13 : decode cX8_leastSpeed 13 = .ok (.aload_n 0, 1) := by decide +kernel
theorem dX8_leastSpeed_14 : decode cX8_leastSpeed 14 = .ok (.iconst 1, 1) := by decide +kernel
theorem dX8_leastSpeed_15 : decode cX8_leastSpeed 15 = .ok (.invokevirtual 226, 3) := by decide +kernel
theorem dX8_leastSpeed_18 : decode cX8_leastSpeed 18 = .ok (.ireturn, 1) := by decide +kernel
theorem dX8_leastSpeed_19 : decode cX8_leastSpeed 19 = .ok (.bipush 62, 2) := by decide +kernel
theorem dX8_leastSpeed_21 : decode cX8_leastSpeed 21 = .ok (.iconst 5, 1) := by decide +kernel
theorem dX8_leastSpeed_22 : decode cX8_leastSpeed 22 = .ok (.iload_n 1, 1) := by decide +kernel
theorem dX8_leastSpeed_23 : decode cX8_leastSpeed 23 = .ok (.imul, 1) := by decide +kernel
theorem dX8_leastSpeed_24 : decode cX8_leastSpeed 24 = .ok (.iadd, 1) := by decide +kernel
theorem dX8_leastSpeed_25 : decode cX8_leastSpeed 25 = .ok (.iconst 2, 1) := by decide +kernel
theorem dX8_leastSpeed_26 : decode cX8_leastSpeed 26 = .ok (.iadd, 1) := by decide +kernel
theorem dX8_leastSpeed_27 : decode cX8_leastSpeed 27 = .ok (.istore_n 2, 1) := by decide +kernel
theorem dX8_leastSpeed_28 : decode cX8_leastSpeed 28 = .ok (.aload_n 0, 1) := by decide +kernel
theorem dX8_leastSpeed_29 : decode cX8_leastSpeed 29 = .ok (.getfield 17, 3) := by decide +kernel
theorem dX8_leastSpeed_32 : decode cX8_leastSpeed 32 = .ok (.iload_n 2, 1) := by decide +kernel
theorem dX8_leastSpeed_33 : decode cX8_leastSpeed 33 = .ok (.iaload, 1) := by decide +kernel
theorem dX8_leastSpeed_34 : decode cX8_leastSpeed 34 = .ok (.istore_n 3, 1) := by decide +kernel
theorem dX8_leastSpeed_35 : decode cX8_leastSpeed 35 = .ok (.iconst (-1), 1) := by decide +kernel
theorem dX8_leastSpeed_36 : decode cX8_leastSpeed 36 = .ok (.istore 4, 2) := by decide +kernel
theorem dX8_leastSpeed_38 : decode cX8_leastSpeed 38 = .ok (.aload_n 0, 1) := by decide +kernel
theorem dX8_leastSpeed_39 : decode cX8_leastSpeed 39 = .ok (.iload_n 1, 1) := by decide +kernel
theorem dX8_leastSpeed_40 : decode cX8_leastSpeed 40 = .ok (.invokevirtual 380, 3) := by decide +kernel
theorem dX8_leastSpeed_43 : decode cX8_leastSpeed 43 = .ok (.iconst 1, 1) := by decide +kernel
theorem dX8_leastSpeed_44 : decode cX8_leastSpeed 44 = .ok (.istore 5, 2) := by decide +kernel
theorem dX8_leastSpeed_46 : decode cX8_leastSpeed 46 = .ok (.iload 5, 2) := by decide +kernel
theorem dX8_leastSpeed_48 : decode cX8_leastSpeed 48 = .ok (.bipush 9, 2) := by decide +kernel
theorem dX8_leastSpeed_50 : decode cX8_leastSpeed 50 = .ok (.if_icmp .gt 54, 3) := by decide +kernel
theorem dX8_leastSpeed_53 : decode cX8_leastSpeed 53 = .ok (.iload 4, 2) := by decide +kernel
theorem dX8_leastSpeed_55 : decode cX8_leastSpeed 55 = .ok (.ifCond .ge 49, 3) := by decide +kernel
theorem dX8_leastSpeed_58 : decode cX8_leastSpeed 58 = .ok (.aload_n 0, 1) := by decide +kernel
theorem dX8_leastSpeed_59 : decode cX8_leastSpeed 59 = .ok (.getfield 17, 3) := by decide +kernel
theorem dX8_leastSpeed_62 : decode cX8_leastSpeed 62 = .ok (.iload_n 2, 1) := by decide +kernel
theorem dX8_leastSpeed_63 : decode cX8_leastSpeed 63 = .ok (.iload 5, 2) := by decide +kernel
theorem dX8_leastSpeed_65 : decode cX8_leastSpeed 65 = .ok (.iastore, 1) := by decide +kernel
theorem dX8_leastSpeed_66 : decode cX8_leastSpeed 66 = .ok (.aload_n 0, 1) := by decide +kernel
theorem dX8_leastSpeed_67 : decode cX8_leastSpeed 67 = .ok (.iconst 0, 1) := by decide +kernel
theorem dX8_leastSpeed_68 : decode cX8_leastSpeed 68 = .ok (.invokevirtual 383, 3) := by decide +kernel
theorem dX8_leastSpeed_71 : decode cX8_leastSpeed 71 = .ok (.aload_n 0, 1) := by decide +kernel
theorem dX8_leastSpeed_72 : decode cX8_leastSpeed 72 = .ok (.getfield 97, 3) := by decide +kernel
theorem dX8_leastSpeed_75 : decode cX8_leastSpeed 75 = .ok (.iconst 1, 1) := by decide +kernel
theorem dX8_leastSpeed_76 : decode cX8_leastSpeed 76 = .ok (.aload_n 0, 1) := by decide +kernel
theorem dX8_leastSpeed_77 : decode cX8_leastSpeed 77 = .ok (.getfield 374, 3) := by decide +kernel
theorem dX8_leastSpeed_80 : decode cX8_leastSpeed 80 = .ok (.ishl, 1) := by decide +kernel
theorem dX8_leastSpeed_81 : decode cX8_leastSpeed 81 = .ok (.iconst 1, 1) := by decide +kernel
theorem dX8_leastSpeed_82 : decode cX8_leastSpeed 82 = .ok (.isub, 1) := by decide +kernel
theorem dX8_leastSpeed_83 : decode cX8_leastSpeed 83 = .ok (.iaload, 1) := by decide +kernel
theorem dX8_leastSpeed_84 : decode cX8_leastSpeed 84 = .ok (.ldc_w 313, 3) := by decide +kernel
theorem dX8_leastSpeed_87 : decode cX8_leastSpeed 87 = .ok (.if_icmp .ge 8, 3) := by decide +kernel
theorem dX8_leastSpeed_90 : decode cX8_leastSpeed 90 = .ok (.iload 5, 2) := by decide +kernel
theorem dX8_leastSpeed_92 : decode cX8_leastSpeed 92 = .ok (.goto 4, 3) := by decide +kernel
theorem dX8_leastSpeed_95 : decode cX8_leastSpeed 95 = .ok (.iconst (-1), 1) := by decide +kernel
theorem dX8_leastSpeed_96 : decode cX8_leastSpeed 96 = .ok (.istore 4, 2) := by decide +kernel
theorem dX8_leastSpeed_98 : decode cX8_leastSpeed 98 = .ok (.iinc 5 1, 3) := by decide +kernel
theorem dX8_leastSpeed_101 : decode cX8_leastSpeed 101 = .ok (.goto (-55), 3) := by decide +kernel
theorem dX8_leastSpeed_104 : decode cX8_leastSpeed 104 = .ok (.aload_n 0, 1) := by decide +kernel
theorem dX8_leastSpeed_105 : decode cX8_leastSpeed 105 = .ok (.getfield 17, 3) := by decide +kernel
theorem dX8_leastSpeed_108 : decode cX8_leastSpeed 108 = .ok (.iload_n 2, 1) := by decide +kernel
theorem dX8_leastSpeed_109 : decode cX8_leastSpeed 109 = .ok (.iload_n 3, 1) := by decide +kernel
theorem dX8_leastSpeed_110 : decode cX8_leastSpeed 110 = .ok (.iastore, 1) := by decide +kernel
theorem dX8_leastSpeed_111 : decode cX8_leastSpeed 111 = .ok (.iload 4, 2) := by decide +kernel
theorem dX8_leastSpeed_113 : decode cX8_leastSpeed 113 = .ok (.ifCond .ge 12, 3) := by decide +kernel
theorem dX8_leastSpeed_116 : decode cX8_leastSpeed 116 = .ok (.aload_n 0, 1) := by decide +kernel
theorem dX8_leastSpeed_117 : decode cX8_leastSpeed 117 = .ok (.bipush 6, 2) := by decide +kernel
theorem dX8_leastSpeed_119 : decode cX8_leastSpeed 119 = .ok (.invokevirtual 226, 3) := by decide +kernel
theorem dX8_leastSpeed_122 : decode cX8_leastSpeed 122 = .ok (.goto 9, 3) := by decide +kernel
theorem dX8_leastSpeed_125 : decode cX8_leastSpeed 125 = .ok (.aload_n 0, 1) := by decide +kernel
theorem dX8_leastSpeed_126 : decode cX8_leastSpeed 126 = .ok (.iload 4, 2) := by decide +kernel
theorem dX8_leastSpeed_128 : decode cX8_leastSpeed 128 = .ok (.invokevirtual 246, 3) := by decide +kernel
theorem dX8_leastSpeed_131 : decode cX8_leastSpeed 131 = .ok (.ireturn, 1) := by decide +kernel
theorem dX8_leavesNone_0 : decode cX8_leavesNone 0 = .ok (.iconst 0, 1) := by decide +kernel
theorem dX8_leavesNone_1 : decode cX8_leavesNone 1 = .ok (.istore_n 2, 1) := by decide +kernel
theorem dX8_leavesNone_2 : decode cX8_leavesNone 2 = .ok (.iload_n 2, 1) := by decide +kernel
theorem dX8_leavesNone_3 : decode cX8_leavesNone 3 = .ok (.aload_n 0, 1) := by decide +kernel
theorem dX8_leavesNone_4 : decode cX8_leavesNone 4 = .ok (.getfield 17, 3) := by decide +kernel
theorem dX8_leavesNone_7 : decode cX8_leavesNone 7 = .ok (.bipush 87, 2) := by decide +kernel
theorem dX8_leavesNone_9 : decode cX8_leavesNone 9 = .ok (.iaload, 1) := by decide +kernel
theorem dX8_leavesNone_10 : decode cX8_leavesNone 10 = .ok (.if_icmp .ge 36, 3) := by decide +kernel
theorem dX8_leavesNone_13 : decode cX8_leavesNone 13 = .ok (.aload_n 0, 1) := by decide +kernel
theorem dX8_leavesNone_14 : decode cX8_leavesNone 14 = .ok (.iload_n 2, 1) := by decide +kernel
theorem dX8_leavesNone_15 : decode cX8_leavesNone 15 = .ok (.iconst 1, 1) := by decide +kernel
theorem dX8_leavesNone_16 : decode cX8_leavesNone 16 = .ok (.invokevirtual 274, 3) := by decide +kernel
theorem dX8_leavesNone_19 : decode cX8_leavesNone 19 = .ok (.iload_n 1, 1) := by decide +kernel
theorem dX8_leavesNone_20 : decode cX8_leavesNone 20 = .ok (.if_icmp .ne 20, 3) := by decide +kernel
theorem dX8_leavesNone_23 : decode cX8_leavesNone 23 = .ok (.aload_n 0, 1) := by decide +kernel
theorem dX8_leavesNone_24 : decode cX8_leavesNone 24 = .ok (.getfield 67, 3) := by decide +kernel
theorem dX8_leavesNone_27 : decode cX8_leavesNone 27 = .ok (.iload_n 2, 1) := by decide +kernel
theorem dX8_leavesNone_28 : decode cX8_leavesNone 28 = .ok (.iaload, 1) := by decide +kernel
theorem dX8_leavesNone_29 : decode cX8_leavesNone 29 = .ok (.aload_n 0, 1) := by decide +kernel
theorem dX8_leavesNone_30 : decode cX8_leavesNone 30 = .ok (.getfield 76, 3) := by decide +kernel
theorem dX8_leavesNone_33 : decode cX8_leavesNone 33 = .ok (.iload_n 2, 1) := by decide +kernel
theorem dX8_leavesNone_34 : decode cX8_leavesNone 34 = .ok (.iaload, 1) := by decide +kernel
theorem dX8_leavesNone_35 : decode cX8_leavesNone 35 = .ok (.if_icmp .le 5, 3) := by decide +kernel
theorem dX8_leavesNone_38 : decode cX8_leavesNone 38 = .ok (.iconst 0, 1) := by decide +kernel
theorem dX8_leavesNone_39 : decode cX8_leavesNone 39 = .ok (.ireturn, 1) := by decide +kernel
theorem dX8_leavesNone_40 : decode cX8_leavesNone 40 = .ok (.iinc 2 1, 3) := by decide +kernel
theorem dX8_leavesNone_43 : decode cX8_leavesNone 43 = .ok (.goto (-41), 3) := by decide +kernel
theorem dX8_leavesNone_46 : decode cX8_leavesNone 46 = .ok (.iconst 1, 1) := by decide +kernel
theorem dX8_leavesNone_47 : decode cX8_leavesNone 47 = .ok (.ireturn, 1) := by decide +kernel
theorem dX8_neededDelay_0 : decode cX8_neededDelay 0 = .ok (.aload_n 0, 1) := by decide +kernel
theorem dX8_neededDelay_1 : decode cX8_neededDelay 1 = .ok (.iconst 0, 1) := by decide +kernel
theorem dX8_neededDelay_2 : decode cX8_neededDelay 2 = .ok (.putfield 103, 3) := by decide +kernel
theorem dX8_neededDelay_5 : decode cX8_neededDelay 5 = .ok (.aload_n 0, 1) := by decide +kernel
theorem dX8_neededDelay_6 : decode cX8_neededDelay 6 = .ok (.iload_n 1, 1) := by decide +kernel
theorem dX8_neededDelay_7 : decode cX8_neededDelay 7 = .ok (.invokevirtual 249, 3) := by decide +kernel
theorem dX8_neededDelay_10 : decode cX8_neededDelay 10 = .ok (.ifCond .ne 9, 3) := by decide +kernel
theorem dX8_neededDelay_13 : decode cX8_neededDelay 13 = .ok (.aload_n 0, 1) := by decide +kernel
theorem dX8_neededDelay_14 : decode cX8_neededDelay 14 = .ok (.iconst 1, 1) := by decide +kernel
theorem dX8_neededDelay_15 : decode cX8_neededDelay 15 = .ok (.invokevirtual 226, 3) := by decide +kernel
theorem dX8_neededDelay_18 : decode cX8_neededDelay 18 = .ok (.ireturn, 1) := by decide +kernel
theorem dX8_neededDelay_19 : decode cX8_neededDelay 19 = .ok (.aload_n 0, 1) := by decide +kernel
theorem dX8_neededDelay_20 : decode cX8_neededDelay 20 = .ok (.getfield 17, 3) := by decide +kernel
theorem dX8_neededDelay_23 : decode cX8_neededDelay 23 = .ok (.iconst 2, 1) := by decide +kernel
theorem dX8_neededDelay_24 : decode cX8_neededDelay 24 = .ok (.iload_n 1, 1) := by decide +kernel
theorem dX8_neededDelay_25 : decode cX8_neededDelay 25 = .ok (.iadd, 1) := by decide +kernel
theorem dX8_neededDelay_26 : decode cX8_neededDelay 26 = .ok (.iaload, 1) := by decide +kernel
theorem dX8_neededDelay_27 : decode cX8_neededDelay 27 = .ok (.istore_n 2, 1) := by decide +kernel
theorem dX8_neededDelay_28 : decode cX8_neededDelay 28 = .ok (.iconst (-1), 1) := by decide +kernel
theorem dX8_neededDelay_29 : decode cX8_neededDelay 29 = .ok (.istore_n 3, 1) := by decide +kernel
theorem dX8_neededDelay_30 : decode cX8_neededDelay 30 = .ok (.iconst 0, 1) := by decide +kernel
theorem dX8_neededDelay_31 : decode cX8_neededDelay 31 = .ok (.istore 4, 2) := by decide +kernel
theorem dX8_neededDelay_33 : decode cX8_neededDelay 33 = .ok (.iload 4, 2) := by decide +kernel
theorem dX8_neededDelay_35 : decode cX8_neededDelay 35 = .ok (.bipush 60, 2) := by decide +kernel
theorem dX8_neededDelay_37 : decode cX8_neededDelay 37 = .ok (.if_icmp .gt 44, 3) := by decide +kernel
theorem dX8_neededDelay_40 : decode cX8_neededDelay 40 = .ok (.iload_n 3, 1) := by decide +kernel
theorem dX8_neededDelay_41 : decode cX8_neededDelay 41 = .ok (.ifCond .ge 40, 3) := by decide +kernel
theorem dX8_neededDelay_44 : decode cX8_neededDelay 44 = .ok (.aload_n 0, 1) := by decide +kernel
theorem dX8_neededDelay_45 : decode cX8_neededDelay 45 = .ok (.getfield 17, 3) := by decide +kernel
theorem dX8_neededDelay_48 : decode cX8_neededDelay 48 = .ok (.iconst 2, 1) := by decide +kernel
theorem dX8_neededDelay_49 : decode cX8_neededDelay 49 = .ok (.iload_n 1, 1) := by decide +kernel
theorem dX8_neededDelay_50 : decode cX8_neededDelay 50 = .ok (.iadd, 1) := by decide +kernel
theorem dX8_neededDelay_51 : decode cX8_neededDelay 51 = .ok (.iload_n 2, 1) := by decide +kernel
theorem dX8_neededDelay_52 : decode cX8_neededDelay 52 = .ok (.iload 4, 2) := by decide +kernel
theorem dX8_neededDelay_54 : decode cX8_neededDelay 54 = .ok (.iadd, 1) := by decide +kernel
theorem dX8_neededDelay_55 : decode cX8_neededDelay 55 = .ok (.iastore, 1) := by decide +kernel
theorem dX8_neededDelay_56 : decode cX8_neededDelay 56 = .ok (.aload_n 0, 1) := by decide +kernel
theorem dX8_neededDelay_57 : decode cX8_neededDelay 57 = .ok (.invokevirtual 317, 3) := by decide +kernel
theorem dX8_neededDelay_60 : decode cX8_neededDelay 60 = .ok (.aload_n 0, 1) := by decide +kernel
theorem dX8_neededDelay_61 : decode cX8_neededDelay 61 = .ok (.iload_n 1, 1) := by decide +kernel
theorem dX8_neededDelay_62 : decode cX8_neededDelay 62 = .ok (.invokevirtual 398, 3) := by decide +kernel
theorem dX8_neededDelay_65 : decode cX8_neededDelay 65 = .ok (.ifCond .eq 8, 3) := by decide +kernel
theorem dX8_neededDelay_68 : decode cX8_neededDelay 68 = .ok (.iload 4, 2) := by decide +kernel
theorem dX8_neededDelay_70 : decode cX8_neededDelay 70 = .ok (.goto 4, 3) := by decide +kernel
theorem dX8_neededDelay_73 : decode cX8_neededDelay 73 = .ok (.iconst (-1), 1) := by decide +kernel
theorem dX8_neededDelay_74 : decode cX8_neededDelay 74 = .ok (.istore_n 3, 1) := by decide +kernel
theorem dX8_neededDelay_75 : decode cX8_neededDelay 75 = .ok (.iinc 4 1, 3) := by decide +kernel
theorem dX8_neededDelay_78 : decode cX8_neededDelay 78 = .ok (.goto (-45), 3) := by decide +kernel
theorem dX8_neededDelay_81 : decode cX8_neededDelay 81 = .ok (.aload_n 0, 1) := by decide +kernel
theorem dX8_neededDelay_82 : decode cX8_neededDelay 82 = .ok (.getfield 17, 3) := by decide +kernel
theorem dX8_neededDelay_85 : decode cX8_neededDelay 85 = .ok (.iconst 2, 1) := by decide +kernel
theorem dX8_neededDelay_86 : decode cX8_neededDelay 86 = .ok (.iload_n 1, 1) := by decide +kernel
theorem dX8_neededDelay_87 : decode cX8_neededDelay 87 = .ok (.iadd, 1) := by decide +kernel
theorem dX8_neededDelay_88 : decode cX8_neededDelay 88 = .ok (.iload_n 2, 1) := by decide +kernel
theorem dX8_neededDelay_89 : decode cX8_neededDelay 89 = .ok (.iastore, 1) := by decide +kernel
theorem dX8_neededDelay_90 : decode cX8_neededDelay 90 = .ok (.iload_n 3, 1) := by decide +kernel
theorem dX8_neededDelay_91 : decode cX8_neededDelay 91 = .ok (.ifCond .ge 12, 3) := by decide +kernel
theorem dX8_neededDelay_94 : decode cX8_neededDelay 94 = .ok (.aload_n 0, 1) := by decide +kernel
theorem dX8_neededDelay_95 : decode cX8_neededDelay 95 = .ok (.bipush 6, 2) := by decide +kernel
theorem dX8_neededDelay_97 : decode cX8_neededDelay 97 = .ok (.invokevirtual 226, 3) := by decide +kernel
theorem dX8_neededDelay_100 : decode cX8_neededDelay 100 = .ok (.goto 8, 3) := by decide +kernel
theorem dX8_neededDelay_103 : decode cX8_neededDelay 103 = .ok (.aload_n 0, 1) := by decide +kernel
theorem dX8_neededDelay_104 : decode cX8_neededDelay 104 = .ok (.iload_n 3, 1) := by decide +kernel
theorem dX8_neededDelay_105 : decode cX8_neededDelay 105 = .ok (.invokevirtual 246, 3) := by decide +kernel
theorem dX8_neededDelay_108 : decode cX8_neededDelay 108 = .ok (.ireturn, 1) := by decide +kernel
theorem dX8_deliveredWithout_0 : decode cX8_deliveredWithout 0 = .ok (.aload_n 0, 1) := by decide +kernel
theorem dX8_deliveredWithout_1 : decode cX8_deliveredWithout 1 = .ok (.iconst 0, 1) := by decide +kernel
theorem dX8_deliveredWithout_2 : decode cX8_deliveredWithout 2 = .ok (.putfield 103, 3) := by decide +kernel
theorem dX8_deliveredWithout_5 : decode cX8_deliveredWithout 5 = .ok (.aload_n 0, 1) := by decide +kernel
theorem dX8_deliveredWithout_6 : decode cX8_deliveredWithout 6 = .ok (.iload_n 1, 1) := by decide +kernel
theorem dX8_deliveredWithout_7 : decode cX8_deliveredWithout 7 = .ok (.invokevirtual 330, 3) := by decide +kernel
theorem dX8_deliveredWithout_10 : decode cX8_deliveredWithout 10 = .ok (.ifCond .ne 9, 3) := by decide +kernel
theorem dX8_deliveredWithout_13 : decode cX8_deliveredWithout 13 = .ok (.aload_n 0, 1) := by decide +kernel
theorem dX8_deliveredWithout_14 : decode cX8_deliveredWithout 14 = .ok (.iconst 1, 1) := by decide +kernel
theorem dX8_deliveredWithout_15 : decode cX8_deliveredWithout 15 = .ok (.invokevirtual 226, 3) := by decide +kernel
theorem dX8_deliveredWithout_18 : decode cX8_deliveredWithout 18 = .ok (.ireturn, 1) := by decide +kernel
theorem dX8_deliveredWithout_19 : decode cX8_deliveredWithout 19 = .ok (.aload_n 0, 1) := by decide +kernel
theorem dX8_deliveredWithout_20 : decode cX8_deliveredWithout 20 = .ok (.iload_n 1, 1) := by decide +kernel
theorem dX8_deliveredWithout_21 : decode cX8_deliveredWithout 21 = .ok (.iconst (-1), 1) := by decide +kernel
theorem dX8_deliveredWithout_22 : decode cX8_deliveredWithout 22 = .ok (.invokevirtual 314, 3) := by decide +kernel
theorem dX8_deliveredWithout_25 : decode cX8_deliveredWithout 25 = .ok (.aload_n 0, 1) := by decide +kernel
theorem dX8_deliveredWithout_26 : decode cX8_deliveredWithout 26 = .ok (.aload_n 0, 1) := by decide +kernel
theorem dX8_deliveredWithout_27 : decode cX8_deliveredWithout 27 = .ok (.invokevirtual 327, 3) := by decide +kernel
theorem dX8_deliveredWithout_30 : decode cX8_deliveredWithout 30 = .ok (.invokevirtual 246, 3) := by decide +kernel
theorem dX8_deliveredWithout_33 : decode cX8_deliveredWithout 33 = .ok (.ireturn, 1) := by decide +kernel
theorem dX8_worstJob_0 : decode cX8_worstJob 0 = .ok (.aload_n 0, 1) := by decide +kernel
theorem dX8_worstJob_1 : decode cX8_worstJob 1 = .ok (.aload_n 0, 1) := by decide +kernel
theorem dX8_worstJob_2 : decode cX8_worstJob 2 = .ok (.getfield 236, 3) := by decide +kernel
theorem dX8_worstJob_5 : decode cX8_worstJob 5 = .ok (.invokevirtual 320, 3) := by decide +kernel
theorem dX8_worstJob_8 : decode cX8_worstJob 8 = .ok (.ifCond .ne 9, 3) := by decide +kernel
theorem dX8_worstJob_11 : decode cX8_worstJob 11 = .ok (.aload_n 0, 1) := by decide +kernel
theorem dX8_worstJob_12 : decode cX8_worstJob 12 = .ok (.iconst 1, 1) := by decide +kernel
theorem dX8_worstJob_13 : decode cX8_worstJob 13 = .ok (.invokevirtual 226, 3) := by decide +kernel
theorem dX8_worstJob_16 : decode cX8_worstJob 16 = .ok (.ireturn, 1) := by decide +kernel
theorem dX8_worstJob_17 : decode cX8_worstJob 17 = .ok (.aload_n 0, 1) := by decide +kernel
theorem dX8_worstJob_18 : decode cX8_worstJob 18 = .ok (.invokevirtual 327, 3) := by decide +kernel
theorem dX8_worstJob_21 : decode cX8_worstJob 21 = .ok (.istore_n 1, 1) := by decide +kernel
theorem dX8_worstJob_22 : decode cX8_worstJob 22 = .ok (.iconst (-1), 1) := by decide +kernel
theorem dX8_worstJob_23 : decode cX8_worstJob 23 = .ok (.istore_n 2, 1) := by decide +kernel
theorem dX8_worstJob_24 : decode cX8_worstJob 24 = .ok (.iconst 0, 1) := by decide +kernel
theorem dX8_worstJob_25 : decode cX8_worstJob 25 = .ok (.istore_n 3, 1) := by decide +kernel
theorem dX8_worstJob_26 : decode cX8_worstJob 26 = .ok (.iload_n 3, 1) := by decide +kernel
theorem dX8_worstJob_27 : decode cX8_worstJob 27 = .ok (.aload_n 0, 1) := by decide +kernel
theorem dX8_worstJob_28 : decode cX8_worstJob 28 = .ok (.getfield 17, 3) := by decide +kernel
theorem dX8_worstJob_31 : decode cX8_worstJob 31 = .ok (.bipush 87, 2) := by decide +kernel
theorem dX8_worstJob_33 : decode cX8_worstJob 33 = .ok (.iaload, 1) := by decide +kernel
theorem dX8_worstJob_34 : decode cX8_worstJob 34 = .ok (.if_icmp .ge 33, 3) := by decide +kernel
theorem dX8_worstJob_37 : decode cX8_worstJob 37 = .ok (.aload_n 0, 1) := by decide +kernel
theorem dX8_worstJob_38 : decode cX8_worstJob 38 = .ok (.iconst (-1), 1) := by decide +kernel
theorem dX8_worstJob_39 : decode cX8_worstJob 39 = .ok (.iload_n 3, 1) := by decide +kernel
theorem dX8_worstJob_40 : decode cX8_worstJob 40 = .ok (.invokevirtual 314, 3) := by decide +kernel
theorem dX8_worstJob_43 : decode cX8_worstJob 43 = .ok (.aload_n 0, 1) := by decide +kernel
theorem dX8_worstJob_44 : decode cX8_worstJob 44 = .ok (.invokevirtual 327, 3) := by decide +kernel
theorem dX8_worstJob_47 : decode cX8_worstJob 47 = .ok (.iload_n 1, 1) := by decide +kernel
theorem dX8_worstJob_48 : decode cX8_worstJob 48 = .ok (.if_icmp .gt 6, 3) := by decide +kernel
theorem dX8_worstJob_51 : decode cX8_worstJob 51 = .ok (.goto 10, 3) := by decide +kernel
theorem dX8_worstJob_54 : decode cX8_worstJob 54 = .ok (.aload_n 0, 1) := by decide +kernel
theorem dX8_worstJob_55 : decode cX8_worstJob 55 = .ok (.invokevirtual 327, 3) := by decide +kernel
theorem dX8_worstJob_58 : decode cX8_worstJob 58 = .ok (.istore_n 1, 1) := by decide +kernel
theorem dX8_worstJob_59 : decode cX8_worstJob 59 = .ok (.iload_n 3, 1) := by decide +kernel
theorem dX8_worstJob_60 : decode cX8_worstJob 60 = .ok (.istore_n 2, 1) := by decide +kernel
theorem dX8_worstJob_61 : decode cX8_worstJob 61 = .ok (.iinc 3 1, 3) := by decide +kernel
theorem dX8_worstJob_64 : decode cX8_worstJob 64 = .ok (.goto (-38), 3) := by decide +kernel
theorem dX8_worstJob_67 : decode cX8_worstJob 67 = .ok (.iload_n 2, 1) := by decide +kernel
theorem dX8_worstJob_68 : decode cX8_worstJob 68 = .ok (.ifCond .ge 12, 3) := by decide +kernel
theorem dX8_worstJob_71 : decode cX8_worstJob 71 = .ok (.aload_n 0, 1) := by decide +kernel
theorem dX8_worstJob_72 : decode cX8_worstJob 72 = .ok (.bipush 6, 2) := by decide +kernel
theorem dX8_worstJob_74 : decode cX8_worstJob 74 = .ok (.invokevirtual 226, 3) := by decide +kernel
theorem dX8_worstJob_77 : decode cX8_worstJob 77 = .ok (.goto 8, 3) := by decide +kernel
theorem dX8_worstJob_80 : decode cX8_worstJob 80 = .ok (.aload_n 0, 1) := by decide +kernel
theorem dX8_worstJob_81 : decode cX8_worstJob 81 = .ok (.iload_n 2, 1) := by decide +kernel
theorem dX8_worstJob_82 : decode cX8_worstJob 82 = .ok (.invokevirtual 246, 3) := by decide +kernel
theorem dX8_worstJob_85 : decode cX8_worstJob 85 = .ok (.ireturn, 1) := by decide +kernel
theorem dX8_bestTrolley_0 : decode cX8_bestTrolley 0 = .ok (.aload_n 0, 1) := by decide +kernel
theorem dX8_bestTrolley_1 : decode cX8_bestTrolley 1 = .ok (.iconst 0, 1) := by decide +kernel
theorem dX8_bestTrolley_2 : decode cX8_bestTrolley 2 = .ok (.putfield 103, 3) := by decide +kernel
theorem dX8_bestTrolley_5 : decode cX8_bestTrolley 5 = .ok (.aload_n 0, 1) := by decide +kernel
theorem dX8_bestTrolley_6 : decode cX8_bestTrolley 6 = .ok (.iload_n 1, 1) := by decide +kernel
theorem dX8_bestTrolley_7 : decode cX8_bestTrolley 7 = .ok (.invokevirtual 271, 3) := by decide +kernel
theorem dX8_bestTrolley_10 : decode cX8_bestTrolley 10 = .ok (.ifCond .ne 9, 3) := by decide +kernel
theorem dX8_bestTrolley_13 : decode cX8_bestTrolley 13 = .ok (.aload_n 0, 1) := by decide +kernel
theorem dX8_bestTrolley_14 : decode cX8_bestTrolley 14 = .ok (.iconst 1, 1) := by decide +kernel
theorem dX8_bestTrolley_15 : decode cX8_bestTrolley 15 = .ok (.invokevirtual 226, 3) := by decide +kernel
theorem dX8_bestTrolley_18 : decode cX8_bestTrolley 18 = .ok (.ireturn, 1) := by decide +kernel
theorem dX8_bestTrolley_19 : decode cX8_bestTrolley 19 = .ok (.bipush 88, 2) := by decide +kernel
theorem dX8_bestTrolley_21 : decode cX8_bestTrolley 21 = .ok (.iconst 5, 1) := by decide +kernel
theorem dX8_bestTrolley_22 : decode cX8_bestTrolley 22 = .ok (.iload_n 1, 1) := by decide +kernel
theorem dX8_bestTrolley_23 : decode cX8_bestTrolley 23 = .ok (.imul, 1) := by decide +kernel
theorem dX8_bestTrolley_24 : decode cX8_bestTrolley 24 = .ok (.iadd, 1) := by decide +kernel
theorem dX8_bestTrolley_25 : decode cX8_bestTrolley 25 = .ok (.iconst 0, 1) := by decide +kernel
theorem dX8_bestTrolley_26 : decode cX8_bestTrolley 26 = .ok (.iadd, 1) := by decide +kernel
theorem dX8_bestTrolley_27 : decode cX8_bestTrolley 27 = .ok (.istore_n 2, 1) := by decide +kernel
theorem dX8_bestTrolley_28 : decode cX8_bestTrolley 28 = .ok (.aload_n 0, 1) := by decide +kernel
theorem dX8_bestTrolley_29 : decode cX8_bestTrolley 29 = .ok (.getfield 17, 3) := by decide +kernel
theorem dX8_bestTrolley_32 : decode cX8_bestTrolley 32 = .ok (.iload_n 2, 1) := by decide +kernel
theorem dX8_bestTrolley_33 : decode cX8_bestTrolley 33 = .ok (.iaload, 1) := by decide +kernel
theorem dX8_bestTrolley_34 : decode cX8_bestTrolley 34 = .ok (.istore_n 3, 1) := by decide +kernel
theorem dX8_bestTrolley_35 : decode cX8_bestTrolley 35 = .ok (.iconst (-1), 1) := by decide +kernel
theorem dX8_bestTrolley_36 : decode cX8_bestTrolley 36 = .ok (.istore 4, 2) := by decide +kernel
theorem dX8_bestTrolley_38 : decode cX8_bestTrolley 38 = .ok (.iconst (-1), 1) := by decide +kernel
theorem dX8_bestTrolley_39 : decode cX8_bestTrolley 39 = .ok (.istore 5, 2) := by decide +kernel
theorem dX8_bestTrolley_41 : decode cX8_bestTrolley 41 = .ok (.iconst 0, 1) := by decide +kernel
theorem dX8_bestTrolley_42 : decode cX8_bestTrolley 42 = .ok (.istore 6, 2) := by decide +kernel
theorem dX8_bestTrolley_44 : decode cX8_bestTrolley 44 = .ok (.iload 6, 2) := by decide +kernel
theorem dX8_bestTrolley_46 : decode cX8_bestTrolley 46 = .ok (.aload_n 0, 1) := by decide +kernel
theorem dX8_bestTrolley_47 : decode cX8_bestTrolley 47 = .ok (.getfield 17, 3) := by decide +kernel
theorem dX8_bestTrolley_50 : decode cX8_bestTrolley 50 = .ok (.bipush 61, 2) := by decide +kernel
theorem dX8_bestTrolley_52 : decode cX8_bestTrolley 52 = .ok (.iaload, 1) := by decide +kernel
theorem dX8_bestTrolley_53 : decode cX8_bestTrolley 53 = .ok (.if_icmp .ge 73, 3) := by decide +kernel
theorem dX8_bestTrolley_56 : decode cX8_bestTrolley 56 = .ok (.aload_n 0, 1) := by decide +kernel
theorem dX8_bestTrolley_57 : decode cX8_bestTrolley 57 = .ok (.getfield 17, 3) := by decide +kernel
theorem dX8_bestTrolley_60 : decode cX8_bestTrolley 60 = .ok (.iload_n 2, 1) := by decide +kernel
theorem dX8_bestTrolley_61 : decode cX8_bestTrolley 61 = .ok (.iload_n 3, 1) := by decide +kernel
theorem dX8_bestTrolley_62 : decode cX8_bestTrolley 62 = .ok (.iastore, 1) := by decide +kernel
theorem dX8_bestTrolley_63 : decode cX8_bestTrolley 63 = .ok (.iload 6, 2) := by decide +kernel
theorem dX8_bestTrolley_65 : decode cX8_bestTrolley 65 = .ok (.iload_n 3, 1) := by decide +kernel
theorem dX8_bestTrolley_66 : decode cX8_bestTrolley 66 = .ok (.if_icmp .eq 20, 3) := by decide +kernel
theorem dX8_bestTrolley_69 : decode cX8_bestTrolley 69 = .ok (.aload_n 0, 1) := by decide +kernel
theorem dX8_bestTrolley_70 : decode cX8_bestTrolley 70 = .ok (.getfield 17, 3) := by decide +kernel
theorem dX8_bestTrolley_73 : decode cX8_bestTrolley 73 = .ok (.iload 6, 2) := by decide +kernel
theorem dX8_bestTrolley_75 : decode cX8_bestTrolley 75 = .ok (.invokestatic 194, 3) := by decide +kernel
theorem dX8_bestTrolley_78 : decode cX8_bestTrolley 78 = .ok (.bipush 8, 2) := by decide +kernel
theorem dX8_bestTrolley_80 : decode cX8_bestTrolley 80 = .ok (.if_icmp .ne 6, 3) := by decide +kernel
theorem dX8_bestTrolley_83 : decode cX8_bestTrolley 83 = .ok (.goto 37, 3) := by decide +kernel
theorem dX8_bestTrolley_86 : decode cX8_bestTrolley 86 = .ok (.aload_n 0, 1) := by decide +kernel
theorem dX8_bestTrolley_87 : decode cX8_bestTrolley 87 = .ok (.getfield 17, 3) := by decide +kernel
theorem dX8_bestTrolley_90 : decode cX8_bestTrolley 90 = .ok (.iload_n 2, 1) := by decide +kernel
theorem dX8_bestTrolley_91 : decode cX8_bestTrolley 91 = .ok (.iload 6, 2) := by decide +kernel
theorem dX8_bestTrolley_93 : decode cX8_bestTrolley 93 = .ok (.iastore, 1) := by decide +kernel
theorem dX8_bestTrolley_94 : decode cX8_bestTrolley 94 = .ok (.aload_n 0, 1) := by decide +kernel
theorem dX8_bestTrolley_95 : decode cX8_bestTrolley 95 = .ok (.invokevirtual 317, 3) := by decide +kernel
theorem dX8_bestTrolley_98 : decode cX8_bestTrolley 98 = .ok (.aload_n 0, 1) := by decide +kernel
theorem dX8_bestTrolley_99 : decode cX8_bestTrolley 99 = .ok (.invokevirtual 327, 3) := by decide +kernel
theorem dX8_bestTrolley_102 : decode cX8_bestTrolley 102 = .ok (.iload 5, 2) := by decide +kernel
theorem dX8_bestTrolley_104 : decode cX8_bestTrolley 104 = .ok (.if_icmp .gt 6, 3) := by decide +kernel
theorem dX8_bestTrolley_107 : decode cX8_bestTrolley 107 = .ok (.goto 13, 3) := by decide +kernel
theorem dX8_bestTrolley_110 : decode cX8_bestTrolley 110 = .ok (.aload_n 0, 1) := by decide +kernel
theorem dX8_bestTrolley_111 : decode cX8_bestTrolley 111 = .ok (.invokevirtual 327, 3) := by decide +kernel
theorem dX8_bestTrolley_114 : decode cX8_bestTrolley 114 = .ok (.istore 5, 2) := by decide +kernel
theorem dX8_bestTrolley_116 : decode cX8_bestTrolley 116 = .ok (.iload 6, 2) := by decide +kernel
theorem dX8_bestTrolley_118 : decode cX8_bestTrolley 118 = .ok (.istore 4, 2) := by decide +kernel
theorem dX8_bestTrolley_120 : decode cX8_bestTrolley 120 = .ok (.iinc 6 1, 3) := by decide +kernel
theorem dX8_bestTrolley_123 : decode cX8_bestTrolley 123 = .ok (.goto (-79), 3) := by decide +kernel
theorem dX8_bestTrolley_126 : decode cX8_bestTrolley 126 = .ok (.aload_n 0, 1) := by decide +kernel
theorem dX8_bestTrolley_127 : decode cX8_bestTrolley 127 = .ok (.getfield 17, 3) := by decide +kernel
theorem dX8_bestTrolley_130 : decode cX8_bestTrolley 130 = .ok (.iload_n 2, 1) := by decide +kernel
theorem dX8_bestTrolley_131 : decode cX8_bestTrolley 131 = .ok (.iload_n 3, 1) := by decide +kernel
theorem dX8_bestTrolley_132 : decode cX8_bestTrolley 132 = .ok (.iastore, 1) := by decide +kernel
theorem dX8_bestTrolley_133 : decode cX8_bestTrolley 133 = .ok (.aload_n 0, 1) := by decide +kernel
theorem dX8_bestTrolley_134 : decode cX8_bestTrolley 134 = .ok (.iload 4, 2) := by decide +kernel
theorem dX8_bestTrolley_136 : decode cX8_bestTrolley 136 = .ok (.invokevirtual 246, 3) := by decide +kernel
theorem dX8_bestTrolley_139 : decode cX8_bestTrolley 139 = .ok (.ireturn, 1) := by decide +kernel
theorem dX8_bestSwap_0 : decode cX8_bestSwap 0 = .ok (.aload_n 0, 1) := by decide +kernel
theorem dX8_bestSwap_1 : decode cX8_bestSwap 1 = .ok (.aload_n 0, 1) := by decide +kernel
theorem dX8_bestSwap_2 : decode cX8_bestSwap 2 = .ok (.getfield 236, 3) := by decide +kernel
theorem dX8_bestSwap_5 : decode cX8_bestSwap 5 = .ok (.invokevirtual 320, 3) := by decide +kernel
theorem dX8_bestSwap_8 : decode cX8_bestSwap 8 = .ok (.ifCond .ne 9, 3) := by decide +kernel
theorem dX8_bestSwap_11 : decode cX8_bestSwap 11 = .ok (.aload_n 0, 1) := by decide +kernel
theorem dX8_bestSwap_12 : decode cX8_bestSwap 12 = .ok (.iconst 1, 1) := by decide +kernel
theorem dX8_bestSwap_13 : decode cX8_bestSwap 13 = .ok (.invokevirtual 226, 3) := by decide +kernel
theorem dX8_bestSwap_16 : decode cX8_bestSwap 16 = .ok (.ireturn, 1) := by decide +kernel
theorem dX8_bestSwap_17 : decode cX8_bestSwap 17 = .ok (.aload_n 0, 1) := by decide +kernel
theorem dX8_bestSwap_18 : decode cX8_bestSwap 18 = .ok (.invokevirtual 327, 3) := by decide +kernel
theorem dX8_bestSwap_21 : decode cX8_bestSwap 21 = .ok (.istore_n 1, 1) := by decide +kernel
theorem dX8_bestSwap_22 : decode cX8_bestSwap 22 = .ok (.iconst (-1), 1) := by decide +kernel
theorem dX8_bestSwap_23 : decode cX8_bestSwap 23 = .ok (.istore_n 2, 1) := by decide +kernel
theorem dX8_bestSwap_24 : decode cX8_bestSwap 24 = .ok (.iconst 0, 1) := by decide +kernel
theorem dX8_bestSwap_25 : decode cX8_bestSwap 25 = .ok (.istore_n 3, 1) := by decide +kernel
theorem dX8_bestSwap_26 : decode cX8_bestSwap 26 = .ok (.iload_n 3, 1) := by decide +kernel
theorem dX8_bestSwap_27 : decode cX8_bestSwap 27 = .ok (.aload_n 0, 1) := by decide +kernel
theorem dX8_bestSwap_28 : decode cX8_bestSwap 28 = .ok (.getfield 17, 3) := by decide +kernel
theorem dX8_bestSwap_31 : decode cX8_bestSwap 31 = .ok (.bipush 87, 2) := by decide +kernel
theorem dX8_bestSwap_33 : decode cX8_bestSwap 33 = .ok (.iaload, 1) := by decide +kernel
theorem dX8_bestSwap_34 : decode cX8_bestSwap 34 = .ok (.if_icmp .ge 71, 3) := by decide +kernel
theorem dX8_bestSwap_37 : decode cX8_bestSwap 37 = .ok (.iload_n 3, 1) := by decide +kernel
theorem dX8_bestSwap_38 : decode cX8_bestSwap 38 = .ok (.iconst 1, 1) := by decide +kernel
theorem dX8_bestSwap_39 : decode cX8_bestSwap 39 = .ok (.iadd, 1) := by decide +kernel
theorem dX8_bestSwap_40 : decode cX8_bestSwap 40 = .ok (.istore 4, 2) := by decide +kernel
theorem dX8_bestSwap_42 : decode cX8_bestSwap 42 = .ok (.iload 4, 2) := by decide +kernel
theorem dX8_bestSwap_44 : decode cX8_bestSwap 44 = .ok (.aload_n 0, 1) := by decide +kernel
theorem dX8_bestSwap_45 : decode cX8_bestSwap 45 = .ok (.getfield 17, 3) := by decide +kernel
theorem dX8_bestSwap_48 : decode cX8_bestSwap 48 = .ok (.bipush 87, 2) := by decide +kernel
theorem dX8_bestSwap_50 : decode cX8_bestSwap 50 = .ok (.iaload, 1) := by decide +kernel
theorem dX8_bestSwap_51 : decode cX8_bestSwap 51 = .ok (.if_icmp .ge 48, 3) := by decide +kernel
theorem dX8_bestSwap_54 : decode cX8_bestSwap 54 = .ok (.aload_n 0, 1) := by decide +kernel
theorem dX8_bestSwap_55 : decode cX8_bestSwap 55 = .ok (.iload_n 3, 1) := by decide +kernel
theorem dX8_bestSwap_56 : decode cX8_bestSwap 56 = .ok (.iload 4, 2) := by decide +kernel
theorem dX8_bestSwap_58 : decode cX8_bestSwap 58 = .ok (.invokevirtual 401, 3) := by decide +kernel
theorem dX8_bestSwap_61 : decode cX8_bestSwap 61 = .ok (.aload_n 0, 1) := by decide +kernel
theorem dX8_bestSwap_62 : decode cX8_bestSwap 62 = .ok (.invokevirtual 317, 3) := by decide +kernel
theorem dX8_bestSwap_65 : decode cX8_bestSwap 65 = .ok (.aload_n 0, 1) := by decide +kernel
theorem dX8_bestSwap_66 : decode cX8_bestSwap 66 = .ok (.invokevirtual 327, 3) := by decide +kernel
theorem dX8_bestSwap_69 : decode cX8_bestSwap 69 = .ok (.iload_n 1, 1) := by decide +kernel
theorem dX8_bestSwap_70 : decode cX8_bestSwap 70 = .ok (.if_icmp .le 16, 3) := by decide +kernel
theorem dX8_bestSwap_73 : decode cX8_bestSwap 73 = .ok (.aload_n 0, 1) := by decide +kernel
theorem dX8_bestSwap_74 : decode cX8_bestSwap 74 = .ok (.invokevirtual 327, 3) := by decide +kernel
theorem dX8_bestSwap_77 : decode cX8_bestSwap 77 = .ok (.istore_n 1, 1) := by decide +kernel
theorem dX8_bestSwap_78 : decode cX8_bestSwap 78 = .ok (.bipush 100, 2) := by decide +kernel
theorem dX8_bestSwap_80 : decode cX8_bestSwap 80 = .ok (.iload_n 3, 1) := by decide +kernel
theorem dX8_bestSwap_81 : decode cX8_bestSwap 81 = .ok (.imul, 1) := by decide +kernel
theorem dX8_bestSwap_82 : decode cX8_bestSwap 82 = .ok (.iload 4, 2) := by decide +kernel
theorem dX8_bestSwap_84 : decode cX8_bestSwap 84 = .ok (.iadd, 1) := by decide +kernel
theorem dX8_bestSwap_85 : decode cX8_bestSwap 85 = .ok (.istore_n 2, 1) := by decide +kernel
theorem dX8_bestSwap_86 : decode cX8_bestSwap 86 = .ok (.aload_n 0, 1) := by decide +kernel
theorem dX8_bestSwap_87 : decode cX8_bestSwap 87 = .ok (.iload_n 3, 1) := by decide +kernel
theorem dX8_bestSwap_88 : decode cX8_bestSwap 88 = .ok (.iload 4, 2) := by decide +kernel
theorem dX8_bestSwap_90 : decode cX8_bestSwap 90 = .ok (.invokevirtual 401, 3) := by decide +kernel
theorem dX8_bestSwap_93 : decode cX8_bestSwap 93 = .ok (.iinc 4 1, 3) := by decide +kernel
theorem dX8_bestSwap_96 : decode cX8_bestSwap 96 = .ok (.goto (-54), 3) := by decide +kernel
theorem dX8_bestSwap_99 : decode cX8_bestSwap 99 = .ok (.iinc 3 1, 3) := by decide +kernel
theorem dX8_bestSwap_102 : decode cX8_bestSwap 102 = .ok (.goto (-76), 3) := by decide +kernel
theorem dX8_bestSwap_105 : decode cX8_bestSwap 105 = .ok (.iload_n 2, 1) := by decide +kernel
theorem dX8_bestSwap_106 : decode cX8_bestSwap 106 = .ok (.ifCond .ge 12, 3) := by decide +kernel
theorem dX8_bestSwap_109 : decode cX8_bestSwap 109 = .ok (.aload_n 0, 1) := by decide +kernel
theorem dX8_bestSwap_110 : decode cX8_bestSwap 110 = .ok (.bipush 6, 2) := by decide +kernel
theorem dX8_bestSwap_112 : decode cX8_bestSwap 112 = .ok (.invokevirtual 226, 3) := by decide +kernel
theorem dX8_bestSwap_115 : decode cX8_bestSwap 115 = .ok (.goto 8, 3) := by decide +kernel
theorem dX8_bestSwap_118 : decode cX8_bestSwap 118 = .ok (.aload_n 0, 1) := by decide +kernel
theorem dX8_bestSwap_119 : decode cX8_bestSwap 119 = .ok (.iload_n 2, 1) := by decide +kernel
theorem dX8_bestSwap_120 : decode cX8_bestSwap 120 = .ok (.invokevirtual 246, 3) := by decide +kernel
theorem dX8_bestSwap_123 : decode cX8_bestSwap 123 = .ok (.ireturn, 1) := by decide +kernel
theorem dX8_addJob_0 : decode cX8_addJob 0 = .ok (.aload_n 0, 1) := by decide +kernel
theorem dX8_addJob_1 : decode cX8_addJob 1 = .ok (.iconst 0, 1) := by decide +kernel
theorem dX8_addJob_2 : decode cX8_addJob 2 = .ok (.putfield 103, 3) := by decide +kernel
theorem dX8_addJob_5 : decode cX8_addJob 5 = .ok (.aload_n 0, 1) := by decide +kernel
theorem dX8_addJob_6 : decode cX8_addJob 6 = .ok (.iload_n 1, 1) := by decide +kernel
theorem dX8_addJob_7 : decode cX8_addJob 7 = .ok (.invokevirtual 330, 3) := by decide +kernel
theorem dX8_addJob_10 : decode cX8_addJob 10 = .ok (.ifCond .eq 21, 3) := by decide +kernel
theorem dX8_addJob_13 : decode cX8_addJob 13 = .ok (.aload_n 0, 1) := by decide +kernel
theorem dX8_addJob_14 : decode cX8_addJob 14 = .ok (.iload_n 2, 1) := by decide +kernel
theorem dX8_addJob_15 : decode cX8_addJob 15 = .ok (.iload_n 3, 1) := by decide +kernel
theorem dX8_addJob_16 : decode cX8_addJob 16 = .ok (.invokevirtual 267, 3) := by decide +kernel
theorem dX8_addJob_19 : decode cX8_addJob 19 = .ok (.ifCond .eq 12, 3) := by decide +kernel
theorem dX8_addJob_22 : decode cX8_addJob 22 = .ok (.aload_n 0, 1) := by decide +kernel
theorem dX8_addJob_23 : decode cX8_addJob 23 = .ok (.iload 4, 2) := by decide +kernel
theorem dX8_addJob_25 : decode cX8_addJob 25 = .ok (.invokevirtual 260, 3) := by decide +kernel
theorem dX8_addJob_28 : decode cX8_addJob 28 = .ok (.ifCond .ne 9, 3) := by decide +kernel
theorem dX8_addJob_31 : decode cX8_addJob 31 = .ok (.aload_n 0, 1) := by decide +kernel
theorem dX8_addJob_32 : decode cX8_addJob 32 = .ok (.iconst 1, 1) := by decide +kernel
theorem dX8_addJob_33 : decode cX8_addJob 33 = .ok (.invokevirtual 226, 3) := by decide +kernel
theorem dX8_addJob_36 : decode cX8_addJob 36 = .ok (.ireturn, 1) := by decide +kernel
theorem dX8_addJob_37 : decode cX8_addJob 37 = .ok (.iload 5, 2) := by decide +kernel
theorem dX8_addJob_39 : decode cX8_addJob 39 = .ok (.iconst 1, 1) := by decide +kernel
theorem dX8_addJob_40 : decode cX8_addJob 40 = .ok (.bipush 99, 2) := by decide +kernel
theorem dX8_addJob_42 : decode cX8_addJob 42 = .ok (.invokestatic 142, 3) := by decide +kernel
theorem dX8_addJob_45 : decode cX8_addJob 45 = .ok (.ifCond .ne 9, 3) := by decide +kernel
theorem dX8_addJob_48 : decode cX8_addJob 48 = .ok (.aload_n 0, 1) := by decide +kernel
theorem dX8_addJob_49 : decode cX8_addJob 49 = .ok (.iconst 2, 1) := by decide +kernel
theorem dX8_addJob_50 : decode cX8_addJob 50 = .ok (.invokevirtual 226, 3) := by decide +kernel
theorem dX8_addJob_53 : decode cX8_addJob 53 = .ok (.ireturn, 1) := by decide +kernel
theorem dX8_addJob_54 : decode cX8_addJob 54 = .ok (.aload_n 0, 1) := by decide +kernel
theorem dX8_addJob_55 : decode cX8_addJob 55 = .ok (.getfield 17, 3) := by decide +kernel
theorem dX8_addJob_58 : decode cX8_addJob 58 = .ok (.bipush 87, 2) := by decide +kernel
theorem dX8_addJob_60 : decode cX8_addJob 60 = .ok (.iaload, 1) := by decide +kernel
theorem dX8_addJob_61 : decode cX8_addJob 61 = .ok (.bipush 20, 2) := by decide +kernel
theorem dX8_addJob_63 : decode cX8_addJob 63 = .ok (.if_icmp .eq 16, 3) := by decide +kernel
theorem dX8_addJob_66 : decode cX8_addJob 66 = .ok (.aload_n 0, 1) := by decide +kernel
theorem dX8_addJob_67 : decode cX8_addJob 67 = .ok (.getfield 17, 3) := by decide +kernel
theorem dX8_addJob_70 : decode cX8_addJob 70 = .ok (.iload_n 1, 1) := by decide +kernel
theorem dX8_addJob_71 : decode cX8_addJob 71 = .ok (.invokestatic 194, 3) := by decide +kernel
theorem dX8_addJob_74 : decode cX8_addJob 74 = .ok (.bipush 8, 2) := by decide +kernel
theorem dX8_addJob_76 : decode cX8_addJob 76 = .ok (.if_icmp .ne 9, 3) := by decide +kernel
theorem dX8_addJob_79 : decode cX8_addJob 79 = .ok (.aload_n 0, 1) := by decide +kernel
theorem dX8_addJob_80 : decode cX8_addJob 80 = .ok (.iconst 3, 1) := by decide +kernel
theorem dX8_addJob_81 : decode cX8_addJob 81 = .ok (.invokevirtual 226, 3) := by decide +kernel
theorem dX8_addJob_84 : decode cX8_addJob 84 = .ok (.ireturn, 1) := by decide +kernel
theorem dX8_addJob_85 : decode cX8_addJob 85 = .ok (.aload_n 0, 1) := by decide +kernel
theorem dX8_addJob_86 : decode cX8_addJob 86 = .ok (.invokevirtual 404, 3) := by decide +kernel
theorem dX8_addJob_89 : decode cX8_addJob 89 = .ok (.aload_n 0, 1) := by decide +kernel
theorem dX8_addJob_90 : decode cX8_addJob 90 = .ok (.getfield 17, 3) := by decide +kernel
theorem dX8_addJob_93 : decode cX8_addJob 93 = .ok (.aload_n 0, 1) := by decide +kernel
theorem dX8_addJob_94 : decode cX8_addJob 94 = .ok (.getfield 17, 3) := by decide +kernel
theorem dX8_addJob_97 : decode cX8_addJob 97 = .ok (.bipush 87, 2) := by decide +kernel
theorem dX8_addJob_99 : decode cX8_addJob 99 = .ok (.iaload, 1) := by decide +kernel
theorem dX8_addJob_100 : decode cX8_addJob 100 = .ok (.iload_n 1, 1) := by decide +kernel
theorem dX8_addJob_101 : decode cX8_addJob 101 = .ok (.iload_n 2, 1) := by decide +kernel
theorem dX8_addJob_102 : decode cX8_addJob 102 = .ok (.iload_n 3, 1) := by decide +kernel
theorem dX8_addJob_103 : decode cX8_addJob 103 = .ok (.iload 4, 2) := by decide +kernel
theorem dX8_addJob_105 : decode cX8_addJob 105 = .ok (.iload 5, 2) := by decide +kernel
theorem dX8_addJob_107 : decode cX8_addJob 107 = .ok (.invokestatic 198, 3) := by decide +kernel
theorem dX8_addJob_110 : decode cX8_addJob 110 = .ok (.aload_n 0, 1) := by decide +kernel
theorem dX8_addJob_111 : decode cX8_addJob 111 = .ok (.getfield 17, 3) := by decide +kernel
theorem dX8_addJob_114 : decode cX8_addJob 114 = .ok (.bipush 87, 2) := by decide +kernel
theorem dX8_addJob_116 : decode cX8_addJob 116 = .ok (.dup2, 1) := by decide +kernel
theorem dX8_addJob_117 : decode cX8_addJob 117 = .ok (.iaload, 1) := by decide +kernel
theorem dX8_addJob_118 : decode cX8_addJob 118 = .ok (.iconst 1, 1) := by decide +kernel
theorem dX8_addJob_119 : decode cX8_addJob 119 = .ok (.iadd, 1) := by decide +kernel
theorem dX8_addJob_120 : decode cX8_addJob 120 = .ok (.iastore, 1) := by decide +kernel
theorem dX8_addJob_121 : decode cX8_addJob 121 = .ok (.aload_n 0, 1) := by decide +kernel
theorem dX8_addJob_122 : decode cX8_addJob 122 = .ok (.aload_n 0, 1) := by decide +kernel
theorem dX8_addJob_123 : decode cX8_addJob 123 = .ok (.getfield 17, 3) := by decide +kernel
theorem dX8_addJob_126 : decode cX8_addJob 126 = .ok (.bipush 87, 2) := by decide +kernel
theorem dX8_addJob_128 : decode cX8_addJob 128 = .ok (.iaload, 1) := by decide +kernel
theorem dX8_addJob_129 : decode cX8_addJob 129 = .ok (.invokevirtual 246, 3) := by decide +kernel
theorem dX8_addJob_132 : decode cX8_addJob 132 = .ok (.ireturn, 1) := by decide +kernel
theorem dX8_dropJob_0 : decode cX8_dropJob 0 = .ok (.bipush 88, 2) := by decide +kernel
theorem dX8_dropJob_2 : decode cX8_dropJob 2 = .ok (.iconst 5, 1) := by decide +kernel
theorem dX8_dropJob_3 : decode cX8_dropJob 3 = .ok (.iload_n 1, 1) := by decide +kernel
theorem dX8_dropJob_4 : decode cX8_dropJob 4 = .ok (.imul, 1) := by decide +kernel
theorem dX8_dropJob_5 : decode cX8_dropJob 5 = .ok (.iadd, 1) := by decide +kernel
theorem dX8_dropJob_6 : decode cX8_dropJob 6 = .ok (.istore_n 2, 1) := by decide +kernel
theorem dX8_dropJob_7 : decode cX8_dropJob 7 = .ok (.iload_n 2, 1) := by decide +kernel
theorem dX8_dropJob_8 : decode cX8_dropJob 8 = .ok (.bipush 88, 2) := by decide +kernel
theorem dX8_dropJob_10 : decode cX8_dropJob 10 = .ok (.iconst 5, 1) := by decide +kernel
theorem dX8_dropJob_11 : decode cX8_dropJob 11 = .ok (.aload_n 0, 1) := by decide +kernel
theorem dX8_dropJob_12 : decode cX8_dropJob 12 = .ok (.getfield 17, 3) := by decide +kernel
theorem dX8_dropJob_15 : decode cX8_dropJob 15 = .ok (.bipush 87, 2) := by decide +kernel
theorem dX8_dropJob_17 : decode cX8_dropJob 17 = .ok (.iaload, 1) := by decide +kernel
theorem dX8_dropJob_18 : decode cX8_dropJob 18 = .ok (.iconst 1, 1) := by decide +kernel
theorem dX8_dropJob_19 : decode cX8_dropJob 19 = .ok (.isub, 1) := by decide +kernel
theorem dX8_dropJob_20 : decode cX8_dropJob 20 = .ok (.imul, 1) := by decide +kernel
theorem dX8_dropJob_21 : decode cX8_dropJob 21 = .ok (.iadd, 1) := by decide +kernel
theorem dX8_dropJob_22 : decode cX8_dropJob 22 = .ok (.if_icmp .ge 23, 3) := by decide +kernel
theorem dX8_dropJob_25 : decode cX8_dropJob 25 = .ok (.aload_n 0, 1) := by decide +kernel
theorem dX8_dropJob_26 : decode cX8_dropJob 26 = .ok (.getfield 17, 3) := by decide +kernel
theorem dX8_dropJob_29 : decode cX8_dropJob 29 = .ok (.iload_n 2, 1) := by decide +kernel
theorem dX8_dropJob_30 : decode cX8_dropJob 30 = .ok (.aload_n 0, 1) := by decide +kernel
theorem dX8_dropJob_31 : decode cX8_dropJob 31 = .ok (.getfield 17, 3) := by decide +kernel
theorem dX8_dropJob_34 : decode cX8_dropJob 34 = .ok (.iload_n 2, 1) := by decide +kernel
theorem dX8_dropJob_35 : decode cX8_dropJob 35 = .ok (.iconst 5, 1) := by decide +kernel
theorem dX8_dropJob_36 : decode cX8_dropJob 36 = .ok (.iadd, 1) := by decide +kernel
theorem dX8_dropJob_37 : decode cX8_dropJob 37 = .ok (.iaload, 1) := by decide +kernel
theorem dX8_dropJob_38 : decode cX8_dropJob 38 = .ok (.iastore, 1) := by decide +kernel
theorem dX8_dropJob_39 : decode cX8_dropJob 39 = .ok (.iinc 2 1, 3) := by decide +kernel
theorem dX8_dropJob_42 : decode cX8_dropJob 42 = .ok (.goto (-35), 3) := by decide +kernel
theorem dX8_dropJob_45 : decode cX8_dropJob 45 = .ok (.aload_n 0, 1) := by decide +kernel
theorem dX8_dropJob_46 : decode cX8_dropJob 46 = .ok (.getfield 17, 3) := by decide +kernel
theorem dX8_dropJob_49 : decode cX8_dropJob 49 = .ok (.bipush 87, 2) := by decide +kernel
theorem dX8_dropJob_51 : decode cX8_dropJob 51 = .ok (.dup2, 1) := by decide +kernel
theorem dX8_dropJob_52 : decode cX8_dropJob 52 = .ok (.iaload, 1) := by decide +kernel
theorem dX8_dropJob_53 : decode cX8_dropJob 53 = .ok (.iconst 1, 1) := by decide +kernel
theorem dX8_dropJob_54 : decode cX8_dropJob 54 = .ok (.isub, 1) := by decide +kernel
theorem dX8_dropJob_55 : decode cX8_dropJob 55 = .ok (.iastore, 1) := by decide +kernel
theorem dX8_dropJob_56 : decode cX8_dropJob 56 = .ok (.return_, 1) := by decide +kernel
theorem dX8_removeJob_0 : decode cX8_removeJob 0 = .ok (.aload_n 0, 1) := by decide +kernel
theorem dX8_removeJob_1 : decode cX8_removeJob 1 = .ok (.iconst 0, 1) := by decide +kernel
theorem dX8_removeJob_2 : decode cX8_removeJob 2 = .ok (.putfield 103, 3) := by decide +kernel
theorem dX8_removeJob_5 : decode cX8_removeJob 5 = .ok (.aload_n 0, 1) := by decide +kernel
theorem dX8_removeJob_6 : decode cX8_removeJob 6 = .ok (.iload_n 1, 1) := by decide +kernel
theorem dX8_removeJob_7 : decode cX8_removeJob 7 = .ok (.invokevirtual 271, 3) := by decide +kernel
theorem dX8_removeJob_10 : decode cX8_removeJob 10 = .ok (.ifCond .ne 9, 3) := by decide +kernel
theorem dX8_removeJob_13 : decode cX8_removeJob 13 = .ok (.aload_n 0, 1) := by decide +kernel
theorem dX8_removeJob_14 : decode cX8_removeJob 14 = .ok (.iconst 1, 1) := by decide +kernel
theorem dX8_removeJob_15 : decode cX8_removeJob 15 = .ok (.invokevirtual 226, 3) := by decide +kernel
theorem dX8_removeJob_18 : decode cX8_removeJob 18 = .ok (.ireturn, 1) := by decide +kernel
theorem dX8_removeJob_19 : decode cX8_removeJob 19 = .ok (.aload_n 0, 1) := by decide +kernel
theorem dX8_removeJob_20 : decode cX8_removeJob 20 = .ok (.invokevirtual 404, 3) := by decide +kernel
theorem dX8_removeJob_23 : decode cX8_removeJob 23 = .ok (.aload_n 0, 1) := by decide +kernel
theorem dX8_removeJob_24 : decode cX8_removeJob 24 = .ok (.iload_n 1, 1) := by decide +kernel
theorem dX8_removeJob_25 : decode cX8_removeJob 25 = .ok (.invokevirtual 407, 3) := by decide +kernel
theorem dX8_removeJob_28 : decode cX8_removeJob 28 = .ok (.aload_n 0, 1) := by decide +kernel
theorem dX8_removeJob_29 : decode cX8_removeJob 29 = .ok (.aload_n 0, 1) := by decide +kernel
theorem dX8_removeJob_30 : decode cX8_removeJob 30 = .ok (.getfield 17, 3) := by decide +kernel
theorem dX8_removeJob_33 : decode cX8_removeJob 33 = .ok (.bipush 87, 2) := by decide +kernel
theorem dX8_removeJob_35 : decode cX8_removeJob 35 = .ok (.iaload, 1) := by decide +kernel
theorem dX8_removeJob_36 : decode cX8_removeJob 36 = .ok (.invokevirtual 246, 3) := by decide +kernel
theorem dX8_removeJob_39 : decode cX8_removeJob 39 = .ok (.ireturn, 1) := by decide +kernel
theorem dX8_swap_0 : decode cX8_swap 0 = .ok (.iconst 0, 1) := by decide +kernel
theorem dX8_swap_1 : decode cX8_swap 1 = .ok (.istore_n 3, 1) := by decide +kernel
theorem dX8_swap_2 : decode cX8_swap 2 = .ok (.iload_n 3, 1) := by decide +kernel
theorem dX8_swap_3 : decode cX8_swap 3 = .ok (.iconst 5, 1) := by decide +kernel
theorem dX8_swap_4 : decode cX8_swap 4 = .ok (.if_icmp .ge 65, 3) := by decide +kernel
theorem dX8_swap_7 : decode cX8_swap 7 = .ok (.aload_n 0, 1) := by decide +kernel
theorem dX8_swap_8 : decode cX8_swap 8 = .ok (.getfield 17, 3) := by decide +kernel
theorem dX8_swap_11 : decode cX8_swap 11 = .ok (.bipush 88, 2) := by decide +kernel
theorem dX8_swap_13 : decode cX8_swap 13 = .ok (.iconst 5, 1) := by decide +kernel
theorem dX8_swap_14 : decode cX8_swap 14 = .ok (.iload_n 1, 1) := by decide +kernel
theorem dX8_swap_15 : decode cX8_swap 15 = .ok (.imul, 1) := by decide +kernel
theorem dX8_swap_16 : decode cX8_swap 16 = .ok (.iadd, 1) := by decide +kernel
theorem dX8_swap_17 : decode cX8_swap 17 = .ok (.iload_n 3, 1) := by decide +kernel
theorem dX8_swap_18 : decode cX8_swap 18 = .ok (.iadd, 1) := by decide +kernel
theorem dX8_swap_19 : decode cX8_swap 19 = .ok (.iaload, 1) := by decide +kernel
theorem dX8_swap_20 : decode cX8_swap 20 = .ok (.istore 4, 2) := by decide +kernel
theorem dX8_swap_22 : decode cX8_swap 22 = .ok (.aload_n 0, 1) := by decide +kernel
theorem dX8_swap_23 : decode cX8_swap 23 = .ok (.getfield 17, 3) := by decide +kernel
theorem dX8_swap_26 : decode cX8_swap 26 = .ok (.bipush 88, 2) := by decide +kernel
theorem dX8_swap_28 : decode cX8_swap 28 = .ok (.iconst 5, 1) := by decide +kernel
theorem dX8_swap_29 : decode cX8_swap 29 = .ok (.iload_n 1, 1) := by decide +kernel
theorem dX8_swap_30 : decode cX8_swap 30 = .ok (.imul, 1) := by decide +kernel
theorem dX8_swap_31 : decode cX8_swap 31 = .ok (.iadd, 1) := by decide +kernel
theorem dX8_swap_32 : decode cX8_swap 32 = .ok (.iload_n 3, 1) := by decide +kernel
theorem dX8_swap_33 : decode cX8_swap 33 = .ok (.iadd, 1) := by decide +kernel
theorem dX8_swap_34 : decode cX8_swap 34 = .ok (.aload_n 0, 1) := by decide +kernel
theorem dX8_swap_35 : decode cX8_swap 35 = .ok (.getfield 17, 3) := by decide +kernel
theorem dX8_swap_38 : decode cX8_swap 38 = .ok (.bipush 88, 2) := by decide +kernel
theorem dX8_swap_40 : decode cX8_swap 40 = .ok (.iconst 5, 1) := by decide +kernel
theorem dX8_swap_41 : decode cX8_swap 41 = .ok (.iload_n 2, 1) := by decide +kernel
theorem dX8_swap_42 : decode cX8_swap 42 = .ok (.imul, 1) := by decide +kernel
theorem dX8_swap_43 : decode cX8_swap 43 = .ok (.iadd, 1) := by decide +kernel
theorem dX8_swap_44 : decode cX8_swap 44 = .ok (.iload_n 3, 1) := by decide +kernel
theorem dX8_swap_45 : decode cX8_swap 45 = .ok (.iadd, 1) := by decide +kernel
theorem dX8_swap_46 : decode cX8_swap 46 = .ok (.iaload, 1) := by decide +kernel
theorem dX8_swap_47 : decode cX8_swap 47 = .ok (.iastore, 1) := by decide +kernel
theorem dX8_swap_48 : decode cX8_swap 48 = .ok (.aload_n 0, 1) := by decide +kernel
theorem dX8_swap_49 : decode cX8_swap 49 = .ok (.getfield 17, 3) := by decide +kernel
theorem dX8_swap_52 : decode cX8_swap 52 = .ok (.bipush 88, 2) := by decide +kernel
theorem dX8_swap_54 : decode cX8_swap 54 = .ok (.iconst 5, 1) := by decide +kernel
theorem dX8_swap_55 : decode cX8_swap 55 = .ok (.iload_n 2, 1) := by decide +kernel
theorem dX8_swap_56 : decode cX8_swap 56 = .ok (.imul, 1) := by decide +kernel
theorem dX8_swap_57 : decode cX8_swap 57 = .ok (.iadd, 1) := by decide +kernel
theorem dX8_swap_58 : decode cX8_swap 58 = .ok (.iload_n 3, 1) := by decide +kernel
theorem dX8_swap_59 : decode cX8_swap 59 = .ok (.iadd, 1) := by decide +kernel
theorem dX8_swap_60 : decode cX8_swap 60 = .ok (.iload 4, 2) := by decide +kernel
theorem dX8_swap_62 : decode cX8_swap 62 = .ok (.iastore, 1) := by decide +kernel
theorem dX8_swap_63 : decode cX8_swap 63 = .ok (.iinc 3 1, 3) := by decide +kernel
theorem dX8_swap_66 : decode cX8_swap 66 = .ok (.goto (-64), 3) := by decide +kernel
theorem dX8_swap_69 : decode cX8_swap 69 = .ok (.return_, 1) := by decide +kernel
theorem dX8_moveJob_0 : decode cX8_moveJob 0 = .ok (.aload_n 0, 1) := by decide +kernel
theorem dX8_moveJob_1 : decode cX8_moveJob 1 = .ok (.iconst 0, 1) := by decide +kernel
theorem dX8_moveJob_2 : decode cX8_moveJob 2 = .ok (.putfield 103, 3) := by decide +kernel
theorem dX8_moveJob_5 : decode cX8_moveJob 5 = .ok (.aload_n 0, 1) := by decide +kernel
theorem dX8_moveJob_6 : decode cX8_moveJob 6 = .ok (.iload_n 1, 1) := by decide +kernel
theorem dX8_moveJob_7 : decode cX8_moveJob 7 = .ok (.invokevirtual 271, 3) := by decide +kernel
theorem dX8_moveJob_10 : decode cX8_moveJob 10 = .ok (.ifCond .eq 11, 3) := by decide +kernel
theorem dX8_moveJob_13 : decode cX8_moveJob 13 = .ok (.aload_n 0, 1) := by decide +kernel
theorem dX8_moveJob_14 : decode cX8_moveJob 14 = .ok (.iload_n 2, 1) := by decide +kernel
theorem dX8_moveJob_15 : decode cX8_moveJob 15 = .ok (.invokevirtual 271, 3) := by decide +kernel
theorem dX8_moveJob_18 : decode cX8_moveJob 18 = .ok (.ifCond .ne 9, 3) := by decide +kernel
theorem dX8_moveJob_21 : decode cX8_moveJob 21 = .ok (.aload_n 0, 1) := by decide +kernel
theorem dX8_moveJob_22 : decode cX8_moveJob 22 = .ok (.iconst 1, 1) := by decide +kernel
theorem dX8_moveJob_23 : decode cX8_moveJob 23 = .ok (.invokevirtual 226, 3) := by decide +kernel
theorem dX8_moveJob_26 : decode cX8_moveJob 26 = .ok (.ireturn, 1) := by decide +kernel
theorem dX8_moveJob_27 : decode cX8_moveJob 27 = .ok (.aload_n 0, 1) := by decide +kernel
theorem dX8_moveJob_28 : decode cX8_moveJob 28 = .ok (.invokevirtual 404, 3) := by decide +kernel
theorem dX8_moveJob_31 : decode cX8_moveJob 31 = .ok (.iload_n 1, 1) := by decide +kernel
theorem dX8_moveJob_32 : decode cX8_moveJob 32 = .ok (.istore_n 3, 1) := by decide +kernel
theorem dX8_moveJob_33 : decode cX8_moveJob 33 = .ok (.iload_n 3, 1) := by decide +kernel
theorem dX8_moveJob_34 : decode cX8_moveJob 34 = .ok (.iload_n 2, 1) := by decide +kernel
theorem dX8_moveJob_35 : decode cX8_moveJob 35 = .ok (.if_icmp .ge 17, 3) := by decide +kernel
theorem dX8_moveJob_38 : decode cX8_moveJob 38 = .ok (.aload_n 0, 1) := by decide +kernel
theorem dX8_moveJob_39 : decode cX8_moveJob 39 = .ok (.iload_n 3, 1) := by decide +kernel
theorem dX8_moveJob_40 : decode cX8_moveJob 40 = .ok (.iload_n 3, 1) := by decide +kernel
theorem dX8_moveJob_41 : decode cX8_moveJob 41 = .ok (.iconst 1, 1) := by decide +kernel
theorem dX8_moveJob_42 : decode cX8_moveJob 42 = .ok (.iadd, 1) := by decide +kernel
theorem dX8_moveJob_43 : decode cX8_moveJob 43 = .ok (.invokevirtual 401, 3) := by decide +kernel
theorem dX8_moveJob_46 : decode cX8_moveJob 46 = .ok (.iinc 3 1, 3) := by decide +kernel
theorem dX8_moveJob_49 : decode cX8_moveJob 49 = .ok (.goto (-16), 3) := by decide +kernel
theorem dX8_moveJob_52 : decode cX8_moveJob 52 = .ok (.iload_n 1, 1) := by decide +kernel
theorem dX8_moveJob_53 : decode cX8_moveJob 53 = .ok (.istore_n 3, 1) := by decide +kernel
theorem dX8_moveJob_54 : decode cX8_moveJob 54 = .ok (.iload_n 3, 1) := by decide +kernel
theorem dX8_moveJob_55 : decode cX8_moveJob 55 = .ok (.iload_n 2, 1) := by decide +kernel
theorem dX8_moveJob_56 : decode cX8_moveJob 56 = .ok (.if_icmp .le 17, 3) := by decide +kernel
theorem dX8_moveJob_59 : decode cX8_moveJob 59 = .ok (.aload_n 0, 1) := by decide +kernel
theorem dX8_moveJob_60 : decode cX8_moveJob 60 = .ok (.iload_n 3, 1) := by decide +kernel
theorem dX8_moveJob_61 : decode cX8_moveJob 61 = .ok (.iload_n 3, 1) := by decide +kernel
theorem dX8_moveJob_62 : decode cX8_moveJob 62 = .ok (.iconst 1, 1) := by decide +kernel
theorem dX8_moveJob_63 : decode cX8_moveJob 63 = .ok (.isub, 1) := by decide +kernel
theorem dX8_moveJob_64 : decode cX8_moveJob 64 = .ok (.invokevirtual 401, 3) := by decide +kernel
theorem dX8_moveJob_67 : decode cX8_moveJob 67 = .ok (.iinc 3 (-1), 3) := by decide +kernel
theorem dX8_moveJob_70 : decode cX8_moveJob 70 = .ok (.goto (-16), 3) := by decide +kernel
theorem dX8_moveJob_73 : decode cX8_moveJob 73 = .ok (.aload_n 0, 1) := by decide +kernel
theorem dX8_moveJob_74 : decode cX8_moveJob 74 = .ok (.iconst 0, 1) := by decide +kernel
theorem dX8_moveJob_75 : decode cX8_moveJob 75 = .ok (.invokevirtual 246, 3) := by decide +kernel
theorem dX8_moveJob_78 : decode cX8_moveJob 78 = .ok (.ireturn, 1) := by decide +kernel
theorem dX8_set_0 : decode cX8_set 0 = .ok (.aload_n 0, 1) := by decide +kernel
theorem dX8_set_1 : decode cX8_set 1 = .ok (.getfield 17, 3) := by decide +kernel
theorem dX8_set_4 : decode cX8_set 4 = .ok (.iload_n 1, 1) := by decide +kernel
theorem dX8_set_5 : decode cX8_set 5 = .ok (.iaload, 1) := by decide +kernel
theorem dX8_set_6 : decode cX8_set 6 = .ok (.istore_n 3, 1) := by decide +kernel
theorem dX8_set_7 : decode cX8_set 7 = .ok (.aload_n 0, 1) := by decide +kernel
theorem dX8_set_8 : decode cX8_set 8 = .ok (.invokevirtual 404, 3) := by decide +kernel
theorem dX8_set_11 : decode cX8_set 11 = .ok (.aload_n 0, 1) := by decide +kernel
theorem dX8_set_12 : decode cX8_set 12 = .ok (.getfield 17, 3) := by decide +kernel
theorem dX8_set_15 : decode cX8_set 15 = .ok (.iload_n 1, 1) := by decide +kernel
theorem dX8_set_16 : decode cX8_set 16 = .ok (.iload_n 2, 1) := by decide +kernel
theorem dX8_set_17 : decode cX8_set 17 = .ok (.iastore, 1) := by decide +kernel
theorem dX8_set_18 : decode cX8_set 18 = .ok (.aload_n 0, 1) := by decide +kernel
theorem dX8_set_19 : decode cX8_set 19 = .ok (.iload_n 3, 1) := by decide +kernel
theorem dX8_set_20 : decode cX8_set 20 = .ok (.invokevirtual 246, 3) := by decide +kernel
theorem dX8_set_23 : decode cX8_set 23 = .ok (.ireturn, 1) := by decide +kernel
theorem dX8_setDeparture_0 : decode cX8_setDeparture 0 = .ok (.aload_n 0, 1) := by decide +kernel
theorem dX8_setDeparture_1 : decode cX8_setDeparture 1 = .ok (.iconst 0, 1) := by decide +kernel
theorem dX8_setDeparture_2 : decode cX8_setDeparture 2 = .ok (.putfield 103, 3) := by decide +kernel
theorem dX8_setDeparture_5 : decode cX8_setDeparture 5 = .ok (.aload_n 0, 1) := by decide +kernel
theorem dX8_setDeparture_6 : decode cX8_setDeparture 6 = .ok (.iload_n 1, 1) := by decide +kernel
theorem dX8_setDeparture_7 : decode cX8_setDeparture 7 = .ok (.invokevirtual 249, 3) := by decide +kernel
theorem dX8_setDeparture_10 : decode cX8_setDeparture 10 = .ok (.ifCond .ne 9, 3) := by decide +kernel
theorem dX8_setDeparture_13 : decode cX8_setDeparture 13 = .ok (.aload_n 0, 1) := by decide +kernel
theorem dX8_setDeparture_14 : decode cX8_setDeparture 14 = .ok (.iconst 1, 1) := by decide +kernel
theorem dX8_setDeparture_15 : decode cX8_setDeparture 15 = .ok (.invokevirtual 226, 3) := by decide +kernel
theorem dX8_setDeparture_18 : decode cX8_setDeparture 18 = .ok (.ireturn, 1) := by decide +kernel
theorem dX8_setDeparture_19 : decode cX8_setDeparture 19 = .ok (.iload_n 2, 1) := by decide +kernel
theorem dX8_setDeparture_20 : decode cX8_setDeparture 20 = .ok (.aload_n 0, 1) := by decide +kernel
theorem dX8_setDeparture_21 : decode cX8_setDeparture 21 = .ok (.getfield 17, 3) := by decide +kernel
theorem dX8_setDeparture_24 : decode cX8_setDeparture 24 = .ok (.iconst 0, 1) := by decide +kernel
theorem dX8_setDeparture_25 : decode cX8_setDeparture 25 = .ok (.iload_n 1, 1) := by decide +kernel
theorem dX8_setDeparture_26 : decode cX8_setDeparture 26 = .ok (.iadd, 1) := by decide +kernel
theorem dX8_setDeparture_27 : decode cX8_setDeparture 27 = .ok (.iaload, 1) := by decide +kernel
theorem dX8_setDeparture_28 : decode cX8_setDeparture 28 = .ok (.sipush 999, 3) := by decide +kernel
theorem dX8_setDeparture_31 : decode cX8_setDeparture 31 = .ok (.invokestatic 142, 3) := by decide +kernel
theorem dX8_setDeparture_34 : decode cX8_setDeparture 34 = .ok (.ifCond .eq 14, 3) := by decide +kernel
theorem dX8_setDeparture_37 : decode cX8_setDeparture 37 = .ok (.aload_n 0, 1) := by decide +kernel
theorem dX8_setDeparture_38 : decode cX8_setDeparture 38 = .ok (.iconst 2, 1) := by decide +kernel
theorem dX8_setDeparture_39 : decode cX8_setDeparture 39 = .ok (.iload_n 1, 1) := by decide +kernel
theorem dX8_setDeparture_40 : decode cX8_setDeparture 40 = .ok (.iadd, 1) := by decide +kernel
theorem dX8_setDeparture_41 : decode cX8_setDeparture 41 = .ok (.iload_n 2, 1) := by decide +kernel
theorem dX8_setDeparture_42 : decode cX8_setDeparture 42 = .ok (.invokevirtual 410, 3) := by decide +kernel
theorem dX8_setDeparture_45 : decode cX8_setDeparture 45 = .ok (.goto 8, 3) := by decide +kernel
theorem dX8_setDeparture_48 : decode cX8_setDeparture 48 = .ok (.aload_n 0, 1) := by decide +kernel
theorem dX8_setDeparture_49 : decode cX8_setDeparture 49 = .ok (.iconst 2, 1) := by decide +kernel
theorem dX8_setDeparture_50 : decode cX8_setDeparture 50 = .ok (.invokevirtual 226, 3) := by decide +kernel
theorem dX8_setDeparture_53 : decode cX8_setDeparture 53 = .ok (.ireturn, 1) := by decide +kernel
theorem dX8_setStock_0 : decode cX8_setStock 0 = .ok (.aload_n 0, 1) := by decide +kernel
theorem dX8_setStock_1 : decode cX8_setStock 1 = .ok (.iconst 0, 1) := by decide +kernel
theorem dX8_setStock_2 : decode cX8_setStock 2 = .ok (.putfield 103, 3) := by decide +kernel
theorem dX8_setStock_5 : decode cX8_setStock 5 = .ok (.aload_n 0, 1) := by decide +kernel
theorem dX8_setStock_6 : decode cX8_setStock 6 = .ok (.iload_n 1, 1) := by decide +kernel
theorem dX8_setStock_7 : decode cX8_setStock 7 = .ok (.invokevirtual 257, 3) := by decide +kernel
theorem dX8_setStock_10 : decode cX8_setStock 10 = .ok (.ifCond .eq 11, 3) := by decide +kernel
theorem dX8_setStock_13 : decode cX8_setStock 13 = .ok (.aload_n 0, 1) := by decide +kernel
theorem dX8_setStock_14 : decode cX8_setStock 14 = .ok (.iload_n 2, 1) := by decide +kernel
theorem dX8_setStock_15 : decode cX8_setStock 15 = .ok (.invokevirtual 260, 3) := by decide +kernel
theorem dX8_setStock_18 : decode cX8_setStock 18 = .ok (.ifCond .ne 9, 3) := by decide +kernel
theorem dX8_setStock_21 : decode cX8_setStock 21 = .ok (.aload_n 0, 1) := by decide +kernel
theorem dX8_setStock_22 : decode cX8_setStock 22 = .ok (.iconst 1, 1) := by decide +kernel
theorem dX8_setStock_23 : decode cX8_setStock 23 = .ok (.invokevirtual 226, 3) := by decide +kernel
theorem dX8_setStock_26 : decode cX8_setStock 26 = .ok (.ireturn, 1) := by decide +kernel
theorem dX8_setStock_27 : decode cX8_setStock 27 = .ok (.iload_n 3, 1) := by decide +kernel
theorem dX8_setStock_28 : decode cX8_setStock 28 = .ok (.iconst 0, 1) := by decide +kernel
theorem dX8_setStock_29 : decode cX8_setStock 29 = .ok (.sipush 999, 3) := by decide +kernel
theorem dX8_setStock_32 : decode cX8_setStock 32 = .ok (.invokestatic 142, 3) := by decide +kernel
theorem dX8_setStock_35 : decode cX8_setStock 35 = .ok (.ifCond .eq 19, 3) := by decide +kernel
theorem dX8_setStock_38 : decode cX8_setStock 38 = .ok (.aload_n 0, 1) := by decide +kernel
theorem dX8_setStock_39 : decode cX8_setStock 39 = .ok (.bipush 49, 2) := by decide +kernel
theorem dX8_setStock_41 : decode cX8_setStock 41 = .ok (.iconst 4, 1) := by decide +kernel
theorem dX8_setStock_42 : decode cX8_setStock 42 = .ok (.iload_n 1, 1) := by decide +kernel
theorem dX8_setStock_43 : decode cX8_setStock 43 = .ok (.imul, 1) := by decide +kernel
theorem dX8_setStock_44 : decode cX8_setStock 44 = .ok (.iadd, 1) := by decide +kernel
theorem dX8_setStock_45 : decode cX8_setStock 45 = .ok (.iload_n 2, 1) := by decide +kernel
theorem dX8_setStock_46 : decode cX8_setStock 46 = .ok (.iadd, 1) := by decide +kernel
theorem dX8_setStock_47 : decode cX8_setStock 47 = .ok (.iload_n 3, 1) := by decide +kernel
theorem dX8_setStock_48 : decode cX8_setStock 48 = .ok (.invokevirtual 410, 3) := by decide +kernel
theorem dX8_setStock_51 : decode cX8_setStock 51 = .ok (.goto 8, 3) := by decide +kernel
theorem dX8_setStock_54 : decode cX8_setStock 54 = .ok (.aload_n 0, 1) := by decide +kernel
theorem dX8_setStock_55 : decode cX8_setStock 55 = .ok (.iconst 2, 1) := by decide +kernel
theorem dX8_setStock_56 : decode cX8_setStock 56 = .ok (.invokevirtual 226, 3) := by decide +kernel
theorem dX8_setStock_59 : decode cX8_setStock 59 = .ok (.ireturn, 1) := by decide +kernel
theorem dX8_setQuantity_0 : decode cX8_setQuantity 0 = .ok (.aload_n 0, 1) := by decide +kernel
theorem dX8_setQuantity_1 : decode cX8_setQuantity 1 = .ok (.iconst 0, 1) := by decide +kernel
theorem dX8_setQuantity_2 : decode cX8_setQuantity 2 = .ok (.putfield 103, 3) := by decide +kernel
theorem dX8_setQuantity_5 : decode cX8_setQuantity 5 = .ok (.aload_n 0, 1) := by decide +kernel
theorem dX8_setQuantity_6 : decode cX8_setQuantity 6 = .ok (.iload_n 1, 1) := by decide +kernel
theorem dX8_setQuantity_7 : decode cX8_setQuantity 7 = .ok (.invokevirtual 271, 3) := by decide +kernel
theorem dX8_setQuantity_10 : decode cX8_setQuantity 10 = .ok (.ifCond .ne 9, 3) := by decide +kernel
theorem dX8_setQuantity_13 : decode cX8_setQuantity 13 = .ok (.aload_n 0, 1) := by decide +kernel
theorem dX8_setQuantity_14 : decode cX8_setQuantity 14 = .ok (.iconst 1, 1) := by decide +kernel
theorem dX8_setQuantity_15 : decode cX8_setQuantity 15 = .ok (.invokevirtual 226, 3) := by decide +kernel
theorem dX8_setQuantity_18 : decode cX8_setQuantity 18 = .ok (.ireturn, 1) := by decide +kernel
theorem dX8_setQuantity_19 : decode cX8_setQuantity 19 = .ok (.iload_n 2, 1) := by decide +kernel
theorem dX8_setQuantity_20 : decode cX8_setQuantity 20 = .ok (.iconst 1, 1) := by decide +kernel
theorem dX8_setQuantity_21 : decode cX8_setQuantity 21 = .ok (.bipush 99, 2) := by decide +kernel
theorem dX8_setQuantity_23 : decode cX8_setQuantity 23 = .ok (.invokestatic 142, 3) := by decide +kernel
theorem dX8_setQuantity_26 : decode cX8_setQuantity 26 = .ok (.ifCond .eq 19, 3) := by decide +kernel
theorem dX8_setQuantity_29 : decode cX8_setQuantity 29 = .ok (.aload_n 0, 1) := by decide +kernel
theorem dX8_setQuantity_30 : decode cX8_setQuantity 30 = .ok (.bipush 88, 2) := by decide +kernel
theorem dX8_setQuantity_32 : decode cX8_setQuantity 32 = .ok (.iconst 5, 1) := by decide +kernel
theorem dX8_setQuantity_33 : decode cX8_setQuantity 33 = .ok (.iload_n 1, 1) := by decide +kernel
theorem dX8_setQuantity_34 : decode cX8_setQuantity 34 = .ok (.imul, 1) := by decide +kernel
theorem dX8_setQuantity_35 : decode cX8_setQuantity 35 = .ok (.iadd, 1) := by decide +kernel
theorem dX8_setQuantity_36 : decode cX8_setQuantity 36 = .ok (.iconst 4, 1) := by decide +kernel
theorem dX8_setQuantity_37 : decode cX8_setQuantity 37 = .ok (.iadd, 1) := by decide +kernel
theorem dX8_setQuantity_38 : decode cX8_setQuantity 38 = .ok (.iload_n 2, 1) := by decide +kernel
theorem dX8_setQuantity_39 : decode cX8_setQuantity 39 = .ok (.invokevirtual 410, 3) := by decide +kernel
theorem dX8_setQuantity_42 : decode cX8_setQuantity 42 = .ok (.goto 8, 3) := by decide +kernel
theorem dX8_setQuantity_45 : decode cX8_setQuantity 45 = .ok (.aload_n 0, 1) := by decide +kernel
theorem dX8_setQuantity_46 : decode cX8_setQuantity 46 = .ok (.iconst 2, 1) := by decide +kernel
theorem dX8_setQuantity_47 : decode cX8_setQuantity 47 = .ok (.invokevirtual 226, 3) := by decide +kernel
theorem dX8_setQuantity_50 : decode cX8_setQuantity 50 = .ok (.ireturn, 1) := by decide +kernel
theorem dX8_applyBest_0 : decode cX8_applyBest 0 = .ok (.aload_n 0, 1) := by decide +kernel
theorem dX8_applyBest_1 : decode cX8_applyBest 1 = .ok (.iconst 0, 1) := by decide +kernel
theorem dX8_applyBest_2 : decode cX8_applyBest 2 = .ok (.putfield 103, 3) := by decide +kernel
theorem dX8_applyBest_5 : decode cX8_applyBest 5 = .ok (.aload_n 0, 1) := by decide +kernel
theorem dX8_applyBest_6 : decode cX8_applyBest 6 = .ok (.iload_n 1, 1) := by decide +kernel
theorem dX8_applyBest_7 : decode cX8_applyBest 7 = .ok (.invokevirtual 330, 3) := by decide +kernel
theorem dX8_applyBest_10 : decode cX8_applyBest 10 = .ok (.ifCond .ne 9, 3) := by decide +kernel
theorem dX8_applyBest_13 : decode cX8_applyBest 13 = .ok (.aload_n 0, 1) := by decide +kernel
theorem dX8_applyBest_14 : decode cX8_applyBest 14 = .ok (.iconst 1, 1) := by decide +kernel
theorem dX8_applyBest_15 : decode cX8_applyBest 15 = .ok (.invokevirtual 226, 3) := by decide +kernel
theorem dX8_applyBest_18 : decode cX8_applyBest 18 = .ok (.ireturn, 1) := by decide +kernel
theorem dX8_applyBest_19 : decode cX8_applyBest 19 = .ok (.aload_n 0, 1) := by decide +kernel
theorem dX8_applyBest_20 : decode cX8_applyBest 20 = .ok (.iload_n 1, 1) := by decide +kernel
theorem dX8_applyBest_21 : decode cX8_applyBest 21 = .ok (.invokevirtual 395, 3) := by decide +kernel
theorem dX8_applyBest_24 : decode cX8_applyBest 24 = .ok (.aload_n 0, 1) := by decide +kernel
theorem dX8_applyBest_25 : decode cX8_applyBest 25 = .ok (.invokevirtual 404, 3) := by decide +kernel
theorem dX8_applyBest_28 : decode cX8_applyBest 28 = .ok (.sipush 188, 3) := by decide +kernel
theorem dX8_applyBest_31 : decode cX8_applyBest 31 = .ok (.aload_n 0, 1) := by decide +kernel
theorem dX8_applyBest_32 : decode cX8_applyBest 32 = .ok (.getfield 243, 3) := by decide +kernel
theorem dX8_applyBest_35 : decode cX8_applyBest 35 = .ok (.iconst 1, 1) := by decide +kernel
theorem dX8_applyBest_36 : decode cX8_applyBest 36 = .ok (.isub, 1) := by decide +kernel
theorem dX8_applyBest_37 : decode cX8_applyBest 37 = .ok (.imul, 1) := by decide +kernel
theorem dX8_applyBest_38 : decode cX8_applyBest 38 = .ok (.istore_n 2, 1) := by decide +kernel
theorem dX8_applyBest_39 : decode cX8_applyBest 39 = .ok (.iconst 0, 1) := by decide +kernel
theorem dX8_applyBest_40 : decode cX8_applyBest 40 = .ok (.istore_n 3, 1) := by decide +kernel
theorem dX8_applyBest_41 : decode cX8_applyBest 41 = .ok (.iload_n 3, 1) := by decide +kernel
theorem dX8_applyBest_42 : decode cX8_applyBest 42 = .ok (.aload_n 0, 1) := by decide +kernel
theorem dX8_applyBest_43 : decode cX8_applyBest 43 = .ok (.getfield 392, 3) := by decide +kernel
theorem dX8_applyBest_46 : decode cX8_applyBest 46 = .ok (.if_icmp .ge 64, 3) := by decide +kernel
theorem dX8_applyBest_49 : decode cX8_applyBest 49 = .ok (.iconst 0, 1) := by decide +kernel
theorem dX8_applyBest_50 : decode cX8_applyBest 50 = .ok (.istore 4, 2) := by decide +kernel
theorem dX8_applyBest_52 : decode cX8_applyBest 52 = .ok (.iload 4, 2) := by decide +kernel
theorem dX8_applyBest_54 : decode cX8_applyBest 54 = .ok (.iconst 5, 1) := by decide +kernel
theorem dX8_applyBest_55 : decode cX8_applyBest 55 = .ok (.if_icmp .ge 49, 3) := by decide +kernel
theorem dX8_applyBest_58 : decode cX8_applyBest 58 = .ok (.aload_n 0, 1) := by decide +kernel
theorem dX8_applyBest_59 : decode cX8_applyBest 59 = .ok (.getfield 17, 3) := by decide +kernel
theorem dX8_applyBest_62 : decode cX8_applyBest 62 = .ok (.bipush 88, 2) := by decide +kernel
theorem dX8_applyBest_64 : decode cX8_applyBest 64 = .ok (.iconst 5, 1) := by decide +kernel
theorem dX8_applyBest_65 : decode cX8_applyBest 65 = .ok (.aload_n 0, 1) := by decide +kernel
theorem dX8_applyBest_66 : decode cX8_applyBest 66 = .ok (.getfield 94, 3) := by decide +kernel
theorem dX8_applyBest_69 : decode cX8_applyBest 69 = .ok (.iload_n 3, 1) := by decide +kernel
theorem dX8_applyBest_70 : decode cX8_applyBest 70 = .ok (.iaload, 1) := by decide +kernel
theorem dX8_applyBest_71 : decode cX8_applyBest 71 = .ok (.imul, 1) := by decide +kernel
theorem dX8_applyBest_72 : decode cX8_applyBest 72 = .ok (.iadd, 1) := by decide +kernel
theorem dX8_applyBest_73 : decode cX8_applyBest 73 = .ok (.iload 4, 2) := by decide +kernel
theorem dX8_applyBest_75 : decode cX8_applyBest 75 = .ok (.iadd, 1) := by decide +kernel
theorem dX8_applyBest_76 : decode cX8_applyBest 76 = .ok (.aload_n 0, 1) := by decide +kernel
theorem dX8_applyBest_77 : decode cX8_applyBest 77 = .ok (.getfield 26, 3) := by decide +kernel
theorem dX8_applyBest_80 : decode cX8_applyBest 80 = .ok (.iload_n 2, 1) := by decide +kernel
theorem dX8_applyBest_81 : decode cX8_applyBest 81 = .ok (.bipush 88, 2) := by decide +kernel
theorem dX8_applyBest_83 : decode cX8_applyBest 83 = .ok (.iadd, 1) := by decide +kernel
theorem dX8_applyBest_84 : decode cX8_applyBest 84 = .ok (.iconst 5, 1) := by decide +kernel
theorem dX8_applyBest_85 : decode cX8_applyBest 85 = .ok (.aload_n 0, 1) := by decide +kernel
theorem dX8_applyBest_86 : decode cX8_applyBest 86 = .ok (.getfield 100, 3) := by decide +kernel
theorem dX8_applyBest_89 : decode cX8_applyBest 89 = .ok (.iload_n 3, 1) := by decide +kernel
theorem dX8_applyBest_90 : decode cX8_applyBest 90 = .ok (.iaload, 1) := by decide +kernel
theorem dX8_applyBest_91 : decode cX8_applyBest 91 = .ok (.imul, 1) := by decide +kernel
theorem dX8_applyBest_92 : decode cX8_applyBest 92 = .ok (.iadd, 1) := by decide +kernel
theorem dX8_applyBest_93 : decode cX8_applyBest 93 = .ok (.iload 4, 2) := by decide +kernel
theorem dX8_applyBest_95 : decode cX8_applyBest 95 = .ok (.iadd, 1) := by decide +kernel
theorem dX8_applyBest_96 : decode cX8_applyBest 96 = .ok (.iaload, 1) := by decide +kernel
theorem dX8_applyBest_97 : decode cX8_applyBest 97 = .ok (.iastore, 1) := by decide +kernel
theorem dX8_applyBest_98 : decode cX8_applyBest 98 = .ok (.iinc 4 1, 3) := by decide +kernel
theorem dX8_applyBest_101 : decode cX8_applyBest 101 = .ok (.goto (-49), 3) := by decide +kernel
theorem dX8_applyBest_104 : decode cX8_applyBest 104 = .ok (.iinc 3 1, 3) := by decide +kernel
theorem dX8_applyBest_107 : decode cX8_applyBest 107 = .ok (.goto (-66), 3) := by decide +kernel
theorem dX8_applyBest_110 : decode cX8_applyBest 110 = .ok (.aload_n 0, 1) := by decide +kernel
theorem dX8_applyBest_111 : decode cX8_applyBest 111 = .ok (.getfield 374, 3) := by decide +kernel
theorem dX8_applyBest_114 : decode cX8_applyBest 114 = .ok (.iconst 1, 1) := by decide +kernel
theorem dX8_applyBest_115 : decode cX8_applyBest 115 = .ok (.isub, 1) := by decide +kernel
theorem dX8_applyBest_116 : decode cX8_applyBest 116 = .ok (.istore_n 3, 1) := by decide +kernel
theorem dX8_applyBest_117 : decode cX8_applyBest 117 = .ok (.iload_n 3, 1) := by decide +kernel
theorem dX8_applyBest_118 : decode cX8_applyBest 118 = .ok (.aload_n 0, 1) := by decide +kernel
theorem dX8_applyBest_119 : decode cX8_applyBest 119 = .ok (.getfield 392, 3) := by decide +kernel
theorem dX8_applyBest_122 : decode cX8_applyBest 122 = .ok (.if_icmp .lt 19, 3) := by decide +kernel
theorem dX8_applyBest_125 : decode cX8_applyBest 125 = .ok (.aload_n 0, 1) := by decide +kernel
theorem dX8_applyBest_126 : decode cX8_applyBest 126 = .ok (.aload_n 0, 1) := by decide +kernel
theorem dX8_applyBest_127 : decode cX8_applyBest 127 = .ok (.getfield 94, 3) := by decide +kernel
theorem dX8_applyBest_130 : decode cX8_applyBest 130 = .ok (.iload_n 3, 1) := by decide +kernel
theorem dX8_applyBest_131 : decode cX8_applyBest 131 = .ok (.iaload, 1) := by decide +kernel
theorem dX8_applyBest_132 : decode cX8_applyBest 132 = .ok (.invokevirtual 407, 3) := by decide +kernel
theorem dX8_applyBest_135 : decode cX8_applyBest 135 = .ok (.iinc 3 (-1), 3) := by decide +kernel
theorem dX8_applyBest_138 : decode cX8_applyBest 138 = .ok (.goto (-21), 3) := by decide +kernel
theorem dX8_applyBest_141 : decode cX8_applyBest 141 = .ok (.aload_n 0, 1) := by decide +kernel
theorem dX8_applyBest_142 : decode cX8_applyBest 142 = .ok (.aload_n 0, 1) := by decide +kernel
theorem dX8_applyBest_143 : decode cX8_applyBest 143 = .ok (.getfield 374, 3) := by decide +kernel
theorem dX8_applyBest_146 : decode cX8_applyBest 146 = .ok (.aload_n 0, 1) := by decide +kernel
theorem dX8_applyBest_147 : decode cX8_applyBest 147 = .ok (.getfield 392, 3) := by decide +kernel
theorem dX8_applyBest_150 : decode cX8_applyBest 150 = .ok (.isub, 1) := by decide +kernel
theorem dX8_applyBest_151 : decode cX8_applyBest 151 = .ok (.invokevirtual 246, 3) := by decide +kernel
theorem dX8_applyBest_154 : decode cX8_applyBest 154 = .ok (.ireturn, 1) := by decide +kernel
theorem dX8_undo_0 : decode cX8_undo 0 = .ok (.aload_n 0, 1) := by decide +kernel
theorem dX8_undo_1 : decode cX8_undo 1 = .ok (.iconst 0, 1) := by decide +kernel
theorem dX8_undo_2 : decode cX8_undo 2 = .ok (.putfield 103, 3) := by decide +kernel
theorem dX8_undo_5 : decode cX8_undo 5 = .ok (.aload_n 0, 1) := by decide +kernel
theorem dX8_undo_6 : decode cX8_undo 6 = .ok (.getfield 236, 3) := by decide +kernel
theorem dX8_undo_9 : decode cX8_undo 9 = .ok (.ifCond .ne 9, 3) := by decide +kernel
theorem dX8_undo_12 : decode cX8_undo 12 = .ok (.aload_n 0, 1) := by decide +kernel
theorem dX8_undo_13 : decode cX8_undo 13 = .ok (.iconst 1, 1) := by decide +kernel
theorem dX8_undo_14 : decode cX8_undo 14 = .ok (.invokevirtual 226, 3) := by decide +kernel
theorem dX8_undo_17 : decode cX8_undo 17 = .ok (.ireturn, 1) := by decide +kernel
theorem dX8_undo_18 : decode cX8_undo 18 = .ok (.aload_n 0, 1) := by decide +kernel
theorem dX8_undo_19 : decode cX8_undo 19 = .ok (.getfield 243, 3) := by decide +kernel
theorem dX8_undo_22 : decode cX8_undo 22 = .ok (.ifCond .ne 10, 3) := by decide +kernel
theorem dX8_undo_25 : decode cX8_undo 25 = .ok (.aload_n 0, 1) := by decide +kernel
theorem dX8_undo_26 : decode cX8_undo 26 = .ok (.bipush 6, 2) := by decide +kernel
theorem dX8_undo_28 : decode cX8_undo 28 = .ok (.invokevirtual 226, 3) := by decide +kernel
theorem dX8_undo_31 : decode cX8_undo 31 = .ok (.ireturn, 1) := by decide +kernel
theorem dX8_undo_32 : decode cX8_undo 32 = .ok (.aload_n 0, 1) := by decide +kernel
theorem dX8_undo_33 : decode cX8_undo 33 = .ok (.dup, 1) := by decide +kernel
theorem dX8_undo_34 : decode cX8_undo 34 = .ok (.getfield 243, 3) := by decide +kernel
theorem dX8_undo_37 : decode cX8_undo 37 = .ok (.iconst 1, 1) := by decide +kernel
theorem dX8_undo_38 : decode cX8_undo 38 = .ok (.isub, 1) := by decide +kernel
theorem dX8_undo_39 : decode cX8_undo 39 = .ok (.putfield 243, 3) := by decide +kernel
theorem dX8_undo_42 : decode cX8_undo 42 = .ok (.aload_n 0, 1) := by decide +kernel
theorem dX8_undo_43 : decode cX8_undo 43 = .ok (.getfield 26, 3) := by decide +kernel
theorem dX8_undo_46 : decode cX8_undo 46 = .ok (.sipush 188, 3) := by decide +kernel
theorem dX8_undo_49 : decode cX8_undo 49 = .ok (.aload_n 0, 1) := by decide +kernel
theorem dX8_undo_50 : decode cX8_undo 50 = .ok (.getfield 243, 3) := by decide +kernel
theorem dX8_undo_53 : decode cX8_undo 53 = .ok (.imul, 1) := by decide +kernel
theorem dX8_undo_54 : decode cX8_undo 54 = .ok (.aload_n 0, 1) := by decide +kernel
theorem dX8_undo_55 : decode cX8_undo 55 = .ok (.getfield 17, 3) := by decide +kernel
theorem dX8_undo_58 : decode cX8_undo 58 = .ok (.iconst 0, 1) := by decide +kernel
theorem dX8_undo_59 : decode cX8_undo 59 = .ok (.invokestatic 232, 3) := by decide +kernel
theorem dX8_undo_62 : decode cX8_undo 62 = .ok (.aload_n 0, 1) := by decide +kernel
theorem dX8_undo_63 : decode cX8_undo 63 = .ok (.aload_n 0, 1) := by decide +kernel
theorem dX8_undo_64 : decode cX8_undo 64 = .ok (.getfield 243, 3) := by decide +kernel
theorem dX8_undo_67 : decode cX8_undo 67 = .ok (.invokevirtual 246, 3) := by decide +kernel
theorem dX8_undo_70 : decode cX8_undo 70 = .ok (.ireturn, 1) := by decide +kernel
theorem dX8_save_0 : decode cX8_save 0 = .ok (.aload_n 0, 1) := by decide +kernel
theorem dX8_save_1 : decode cX8_save 1 = .ok (.iconst 0, 1) := by decide +kernel
theorem dX8_save_2 : decode cX8_save 2 = .ok (.putfield 103, 3) := by decide +kernel
theorem dX8_save_5 : decode cX8_save 5 = .ok (.aload_n 0, 1) := by decide +kernel
theorem dX8_save_6 : decode cX8_save 6 = .ok (.getfield 236, 3) := by decide +kernel
theorem dX8_save_9 : decode cX8_save 9 = .ok (.ifCond .ne 9, 3) := by decide +kernel
theorem dX8_save_12 : decode cX8_save 12 = .ok (.aload_n 0, 1) := by decide +kernel
theorem dX8_save_13 : decode cX8_save 13 = .ok (.iconst 1, 1) := by decide +kernel
theorem dX8_save_14 : decode cX8_save 14 = .ok (.invokevirtual 226, 3) := by decide +kernel
theorem dX8_save_17 : decode cX8_save 17 = .ok (.ireturn, 1) := by decide +kernel
theorem dX8_save_18 : decode cX8_save 18 = .ok (.aload_n 0, 1) := by decide +kernel
theorem dX8_save_19 : decode cX8_save 19 = .ok (.getfield 17, 3) := by decide +kernel
theorem dX8_save_22 : decode cX8_save 22 = .ok (.iconst 0, 1) := by decide +kernel
theorem dX8_save_23 : decode cX8_save 23 = .ok (.aload_n 0, 1) := by decide +kernel
theorem dX8_save_24 : decode cX8_save 24 = .ok (.getfield 23, 3) := by decide +kernel
theorem dX8_save_27 : decode cX8_save 27 = .ok (.iconst 0, 1) := by decide +kernel
theorem dX8_save_28 : decode cX8_save 28 = .ok (.invokestatic 232, 3) := by decide +kernel
theorem dX8_save_31 : decode cX8_save 31 = .ok (.aload_n 0, 1) := by decide +kernel
theorem dX8_save_32 : decode cX8_save 32 = .ok (.iconst 1, 1) := by decide +kernel
theorem dX8_save_33 : decode cX8_save 33 = .ok (.putfield 240, 3) := by decide +kernel
theorem dX8_save_36 : decode cX8_save 36 = .ok (.aload_n 0, 1) := by decide +kernel
theorem dX8_save_37 : decode cX8_save 37 = .ok (.iconst 0, 1) := by decide +kernel
theorem dX8_save_38 : decode cX8_save 38 = .ok (.invokevirtual 246, 3) := by decide +kernel
theorem dX8_save_41 : decode cX8_save 41 = .ok (.ireturn, 1) := by decide +kernel
theorem dX8_restore_0 : decode cX8_restore 0 = .ok (.aload_n 0, 1) := by decide +kernel
theorem dX8_restore_1 : decode cX8_restore 1 = .ok (.iconst 0, 1) := by decide +kernel
theorem dX8_restore_2 : decode cX8_restore 2 = .ok (.putfield 103, 3) := by decide +kernel
theorem dX8_restore_5 : decode cX8_restore 5 = .ok (.aload_n 0, 1) := by decide +kernel
theorem dX8_restore_6 : decode cX8_restore 6 = .ok (.getfield 236, 3) := by decide +kernel
theorem dX8_restore_9 : decode cX8_restore 9 = .ok (.ifCond .ne 9, 3) := by decide +kernel
theorem dX8_restore_12 : decode cX8_restore 12 = .ok (.aload_n 0, 1) := by decide +kernel
theorem dX8_restore_13 : decode cX8_restore 13 = .ok (.iconst 1, 1) := by decide +kernel
theorem dX8_restore_14 : decode cX8_restore 14 = .ok (.invokevirtual 226, 3) := by decide +kernel
theorem dX8_restore_17 : decode cX8_restore 17 = .ok (.ireturn, 1) := by decide +kernel
theorem dX8_restore_18 : decode cX8_restore 18 = .ok (.aload_n 0, 1) := by decide +kernel
theorem dX8_restore_19 : decode cX8_restore 19 = .ok (.getfield 240, 3) := by decide +kernel
theorem dX8_restore_22 : decode cX8_restore 22 = .ok (.ifCond .ne 10, 3) := by decide +kernel
theorem dX8_restore_25 : decode cX8_restore 25 = .ok (.aload_n 0, 1) := by decide +kernel
theorem dX8_restore_26 : decode cX8_restore 26 = .ok (.bipush 6, 2) := by decide +kernel
theorem dX8_restore_28 : decode cX8_restore 28 = .ok (.invokevirtual 226, 3) := by decide +kernel
theorem dX8_restore_31 : decode cX8_restore 31 = .ok (.ireturn, 1) := by decide +kernel
theorem dX8_restore_32 : decode cX8_restore 32 = .ok (.aload_n 0, 1) := by decide +kernel
theorem dX8_restore_33 : decode cX8_restore 33 = .ok (.getfield 23, 3) := by decide +kernel
theorem dX8_restore_36 : decode cX8_restore 36 = .ok (.iconst 0, 1) := by decide +kernel
theorem dX8_restore_37 : decode cX8_restore 37 = .ok (.aload_n 0, 1) := by decide +kernel
theorem dX8_restore_38 : decode cX8_restore 38 = .ok (.getfield 17, 3) := by decide +kernel
theorem dX8_restore_41 : decode cX8_restore 41 = .ok (.iconst 0, 1) := by decide +kernel
theorem dX8_restore_42 : decode cX8_restore 42 = .ok (.invokestatic 232, 3) := by decide +kernel
theorem dX8_restore_45 : decode cX8_restore 45 = .ok (.aload_n 0, 1) := by decide +kernel
theorem dX8_restore_46 : decode cX8_restore 46 = .ok (.iconst 0, 1) := by decide +kernel
theorem dX8_restore_47 : decode cX8_restore 47 = .ok (.putfield 243, 3) := by decide +kernel
theorem dX8_restore_50 : decode cX8_restore 50 = .ok (.aload_n 0, 1) := by decide +kernel
theorem dX8_restore_51 : decode cX8_restore 51 = .ok (.aload_n 0, 1) := by decide +kernel
theorem dX8_restore_52 : decode cX8_restore 52 = .ok (.getfield 17, 3) := by decide +kernel
theorem dX8_restore_55 : decode cX8_restore 55 = .ok (.bipush 87, 2) := by decide +kernel
theorem dX8_restore_57 : decode cX8_restore 57 = .ok (.iaload, 1) := by decide +kernel
theorem dX8_restore_58 : decode cX8_restore 58 = .ok (.invokevirtual 246, 3) := by decide +kernel
theorem dX8_restore_61 : decode cX8_restore 61 = .ok (.ireturn, 1) := by decide +kernel
theorem dX8_served_0 : decode cX8_served 0 = .ok (.aload_n 0, 1) := by decide +kernel
theorem dX8_served_1 : decode cX8_served 1 = .ok (.iconst 0, 1) := by decide +kernel
theorem dX8_served_2 : decode cX8_served 2 = .ok (.putfield 103, 3) := by decide +kernel
theorem dX8_served_5 : decode cX8_served 5 = .ok (.aload_n 0, 1) := by decide +kernel
theorem dX8_served_6 : decode cX8_served 6 = .ok (.getfield 236, 3) := by decide +kernel
theorem dX8_served_9 : decode cX8_served 9 = .ok (.ifCond .eq 7, 3) := by decide +kernel
theorem dX8_served_12 : decode cX8_served 12 = .ok (.aload_n 0, 1) := by decide +kernel
theorem dX8_served_13 : decode cX8_served 13 = .ok (.invokevirtual 317, 3) := by decide +kernel
theorem dX8_served_16 : decode cX8_served 16 = .ok (.iload_n 1, 1) := by decide +kernel
theorem dX8_served_17 : decode cX8_served 17 = .ok (.istore_n 2, 1) := by decide +kernel
theorem dX8_served_18 : decode cX8_served 18 = .ok (.iconst 0, 1) := by decide +kernel
theorem dX8_served_19 : decode cX8_served 19 = .ok (.istore_n 3, 1) := by decide +kernel
theorem dX8_served_20 : decode cX8_served 20 = .ok (.aload_n 0, 1) := by decide +kernel
theorem dX8_served_21 : decode cX8_served 21 = .ok (.getfield 236, 3) := by decide +kernel
theorem dX8_served_24 : decode cX8_served 24 = .ok (.ifCond .eq 45, 3) := by decide +kernel
theorem dX8_served_27 : decode cX8_served 27 = .ok (.iload_n 3, 1) := by decide +kernel
theorem dX8_served_28 : decode cX8_served 28 = .ok (.aload_n 0, 1) := by decide +kernel
theorem dX8_served_29 : decode cX8_served 29 = .ok (.getfield 17, 3) := by decide +kernel
theorem dX8_served_32 : decode cX8_served 32 = .ok (.bipush 87, 2) := by decide +kernel
theorem dX8_served_34 : decode cX8_served 34 = .ok (.iaload, 1) := by decide +kernel
theorem dX8_served_35 : decode cX8_served 35 = .ok (.if_icmp .ge 34, 3) := by decide +kernel
theorem dX8_served_38 : decode cX8_served 38 = .ok (.iload_n 1, 1) := by decide +kernel
theorem dX8_served_39 : decode cX8_served 39 = .ok (.ifCond .lt 30, 3) := by decide +kernel
theorem dX8_served_42 : decode cX8_served 42 = .ok (.aload_n 0, 1) := by decide +kernel
theorem dX8_served_43 : decode cX8_served 43 = .ok (.getfield 76, 3) := by decide +kernel
theorem dX8_served_46 : decode cX8_served 46 = .ok (.iload_n 3, 1) := by decide +kernel
theorem dX8_served_47 : decode cX8_served 47 = .ok (.iaload, 1) := by decide +kernel
theorem dX8_served_48 : decode cX8_served 48 = .ok (.ifCond .ne 6, 3) := by decide +kernel
theorem dX8_served_51 : decode cX8_served 51 = .ok (.goto 12, 3) := by decide +kernel
theorem dX8_served_54 : decode cX8_served 54 = .ok (.iload_n 2, 1) := by decide +kernel
theorem dX8_served_55 : decode cX8_served 55 = .ok (.ifCond .ne 5, 3) := by decide +kernel
theorem dX8_served_58 : decode cX8_served 58 = .ok (.iload_n 3, 1) := by decide +kernel
theorem dX8_served_59 : decode cX8_served 59 = .ok (.ireturn, 1) := by decide +kernel
theorem dX8_served_60 : decode cX8_served 60 = .ok (.iinc 2 (-1), 3) := by decide +kernel
theorem dX8_served_63 : decode cX8_served 63 = .ok (.iinc 3 1, 3) := by decide +kernel
theorem dX8_served_66 : decode cX8_served 66 = .ok (.goto (-46), 3) := by decide +kernel
theorem dX8_served_69 : decode cX8_served 69 = .ok (.aload_n 0, 1) := by decide +kernel
theorem dX8_served_70 : decode cX8_served 70 = .ok (.iconst 1, 1) := by decide +kernel
theorem dX8_served_71 : decode cX8_served 71 = .ok (.putfield 103, 3) := by decide +kernel
theorem dX8_served_74 : decode cX8_served 74 = .ok (.iconst 0, 1) := by decide +kernel
theorem dX8_served_75 : decode cX8_served 75 = .ok (.ireturn, 1) := by decide +kernel
