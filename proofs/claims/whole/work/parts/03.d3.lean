theorem dX10_init_0 : decode cX10_init 0 = .ok (.aload_n 0, 1) := by decide +kernel
theorem dX10_init_1 : decode cX10_init 1 = .ok (.invokespecial 1, 3) := by decide +kernel
theorem dX10_init_4 : decode cX10_init 4 = .ok (.aload_n 0, 1) := by decide +kernel
theorem dX10_init_5 : decode cX10_init 5 = .ok (.bipush 12, 2) := by decide +kernel
theorem dX10_init_7 : decode cX10_init 7 = .ok (.newarray .int, 2) := by decide +kernel
theorem dX10_init_9 : decode cX10_init 9 = .ok (.putfield 7, 3) := by decide +kernel
theorem dX10_init_12 : decode cX10_init 12 = .ok (.aload_n 0, 1) := by decide +kernel
theorem dX10_init_13 : decode cX10_init 13 = .ok (.bipush 12, 2) := by decide +kernel
theorem dX10_init_15 : decode cX10_init 15 = .ok (.newarray .int, 2) := by decide +kernel
theorem dX10_init_17 : decode cX10_init 17 = .ok (.putfield 13, 3) := by decide +kernel
theorem dX10_init_20 : decode cX10_init 20 = .ok (.aload_n 0, 1) := by decide +kernel
theorem dX10_init_21 : decode cX10_init 21 = .ok (.bipush 12, 2) := by decide +kernel
theorem dX10_init_23 : decode cX10_init 23 = .ok (.newarray .int, 2) := by decide +kernel
theorem dX10_init_25 : decode cX10_init 25 = .ok (.putfield 16, 3) := by decide +kernel
theorem dX10_init_28 : decode cX10_init 28 = .ok (.aload_n 0, 1) := by decide +kernel
theorem dX10_init_29 : decode cX10_init 29 = .ok (.bipush 48, 2) := by decide +kernel
theorem dX10_init_31 : decode cX10_init 31 = .ok (.newarray .int, 2) := by decide +kernel
theorem dX10_init_33 : decode cX10_init 33 = .ok (.putfield 19, 3) := by decide +kernel
theorem dX10_init_36 : decode cX10_init 36 = .ok (.aload_n 0, 1) := by decide +kernel
theorem dX10_init_37 : decode cX10_init 37 = .ok (.bipush 50, 2) := by decide +kernel
theorem dX10_init_39 : decode cX10_init 39 = .ok (.newarray .int, 2) := by decide +kernel
theorem dX10_init_41 : decode cX10_init 41 = .ok (.putfield 22, 3) := by decide +kernel
theorem dX10_init_44 : decode cX10_init 44 = .ok (.aload_n 0, 1) := by decide +kernel
theorem dX10_init_45 : decode cX10_init 45 = .ok (.bipush 50, 2) := by decide +kernel
theorem dX10_init_47 : decode cX10_init 47 = .ok (.newarray .int, 2) := by decide +kernel
theorem dX10_init_49 : decode cX10_init 49 = .ok (.putfield 25, 3) := by decide +kernel
theorem dX10_init_52 : decode cX10_init 52 = .ok (.aload_n 0, 1) := by decide +kernel
theorem dX10_init_53 : decode cX10_init 53 = .ok (.bipush 50, 2) := by decide +kernel
theorem dX10_init_55 : decode cX10_init 55 = .ok (.newarray .int, 2) := by decide +kernel
theorem dX10_init_57 : decode cX10_init 57 = .ok (.putfield 28, 3) := by decide +kernel
theorem dX10_init_60 : decode cX10_init 60 = .ok (.aload_n 0, 1) := by decide +kernel
theorem dX10_init_61 : decode cX10_init 61 = .ok (.bipush 50, 2) := by decide +kernel
theorem dX10_init_63 : decode cX10_init 63 = .ok (.newarray .int, 2) := by decide +kernel
theorem dX10_init_65 : decode cX10_init 65 = .ok (.putfield 31, 3) := by decide +kernel
theorem dX10_init_68 : decode cX10_init 68 = .ok (.aload_n 0, 1) := by decide +kernel
theorem dX10_init_69 : decode cX10_init 69 = .ok (.bipush 12, 2) := by decide +kernel
theorem dX10_init_71 : decode cX10_init 71 = .ok (.newarray .int, 2) := by decide +kernel
theorem dX10_init_73 : decode cX10_init 73 = .ok (.putfield 34, 3) := by decide +kernel
theorem dX10_init_76 : decode cX10_init 76 = .ok (.aload_n 0, 1) := by decide +kernel
theorem dX10_init_77 : decode cX10_init 77 = .ok (.bipush 12, 2) := by decide +kernel
theorem dX10_init_79 : decode cX10_init 79 = .ok (.newarray .int, 2) := by decide +kernel
theorem dX10_init_81 : decode cX10_init 81 = .ok (.putfield 37, 3) := by decide +kernel
theorem dX10_init_84 : decode cX10_init 84 = .ok (.aload_n 0, 1) := by decide +kernel
theorem dX10_init_85 : decode cX10_init 85 = .ok (.bipush 12, 2) := by decide +kernel
theorem dX10_init_87 : decode cX10_init 87 = .ok (.newarray .long, 2) := by decide +kernel
theorem dX10_init_89 : decode cX10_init 89 = .ok (.putfield 40, 3) := by decide +kernel
theorem dX10_init_92 : decode cX10_init 92 = .ok (.aload_n 0, 1) := by decide +kernel
theorem dX10_init_93 : decode cX10_init 93 = .ok (.bipush 12, 2) := by decide +kernel
theorem dX10_init_95 : decode cX10_init 95 = .ok (.newarray .int, 2) := by decide +kernel
theorem dX10_init_97 : decode cX10_init 97 = .ok (.putfield 44, 3) := by decide +kernel
theorem dX10_init_100 : decode cX10_init 100 = .ok (.aload_n 0, 1) := by decide +kernel
theorem dX10_init_101 : decode cX10_init 101 = .ok (.bipush 12, 2) := by decide +kernel
theorem dX10_init_103 : decode cX10_init 103 = .ok (.newarray .int, 2) := by decide +kernel
theorem dX10_init_105 : decode cX10_init 105 = .ok (.putfield 47, 3) := by decide +kernel
theorem dX10_init_108 : decode cX10_init 108 = .ok (.aload_n 0, 1) := by decide +kernel
theorem dX10_init_109 : decode cX10_init 109 = .ok (.bipush 12, 2) := by decide +kernel
theorem dX10_init_111 : decode cX10_init 111 = .ok (.newarray .int, 2) := by decide +kernel
theorem dX10_init_113 : decode cX10_init 113 = .ok (.putfield 50, 3) := by decide +kernel
theorem dX10_init_116 : decode cX10_init 116 = .ok (.aload_n 0, 1) := by decide +kernel
theorem dX10_init_117 : decode cX10_init 117 = .ok (.bipush 12, 2) := by decide +kernel
theorem dX10_init_119 : decode cX10_init 119 = .ok (.newarray .boolean, 2) := by decide +kernel
theorem dX10_init_121 : decode cX10_init 121 = .ok (.putfield 53, 3) := by decide +kernel
theorem dX10_init_124 : decode cX10_init 124 = .ok (.aload_n 0, 1) := by decide +kernel
theorem dX10_init_125 : decode cX10_init 125 = .ok (.bipush 12, 2) := by decide +kernel
theorem dX10_init_127 : decode cX10_init 127 = .ok (.newarray .int, 2) := by decide +kernel
theorem dX10_init_129 : decode cX10_init 129 = .ok (.putfield 57, 3) := by decide +kernel
theorem dX10_init_132 : decode cX10_init 132 = .ok (.aload_n 0, 1) := by decide +kernel
theorem dX10_init_133 : decode cX10_init 133 = .ok (.bipush 12, 2) := by decide +kernel
theorem dX10_init_135 : decode cX10_init 135 = .ok (.newarray .int, 2) := by decide +kernel
theorem dX10_init_137 : decode cX10_init 137 = .ok (.putfield 60, 3) := by decide +kernel
theorem dX10_init_140 : decode cX10_init 140 = .ok (.aload_n 0, 1) := by decide +kernel
theorem dX10_init_141 : decode cX10_init 141 = .ok (.bipush 50, 2) := by decide +kernel
theorem dX10_init_143 : decode cX10_init 143 = .ok (.newarray .int, 2) := by decide +kernel
theorem dX10_init_145 : decode cX10_init 145 = .ok (.putfield 63, 3) := by decide +kernel
theorem dX10_init_148 : decode cX10_init 148 = .ok (.aload_n 0, 1) := by decide +kernel
theorem dX10_init_149 : decode cX10_init 149 = .ok (.bipush 48, 2) := by decide +kernel
theorem dX10_init_151 : decode cX10_init 151 = .ok (.newarray .int, 2) := by decide +kernel
theorem dX10_init_153 : decode cX10_init 153 = .ok (.putfield 66, 3) := by decide +kernel
theorem dX10_init_156 : decode cX10_init 156 = .ok (.aload_n 0, 1) := by decide +kernel
theorem dX10_init_157 : decode cX10_init 157 = .ok (.bipush 12, 2) := by decide +kernel
theorem dX10_init_159 : decode cX10_init 159 = .ok (.newarray .int, 2) := by decide +kernel
theorem dX10_init_161 : decode cX10_init 161 = .ok (.putfield 69, 3) := by decide +kernel
theorem dX10_init_164 : decode cX10_init 164 = .ok (.aload_n 0, 1) := by decide +kernel
theorem dX10_init_165 : decode cX10_init 165 = .ok (.bipush 6, 2) := by decide +kernel
theorem dX10_init_167 : decode cX10_init 167 = .ok (.newarray .int, 2) := by decide +kernel
theorem dX10_init_169 : decode cX10_init 169 = .ok (.putfield 72, 3) := by decide +kernel
theorem dX10_init_172 : decode cX10_init 172 = .ok (.aload_n 0, 1) := by decide +kernel
theorem dX10_init_173 : decode cX10_init 173 = .ok (.bipush 6, 2) := by decide +kernel
theorem dX10_init_175 : decode cX10_init 175 = .ok (.newarray .int, 2) := by decide +kernel
theorem dX10_init_177 : decode cX10_init 177 = .ok (.putfield 75, 3) := by decide +kernel
theorem dX10_init_180 : decode cX10_init 180 = .ok (.aload_n 0, 1) := by decide +kernel
theorem dX10_init_181 : decode cX10_init 181 = .ok (.bipush 6, 2) := by decide +kernel
theorem dX10_init_183 : decode cX10_init 183 = .ok (.newarray .boolean, 2) := by decide +kernel
theorem dX10_init_185 : decode cX10_init 185 = .ok (.putfield 78, 3) := by decide +kernel
theorem dX10_init_188 : decode cX10_init 188 = .ok (.aload_n 0, 1) := by decide +kernel
theorem dX10_init_189 : decode cX10_init 189 = .ok (.bipush 72, 2) := by decide +kernel
theorem dX10_init_191 : decode cX10_init 191 = .ok (.newarray .int, 2) := by decide +kernel
theorem dX10_init_193 : decode cX10_init 193 = .ok (.putfield 81, 3) := by decide +kernel
theorem dX10_init_196 : decode cX10_init 196 = .ok (.aload_n 0, 1) := by decide +kernel
theorem dX10_init_197 : decode cX10_init 197 = .ok (.bipush 72, 2) := by decide +kernel
theorem dX10_init_199 : decode cX10_init 199 = .ok (.newarray .int, 2) := by decide +kernel
theorem dX10_init_201 : decode cX10_init 201 = .ok (.putfield 84, 3) := by decide +kernel
theorem dX10_init_204 : decode cX10_init 204 = .ok (.aload_n 0, 1) := by decide +kernel
theorem dX10_init_205 : decode cX10_init 205 = .ok (.bipush 12, 2) := by decide +kernel
theorem dX10_init_207 : decode cX10_init 207 = .ok (.newarray .int, 2) := by decide +kernel
theorem dX10_init_209 : decode cX10_init 209 = .ok (.putfield 87, 3) := by decide +kernel
theorem dX10_init_212 : decode cX10_init 212 = .ok (.iconst 0, 1) := by decide +kernel
theorem dX10_init_213 : decode cX10_init 213 = .ok (.istore_n 1, 1) := by decide +kernel
theorem dX10_init_214 : decode cX10_init 214 = .ok (.iload_n 1, 1) := by decide +kernel
theorem dX10_init_215 : decode cX10_init 215 = .ok (.bipush 48, 2) := by decide +kernel
theorem dX10_init_217 : decode cX10_init 217 = .ok (.if_icmp .ge 39, 3) := by decide +kernel
theorem dX10_init_220 : decode cX10_init 220 = .ok (.aload_n 0, 1) := by decide +kernel
theorem dX10_init_221 : decode cX10_init 221 = .ok (.getfield 66, 3) := by decide +kernel
theorem dX10_init_224 : decode cX10_init 224 = .ok (.iload_n 1, 1) := by decide +kernel
theorem dX10_init_225 : decode cX10_init 225 = .ok (.ldc 90, 2) := by decide +kernel
theorem dX10_init_227 : decode cX10_init 227 = .ok (.iastore, 1) := by decide +kernel
theorem dX10_init_228 : decode cX10_init 228 = .ok (.aload_n 0, 1) := by decide +kernel
theorem dX10_init_229 : decode cX10_init 229 = .ok (.getfield 87, 3) := by decide +kernel
theorem dX10_init_232 : decode cX10_init 232 = .ok (.iload_n 1, 1) := by decide +kernel
theorem dX10_init_233 : decode cX10_init 233 = .ok (.bipush 12, 2) := by decide +kernel
theorem dX10_init_235 : decode cX10_init 235 = .ok (.irem, 1) := by decide +kernel
theorem dX10_init_236 : decode cX10_init 236 = .ok (.ldc 90, 2) := by decide +kernel
theorem dX10_init_238 : decode cX10_init 238 = .ok (.iastore, 1) := by decide +kernel
theorem dX10_init_239 : decode cX10_init 239 = .ok (.aload_n 0, 1) := by decide +kernel
theorem dX10_init_240 : decode cX10_init 240 = .ok (.getfield 50, 3) := by decide +kernel
theorem dX10_init_243 : decode cX10_init 243 = .ok (.iload_n 1, 1) := by decide +kernel
theorem dX10_init_244 : decode cX10_init 244 = .ok (.bipush 12, 2) := by decide +kernel
theorem dX10_init_246 : decode cX10_init 246 = .ok (.irem, 1) := by decide +kernel
theorem dX10_init_247 : decode cX10_init 247 = .ok (.ldc 90, 2) := by decide +kernel
theorem dX10_init_249 : decode cX10_init 249 = .ok (.iastore, 1) := by decide +kernel
theorem dX10_init_250 : decode cX10_init 250 = .ok (.iinc 1 1, 3) := by decide +kernel
theorem dX10_init_253 : decode cX10_init 253 = .ok (.goto (-39), 3) := by decide +kernel
theorem dX10_init_256 : decode cX10_init 256 = .ok (.aload_n 0, 1) := by decide +kernel
theorem dX10_init_257 : decode cX10_init 257 = .ok (.iconst 0, 1) := by decide +kernel
theorem dX10_init_258 : decode cX10_init 258 = .ok (.putfield 91, 3) := by decide +kernel
theorem dX10_init_261 : decode cX10_init 261 = .ok (.return_, 1) := by decide +kernel
theorem dX10_in_0 : decode cX10_in 0 = .ok (.iload_n 0, 1) := by decide +kernel
theorem dX10_in_1 : decode cX10_in 1 = .ok (.iload_n 1, 1) := by decide +kernel
theorem dX10_in_2 : decode cX10_in 2 = .ok (.if_icmp .lt 12, 3) := by decide +kernel
theorem dX10_in_5 : decode cX10_in 5 = .ok (.iload_n 0, 1) := by decide +kernel
theorem dX10_in_6 : decode cX10_in 6 = .ok (.iload_n 2, 1) := by decide +kernel
theorem dX10_in_7 : decode cX10_in 7 = .ok (.if_icmp .gt 7, 3) := by decide +kernel
theorem dX10_in_10 : decode cX10_in 10 = .ok (.iconst 1, 1) := by decide +kernel
theorem dX10_in_11 : decode cX10_in 11 = .ok (.goto 4, 3) := by decide +kernel
theorem dX10_in_14 : decode cX10_in 14 = .ok (.iconst 0, 1) := by decide +kernel
theorem dX10_in_15 : decode cX10_in 15 = .ok (.ireturn, 1) := by decide +kernel
theorem dX10_noField_0 : decode cX10_noField 0 = .ok (.iload_n 1, 1) := by decide +kernel
theorem dX10_noField_1 : decode cX10_noField 1 = .ok (.iconst 0, 1) := by decide +kernel
theorem dX10_noField_2 : decode cX10_noField 2 = .ok (.aload_n 0, 1) := by decide +kernel
theorem dX10_noField_3 : decode cX10_noField 3 = .ok (.getfield 95, 3) := by decide +kernel
theorem dX10_noField_6 : decode cX10_noField 6 = .ok (.iconst 1, 1) := by decide +kernel
theorem dX10_noField_7 : decode cX10_noField 7 = .ok (.isub, 1) := by decide +kernel
theorem dX10_noField_8 : decode cX10_noField 8 = .ok (.invokestatic 99, 3) := by decide +kernel
theorem dX10_noField_11 : decode cX10_noField 11 = .ok (.ifCond .ne 7, 3) := by decide +kernel
theorem dX10_noField_14 : decode cX10_noField 14 = .ok (.iconst 1, 1) := by decide +kernel
theorem dX10_noField_15 : decode cX10_noField 15 = .ok (.goto 4, 3) := by decide +kernel
theorem dX10_noField_18 : decode cX10_noField 18 = .ok (.iconst 0, 1) := by decide +kernel
theorem dX10_noField_19 : decode cX10_noField 19 = .ok (.ireturn, 1) := by decide +kernel
theorem dX10_noPart_0 : decode cX10_noPart 0 = .ok (.iload_n 1, 1) := by decide +kernel
theorem dX10_noPart_1 : decode cX10_noPart 1 = .ok (.iconst 0, 1) := by decide +kernel
theorem dX10_noPart_2 : decode cX10_noPart 2 = .ok (.aload_n 0, 1) := by decide +kernel
theorem dX10_noPart_3 : decode cX10_noPart 3 = .ok (.getfield 103, 3) := by decide +kernel
theorem dX10_noPart_6 : decode cX10_noPart 6 = .ok (.iconst 1, 1) := by decide +kernel
theorem dX10_noPart_7 : decode cX10_noPart 7 = .ok (.isub, 1) := by decide +kernel
theorem dX10_noPart_8 : decode cX10_noPart 8 = .ok (.invokestatic 99, 3) := by decide +kernel
theorem dX10_noPart_11 : decode cX10_noPart 11 = .ok (.ifCond .ne 7, 3) := by decide +kernel
theorem dX10_noPart_14 : decode cX10_noPart 14 = .ok (.iconst 1, 1) := by decide +kernel
theorem dX10_noPart_15 : decode cX10_noPart 15 = .ok (.goto 4, 3) := by decide +kernel
theorem dX10_noPart_18 : decode cX10_noPart 18 = .ok (.iconst 0, 1) := by decide +kernel
theorem dX10_noPart_19 : decode cX10_noPart 19 = .ok (.ireturn, 1) := by decide +kernel
theorem dX10_field_0 : decode cX10_field 0 = .ok (.iload_n 1, 1) := by decide +kernel
theorem dX10_field_1 : decode cX10_field 1 = .ok (.sipush (-1000), 3) := by decide +kernel
theorem dX10_field_4 : decode cX10_field 4 = .ok (.sipush 1000, 3) := by decide +kernel
theorem dX10_field_7 : decode cX10_field 7 = .ok (.invokestatic 99, 3) := by decide +kernel
theorem dX10_field_10 : decode cX10_field 10 = .ok (.ifCond .eq 23, 3) := by decide +kernel
theorem dX10_field_13 : decode cX10_field 13 = .ok (.iload_n 2, 1) := by decide +kernel
theorem dX10_field_14 : decode cX10_field 14 = .ok (.iload_n 1, 1) := by decide +kernel
theorem dX10_field_15 : decode cX10_field 15 = .ok (.sipush 1000, 3) := by decide +kernel
theorem dX10_field_18 : decode cX10_field 18 = .ok (.invokestatic 99, 3) := by decide +kernel
theorem dX10_field_21 : decode cX10_field 21 = .ok (.ifCond .eq 12, 3) := by decide +kernel
theorem dX10_field_24 : decode cX10_field 24 = .ok (.iload_n 3, 1) := by decide +kernel
theorem dX10_field_25 : decode cX10_field 25 = .ok (.iconst 0, 1) := by decide +kernel
theorem dX10_field_26 : decode cX10_field 26 = .ok (.iconst 1, 1) := by decide +kernel
theorem dX10_field_27 : decode cX10_field 27 = .ok (.invokestatic 99, 3) := by decide +kernel
theorem dX10_field_30 : decode cX10_field 30 = .ok (.ifCond .ne 6, 3) := by decide +kernel
theorem dX10_field_33 : decode cX10_field 33 = .ok (.bipush (-2), 2) := by decide +kernel
theorem dX10_field_35 : decode cX10_field 35 = .ok (.ireturn, 1) := by decide +kernel
theorem dX10_field_36 : decode cX10_field 36 = .ok (.aload_n 0, 1) := by decide +kernel
theorem dX10_field_37 : decode cX10_field 37 = .ok (.getfield 95, 3) := by decide +kernel
theorem dX10_field_40 : decode cX10_field 40 = .ok (.bipush 12, 2) := by decide +kernel
theorem dX10_field_42 : decode cX10_field 42 = .ok (.if_icmp .ne 6, 3) := by decide +kernel
theorem dX10_field_45 : decode cX10_field 45 = .ok (.bipush (-4), 2) := by decide +kernel
theorem dX10_field_47 : decode cX10_field 47 = .ok (.ireturn, 1) := by decide +kernel
theorem dX10_field_48 : decode cX10_field 48 = .ok (.aload_n 0, 1) := by decide +kernel
theorem dX10_field_49 : decode cX10_field 49 = .ok (.getfield 7, 3) := by decide +kernel
theorem dX10_field_52 : decode cX10_field 52 = .ok (.aload_n 0, 1) := by decide +kernel
theorem dX10_field_53 : decode cX10_field 53 = .ok (.getfield 95, 3) := by decide +kernel
theorem dX10_field_56 : decode cX10_field 56 = .ok (.iload_n 1, 1) := by decide +kernel
theorem dX10_field_57 : decode cX10_field 57 = .ok (.iastore, 1) := by decide +kernel
theorem dX10_field_58 : decode cX10_field 58 = .ok (.aload_n 0, 1) := by decide +kernel
theorem dX10_field_59 : decode cX10_field 59 = .ok (.getfield 13, 3) := by decide +kernel
theorem dX10_field_62 : decode cX10_field 62 = .ok (.aload_n 0, 1) := by decide +kernel
theorem dX10_field_63 : decode cX10_field 63 = .ok (.getfield 95, 3) := by decide +kernel
theorem dX10_field_66 : decode cX10_field 66 = .ok (.iload_n 2, 1) := by decide +kernel
theorem dX10_field_67 : decode cX10_field 67 = .ok (.iastore, 1) := by decide +kernel
theorem dX10_field_68 : decode cX10_field 68 = .ok (.aload_n 0, 1) := by decide +kernel
theorem dX10_field_69 : decode cX10_field 69 = .ok (.getfield 16, 3) := by decide +kernel
theorem dX10_field_72 : decode cX10_field 72 = .ok (.aload_n 0, 1) := by decide +kernel
theorem dX10_field_73 : decode cX10_field 73 = .ok (.getfield 95, 3) := by decide +kernel
theorem dX10_field_76 : decode cX10_field 76 = .ok (.iload_n 3, 1) := by decide +kernel
theorem dX10_field_77 : decode cX10_field 77 = .ok (.iastore, 1) := by decide +kernel
theorem dX10_field_78 : decode cX10_field 78 = .ok (.iconst 0, 1) := by decide +kernel
theorem dX10_field_79 : decode cX10_field 79 = .ok (.istore 4, 2) := by decide +kernel
theorem dX10_field_81 : decode cX10_field 81 = .ok (.iload 4, 2) := by decide +kernel
theorem dX10_field_83 : decode cX10_field 83 = .ok (.iconst 4, 1) := by decide +kernel
theorem dX10_field_84 : decode cX10_field 84 = .ok (.if_icmp .ge 25, 3) := by decide +kernel
theorem dX10_field_87 : decode cX10_field 87 = .ok (.aload_n 0, 1) := by decide +kernel
theorem dX10_field_88 : decode cX10_field 88 = .ok (.getfield 19, 3) := by decide +kernel
theorem dX10_field_91 : decode cX10_field 91 = .ok (.iconst 4, 1) := by decide +kernel
theorem dX10_field_92 : decode cX10_field 92 = .ok (.aload_n 0, 1) := by decide +kernel
theorem dX10_field_93 : decode cX10_field 93 = .ok (.getfield 95, 3) := by decide +kernel
theorem dX10_field_96 : decode cX10_field 96 = .ok (.imul, 1) := by decide +kernel
theorem dX10_field_97 : decode cX10_field 97 = .ok (.iload 4, 2) := by decide +kernel
theorem dX10_field_99 : decode cX10_field 99 = .ok (.iadd, 1) := by decide +kernel
theorem dX10_field_100 : decode cX10_field 100 = .ok (.bipush (-9), 2) := by decide +kernel
theorem dX10_field_102 : decode cX10_field 102 = .ok (.iastore, 1) := by decide +kernel
theorem dX10_field_103 : decode cX10_field 103 = .ok (.iinc 4 1, 3) := by decide +kernel
theorem dX10_field_106 : decode cX10_field 106 = .ok (.goto (-25), 3) := by decide +kernel
theorem dX10_field_109 : decode cX10_field 109 = .ok (.aload_n 0, 1) := by decide +kernel
theorem dX10_field_110 : decode cX10_field 110 = .ok (.dup, 1) := by decide +kernel
theorem dX10_field_111 : decode cX10_field 111 = .ok (.getfield 95, 3) := by decide +kernel
theorem dX10_field_114 : decode cX10_field 114 = .ok (.iconst 1, 1) := by decide +kernel
theorem dX10_field_115 : decode cX10_field 115 = .ok (.iadd, 1) := by decide +kernel
theorem dX10_field_116 : decode cX10_field 116 = .ok (.putfield 95, 3) := by decide +kernel
theorem dX10_field_119 : decode cX10_field 119 = .ok (.aload_n 0, 1) := by decide +kernel
theorem dX10_field_120 : decode cX10_field 120 = .ok (.iconst 0, 1) := by decide +kernel
theorem dX10_field_121 : decode cX10_field 121 = .ok (.putfield 91, 3) := by decide +kernel
theorem dX10_field_124 : decode cX10_field 124 = .ok (.aload_n 0, 1) := by decide +kernel
theorem dX10_field_125 : decode cX10_field 125 = .ok (.getfield 95, 3) := by decide +kernel
theorem dX10_field_128 : decode cX10_field 128 = .ok (.iconst 1, 1) := by decide +kernel
theorem dX10_field_129 : decode cX10_field 129 = .ok (.isub, 1) := by decide +kernel
theorem dX10_field_130 : decode cX10_field 130 = .ok (.ireturn, 1) := by decide +kernel
theorem dX10_partsOf_0 : decode cX10_partsOf 0 = .ok (.iload_n 0, 1) := by decide +kernel
theorem dX10_partsOf_1 : decode cX10_partsOf 1 = .ok (.bipush 11, 2) := by decide +kernel
theorem dX10_partsOf_3 : decode cX10_partsOf 3 = .ok (.if_icmp .ne 7, 3) := by decide +kernel
theorem dX10_partsOf_6 : decode cX10_partsOf 6 = .ok (.iconst 3, 1) := by decide +kernel
theorem dX10_partsOf_7 : decode cX10_partsOf 7 = .ok (.goto 28, 3) := by decide +kernel
theorem dX10_partsOf_10 : decode cX10_partsOf 10 = .ok (.iload_n 0, 1) := by decide +kernel
theorem dX10_partsOf_11 : decode cX10_partsOf 11 = .ok (.iconst 2, 1) := by decide +kernel
theorem dX10_partsOf_12 : decode cX10_partsOf 12 = .ok (.bipush 8, 2) := by decide +kernel
theorem dX10_partsOf_14 : decode cX10_partsOf 14 = .ok (.invokestatic 99, 3) := by decide +kernel
theorem dX10_partsOf_17 : decode cX10_partsOf 17 = .ok (.ifCond .eq 7, 3) := by decide +kernel
theorem dX10_partsOf_20 : decode cX10_partsOf 20 = .ok (.iconst 2, 1) := by decide +kernel
theorem dX10_partsOf_21 : decode cX10_partsOf 21 = .ok (.goto 14, 3) := by decide +kernel
theorem dX10_partsOf_24 : decode cX10_partsOf 24 = .ok (.iload_n 0, 1) := by decide +kernel
theorem dX10_partsOf_25 : decode cX10_partsOf 25 = .ok (.bipush 9, 2) := by decide +kernel
theorem dX10_partsOf_27 : decode cX10_partsOf 27 = .ok (.if_icmp .ne 7, 3) := by decide +kernel
theorem dX10_partsOf_30 : decode cX10_partsOf 30 = .ok (.iconst 1, 1) := by decide +kernel
theorem dX10_partsOf_31 : decode cX10_partsOf 31 = .ok (.goto 4, 3) := by decide +kernel
theorem dX10_partsOf_34 : decode cX10_partsOf 34 = .ok (.iconst 0, 1) := by decide +kernel
theorem dX10_partsOf_35 : decode cX10_partsOf 35 = .ok (.ireturn, 1) := by decide +kernel
theorem dX10_isOfField_0 : decode cX10_isOfField 0 = .ok (.iload_n 0, 1) := by decide +kernel
theorem dX10_isOfField_1 : decode cX10_isOfField 1 = .ok (.iconst 1, 1) := by decide +kernel
theorem dX10_isOfField_2 : decode cX10_isOfField 2 = .ok (.if_icmp .eq 9, 3) := by decide +kernel
theorem dX10_isOfField_5 : decode cX10_isOfField 5 = .ok (.iload_n 0, 1) := by decide +kernel
theorem dX10_isOfField_6 : decode cX10_isOfField 6 = .ok (.bipush 10, 2) := by decide +kernel
theorem dX10_isOfField_8 : decode cX10_isOfField 8 = .ok (.if_icmp .ne 7, 3) := by decide +kernel
theorem dX10_isOfField_11 : decode cX10_isOfField 11 = .ok (.iconst 1, 1) := by decide +kernel
theorem dX10_isOfField_12 : decode cX10_isOfField 12 = .ok (.goto 4, 3) := by decide +kernel
theorem dX10_isOfField_15 : decode cX10_isOfField 15 = .ok (.iconst 0, 1) := by decide +kernel
theorem dX10_isOfField_16 : decode cX10_isOfField 16 = .ok (.ireturn, 1) := by decide +kernel
theorem dX10_part_0 : decode cX10_part 0 = .ok (.iload_n 1, 1) := by decide +kernel
theorem dX10_part_1 : decode cX10_part 1 = .ok (.invokestatic 106, 3) := by decide +kernel
theorem dX10_part_4 : decode cX10_part 4 = .ok (.istore 5, 2) := by decide +kernel
theorem dX10_part_6 : decode cX10_part 6 = .ok (.iload_n 1, 1) := by decide +kernel
theorem dX10_part_7 : decode cX10_part 7 = .ok (.invokestatic 110, 3) := by decide +kernel
theorem dX10_part_10 : decode cX10_part 10 = .ok (.ifCond .eq 11, 3) := by decide +kernel
theorem dX10_part_13 : decode cX10_part 13 = .ok (.aload_n 0, 1) := by decide +kernel
theorem dX10_part_14 : decode cX10_part 14 = .ok (.iload_n 2, 1) := by decide +kernel
theorem dX10_part_15 : decode cX10_part 15 = .ok (.invokevirtual 114, 3) := by decide +kernel
theorem dX10_part_18 : decode cX10_part 18 = .ok (.ifCond .ne 45, 3) := by decide +kernel
theorem dX10_part_21 : decode cX10_part 21 = .ok (.iload 5, 2) := by decide +kernel
theorem dX10_part_23 : decode cX10_part 23 = .ok (.ifCond .le 11, 3) := by decide +kernel
theorem dX10_part_26 : decode cX10_part 26 = .ok (.aload_n 0, 1) := by decide +kernel
theorem dX10_part_27 : decode cX10_part 27 = .ok (.iload_n 2, 1) := by decide +kernel
theorem dX10_part_28 : decode cX10_part 28 = .ok (.invokevirtual 117, 3) := by decide +kernel
theorem dX10_part_31 : decode cX10_part 31 = .ok (.ifCond .ne 32, 3) := by decide +kernel
theorem dX10_part_34 : decode cX10_part 34 = .ok (.iload 5, 2) := by decide +kernel
theorem dX10_part_36 : decode cX10_part 36 = .ok (.iconst 1, 1) := by decide +kernel
theorem dX10_part_37 : decode cX10_part 37 = .ok (.if_icmp .le 11, 3) := by decide +kernel
theorem dX10_part_40 : decode cX10_part 40 = .ok (.aload_n 0, 1) := by decide +kernel
theorem dX10_part_41 : decode cX10_part 41 = .ok (.iload_n 3, 1) := by decide +kernel
theorem dX10_part_42 : decode cX10_part 42 = .ok (.invokevirtual 117, 3) := by decide +kernel
theorem dX10_part_45 : decode cX10_part 45 = .ok (.ifCond .ne 18, 3) := by decide +kernel
theorem dX10_part_48 : decode cX10_part 48 = .ok (.iload 5, 2) := by decide +kernel
theorem dX10_part_50 : decode cX10_part 50 = .ok (.iconst 2, 1) := by decide +kernel
theorem dX10_part_51 : decode cX10_part 51 = .ok (.if_icmp .le 14, 3) := by decide +kernel
theorem dX10_part_54 : decode cX10_part 54 = .ok (.aload_n 0, 1) := by decide +kernel
theorem dX10_part_55 : decode cX10_part 55 = .ok (.iload 4, 2) := by decide +kernel
theorem dX10_part_57 : decode cX10_part 57 = .ok (.invokevirtual 117, 3) := by decide +kernel
theorem dX10_part_60 : decode cX10_part 60 = .ok (.ifCond .eq 5, 3) := by decide +kernel
theorem dX10_part_63 : decode cX10_part 63 = .ok (.iconst (-1), 1) := by decide +kernel
theorem dX10_part_64 : decode cX10_part 64 = .ok (.ireturn, 1) := by decide +kernel
theorem dX10_part_65 : decode cX10_part 65 = .ok (.iload_n 1, 1) := by decide +kernel
theorem dX10_part_66 : decode cX10_part 66 = .ok (.iconst 0, 1) := by decide +kernel
theorem dX10_part_67 : decode cX10_part 67 = .ok (.bipush 11, 2) := by decide +kernel
theorem dX10_part_69 : decode cX10_part 69 = .ok (.invokestatic 99, 3) := by decide +kernel
theorem dX10_part_72 : decode cX10_part 72 = .ok (.ifCond .eq 18, 3) := by decide +kernel
theorem dX10_part_75 : decode cX10_part 75 = .ok (.iload_n 1, 1) := by decide +kernel
theorem dX10_part_76 : decode cX10_part 76 = .ok (.ifCond .ne 17, 3) := by decide +kernel
theorem dX10_part_79 : decode cX10_part 79 = .ok (.iload_n 2, 1) := by decide +kernel
theorem dX10_part_80 : decode cX10_part 80 = .ok (.ldc 120, 2) := by decide +kernel
theorem dX10_part_82 : decode cX10_part 82 = .ok (.ldc 121, 2) := by decide +kernel
theorem dX10_part_84 : decode cX10_part 84 = .ok (.invokestatic 99, 3) := by decide +kernel
theorem dX10_part_87 : decode cX10_part 87 = .ok (.ifCond .ne 6, 3) := by decide +kernel
theorem dX10_part_90 : decode cX10_part 90 = .ok (.bipush (-2), 2) := by decide +kernel
theorem dX10_part_92 : decode cX10_part 92 = .ok (.ireturn, 1) := by decide +kernel
theorem dX10_part_93 : decode cX10_part 93 = .ok (.aload_n 0, 1) := by decide +kernel
theorem dX10_part_94 : decode cX10_part 94 = .ok (.getfield 103, 3) := by decide +kernel
theorem dX10_part_97 : decode cX10_part 97 = .ok (.bipush 50, 2) := by decide +kernel
theorem dX10_part_99 : decode cX10_part 99 = .ok (.if_icmp .ne 6, 3) := by decide +kernel
theorem dX10_part_102 : decode cX10_part 102 = .ok (.bipush (-4), 2) := by decide +kernel
theorem dX10_part_104 : decode cX10_part 104 = .ok (.ireturn, 1) := by decide +kernel
theorem dX10_part_105 : decode cX10_part 105 = .ok (.aload_n 0, 1) := by decide +kernel
theorem dX10_part_106 : decode cX10_part 106 = .ok (.getfield 22, 3) := by decide +kernel
theorem dX10_part_109 : decode cX10_part 109 = .ok (.aload_n 0, 1) := by decide +kernel
theorem dX10_part_110 : decode cX10_part 110 = .ok (.getfield 103, 3) := by decide +kernel
theorem dX10_part_113 : decode cX10_part 113 = .ok (.iload_n 1, 1) := by decide +kernel
theorem dX10_part_114 : decode cX10_part 114 = .ok (.iastore, 1) := by decide +kernel
theorem dX10_part_115 : decode cX10_part 115 = .ok (.aload_n 0, 1) := by decide +kernel
theorem dX10_part_116 : decode cX10_part 116 = .ok (.getfield 25, 3) := by decide +kernel
theorem dX10_part_119 : decode cX10_part 119 = .ok (.aload_n 0, 1) := by decide +kernel
theorem dX10_part_120 : decode cX10_part 120 = .ok (.getfield 103, 3) := by decide +kernel
theorem dX10_part_123 : decode cX10_part 123 = .ok (.iload_n 2, 1) := by decide +kernel
theorem dX10_part_124 : decode cX10_part 124 = .ok (.iastore, 1) := by decide +kernel
theorem dX10_part_125 : decode cX10_part 125 = .ok (.aload_n 0, 1) := by decide +kernel
theorem dX10_part_126 : decode cX10_part 126 = .ok (.getfield 28, 3) := by decide +kernel
theorem dX10_part_129 : decode cX10_part 129 = .ok (.aload_n 0, 1) := by decide +kernel
theorem dX10_part_130 : decode cX10_part 130 = .ok (.getfield 103, 3) := by decide +kernel
theorem dX10_part_133 : decode cX10_part 133 = .ok (.iload_n 3, 1) := by decide +kernel
theorem dX10_part_134 : decode cX10_part 134 = .ok (.iastore, 1) := by decide +kernel
theorem dX10_part_135 : decode cX10_part 135 = .ok (.aload_n 0, 1) := by decide +kernel
theorem dX10_part_136 : decode cX10_part 136 = .ok (.getfield 31, 3) := by decide +kernel
theorem dX10_part_139 : decode cX10_part 139 = .ok (.aload_n 0, 1) := by decide +kernel
theorem dX10_part_140 : decode cX10_part 140 = .ok (.getfield 103, 3) := by decide +kernel
theorem dX10_part_143 : decode cX10_part 143 = .ok (.iload 4, 2) := by decide +kernel
theorem dX10_part_145 : decode cX10_part 145 = .ok (.iastore, 1) := by decide +kernel
theorem dX10_part_146 : decode cX10_part 146 = .ok (.aload_n 0, 1) := by decide +kernel
theorem dX10_part_147 : decode cX10_part 147 = .ok (.dup, 1) := by decide +kernel
theorem dX10_part_148 : decode cX10_part 148 = .ok (.getfield 103, 3) := by decide +kernel
theorem dX10_part_151 : decode cX10_part 151 = .ok (.iconst 1, 1) := by decide +kernel
theorem dX10_part_152 : decode cX10_part 152 = .ok (.iadd, 1) := by decide +kernel
theorem dX10_part_153 : decode cX10_part 153 = .ok (.putfield 103, 3) := by decide +kernel
theorem dX10_part_156 : decode cX10_part 156 = .ok (.aload_n 0, 1) := by decide +kernel
theorem dX10_part_157 : decode cX10_part 157 = .ok (.getfield 103, 3) := by decide +kernel
theorem dX10_part_160 : decode cX10_part 160 = .ok (.iconst 1, 1) := by decide +kernel
theorem dX10_part_161 : decode cX10_part 161 = .ok (.isub, 1) := by decide +kernel
theorem dX10_part_162 : decode cX10_part 162 = .ok (.ireturn, 1) := by decide +kernel
theorem dX10_reached_0 : decode cX10_reached 0 = .ok (.lconst 1, 1) := by decide +kernel
theorem dX10_reached_1 : decode cX10_reached 1 = .ok (.iload_n 1, 1) := by decide +kernel
theorem dX10_reached_2 : decode cX10_reached 2 = .ok (.lshl, 1) := by decide +kernel
theorem dX10_reached_3 : decode cX10_reached 3 = .ok (.lstore_n 2, 1) := by decide +kernel
theorem dX10_reached_4 : decode cX10_reached 4 = .ok (.iload_n 1, 1) := by decide +kernel
theorem dX10_reached_5 : decode cX10_reached 5 = .ok (.istore 4, 2) := by decide +kernel
theorem dX10_reached_7 : decode cX10_reached 7 = .ok (.iload 4, 2) := by decide +kernel
theorem dX10_reached_9 : decode cX10_reached 9 = .ok (.ifCond .lt 97, 3) := by decide +kernel
theorem dX10_reached_12 : decode cX10_reached 12 = .ok (.lload_n 2, 1) := by decide +kernel
theorem dX10_reached_13 : decode cX10_reached 13 = .ok (.iload 4, 2) := by decide +kernel
theorem dX10_reached_15 : decode cX10_reached 15 = .ok (.lshr, 1) := by decide +kernel
theorem dX10_reached_16 : decode cX10_reached 16 = .ok (.lconst 1, 1) := by decide +kernel
theorem dX10_reached_17 : decode cX10_reached 17 = .ok (.land, 1) := by decide +kernel
theorem dX10_reached_18 : decode cX10_reached 18 = .ok (.lconst 1, 1) := by decide +kernel
theorem dX10_reached_19 : decode cX10_reached 19 = .ok (.lcmp, 1) := by decide +kernel
theorem dX10_reached_20 : decode cX10_reached 20 = .ok (.ifCond .ne 80, 3) := by decide +kernel
theorem dX10_reached_23 : decode cX10_reached 23 = .ok (.aload_n 0, 1) := by decide +kernel
theorem dX10_reached_24 : decode cX10_reached 24 = .ok (.getfield 22, 3) := by decide +kernel
theorem dX10_reached_27 : decode cX10_reached 27 = .ok (.iload 4, 2) := by decide +kernel
theorem dX10_reached_29 : decode cX10_reached 29 = .ok (.iaload, 1) := by decide +kernel
theorem dX10_reached_30 : decode cX10_reached 30 = .ok (.invokestatic 106, 3) := by decide +kernel
theorem dX10_reached_33 : decode cX10_reached 33 = .ok (.istore 5, 2) := by decide +kernel
theorem dX10_reached_35 : decode cX10_reached 35 = .ok (.lload_n 2, 1) := by decide +kernel
theorem dX10_reached_36 : decode cX10_reached 36 = .ok (.iload 5, 2) := by decide +kernel
theorem dX10_reached_38 : decode cX10_reached 38 = .ok (.ifCond .le 15, 3) := by decide +kernel
theorem dX10_reached_41 : decode cX10_reached 41 = .ok (.lconst 1, 1) := by decide +kernel
theorem dX10_reached_42 : decode cX10_reached 42 = .ok (.aload_n 0, 1) := by decide +kernel
theorem dX10_reached_43 : decode cX10_reached 43 = .ok (.getfield 25, 3) := by decide +kernel
theorem dX10_reached_46 : decode cX10_reached 46 = .ok (.iload 4, 2) := by decide +kernel
theorem dX10_reached_48 : decode cX10_reached 48 = .ok (.iaload, 1) := by decide +kernel
theorem dX10_reached_49 : decode cX10_reached 49 = .ok (.lshl, 1) := by decide +kernel
theorem dX10_reached_50 : decode cX10_reached 50 = .ok (.goto 4, 3) := by decide +kernel
theorem dX10_reached_53 : decode cX10_reached 53 = .ok (.lconst 0, 1) := by decide +kernel
theorem dX10_reached_54 : decode cX10_reached 54 = .ok (.lor, 1) := by decide +kernel
theorem dX10_reached_55 : decode cX10_reached 55 = .ok (.lstore_n 2, 1) := by decide +kernel
theorem dX10_reached_56 : decode cX10_reached 56 = .ok (.lload_n 2, 1) := by decide +kernel
theorem dX10_reached_57 : decode cX10_reached 57 = .ok (.iload 5, 2) := by decide +kernel
theorem dX10_reached_59 : decode cX10_reached 59 = .ok (.iconst 1, 1) := by decide +kernel
theorem dX10_reached_60 : decode cX10_reached 60 = .ok (.if_icmp .le 15, 3) := by decide +kernel
theorem dX10_reached_63 : decode cX10_reached 63 = .ok (.lconst 1, 1) := by decide +kernel
theorem dX10_reached_64 : decode cX10_reached 64 = .ok (.aload_n 0, 1) := by decide +kernel
theorem dX10_reached_65 : decode cX10_reached 65 = .ok (.getfield 28, 3) := by decide +kernel
theorem dX10_reached_68 : decode cX10_reached 68 = .ok (.iload 4, 2) := by decide +kernel
theorem dX10_reached_70 : decode cX10_reached 70 = .ok (.iaload, 1) := by decide +kernel
theorem dX10_reached_71 : decode cX10_reached 71 = .ok (.lshl, 1) := by decide +kernel
theorem dX10_reached_72 : decode cX10_reached 72 = .ok (.goto 4, 3) := by decide +kernel
theorem dX10_reached_75 : decode cX10_reached 75 = .ok (.lconst 0, 1) := by decide +kernel
theorem dX10_reached_76 : decode cX10_reached 76 = .ok (.lor, 1) := by decide +kernel
theorem dX10_reached_77 : decode cX10_reached 77 = .ok (.lstore_n 2, 1) := by decide +kernel
theorem dX10_reached_78 : decode cX10_reached 78 = .ok (.lload_n 2, 1) := by decide +kernel
theorem dX10_reached_79 : decode cX10_reached 79 = .ok (.iload 5, 2) := by decide +kernel
theorem dX10_reached_81 : decode cX10_reached 81 = .ok (.iconst 2, 1) := by decide +kernel
theorem dX10_reached_82 : decode cX10_reached 82 = .ok (.if_icmp .le 15, 3) := by decide +kernel
theorem dX10_reached_85 : decode cX10_reached 85 = .ok (.lconst 1, 1) := by decide +kernel
theorem dX10_reached_86 : decode cX10_reached 86 = .ok (.aload_n 0, 1) := by decide +kernel
theorem dX10_reached_87 : decode cX10_reached 87 = .ok (.getfield 31, 3) := by decide +kernel
theorem dX10_reached_90 : decode cX10_reached 90 = .ok (.iload 4, 2) := by decide +kernel
theorem dX10_reached_92 : decode cX10_reached 92 = .ok (.iaload, 1) := by decide +kernel
theorem dX10_reached_93 : decode cX10_reached 93 = .ok (.lshl, 1) := by decide +kernel
theorem dX10_reached_94 : decode cX10_reached 94 = .ok (.goto 4, 3) := by decide +kernel
theorem dX10_reached_97 : decode cX10_reached 97 = .ok (.lconst 0, 1) := by decide +kernel
theorem dX10_reached_98 : decode cX10_reached 98 = .ok (.lor, 1) := by decide +kernel
theorem dX10_reached_99 : decode cX10_reached 99 = .ok (.lstore_n 2, 1) := by decide +kernel
theorem dX10_reached_100 : decode cX10_reached 100 = .ok (.iinc 4 (-1), 3) := by decide +kernel
theorem dX10_reached_103 : decode cX10_reached 103 = .ok (.goto (-96), 3) := by decide +kernel
theorem dX10_reached_106 : decode cX10_reached 106 = .ok (.lload_n 2, 1) := by decide +kernel
theorem dX10_reached_107 : decode cX10_reached 107 = .ok (.lreturn, 1) := by decide +kernel
theorem dX10_fieldsOf_0 : decode cX10_fieldsOf 0 = .ok (.iconst 0, 1) := by decide +kernel
theorem dX10_fieldsOf_1 : decode cX10_fieldsOf 1 = .ok (.istore_n 3, 1) := by decide +kernel
theorem dX10_fieldsOf_2 : decode cX10_fieldsOf 2 = .ok (.iconst 0, 1) := by decide +kernel
theorem dX10_fieldsOf_3 : decode cX10_fieldsOf 3 = .ok (.istore 4, 2) := by decide +kernel
theorem dX10_fieldsOf_5 : decode cX10_fieldsOf 5 = .ok (.iload 4, 2) := by decide +kernel
theorem dX10_fieldsOf_7 : decode cX10_fieldsOf 7 = .ok (.aload_n 0, 1) := by decide +kernel
theorem dX10_fieldsOf_8 : decode cX10_fieldsOf 8 = .ok (.getfield 103, 3) := by decide +kernel
theorem dX10_fieldsOf_11 : decode cX10_fieldsOf 11 = .ok (.if_icmp .ge 49, 3) := by decide +kernel
theorem dX10_fieldsOf_14 : decode cX10_fieldsOf 14 = .ok (.iload_n 3, 1) := by decide +kernel
theorem dX10_fieldsOf_15 : decode cX10_fieldsOf 15 = .ok (.lload_n 1, 1) := by decide +kernel
theorem dX10_fieldsOf_16 : decode cX10_fieldsOf 16 = .ok (.iload 4, 2) := by decide +kernel
theorem dX10_fieldsOf_18 : decode cX10_fieldsOf 18 = .ok (.lshr, 1) := by decide +kernel
theorem dX10_fieldsOf_19 : decode cX10_fieldsOf 19 = .ok (.lconst 1, 1) := by decide +kernel
theorem dX10_fieldsOf_20 : decode cX10_fieldsOf 20 = .ok (.land, 1) := by decide +kernel
theorem dX10_fieldsOf_21 : decode cX10_fieldsOf 21 = .ok (.lconst 1, 1) := by decide +kernel
theorem dX10_fieldsOf_22 : decode cX10_fieldsOf 22 = .ok (.lcmp, 1) := by decide +kernel
theorem dX10_fieldsOf_23 : decode cX10_fieldsOf 23 = .ok (.ifCond .ne 28, 3) := by decide +kernel
theorem dX10_fieldsOf_26 : decode cX10_fieldsOf 26 = .ok (.aload_n 0, 1) := by decide +kernel
theorem dX10_fieldsOf_27 : decode cX10_fieldsOf 27 = .ok (.getfield 22, 3) := by decide +kernel
theorem dX10_fieldsOf_30 : decode cX10_fieldsOf 30 = .ok (.iload 4, 2) := by decide +kernel
theorem dX10_fieldsOf_32 : decode cX10_fieldsOf 32 = .ok (.iaload, 1) := by decide +kernel
theorem dX10_fieldsOf_33 : decode cX10_fieldsOf 33 = .ok (.invokestatic 110, 3) := by decide +kernel
theorem dX10_fieldsOf_36 : decode cX10_fieldsOf 36 = .ok (.ifCond .eq 15, 3) := by decide +kernel
theorem dX10_fieldsOf_39 : decode cX10_fieldsOf 39 = .ok (.iconst 1, 1) := by decide +kernel
theorem dX10_fieldsOf_40 : decode cX10_fieldsOf 40 = .ok (.aload_n 0, 1) := by decide +kernel
theorem dX10_fieldsOf_41 : decode cX10_fieldsOf 41 = .ok (.getfield 25, 3) := by decide +kernel
theorem dX10_fieldsOf_44 : decode cX10_fieldsOf 44 = .ok (.iload 4, 2) := by decide +kernel
theorem dX10_fieldsOf_46 : decode cX10_fieldsOf 46 = .ok (.iaload, 1) := by decide +kernel
theorem dX10_fieldsOf_47 : decode cX10_fieldsOf 47 = .ok (.ishl, 1) := by decide +kernel
theorem dX10_fieldsOf_48 : decode cX10_fieldsOf 48 = .ok (.goto 4, 3) := by decide +kernel
theorem dX10_fieldsOf_51 : decode cX10_fieldsOf 51 = .ok (.iconst 0, 1) := by decide +kernel
theorem dX10_fieldsOf_52 : decode cX10_fieldsOf 52 = .ok (.ior, 1) := by decide +kernel
theorem dX10_fieldsOf_53 : decode cX10_fieldsOf 53 = .ok (.istore_n 3, 1) := by decide +kernel
theorem dX10_fieldsOf_54 : decode cX10_fieldsOf 54 = .ok (.iinc 4 1, 3) := by decide +kernel
theorem dX10_fieldsOf_57 : decode cX10_fieldsOf 57 = .ok (.goto (-52), 3) := by decide +kernel
theorem dX10_fieldsOf_60 : decode cX10_fieldsOf 60 = .ok (.iload_n 3, 1) := by decide +kernel
theorem dX10_fieldsOf_61 : decode cX10_fieldsOf 61 = .ok (.ireturn, 1) := by decide +kernel
theorem dX10_needsOf_0 : decode cX10_needsOf 0 = .ok (.aload_n 0, 1) := by decide +kernel
theorem dX10_needsOf_1 : decode cX10_needsOf 1 = .ok (.getfield 19, 3) := by decide +kernel
theorem dX10_needsOf_4 : decode cX10_needsOf 4 = .ok (.iconst 4, 1) := by decide +kernel
theorem dX10_needsOf_5 : decode cX10_needsOf 5 = .ok (.iload_n 1, 1) := by decide +kernel
theorem dX10_needsOf_6 : decode cX10_needsOf 6 = .ok (.imul, 1) := by decide +kernel
theorem dX10_needsOf_7 : decode cX10_needsOf 7 = .ok (.iconst 0, 1) := by decide +kernel
theorem dX10_needsOf_8 : decode cX10_needsOf 8 = .ok (.iadd, 1) := by decide +kernel
theorem dX10_needsOf_9 : decode cX10_needsOf 9 = .ok (.iaload, 1) := by decide +kernel
theorem dX10_needsOf_10 : decode cX10_needsOf 10 = .ok (.istore_n 2, 1) := by decide +kernel
theorem dX10_needsOf_11 : decode cX10_needsOf 11 = .ok (.aload_n 0, 1) := by decide +kernel
theorem dX10_needsOf_12 : decode cX10_needsOf 12 = .ok (.getfield 19, 3) := by decide +kernel
theorem dX10_needsOf_15 : decode cX10_needsOf 15 = .ok (.iconst 4, 1) := by decide +kernel
theorem dX10_needsOf_16 : decode cX10_needsOf 16 = .ok (.iload_n 1, 1) := by decide +kernel
theorem dX10_needsOf_17 : decode cX10_needsOf 17 = .ok (.imul, 1) := by decide +kernel
theorem dX10_needsOf_18 : decode cX10_needsOf 18 = .ok (.iconst 3, 1) := by decide +kernel
theorem dX10_needsOf_19 : decode cX10_needsOf 19 = .ok (.iadd, 1) := by decide +kernel
theorem dX10_needsOf_20 : decode cX10_needsOf 20 = .ok (.iaload, 1) := by decide +kernel
theorem dX10_needsOf_21 : decode cX10_needsOf 21 = .ok (.istore_n 3, 1) := by decide +kernel
theorem dX10_needsOf_22 : decode cX10_needsOf 22 = .ok (.iload_n 2, 1) := by decide +kernel
theorem dX10_needsOf_23 : decode cX10_needsOf 23 = .ok (.ifCond .lt 11, 3) := by decide +kernel
theorem dX10_needsOf_26 : decode cX10_needsOf 26 = .ok (.aload_n 0, 1) := by decide +kernel
theorem dX10_needsOf_27 : decode cX10_needsOf 27 = .ok (.iload_n 2, 1) := by decide +kernel
theorem dX10_needsOf_28 : decode cX10_needsOf 28 = .ok (.invokevirtual 122, 3) := by decide +kernel
theorem dX10_needsOf_31 : decode cX10_needsOf 31 = .ok (.goto 4, 3) := by decide +kernel
theorem dX10_needsOf_34 : decode cX10_needsOf 34 = .ok (.lconst 0, 1) := by decide +kernel
theorem dX10_needsOf_35 : decode cX10_needsOf 35 = .ok (.iload_n 3, 1) := by decide +kernel
theorem dX10_needsOf_36 : decode cX10_needsOf 36 = .ok (.ifCond .lt 11, 3) := by decide +kernel
theorem dX10_needsOf_39 : decode cX10_needsOf 39 = .ok (.aload_n 0, 1) := by decide +kernel
theorem dX10_needsOf_40 : decode cX10_needsOf 40 = .ok (.iload_n 3, 1) := by decide +kernel
theorem dX10_needsOf_41 : decode cX10_needsOf 41 = .ok (.invokevirtual 122, 3) := by decide +kernel
theorem dX10_needsOf_44 : decode cX10_needsOf 44 = .ok (.goto 4, 3) := by decide +kernel
theorem dX10_needsOf_47 : decode cX10_needsOf 47 = .ok (.lconst 0, 1) := by decide +kernel
theorem dX10_needsOf_48 : decode cX10_needsOf 48 = .ok (.lor, 1) := by decide +kernel
theorem dX10_needsOf_49 : decode cX10_needsOf 49 = .ok (.lreturn, 1) := by decide +kernel
theorem dX10_count_0 : decode cX10_count 0 = .ok (.iconst 0, 1) := by decide +kernel
theorem dX10_count_1 : decode cX10_count 1 = .ok (.istore_n 1, 1) := by decide +kernel
theorem dX10_count_2 : decode cX10_count 2 = .ok (.iconst 0, 1) := by decide +kernel
theorem dX10_count_3 : decode cX10_count 3 = .ok (.istore_n 2, 1) := by decide +kernel
theorem dX10_count_4 : decode cX10_count 4 = .ok (.iload_n 2, 1) := by decide +kernel
theorem dX10_count_5 : decode cX10_count 5 = .ok (.bipush 12, 2) := by decide +kernel
theorem dX10_count_7 : decode cX10_count 7 = .ok (.if_icmp .ge 17, 3) := by decide +kernel
theorem dX10_count_10 : decode cX10_count 10 = .ok (.iload_n 1, 1) := by decide +kernel
theorem dX10_count_11 : decode cX10_count 11 = .ok (.iload_n 0, 1) := by decide +kernel
theorem dX10_count_12 : decode cX10_count 12 = .ok (.iload_n 2, 1) := by decide +kernel
theorem dX10_count_13 : decode cX10_count 13 = .ok (.ishr, 1) := by decide +kernel
theorem dX10_count_14 : decode cX10_count 14 = .ok (.iconst 1, 1) := by decide +kernel
theorem dX10_count_15 : decode cX10_count 15 = .ok (.iand, 1) := by decide +kernel
theorem dX10_count_16 : decode cX10_count 16 = .ok (.iadd, 1) := by decide +kernel
theorem dX10_count_17 : decode cX10_count 17 = .ok (.istore_n 1, 1) := by decide +kernel
theorem dX10_count_18 : decode cX10_count 18 = .ok (.iinc 2 1, 3) := by decide +kernel
theorem dX10_count_21 : decode cX10_count 21 = .ok (.goto (-17), 3) := by decide +kernel
theorem dX10_count_24 : decode cX10_count 24 = .ok (.iload_n 1, 1) := by decide +kernel
theorem dX10_count_25 : decode cX10_count 25 = .ok (.ireturn, 1) := by decide +kernel
theorem dX10_findHangs_0 : decode cX10_findHangs 0 = .ok (.iconst 0, 1) := by decide +kernel
theorem dX10_findHangs_1 : decode cX10_findHangs 1 = .ok (.istore_n 1, 1) := by decide +kernel
theorem dX10_findHangs_2 : decode cX10_findHangs 2 = .ok (.iload_n 1, 1) := by decide +kernel
theorem dX10_findHangs_3 : decode cX10_findHangs 3 = .ok (.aload_n 0, 1) := by decide +kernel
theorem dX10_findHangs_4 : decode cX10_findHangs 4 = .ok (.getfield 95, 3) := by decide +kernel
theorem dX10_findHangs_7 : decode cX10_findHangs 7 = .ok (.if_icmp .ge 48, 3) := by decide +kernel
theorem dX10_findHangs_10 : decode cX10_findHangs 10 = .ok (.aload_n 0, 1) := by decide +kernel
theorem dX10_findHangs_11 : decode cX10_findHangs 11 = .ok (.getfield 40, 3) := by decide +kernel
theorem dX10_findHangs_14 : decode cX10_findHangs 14 = .ok (.iload_n 1, 1) := by decide +kernel
theorem dX10_findHangs_15 : decode cX10_findHangs 15 = .ok (.aload_n 0, 1) := by decide +kernel
theorem dX10_findHangs_16 : decode cX10_findHangs 16 = .ok (.iload_n 1, 1) := by decide +kernel
theorem dX10_findHangs_17 : decode cX10_findHangs 17 = .ok (.invokevirtual 126, 3) := by decide +kernel
theorem dX10_findHangs_20 : decode cX10_findHangs 20 = .ok (.lastore, 1) := by decide +kernel
theorem dX10_findHangs_21 : decode cX10_findHangs 21 = .ok (.aload_n 0, 1) := by decide +kernel
theorem dX10_findHangs_22 : decode cX10_findHangs 22 = .ok (.getfield 34, 3) := by decide +kernel
theorem dX10_findHangs_25 : decode cX10_findHangs 25 = .ok (.iload_n 1, 1) := by decide +kernel
theorem dX10_findHangs_26 : decode cX10_findHangs 26 = .ok (.aload_n 0, 1) := by decide +kernel
theorem dX10_findHangs_27 : decode cX10_findHangs 27 = .ok (.aload_n 0, 1) := by decide +kernel
theorem dX10_findHangs_28 : decode cX10_findHangs 28 = .ok (.getfield 40, 3) := by decide +kernel
theorem dX10_findHangs_31 : decode cX10_findHangs 31 = .ok (.iload_n 1, 1) := by decide +kernel
theorem dX10_findHangs_32 : decode cX10_findHangs 32 = .ok (.laload, 1) := by decide +kernel
theorem dX10_findHangs_33 : decode cX10_findHangs 33 = .ok (.invokevirtual 129, 3) := by decide +kernel
theorem dX10_findHangs_36 : decode cX10_findHangs 36 = .ok (.iastore, 1) := by decide +kernel
theorem dX10_findHangs_37 : decode cX10_findHangs 37 = .ok (.aload_n 0, 1) := by decide +kernel
theorem dX10_findHangs_38 : decode cX10_findHangs 38 = .ok (.getfield 37, 3) := by decide +kernel
theorem dX10_findHangs_41 : decode cX10_findHangs 41 = .ok (.iload_n 1, 1) := by decide +kernel
theorem dX10_findHangs_42 : decode cX10_findHangs 42 = .ok (.aload_n 0, 1) := by decide +kernel
theorem dX10_findHangs_43 : decode cX10_findHangs 43 = .ok (.getfield 34, 3) := by decide +kernel
theorem dX10_findHangs_46 : decode cX10_findHangs 46 = .ok (.iload_n 1, 1) := by decide +kernel
theorem dX10_findHangs_47 : decode cX10_findHangs 47 = .ok (.iaload, 1) := by decide +kernel
theorem dX10_findHangs_48 : decode cX10_findHangs 48 = .ok (.iastore, 1) := by decide +kernel
theorem dX10_findHangs_49 : decode cX10_findHangs 49 = .ok (.iinc 1 1, 3) := by decide +kernel
theorem dX10_findHangs_52 : decode cX10_findHangs 52 = .ok (.goto (-50), 3) := by decide +kernel
theorem dX10_findHangs_55 : decode cX10_findHangs 55 = .ok (.iconst 0, 1) := by decide +kernel
theorem dX10_findHangs_56 : decode cX10_findHangs 56 = .ok (.istore_n 1, 1) := by decide +kernel
theorem dX10_findHangs_57 : decode cX10_findHangs 57 = .ok (.iload_n 1, 1) := by decide +kernel
theorem dX10_findHangs_58 : decode cX10_findHangs 58 = .ok (.aload_n 0, 1) := by decide +kernel
theorem dX10_findHangs_59 : decode cX10_findHangs 59 = .ok (.getfield 95, 3) := by decide +kernel
theorem dX10_findHangs_62 : decode cX10_findHangs 62 = .ok (.if_icmp .ge 74, 3) := by decide +kernel
theorem dX10_findHangs_65 : decode cX10_findHangs 65 = .ok (.iconst 0, 1) := by decide +kernel
theorem dX10_findHangs_66 : decode cX10_findHangs 66 = .ok (.istore_n 2, 1) := by decide +kernel
theorem dX10_findHangs_67 : decode cX10_findHangs 67 = .ok (.iload_n 2, 1) := by decide +kernel
theorem dX10_findHangs_68 : decode cX10_findHangs 68 = .ok (.aload_n 0, 1) := by decide +kernel
theorem dX10_findHangs_69 : decode cX10_findHangs 69 = .ok (.getfield 95, 3) := by decide +kernel
theorem dX10_findHangs_72 : decode cX10_findHangs 72 = .ok (.if_icmp .ge 58, 3) := by decide +kernel
theorem dX10_findHangs_75 : decode cX10_findHangs 75 = .ok (.iconst 0, 1) := by decide +kernel
theorem dX10_findHangs_76 : decode cX10_findHangs 76 = .ok (.istore_n 3, 1) := by decide +kernel
theorem dX10_findHangs_77 : decode cX10_findHangs 77 = .ok (.iload_n 3, 1) := by decide +kernel
theorem dX10_findHangs_78 : decode cX10_findHangs 78 = .ok (.aload_n 0, 1) := by decide +kernel
theorem dX10_findHangs_79 : decode cX10_findHangs 79 = .ok (.getfield 95, 3) := by decide +kernel
theorem dX10_findHangs_82 : decode cX10_findHangs 82 = .ok (.if_icmp .ge 42, 3) := by decide +kernel
theorem dX10_findHangs_85 : decode cX10_findHangs 85 = .ok (.aload_n 0, 1) := by decide +kernel
theorem dX10_findHangs_86 : decode cX10_findHangs 86 = .ok (.getfield 37, 3) := by decide +kernel
theorem dX10_findHangs_89 : decode cX10_findHangs 89 = .ok (.iload_n 2, 1) := by decide +kernel
theorem dX10_findHangs_90 : decode cX10_findHangs 90 = .ok (.dup2, 1) := by decide +kernel
theorem dX10_findHangs_91 : decode cX10_findHangs 91 = .ok (.iaload, 1) := by decide +kernel
theorem dX10_findHangs_92 : decode cX10_findHangs 92 = .ok (.aload_n 0, 1) := by decide +kernel
theorem dX10_findHangs_93 : decode cX10_findHangs 93 = .ok (.getfield 37, 3) := by decide +kernel
theorem dX10_findHangs_96 : decode cX10_findHangs 96 = .ok (.iload_n 2, 1) := by decide +kernel
theorem dX10_findHangs_97 : decode cX10_findHangs 97 = .ok (.iaload, 1) := by decide +kernel
theorem dX10_findHangs_98 : decode cX10_findHangs 98 = .ok (.iload_n 3, 1) := by decide +kernel
theorem dX10_findHangs_99 : decode cX10_findHangs 99 = .ok (.ishr, 1) := by decide +kernel
theorem dX10_findHangs_100 : decode cX10_findHangs 100 = .ok (.iconst 1, 1) := by decide +kernel
theorem dX10_findHangs_101 : decode cX10_findHangs 101 = .ok (.iand, 1) := by decide +kernel
theorem dX10_findHangs_102 : decode cX10_findHangs 102 = .ok (.iconst 1, 1) := by decide +kernel
theorem dX10_findHangs_103 : decode cX10_findHangs 103 = .ok (.if_icmp .ne 12, 3) := by decide +kernel
theorem dX10_findHangs_106 : decode cX10_findHangs 106 = .ok (.aload_n 0, 1) := by decide +kernel
theorem dX10_findHangs_107 : decode cX10_findHangs 107 = .ok (.getfield 37, 3) := by decide +kernel
theorem dX10_findHangs_110 : decode cX10_findHangs 110 = .ok (.iload_n 3, 1) := by decide +kernel
theorem dX10_findHangs_111 : decode cX10_findHangs 111 = .ok (.iaload, 1) := by decide +kernel
theorem dX10_findHangs_112 : decode cX10_findHangs 112 = .ok (.goto 4, 3) := by decide +kernel
theorem dX10_findHangs_115 : decode cX10_findHangs 115 = .ok (.iconst 0, 1) := by decide +kernel
theorem dX10_findHangs_116 : decode cX10_findHangs 116 = .ok (.ior, 1) := by decide +kernel
theorem dX10_findHangs_117 : decode cX10_findHangs 117 = .ok (.iastore, 1) := by decide +kernel
theorem dX10_findHangs_118 : decode cX10_findHangs 118 = .ok (.iinc 3 1, 3) := by decide +kernel
theorem dX10_findHangs_121 : decode cX10_findHangs 121 = .ok (.goto (-44), 3) := by decide +kernel
theorem dX10_findHangs_124 : decode cX10_findHangs 124 = .ok (.iinc 2 1, 3) := by decide +kernel
theorem dX10_findHangs_127 : decode cX10_findHangs 127 = .ok (.goto (-60), 3) := by decide +kernel
theorem dX10_findHangs_130 : decode cX10_findHangs 130 = .ok (.iinc 1 1, 3) := by decide +kernel
theorem dX10_findHangs_133 : decode cX10_findHangs 133 = .ok (.goto (-76), 3) := by decide +kernel
theorem dX10_findHangs_136 : decode cX10_findHangs 136 = .ok (.return_, 1) := by decide +kernel
theorem dX10_arrange_0 : decode cX10_arrange 0 = .ok (.aload_n 0, 1) := by decide +kernel
theorem dX10_arrange_1 : decode cX10_arrange 1 = .ok (.getfield 91, 3) := by decide +kernel
theorem dX10_arrange_4 : decode cX10_arrange 4 = .ok (.ifCond .eq 4, 3) := by decide +kernel
theorem dX10_arrange_7 : decode cX10_arrange 7 = .ok (.return_, 1) := by decide +kernel
theorem dX10_arrange_8 : decode cX10_arrange 8 = .ok (.aload_n 0, 1) := by decide +kernel
theorem dX10_arrange_9 : decode cX10_arrange 9 = .ok (.iconst 1, 1) := by decide +kernel
theorem dX10_arrange_10 : decode cX10_arrange 10 = .ok (.putfield 91, 3) := by decide +kernel
theorem dX10_arrange_13 : decode cX10_arrange 13 = .ok (.aload_n 0, 1) := by decide +kernel
theorem dX10_arrange_14 : decode cX10_arrange 14 = .ok (.invokevirtual 133, 3) := by decide +kernel
theorem dX10_arrange_17 : decode cX10_arrange 17 = .ok (.iconst 0, 1) := by decide +kernel
theorem dX10_arrange_18 : decode cX10_arrange 18 = .ok (.istore_n 1, 1) := by decide +kernel
theorem dX10_arrange_19 : decode cX10_arrange 19 = .ok (.iconst 0, 1) := by decide +kernel
theorem dX10_arrange_20 : decode cX10_arrange 20 = .ok (.istore_n 2, 1) := by decide +kernel
theorem dX10_arrange_21 : decode cX10_arrange 21 = .ok (.iload_n 2, 1) := by decide +kernel
theorem dX10_arrange_22 : decode cX10_arrange 22 = .ok (.bipush 12, 2) := by decide +kernel
theorem dX10_arrange_24 : decode cX10_arrange 24 = .ok (.if_icmp .ge 48, 3) := by decide +kernel
theorem dX10_arrange_27 : decode cX10_arrange 27 = .ok (.iconst 0, 1) := by decide +kernel
theorem dX10_arrange_28 : decode cX10_arrange 28 = .ok (.istore_n 3, 1) := by decide +kernel
theorem dX10_arrange_29 : decode cX10_arrange 29 = .ok (.iload_n 3, 1) := by decide +kernel
theorem dX10_arrange_30 : decode cX10_arrange 30 = .ok (.aload_n 0, 1) := by decide +kernel
theorem dX10_arrange_31 : decode cX10_arrange 31 = .ok (.getfield 95, 3) := by decide +kernel
theorem dX10_arrange_34 : decode cX10_arrange 34 = .ok (.if_icmp .ge 32, 3) := by decide +kernel
theorem dX10_arrange_37 : decode cX10_arrange 37 = .ok (.aload_n 0, 1) := by decide +kernel
theorem dX10_arrange_38 : decode cX10_arrange 38 = .ok (.getfield 37, 3) := by decide +kernel
theorem dX10_arrange_41 : decode cX10_arrange 41 = .ok (.iload_n 3, 1) := by decide +kernel
theorem dX10_arrange_42 : decode cX10_arrange 42 = .ok (.iaload, 1) := by decide +kernel
theorem dX10_arrange_43 : decode cX10_arrange 43 = .ok (.invokestatic 136, 3) := by decide +kernel
theorem dX10_arrange_46 : decode cX10_arrange 46 = .ok (.iload_n 2, 1) := by decide +kernel
theorem dX10_arrange_47 : decode cX10_arrange 47 = .ok (.if_icmp .ne 13, 3) := by decide +kernel
theorem dX10_arrange_50 : decode cX10_arrange 50 = .ok (.aload_n 0, 1) := by decide +kernel
theorem dX10_arrange_51 : decode cX10_arrange 51 = .ok (.getfield 44, 3) := by decide +kernel
theorem dX10_arrange_54 : decode cX10_arrange 54 = .ok (.iload_n 1, 1) := by decide +kernel
theorem dX10_arrange_55 : decode cX10_arrange 55 = .ok (.iload_n 3, 1) := by decide +kernel
theorem dX10_arrange_56 : decode cX10_arrange 56 = .ok (.iastore, 1) := by decide +kernel
theorem dX10_arrange_57 : decode cX10_arrange 57 = .ok (.iinc 1 1, 3) := by decide +kernel
theorem dX10_arrange_60 : decode cX10_arrange 60 = .ok (.iinc 3 1, 3) := by decide +kernel
theorem dX10_arrange_63 : decode cX10_arrange 63 = .ok (.goto (-34), 3) := by decide +kernel
theorem dX10_arrange_66 : decode cX10_arrange 66 = .ok (.iinc 2 1, 3) := by decide +kernel
theorem dX10_arrange_69 : decode cX10_arrange 69 = .ok (.goto (-48), 3) := by decide +kernel
theorem dX10_arrange_72 : decode cX10_arrange 72 = .ok (.return_, 1) := by decide +kernel
theorem dX10_comesTo_0 : decode cX10_comesTo 0 = .ok (.iconst 1, 1) := by decide +kernel
theorem dX10_comesTo_1 : decode cX10_comesTo 1 = .ok (.iload_n 1, 1) := by decide +kernel
theorem dX10_comesTo_2 : decode cX10_comesTo 2 = .ok (.ishl, 1) := by decide +kernel
theorem dX10_comesTo_3 : decode cX10_comesTo 3 = .ok (.istore 4, 2) := by decide +kernel
theorem dX10_comesTo_5 : decode cX10_comesTo 5 = .ok (.iconst 0, 1) := by decide +kernel
theorem dX10_comesTo_6 : decode cX10_comesTo 6 = .ok (.istore 5, 2) := by decide +kernel
theorem dX10_comesTo_8 : decode cX10_comesTo 8 = .ok (.iload 5, 2) := by decide +kernel
theorem dX10_comesTo_10 : decode cX10_comesTo 10 = .ok (.bipush 12, 2) := by decide +kernel
theorem dX10_comesTo_12 : decode cX10_comesTo 12 = .ok (.if_icmp .ge 86, 3) := by decide +kernel
theorem dX10_comesTo_15 : decode cX10_comesTo 15 = .ok (.iconst 0, 1) := by decide +kernel
theorem dX10_comesTo_16 : decode cX10_comesTo 16 = .ok (.istore 6, 2) := by decide +kernel
theorem dX10_comesTo_18 : decode cX10_comesTo 18 = .ok (.iload 6, 2) := by decide +kernel
theorem dX10_comesTo_20 : decode cX10_comesTo 20 = .ok (.aload_n 0, 1) := by decide +kernel
theorem dX10_comesTo_21 : decode cX10_comesTo 21 = .ok (.getfield 95, 3) := by decide +kernel
theorem dX10_comesTo_24 : decode cX10_comesTo 24 = .ok (.if_icmp .ge 68, 3) := by decide +kernel
theorem dX10_comesTo_27 : decode cX10_comesTo 27 = .ok (.iload 4, 2) := by decide +kernel
theorem dX10_comesTo_29 : decode cX10_comesTo 29 = .ok (.iload 4, 2) := by decide +kernel
theorem dX10_comesTo_31 : decode cX10_comesTo 31 = .ok (.iload 6, 2) := by decide +kernel
theorem dX10_comesTo_33 : decode cX10_comesTo 33 = .ok (.ishr, 1) := by decide +kernel
theorem dX10_comesTo_34 : decode cX10_comesTo 34 = .ok (.iconst 1, 1) := by decide +kernel
theorem dX10_comesTo_35 : decode cX10_comesTo 35 = .ok (.iand, 1) := by decide +kernel
theorem dX10_comesTo_36 : decode cX10_comesTo 36 = .ok (.iconst 1, 1) := by decide +kernel
theorem dX10_comesTo_37 : decode cX10_comesTo 37 = .ok (.if_icmp .ne 17, 3) := by decide +kernel
theorem dX10_comesTo_40 : decode cX10_comesTo 40 = .ok (.aload_n 0, 1) := by decide +kernel
theorem dX10_comesTo_41 : decode cX10_comesTo 41 = .ok (.getfield 34, 3) := by decide +kernel
theorem dX10_comesTo_44 : decode cX10_comesTo 44 = .ok (.iload 6, 2) := by decide +kernel
theorem dX10_comesTo_46 : decode cX10_comesTo 46 = .ok (.iaload, 1) := by decide +kernel
theorem dX10_comesTo_47 : decode cX10_comesTo 47 = .ok (.iload_n 3, 1) := by decide +kernel
theorem dX10_comesTo_48 : decode cX10_comesTo 48 = .ok (.iconst (-1), 1) := by decide +kernel
theorem dX10_comesTo_49 : decode cX10_comesTo 49 = .ok (.ixor, 1) := by decide +kernel
theorem dX10_comesTo_50 : decode cX10_comesTo 50 = .ok (.iand, 1) := by decide +kernel
theorem dX10_comesTo_51 : decode cX10_comesTo 51 = .ok (.goto 4, 3) := by decide +kernel
theorem dX10_comesTo_54 : decode cX10_comesTo 54 = .ok (.iconst 0, 1) := by decide +kernel
theorem dX10_comesTo_55 : decode cX10_comesTo 55 = .ok (.ior, 1) := by decide +kernel
theorem dX10_comesTo_56 : decode cX10_comesTo 56 = .ok (.istore 4, 2) := by decide +kernel
theorem dX10_comesTo_58 : decode cX10_comesTo 58 = .ok (.iload 4, 2) := by decide +kernel
theorem dX10_comesTo_60 : decode cX10_comesTo 60 = .ok (.iload 6, 2) := by decide +kernel
theorem dX10_comesTo_62 : decode cX10_comesTo 62 = .ok (.ishr, 1) := by decide +kernel
theorem dX10_comesTo_63 : decode cX10_comesTo 63 = .ok (.iconst 1, 1) := by decide +kernel
theorem dX10_comesTo_64 : decode cX10_comesTo 64 = .ok (.iand, 1) := by decide +kernel
theorem dX10_comesTo_65 : decode cX10_comesTo 65 = .ok (.iconst 1, 1) := by decide +kernel
theorem dX10_comesTo_66 : decode cX10_comesTo 66 = .ok (.if_icmp .ne 20, 3) := by decide +kernel
theorem dX10_comesTo_69 : decode cX10_comesTo 69 = .ok (.aload_n 0, 1) := by decide +kernel
theorem dX10_comesTo_70 : decode cX10_comesTo 70 = .ok (.getfield 34, 3) := by decide +kernel
theorem dX10_comesTo_73 : decode cX10_comesTo 73 = .ok (.iload 6, 2) := by decide +kernel
theorem dX10_comesTo_75 : decode cX10_comesTo 75 = .ok (.iaload, 1) := by decide +kernel
theorem dX10_comesTo_76 : decode cX10_comesTo 76 = .ok (.iload_n 2, 1) := by decide +kernel
theorem dX10_comesTo_77 : decode cX10_comesTo 77 = .ok (.ishr, 1) := by decide +kernel
theorem dX10_comesTo_78 : decode cX10_comesTo 78 = .ok (.iconst 1, 1) := by decide +kernel
theorem dX10_comesTo_79 : decode cX10_comesTo 79 = .ok (.iand, 1) := by decide +kernel
theorem dX10_comesTo_80 : decode cX10_comesTo 80 = .ok (.iconst 1, 1) := by decide +kernel
theorem dX10_comesTo_81 : decode cX10_comesTo 81 = .ok (.if_icmp .ne 5, 3) := by decide +kernel
theorem dX10_comesTo_84 : decode cX10_comesTo 84 = .ok (.iconst 1, 1) := by decide +kernel
theorem dX10_comesTo_85 : decode cX10_comesTo 85 = .ok (.ireturn, 1) := by decide +kernel
theorem dX10_comesTo_86 : decode cX10_comesTo 86 = .ok (.iinc 6 1, 3) := by decide +kernel
theorem dX10_comesTo_89 : decode cX10_comesTo 89 = .ok (.goto (-71), 3) := by decide +kernel
theorem dX10_comesTo_92 : decode cX10_comesTo 92 = .ok (.iinc 5 1, 3) := by decide +kernel
theorem dX10_comesTo_95 : decode cX10_comesTo 95 = .ok (.goto (-87), 3) := by decide +kernel
theorem dX10_comesTo_98 : decode cX10_comesTo 98 = .ok (.iconst 0, 1) := by decide +kernel
theorem dX10_comesTo_99 : decode cX10_comesTo 99 = .ok (.ireturn, 1) := by decide +kernel
theorem dX10_findRing_0 : decode cX10_findRing 0 = .ok (.aload_n 0, 1) := by decide +kernel
theorem dX10_findRing_1 : decode cX10_findRing 1 = .ok (.iconst 1, 1) := by decide +kernel
theorem dX10_findRing_2 : decode cX10_findRing 2 = .ok (.putfield 139, 3) := by decide +kernel
theorem dX10_findRing_5 : decode cX10_findRing 5 = .ok (.aload_n 0, 1) := by decide +kernel
theorem dX10_findRing_6 : decode cX10_findRing 6 = .ok (.getfield 47, 3) := by decide +kernel
theorem dX10_findRing_9 : decode cX10_findRing 9 = .ok (.iconst 0, 1) := by decide +kernel
theorem dX10_findRing_10 : decode cX10_findRing 10 = .ok (.iload_n 1, 1) := by decide +kernel
theorem dX10_findRing_11 : decode cX10_findRing 11 = .ok (.iastore, 1) := by decide +kernel
theorem dX10_findRing_12 : decode cX10_findRing 12 = .ok (.iconst 1, 1) := by decide +kernel
theorem dX10_findRing_13 : decode cX10_findRing 13 = .ok (.iload_n 1, 1) := by decide +kernel
theorem dX10_findRing_14 : decode cX10_findRing 14 = .ok (.ishl, 1) := by decide +kernel
theorem dX10_findRing_15 : decode cX10_findRing 15 = .ok (.istore_n 2, 1) := by decide +kernel
theorem dX10_findRing_16 : decode cX10_findRing 16 = .ok (.iload_n 1, 1) := by decide +kernel
theorem dX10_findRing_17 : decode cX10_findRing 17 = .ok (.istore_n 3, 1) := by decide +kernel
theorem dX10_findRing_18 : decode cX10_findRing 18 = .ok (.aload_n 0, 1) := by decide +kernel
theorem dX10_findRing_19 : decode cX10_findRing 19 = .ok (.getfield 34, 3) := by decide +kernel
theorem dX10_findRing_22 : decode cX10_findRing 22 = .ok (.iload_n 3, 1) := by decide +kernel
theorem dX10_findRing_23 : decode cX10_findRing 23 = .ok (.iaload, 1) := by decide +kernel
theorem dX10_findRing_24 : decode cX10_findRing 24 = .ok (.iload_n 1, 1) := by decide +kernel
theorem dX10_findRing_25 : decode cX10_findRing 25 = .ok (.ishr, 1) := by decide +kernel
theorem dX10_findRing_26 : decode cX10_findRing 26 = .ok (.iconst 1, 1) := by decide +kernel
theorem dX10_findRing_27 : decode cX10_findRing 27 = .ok (.iand, 1) := by decide +kernel
theorem dX10_findRing_28 : decode cX10_findRing 28 = .ok (.ifCond .ne 81, 3) := by decide +kernel
theorem dX10_findRing_31 : decode cX10_findRing 31 = .ok (.iconst 0, 1) := by decide +kernel
theorem dX10_findRing_32 : decode cX10_findRing 32 = .ok (.istore 4, 2) := by decide +kernel
theorem dX10_findRing_34 : decode cX10_findRing 34 = .ok (.aload_n 0, 1) := by decide +kernel
theorem dX10_findRing_35 : decode cX10_findRing 35 = .ok (.getfield 34, 3) := by decide +kernel
theorem dX10_findRing_38 : decode cX10_findRing 38 = .ok (.iload_n 3, 1) := by decide +kernel
theorem dX10_findRing_39 : decode cX10_findRing 39 = .ok (.iaload, 1) := by decide +kernel
theorem dX10_findRing_40 : decode cX10_findRing 40 = .ok (.iload 4, 2) := by decide +kernel
theorem dX10_findRing_42 : decode cX10_findRing 42 = .ok (.ishr, 1) := by decide +kernel
theorem dX10_findRing_43 : decode cX10_findRing 43 = .ok (.iconst 1, 1) := by decide +kernel
theorem dX10_findRing_44 : decode cX10_findRing 44 = .ok (.iand, 1) := by decide +kernel
theorem dX10_findRing_45 : decode cX10_findRing 45 = .ok (.ifCond .eq 24, 3) := by decide +kernel
theorem dX10_findRing_48 : decode cX10_findRing 48 = .ok (.iload_n 2, 1) := by decide +kernel
theorem dX10_findRing_49 : decode cX10_findRing 49 = .ok (.iload 4, 2) := by decide +kernel
theorem dX10_findRing_51 : decode cX10_findRing 51 = .ok (.ishr, 1) := by decide +kernel
theorem dX10_findRing_52 : decode cX10_findRing 52 = .ok (.iconst 1, 1) := by decide +kernel
theorem dX10_findRing_53 : decode cX10_findRing 53 = .ok (.iand, 1) := by decide +kernel
theorem dX10_findRing_54 : decode cX10_findRing 54 = .ok (.iconst 1, 1) := by decide +kernel
theorem dX10_findRing_55 : decode cX10_findRing 55 = .ok (.if_icmp .eq 14, 3) := by decide +kernel
theorem dX10_findRing_58 : decode cX10_findRing 58 = .ok (.aload_n 0, 1) := by decide +kernel
theorem dX10_findRing_59 : decode cX10_findRing 59 = .ok (.iload 4, 2) := by decide +kernel
theorem dX10_findRing_61 : decode cX10_findRing 61 = .ok (.iload_n 1, 1) := by decide +kernel
theorem dX10_findRing_62 : decode cX10_findRing 62 = .ok (.iload_n 2, 1) := by decide +kernel
theorem dX10_findRing_63 : decode cX10_findRing 63 = .ok (.invokevirtual 142, 3) := by decide +kernel
theorem dX10_findRing_66 : decode cX10_findRing 66 = .ok (.ifCond .ne 9, 3) := by decide +kernel
theorem dX10_findRing_69 : decode cX10_findRing 69 = .ok (.iinc 4 1, 3) := by decide +kernel
theorem dX10_findRing_72 : decode cX10_findRing 72 = .ok (.goto (-38), 3) := by decide +kernel
theorem dX10_findRing_75 : decode cX10_findRing 75 = .ok (.aload_n 0, 1) := by decide +kernel
theorem dX10_findRing_76 : decode cX10_findRing 76 = .ok (.getfield 47, 3) := by decide +kernel
theorem dX10_findRing_79 : decode cX10_findRing 79 = .ok (.aload_n 0, 1) := by decide +kernel
theorem dX10_findRing_80 : decode cX10_findRing 80 = .ok (.getfield 139, 3) := by decide +kernel
theorem dX10_findRing_83 : decode cX10_findRing 83 = .ok (.iload 4, 2) := by decide +kernel
theorem dX10_findRing_85 : decode cX10_findRing 85 = .ok (.iastore, 1) := by decide +kernel
theorem dX10_findRing_86 : decode cX10_findRing 86 = .ok (.aload_n 0, 1) := by decide +kernel
theorem dX10_findRing_87 : decode cX10_findRing 87 = .ok (.dup, 1) := by decide +kernel
theorem dX10_findRing_88 : decode cX10_findRing 88 = .ok (.getfield 139, 3) := by decide +kernel
theorem dX10_findRing_91 : decode cX10_findRing 91 = .ok (.iconst 1, 1) := by decide +kernel
theorem dX10_findRing_92 : decode cX10_findRing 92 = .ok (.iadd, 1) := by decide +kernel
theorem dX10_findRing_93 : decode cX10_findRing 93 = .ok (.putfield 139, 3) := by decide +kernel
theorem dX10_findRing_96 : decode cX10_findRing 96 = .ok (.iload_n 2, 1) := by decide +kernel
theorem dX10_findRing_97 : decode cX10_findRing 97 = .ok (.iconst 1, 1) := by decide +kernel
theorem dX10_findRing_98 : decode cX10_findRing 98 = .ok (.iload 4, 2) := by decide +kernel
theorem dX10_findRing_100 : decode cX10_findRing 100 = .ok (.ishl, 1) := by decide +kernel
theorem dX10_findRing_101 : decode cX10_findRing 101 = .ok (.ior, 1) := by decide +kernel
theorem dX10_findRing_102 : decode cX10_findRing 102 = .ok (.istore_n 2, 1) := by decide +kernel
theorem dX10_findRing_103 : decode cX10_findRing 103 = .ok (.iload 4, 2) := by decide +kernel
theorem dX10_findRing_105 : decode cX10_findRing 105 = .ok (.istore_n 3, 1) := by decide +kernel
theorem dX10_findRing_106 : decode cX10_findRing 106 = .ok (.goto (-88), 3) := by decide +kernel
theorem dX10_findRing_109 : decode cX10_findRing 109 = .ok (.return_, 1) := by decide +kernel
theorem dX10_rule_0 : decode cX10_rule 0 = .ok (.aload_n 0, 1) := by decide +kernel
theorem dX10_rule_1 : decode cX10_rule 1 = .ok (.iload_n 1, 1) := by decide +kernel
theorem dX10_rule_2 : decode cX10_rule 2 = .ok (.invokevirtual 114, 3) := by decide +kernel
theorem dX10_rule_5 : decode cX10_rule 5 = .ok (.ifCond .ne 17, 3) := by decide +kernel
theorem dX10_rule_8 : decode cX10_rule 8 = .ok (.iload_n 3, 1) := by decide +kernel
theorem dX10_rule_9 : decode cX10_rule 9 = .ok (.bipush (-9), 2) := by decide +kernel
theorem dX10_rule_11 : decode cX10_rule 11 = .ok (.if_icmp .eq 13, 3) := by decide +kernel
theorem dX10_rule_14 : decode cX10_rule 14 = .ok (.aload_n 0, 1) := by decide +kernel
theorem dX10_rule_15 : decode cX10_rule 15 = .ok (.iload_n 3, 1) := by decide +kernel
theorem dX10_rule_16 : decode cX10_rule 16 = .ok (.invokevirtual 117, 3) := by decide +kernel
theorem dX10_rule_19 : decode cX10_rule 19 = .ok (.ifCond .eq 5, 3) := by decide +kernel
theorem dX10_rule_22 : decode cX10_rule 22 = .ok (.iconst (-1), 1) := by decide +kernel
theorem dX10_rule_23 : decode cX10_rule 23 = .ok (.ireturn, 1) := by decide +kernel
theorem dX10_rule_24 : decode cX10_rule 24 = .ok (.iload_n 2, 1) := by decide +kernel
theorem dX10_rule_25 : decode cX10_rule 25 = .ok (.iconst 0, 1) := by decide +kernel
theorem dX10_rule_26 : decode cX10_rule 26 = .ok (.iconst 3, 1) := by decide +kernel
theorem dX10_rule_27 : decode cX10_rule 27 = .ok (.invokestatic 99, 3) := by decide +kernel
theorem dX10_rule_30 : decode cX10_rule 30 = .ok (.ifCond .eq 18, 3) := by decide +kernel
theorem dX10_rule_33 : decode cX10_rule 33 = .ok (.iload_n 2, 1) := by decide +kernel
theorem dX10_rule_34 : decode cX10_rule 34 = .ok (.iconst 3, 1) := by decide +kernel
theorem dX10_rule_35 : decode cX10_rule 35 = .ok (.if_icmp .ne 16, 3) := by decide +kernel
theorem dX10_rule_38 : decode cX10_rule 38 = .ok (.aload_n 0, 1) := by decide +kernel
theorem dX10_rule_39 : decode cX10_rule 39 = .ok (.getfield 16, 3) := by decide +kernel
theorem dX10_rule_42 : decode cX10_rule 42 = .ok (.iload_n 1, 1) := by decide +kernel
theorem dX10_rule_43 : decode cX10_rule 43 = .ok (.iaload, 1) := by decide +kernel
theorem dX10_rule_44 : decode cX10_rule 44 = .ok (.iconst 1, 1) := by decide +kernel
theorem dX10_rule_45 : decode cX10_rule 45 = .ok (.if_icmp .eq 6, 3) := by decide +kernel
theorem dX10_rule_48 : decode cX10_rule 48 = .ok (.bipush (-2), 2) := by decide +kernel
theorem dX10_rule_50 : decode cX10_rule 50 = .ok (.ireturn, 1) := by decide +kernel
theorem dX10_rule_51 : decode cX10_rule 51 = .ok (.aload_n 0, 1) := by decide +kernel
theorem dX10_rule_52 : decode cX10_rule 52 = .ok (.getfield 19, 3) := by decide +kernel
theorem dX10_rule_55 : decode cX10_rule 55 = .ok (.iconst 4, 1) := by decide +kernel
theorem dX10_rule_56 : decode cX10_rule 56 = .ok (.iload_n 1, 1) := by decide +kernel
theorem dX10_rule_57 : decode cX10_rule 57 = .ok (.imul, 1) := by decide +kernel
theorem dX10_rule_58 : decode cX10_rule 58 = .ok (.iload_n 2, 1) := by decide +kernel
theorem dX10_rule_59 : decode cX10_rule 59 = .ok (.iadd, 1) := by decide +kernel
theorem dX10_rule_60 : decode cX10_rule 60 = .ok (.iaload, 1) := by decide +kernel
theorem dX10_rule_61 : decode cX10_rule 61 = .ok (.istore 4, 2) := by decide +kernel
theorem dX10_rule_63 : decode cX10_rule 63 = .ok (.aload_n 0, 1) := by decide +kernel
theorem dX10_rule_64 : decode cX10_rule 64 = .ok (.getfield 19, 3) := by decide +kernel
theorem dX10_rule_67 : decode cX10_rule 67 = .ok (.iconst 4, 1) := by decide +kernel
theorem dX10_rule_68 : decode cX10_rule 68 = .ok (.iload_n 1, 1) := by decide +kernel
theorem dX10_rule_69 : decode cX10_rule 69 = .ok (.imul, 1) := by decide +kernel
theorem dX10_rule_70 : decode cX10_rule 70 = .ok (.iload_n 2, 1) := by decide +kernel
theorem dX10_rule_71 : decode cX10_rule 71 = .ok (.iadd, 1) := by decide +kernel
theorem dX10_rule_72 : decode cX10_rule 72 = .ok (.iload_n 3, 1) := by decide +kernel
theorem dX10_rule_73 : decode cX10_rule 73 = .ok (.iastore, 1) := by decide +kernel
theorem dX10_rule_74 : decode cX10_rule 74 = .ok (.aload_n 0, 1) := by decide +kernel
theorem dX10_rule_75 : decode cX10_rule 75 = .ok (.invokevirtual 133, 3) := by decide +kernel
theorem dX10_rule_78 : decode cX10_rule 78 = .ok (.aload_n 0, 1) := by decide +kernel
theorem dX10_rule_79 : decode cX10_rule 79 = .ok (.getfield 37, 3) := by decide +kernel
theorem dX10_rule_82 : decode cX10_rule 82 = .ok (.iload_n 1, 1) := by decide +kernel
theorem dX10_rule_83 : decode cX10_rule 83 = .ok (.iaload, 1) := by decide +kernel
theorem dX10_rule_84 : decode cX10_rule 84 = .ok (.iload_n 1, 1) := by decide +kernel
theorem dX10_rule_85 : decode cX10_rule 85 = .ok (.ishr, 1) := by decide +kernel
theorem dX10_rule_86 : decode cX10_rule 86 = .ok (.iconst 1, 1) := by decide +kernel
theorem dX10_rule_87 : decode cX10_rule 87 = .ok (.iand, 1) := by decide +kernel
theorem dX10_rule_88 : decode cX10_rule 88 = .ok (.iconst 1, 1) := by decide +kernel
theorem dX10_rule_89 : decode cX10_rule 89 = .ok (.if_icmp .ne 28, 3) := by decide +kernel
theorem dX10_rule_92 : decode cX10_rule 92 = .ok (.aload_n 0, 1) := by decide +kernel
theorem dX10_rule_93 : decode cX10_rule 93 = .ok (.iload_n 1, 1) := by decide +kernel
theorem dX10_rule_94 : decode cX10_rule 94 = .ok (.invokevirtual 145, 3) := by decide +kernel
theorem dX10_rule_97 : decode cX10_rule 97 = .ok (.aload_n 0, 1) := by decide +kernel
theorem dX10_rule_98 : decode cX10_rule 98 = .ok (.getfield 19, 3) := by decide +kernel
theorem dX10_rule_101 : decode cX10_rule 101 = .ok (.iconst 4, 1) := by decide +kernel
theorem dX10_rule_102 : decode cX10_rule 102 = .ok (.iload_n 1, 1) := by decide +kernel
theorem dX10_rule_103 : decode cX10_rule 103 = .ok (.imul, 1) := by decide +kernel
theorem dX10_rule_104 : decode cX10_rule 104 = .ok (.iload_n 2, 1) := by decide +kernel
theorem dX10_rule_105 : decode cX10_rule 105 = .ok (.iadd, 1) := by decide +kernel
theorem dX10_rule_106 : decode cX10_rule 106 = .ok (.iload 4, 2) := by decide +kernel
theorem dX10_rule_108 : decode cX10_rule 108 = .ok (.iastore, 1) := by decide +kernel
theorem dX10_rule_109 : decode cX10_rule 109 = .ok (.aload_n 0, 1) := by decide +kernel
theorem dX10_rule_110 : decode cX10_rule 110 = .ok (.iconst 0, 1) := by decide +kernel
theorem dX10_rule_111 : decode cX10_rule 111 = .ok (.putfield 91, 3) := by decide +kernel
theorem dX10_rule_114 : decode cX10_rule 114 = .ok (.bipush (-3), 2) := by decide +kernel
theorem dX10_rule_116 : decode cX10_rule 116 = .ok (.ireturn, 1) := by decide +kernel
theorem dX10_rule_117 : decode cX10_rule 117 = .ok (.aload_n 0, 1) := by decide +kernel
theorem dX10_rule_118 : decode cX10_rule 118 = .ok (.iconst 0, 1) := by decide +kernel
theorem dX10_rule_119 : decode cX10_rule 119 = .ok (.putfield 91, 3) := by decide +kernel
theorem dX10_rule_122 : decode cX10_rule 122 = .ok (.iconst 1, 1) := by decide +kernel
theorem dX10_rule_123 : decode cX10_rule 123 = .ok (.ireturn, 1) := by decide +kernel
theorem dX10_ring_0 : decode cX10_ring 0 = .ok (.iload_n 1, 1) := by decide +kernel
theorem dX10_ring_1 : decode cX10_ring 1 = .ok (.iconst 0, 1) := by decide +kernel
theorem dX10_ring_2 : decode cX10_ring 2 = .ok (.aload_n 0, 1) := by decide +kernel
theorem dX10_ring_3 : decode cX10_ring 3 = .ok (.getfield 139, 3) := by decide +kernel
theorem dX10_ring_6 : decode cX10_ring 6 = .ok (.iconst 1, 1) := by decide +kernel
theorem dX10_ring_7 : decode cX10_ring 7 = .ok (.isub, 1) := by decide +kernel
theorem dX10_ring_8 : decode cX10_ring 8 = .ok (.invokestatic 99, 3) := by decide +kernel
theorem dX10_ring_11 : decode cX10_ring 11 = .ok (.ifCond .eq 12, 3) := by decide +kernel
theorem dX10_ring_14 : decode cX10_ring 14 = .ok (.aload_n 0, 1) := by decide +kernel
theorem dX10_ring_15 : decode cX10_ring 15 = .ok (.getfield 47, 3) := by decide +kernel
theorem dX10_ring_18 : decode cX10_ring 18 = .ok (.iload_n 1, 1) := by decide +kernel
theorem dX10_ring_19 : decode cX10_ring 19 = .ok (.iaload, 1) := by decide +kernel
theorem dX10_ring_20 : decode cX10_ring 20 = .ok (.goto 4, 3) := by decide +kernel
theorem dX10_ring_23 : decode cX10_ring 23 = .ok (.iconst (-1), 1) := by decide +kernel
theorem dX10_ring_24 : decode cX10_ring 24 = .ok (.ireturn, 1) := by decide +kernel
theorem dX10_about_0 : decode cX10_about 0 = .ok (.aload_n 0, 1) := by decide +kernel
theorem dX10_about_1 : decode cX10_about 1 = .ok (.iload_n 1, 1) := by decide +kernel
theorem dX10_about_2 : decode cX10_about 2 = .ok (.invokevirtual 114, 3) := by decide +kernel
theorem dX10_about_5 : decode cX10_about 5 = .ok (.ifCond .eq 5, 3) := by decide +kernel
theorem dX10_about_8 : decode cX10_about 8 = .ok (.iconst (-1), 1) := by decide +kernel
theorem dX10_about_9 : decode cX10_about 9 = .ok (.ireturn, 1) := by decide +kernel
theorem dX10_about_10 : decode cX10_about 10 = .ok (.iload_n 2, 1) := by decide +kernel
theorem dX10_about_11 : decode cX10_about 11 = .ok (.iconst 3, 1) := by decide +kernel
theorem dX10_about_12 : decode cX10_about 12 = .ok (.bipush 6, 2) := by decide +kernel
theorem dX10_about_14 : decode cX10_about 14 = .ok (.invokestatic 99, 3) := by decide +kernel
theorem dX10_about_17 : decode cX10_about 17 = .ok (.ifCond .eq 16, 3) := by decide +kernel
theorem dX10_about_20 : decode cX10_about 20 = .ok (.aload_n 0, 1) := by decide +kernel
theorem dX10_about_21 : decode cX10_about 21 = .ok (.getfield 19, 3) := by decide +kernel
theorem dX10_about_24 : decode cX10_about 24 = .ok (.iconst 4, 1) := by decide +kernel
theorem dX10_about_25 : decode cX10_about 25 = .ok (.iload_n 1, 1) := by decide +kernel
theorem dX10_about_26 : decode cX10_about 26 = .ok (.imul, 1) := by decide +kernel
theorem dX10_about_27 : decode cX10_about 27 = .ok (.iload_n 2, 1) := by decide +kernel
theorem dX10_about_28 : decode cX10_about 28 = .ok (.iadd, 1) := by decide +kernel
theorem dX10_about_29 : decode cX10_about 29 = .ok (.iconst 3, 1) := by decide +kernel
theorem dX10_about_30 : decode cX10_about 30 = .ok (.isub, 1) := by decide +kernel
theorem dX10_about_31 : decode cX10_about 31 = .ok (.iaload, 1) := by decide +kernel
theorem dX10_about_32 : decode cX10_about 32 = .ok (.ireturn, 1) := by decide +kernel
theorem dX10_about_33 : decode cX10_about 33 = .ok (.aload_n 0, 1) := by decide +kernel
theorem dX10_about_34 : decode cX10_about 34 = .ok (.invokevirtual 149, 3) := by decide +kernel
theorem dX10_about_37 : decode cX10_about 37 = .ok (.iload_n 2, 1) := by decide +kernel
theorem dX10_about_38 : decode cX10_about 38 = .ok (.tableswitch 87 0 8 #[50, 57, 64, 87, 87, 87, 87, 71, 81], 50) := by decide +kernel
theorem dX10_about_88 : decode cX10_about 88 = .ok (.aload_n 0, 1) := by decide +kernel
theorem dX10_about_89 : decode cX10_about 89 = .ok (.getfield 7, 3) := by decide +kernel
theorem dX10_about_92 : decode cX10_about 92 = .ok (.iload_n 1, 1) := by decide +kernel
theorem dX10_about_93 : decode cX10_about 93 = .ok (.iaload, 1) := by decide +kernel
theorem dX10_about_94 : decode cX10_about 94 = .ok (.ireturn, 1) := by decide +kernel
theorem dX10_about_95 : decode cX10_about 95 = .ok (.aload_n 0, 1) := by decide +kernel
theorem dX10_about_96 : decode cX10_about 96 = .ok (.getfield 13, 3) := by decide +kernel
theorem dX10_about_99 : decode cX10_about 99 = .ok (.iload_n 1, 1) := by decide +kernel
theorem dX10_about_100 : decode cX10_about 100 = .ok (.iaload, 1) := by decide +kernel
theorem dX10_about_101 : decode cX10_about 101 = .ok (.ireturn, 1) := by decide +kernel
theorem dX10_about_102 : decode cX10_about 102 = .ok (.aload_n 0, 1) := by decide +kernel
theorem dX10_about_103 : decode cX10_about 103 = .ok (.getfield 16, 3) := by decide +kernel
theorem dX10_about_106 : decode cX10_about 106 = .ok (.iload_n 1, 1) := by decide +kernel
theorem dX10_about_107 : decode cX10_about 107 = .ok (.iaload, 1) := by decide +kernel
theorem dX10_about_108 : decode cX10_about 108 = .ok (.ireturn, 1) := by decide +kernel
theorem dX10_about_109 : decode cX10_about 109 = .ok (.aload_n 0, 1) := by decide +kernel
theorem dX10_about_110 : decode cX10_about 110 = .ok (.getfield 37, 3) := by decide +kernel
theorem dX10_about_113 : decode cX10_about 113 = .ok (.iload_n 1, 1) := by decide +kernel
theorem dX10_about_114 : decode cX10_about 114 = .ok (.iaload, 1) := by decide +kernel
theorem dX10_about_115 : decode cX10_about 115 = .ok (.invokestatic 136, 3) := by decide +kernel
theorem dX10_about_118 : decode cX10_about 118 = .ok (.ireturn, 1) := by decide +kernel
theorem dX10_about_119 : decode cX10_about 119 = .ok (.aload_n 0, 1) := by decide +kernel
theorem dX10_about_120 : decode cX10_about 120 = .ok (.iload_n 1, 1) := by decide +kernel
theorem dX10_about_121 : decode cX10_about 121 = .ok (.invokevirtual 152, 3) := by decide +kernel
theorem dX10_about_124 : decode cX10_about 124 = .ok (.ireturn, 1) := by decide +kernel
theorem dX10_about_125 : decode cX10_about 125 = .ok (.bipush (-2), 2) := by decide +kernel
theorem dX10_about_127 : decode cX10_about 127 = .ok (.ireturn, 1) := by decide +kernel
theorem dX10_followers_0 : decode cX10_followers 0 = .ok (.iconst 0, 1) := by decide +kernel
theorem dX10_followers_1 : decode cX10_followers 1 = .ok (.istore_n 2, 1) := by decide +kernel
theorem dX10_followers_2 : decode cX10_followers 2 = .ok (.iconst 0, 1) := by decide +kernel
theorem dX10_followers_3 : decode cX10_followers 3 = .ok (.istore_n 3, 1) := by decide +kernel
theorem dX10_followers_4 : decode cX10_followers 4 = .ok (.iload_n 3, 1) := by decide +kernel
theorem dX10_followers_5 : decode cX10_followers 5 = .ok (.aload_n 0, 1) := by decide +kernel
theorem dX10_followers_6 : decode cX10_followers 6 = .ok (.getfield 95, 3) := by decide +kernel
theorem dX10_followers_9 : decode cX10_followers 9 = .ok (.if_icmp .ge 22, 3) := by decide +kernel
theorem dX10_followers_12 : decode cX10_followers 12 = .ok (.iload_n 2, 1) := by decide +kernel
theorem dX10_followers_13 : decode cX10_followers 13 = .ok (.aload_n 0, 1) := by decide +kernel
theorem dX10_followers_14 : decode cX10_followers 14 = .ok (.getfield 37, 3) := by decide +kernel
theorem dX10_followers_17 : decode cX10_followers 17 = .ok (.iload_n 3, 1) := by decide +kernel
theorem dX10_followers_18 : decode cX10_followers 18 = .ok (.iaload, 1) := by decide +kernel
theorem dX10_followers_19 : decode cX10_followers 19 = .ok (.iload_n 1, 1) := by decide +kernel
theorem dX10_followers_20 : decode cX10_followers 20 = .ok (.ishr, 1) := by decide +kernel
theorem dX10_followers_21 : decode cX10_followers 21 = .ok (.iconst 1, 1) := by decide +kernel
theorem dX10_followers_22 : decode cX10_followers 22 = .ok (.iand, 1) := by decide +kernel
theorem dX10_followers_23 : decode cX10_followers 23 = .ok (.iadd, 1) := by decide +kernel
theorem dX10_followers_24 : decode cX10_followers 24 = .ok (.istore_n 2, 1) := by decide +kernel
theorem dX10_followers_25 : decode cX10_followers 25 = .ok (.iinc 3 1, 3) := by decide +kernel
theorem dX10_followers_28 : decode cX10_followers 28 = .ok (.goto (-24), 3) := by decide +kernel
theorem dX10_followers_31 : decode cX10_followers 31 = .ok (.iload_n 2, 1) := by decide +kernel
theorem dX10_followers_32 : decode cX10_followers 32 = .ok (.ireturn, 1) := by decide +kernel
theorem dX10_hangs_0 : decode cX10_hangs 0 = .ok (.aload_n 0, 1) := by decide +kernel
theorem dX10_hangs_1 : decode cX10_hangs 1 = .ok (.iload_n 1, 1) := by decide +kernel
theorem dX10_hangs_2 : decode cX10_hangs 2 = .ok (.invokevirtual 114, 3) := by decide +kernel
theorem dX10_hangs_5 : decode cX10_hangs 5 = .ok (.ifCond .ne 11, 3) := by decide +kernel
theorem dX10_hangs_8 : decode cX10_hangs 8 = .ok (.aload_n 0, 1) := by decide +kernel
theorem dX10_hangs_9 : decode cX10_hangs 9 = .ok (.iload_n 2, 1) := by decide +kernel
theorem dX10_hangs_10 : decode cX10_hangs 10 = .ok (.invokevirtual 114, 3) := by decide +kernel
theorem dX10_hangs_13 : decode cX10_hangs 13 = .ok (.ifCond .eq 5, 3) := by decide +kernel
theorem dX10_hangs_16 : decode cX10_hangs 16 = .ok (.iconst (-1), 1) := by decide +kernel
theorem dX10_hangs_17 : decode cX10_hangs 17 = .ok (.ireturn, 1) := by decide +kernel
theorem dX10_hangs_18 : decode cX10_hangs 18 = .ok (.aload_n 0, 1) := by decide +kernel
theorem dX10_hangs_19 : decode cX10_hangs 19 = .ok (.invokevirtual 149, 3) := by decide +kernel
theorem dX10_hangs_22 : decode cX10_hangs 22 = .ok (.aload_n 0, 1) := by decide +kernel
theorem dX10_hangs_23 : decode cX10_hangs 23 = .ok (.getfield 37, 3) := by decide +kernel
theorem dX10_hangs_26 : decode cX10_hangs 26 = .ok (.iload_n 1, 1) := by decide +kernel
theorem dX10_hangs_27 : decode cX10_hangs 27 = .ok (.iaload, 1) := by decide +kernel
theorem dX10_hangs_28 : decode cX10_hangs 28 = .ok (.iload_n 2, 1) := by decide +kernel
theorem dX10_hangs_29 : decode cX10_hangs 29 = .ok (.ishr, 1) := by decide +kernel
theorem dX10_hangs_30 : decode cX10_hangs 30 = .ok (.iconst 1, 1) := by decide +kernel
theorem dX10_hangs_31 : decode cX10_hangs 31 = .ok (.iand, 1) := by decide +kernel
theorem dX10_hangs_32 : decode cX10_hangs 32 = .ok (.ireturn, 1) := by decide +kernel
theorem dX10_cut_0 : decode cX10_cut 0 = .ok (.lload_n 0, 1) := by decide +kernel
theorem dX10_cut_1 : decode cX10_cut 1 = .ok (.ldc2_w 155, 3) := by decide +kernel
theorem dX10_cut_4 : decode cX10_cut 4 = .ok (.lcmp, 1) := by decide +kernel
theorem dX10_cut_5 : decode cX10_cut 5 = .ok (.ifCond .le 8, 3) := by decide +kernel
theorem dX10_cut_8 : decode cX10_cut 8 = .ok (.ldc 121, 2) := by decide +kernel
theorem dX10_cut_10 : decode cX10_cut 10 = .ok (.goto 18, 3) := by decide +kernel
theorem dX10_cut_13 : decode cX10_cut 13 = .ok (.lload_n 0, 1) := by decide +kernel
theorem dX10_cut_14 : decode cX10_cut 14 = .ok (.ldc2_w 157, 3) := by decide +kernel
theorem dX10_cut_17 : decode cX10_cut 17 = .ok (.lcmp, 1) := by decide +kernel
theorem dX10_cut_18 : decode cX10_cut 18 = .ok (.ifCond .ge 8, 3) := by decide +kernel
theorem dX10_cut_21 : decode cX10_cut 21 = .ok (.ldc 120, 2) := by decide +kernel
theorem dX10_cut_23 : decode cX10_cut 23 = .ok (.goto 5, 3) := by decide +kernel
theorem dX10_cut_26 : decode cX10_cut 26 = .ok (.lload_n 0, 1) := by decide +kernel
theorem dX10_cut_27 : decode cX10_cut 27 = .ok (.l2i, 1) := by decide +kernel
theorem dX10_cut_28 : decode cX10_cut 28 = .ok (.ireturn, 1) := by decide +kernel
theorem dX10_ofTwo_0 : decode cX10_ofTwo 0 = .ok (.iload_n 0, 1) := by decide +kernel
theorem dX10_ofTwo_1 : decode cX10_ofTwo 1 = .ok (.bipush 7, 2) := by decide +kernel
theorem dX10_ofTwo_3 : decode cX10_ofTwo 3 = .ok (.if_icmp .ne 34, 3) := by decide +kernel
theorem dX10_ofTwo_6 : decode cX10_ofTwo 6 = .ok (.iload_n 1, 1) := by decide +kernel
theorem dX10_ofTwo_7 : decode cX10_ofTwo 7 = .ok (.ifCond .eq 7, 3) := by decide +kernel
theorem dX10_ofTwo_10 : decode cX10_ofTwo 10 = .ok (.iload_n 2, 1) := by decide +kernel
theorem dX10_ofTwo_11 : decode cX10_ofTwo 11 = .ok (.ifCond .ne 7, 3) := by decide +kernel
theorem dX10_ofTwo_14 : decode cX10_ofTwo 14 = .ok (.iconst 0, 1) := by decide +kernel
theorem dX10_ofTwo_15 : decode cX10_ofTwo 15 = .ok (.goto 21, 3) := by decide +kernel
theorem dX10_ofTwo_18 : decode cX10_ofTwo 18 = .ok (.iload_n 1, 1) := by decide +kernel
theorem dX10_ofTwo_19 : decode cX10_ofTwo 19 = .ok (.ldc 90, 2) := by decide +kernel
theorem dX10_ofTwo_21 : decode cX10_ofTwo 21 = .ok (.if_icmp .eq 9, 3) := by decide +kernel
theorem dX10_ofTwo_24 : decode cX10_ofTwo 24 = .ok (.iload_n 2, 1) := by decide +kernel
theorem dX10_ofTwo_25 : decode cX10_ofTwo 25 = .ok (.ldc 90, 2) := by decide +kernel
theorem dX10_ofTwo_27 : decode cX10_ofTwo 27 = .ok (.if_icmp .ne 8, 3) := by decide +kernel
theorem dX10_ofTwo_30 : decode cX10_ofTwo 30 = .ok (.ldc 90, 2) := by decide +kernel
theorem dX10_ofTwo_32 : decode cX10_ofTwo 32 = .ok (.goto 4, 3) := by decide +kernel
theorem dX10_ofTwo_35 : decode cX10_ofTwo 35 = .ok (.iconst 1, 1) := by decide +kernel
theorem dX10_ofTwo_36 : decode cX10_ofTwo 36 = .ok (.ireturn, 1) := by decide +kernel
theorem dX10_ofTwo_37 : decode cX10_ofTwo 37 = .ok (.iload_n 0, 1) := by decide +kernel
theorem dX10_ofTwo_38 : decode cX10_ofTwo 38 = .ok (.bipush 8, 2) := by decide +kernel
theorem dX10_ofTwo_40 : decode cX10_ofTwo 40 = .ok (.if_icmp .ne 46, 3) := by decide +kernel
theorem dX10_ofTwo_43 : decode cX10_ofTwo 43 = .ok (.iload_n 1, 1) := by decide +kernel
theorem dX10_ofTwo_44 : decode cX10_ofTwo 44 = .ok (.ldc 90, 2) := by decide +kernel
theorem dX10_ofTwo_46 : decode cX10_ofTwo 46 = .ok (.if_icmp .eq 7, 3) := by decide +kernel
theorem dX10_ofTwo_49 : decode cX10_ofTwo 49 = .ok (.iload_n 1, 1) := by decide +kernel
theorem dX10_ofTwo_50 : decode cX10_ofTwo 50 = .ok (.ifCond .ne 13, 3) := by decide +kernel
theorem dX10_ofTwo_53 : decode cX10_ofTwo 53 = .ok (.iload_n 2, 1) := by decide +kernel
theorem dX10_ofTwo_54 : decode cX10_ofTwo 54 = .ok (.ldc 90, 2) := by decide +kernel
theorem dX10_ofTwo_56 : decode cX10_ofTwo 56 = .ok (.if_icmp .eq 11, 3) := by decide +kernel
theorem dX10_ofTwo_59 : decode cX10_ofTwo 59 = .ok (.iload_n 2, 1) := by decide +kernel
theorem dX10_ofTwo_60 : decode cX10_ofTwo 60 = .ok (.ifCond .eq 7, 3) := by decide +kernel
theorem dX10_ofTwo_63 : decode cX10_ofTwo 63 = .ok (.iconst 1, 1) := by decide +kernel
theorem dX10_ofTwo_64 : decode cX10_ofTwo 64 = .ok (.goto 21, 3) := by decide +kernel
theorem dX10_ofTwo_67 : decode cX10_ofTwo 67 = .ok (.iload_n 1, 1) := by decide +kernel
theorem dX10_ofTwo_68 : decode cX10_ofTwo 68 = .ok (.ldc 90, 2) := by decide +kernel
theorem dX10_ofTwo_70 : decode cX10_ofTwo 70 = .ok (.if_icmp .eq 9, 3) := by decide +kernel
theorem dX10_ofTwo_73 : decode cX10_ofTwo 73 = .ok (.iload_n 2, 1) := by decide +kernel
theorem dX10_ofTwo_74 : decode cX10_ofTwo 74 = .ok (.ldc 90, 2) := by decide +kernel
theorem dX10_ofTwo_76 : decode cX10_ofTwo 76 = .ok (.if_icmp .ne 8, 3) := by decide +kernel
theorem dX10_ofTwo_79 : decode cX10_ofTwo 79 = .ok (.ldc 90, 2) := by decide +kernel
theorem dX10_ofTwo_81 : decode cX10_ofTwo 81 = .ok (.goto 4, 3) := by decide +kernel
theorem dX10_ofTwo_84 : decode cX10_ofTwo 84 = .ok (.iconst 0, 1) := by decide +kernel
theorem dX10_ofTwo_85 : decode cX10_ofTwo 85 = .ok (.ireturn, 1) := by decide +kernel
theorem dX10_ofTwo_86 : decode cX10_ofTwo 86 = .ok (.iload_n 1, 1) := by decide +kernel
theorem dX10_ofTwo_87 : decode cX10_ofTwo 87 = .ok (.ldc 90, 2) := by decide +kernel
theorem dX10_ofTwo_89 : decode cX10_ofTwo 89 = .ok (.if_icmp .eq 9, 3) := by decide +kernel
theorem dX10_ofTwo_92 : decode cX10_ofTwo 92 = .ok (.iload_n 2, 1) := by decide +kernel
theorem dX10_ofTwo_93 : decode cX10_ofTwo 93 = .ok (.ldc 90, 2) := by decide +kernel
theorem dX10_ofTwo_95 : decode cX10_ofTwo 95 = .ok (.if_icmp .ne 6, 3) := by decide +kernel
theorem dX10_ofTwo_98 : decode cX10_ofTwo 98 = .ok (.ldc 90, 2) := by decide +kernel
theorem dX10_ofTwo_100 : decode cX10_ofTwo 100 = .ok (.ireturn, 1) := by decide +kernel
theorem dX10_ofTwo_101 : decode cX10_ofTwo 101 = .ok (.iload_n 0, 1) := by decide +kernel
theorem dX10_ofTwo_102 : decode cX10_ofTwo 102 = .ok (.tableswitch 68 2 5 #[30, 39, 48, 57], 30) := by decide +kernel
theorem dX10_ofTwo_132 : decode cX10_ofTwo 132 = .ok (.iload_n 1, 1) := by decide +kernel
theorem dX10_ofTwo_133 : decode cX10_ofTwo 133 = .ok (.i2l, 1) := by decide +kernel
theorem dX10_ofTwo_134 : decode cX10_ofTwo 134 = .ok (.iload_n 2, 1) := by decide +kernel
theorem dX10_ofTwo_135 : decode cX10_ofTwo 135 = .ok (.i2l, 1) := by decide +kernel
theorem dX10_ofTwo_136 : decode cX10_ofTwo 136 = .ok (.ladd, 1) := by decide +kernel
theorem dX10_ofTwo_137 : decode cX10_ofTwo 137 = .ok (.invokestatic 159, 3) := by decide +kernel
theorem dX10_ofTwo_140 : decode cX10_ofTwo 140 = .ok (.ireturn, 1) := by decide +kernel
theorem dX10_ofTwo_141 : decode cX10_ofTwo 141 = .ok (.iload_n 1, 1) := by decide +kernel
theorem dX10_ofTwo_142 : decode cX10_ofTwo 142 = .ok (.i2l, 1) := by decide +kernel
theorem dX10_ofTwo_143 : decode cX10_ofTwo 143 = .ok (.iload_n 2, 1) := by decide +kernel
theorem dX10_ofTwo_144 : decode cX10_ofTwo 144 = .ok (.i2l, 1) := by decide +kernel
theorem dX10_ofTwo_145 : decode cX10_ofTwo 145 = .ok (.lsub, 1) := by decide +kernel
theorem dX10_ofTwo_146 : decode cX10_ofTwo 146 = .ok (.invokestatic 159, 3) := by decide +kernel
theorem dX10_ofTwo_149 : decode cX10_ofTwo 149 = .ok (.ireturn, 1) := by decide +kernel
theorem dX10_ofTwo_150 : decode cX10_ofTwo 150 = .ok (.iload_n 1, 1) := by decide +kernel
theorem dX10_ofTwo_151 : decode cX10_ofTwo 151 = .ok (.i2l, 1) := by decide +kernel
theorem dX10_ofTwo_152 : decode cX10_ofTwo 152 = .ok (.iload_n 2, 1) := by decide +kernel
theorem dX10_ofTwo_153 : decode cX10_ofTwo 153 = .ok (.i2l, 1) := by decide +kernel
theorem dX10_ofTwo_154 : decode cX10_ofTwo 154 = .ok (.lmul, 1) := by decide +kernel
theorem dX10_ofTwo_155 : decode cX10_ofTwo 155 = .ok (.invokestatic 159, 3) := by decide +kernel
theorem dX10_ofTwo_158 : decode cX10_ofTwo 158 = .ok (.ireturn, 1) := by decide +kernel
theorem dX10_ofTwo_159 : decode cX10_ofTwo 159 = .ok (.iload_n 1, 1) := by decide +kernel
theorem dX10_ofTwo_160 : decode cX10_ofTwo 160 = .ok (.iload_n 2, 1) := by decide +kernel
theorem dX10_ofTwo_161 : decode cX10_ofTwo 161 = .ok (.if_icmp .ne 7, 3) := by decide +kernel
theorem dX10_ofTwo_164 : decode cX10_ofTwo 164 = .ok (.iconst 1, 1) := by decide +kernel
theorem dX10_ofTwo_165 : decode cX10_ofTwo 165 = .ok (.goto 4, 3) := by decide +kernel
theorem dX10_ofTwo_168 : decode cX10_ofTwo 168 = .ok (.iconst 0, 1) := by decide +kernel
theorem dX10_ofTwo_169 : decode cX10_ofTwo 169 = .ok (.ireturn, 1) := by decide +kernel
theorem dX10_ofTwo_170 : decode cX10_ofTwo 170 = .ok (.iload_n 1, 1) := by decide +kernel
theorem dX10_ofTwo_171 : decode cX10_ofTwo 171 = .ok (.iload_n 2, 1) := by decide +kernel
theorem dX10_ofTwo_172 : decode cX10_ofTwo 172 = .ok (.if_icmp .ge 7, 3) := by decide +kernel
theorem dX10_ofTwo_175 : decode cX10_ofTwo 175 = .ok (.iconst 1, 1) := by decide +kernel
theorem dX10_ofTwo_176 : decode cX10_ofTwo 176 = .ok (.goto 4, 3) := by decide +kernel
theorem dX10_ofTwo_179 : decode cX10_ofTwo 179 = .ok (.iconst 0, 1) := by decide +kernel
theorem dX10_ofTwo_180 : decode cX10_ofTwo 180 = .ok (.ireturn, 1) := by decide +kernel
theorem dX10_work_0 : decode cX10_work 0 = .ok (.aload_n 0, 1) := by decide +kernel
theorem dX10_work_1 : decode cX10_work 1 = .ok (.getfield 22, 3) := by decide +kernel
theorem dX10_work_4 : decode cX10_work 4 = .ok (.iload_n 1, 1) := by decide +kernel
theorem dX10_work_5 : decode cX10_work 5 = .ok (.iaload, 1) := by decide +kernel
theorem dX10_work_6 : decode cX10_work 6 = .ok (.istore_n 2, 1) := by decide +kernel
theorem dX10_work_7 : decode cX10_work 7 = .ok (.iload_n 2, 1) := by decide +kernel
theorem dX10_work_8 : decode cX10_work 8 = .ok (.ifCond .ne 18, 3) := by decide +kernel
theorem dX10_work_11 : decode cX10_work 11 = .ok (.aload_n 0, 1) := by decide +kernel
theorem dX10_work_12 : decode cX10_work 12 = .ok (.getfield 63, 3) := by decide +kernel
theorem dX10_work_15 : decode cX10_work 15 = .ok (.iload_n 1, 1) := by decide +kernel
theorem dX10_work_16 : decode cX10_work 16 = .ok (.aload_n 0, 1) := by decide +kernel
theorem dX10_work_17 : decode cX10_work 17 = .ok (.getfield 25, 3) := by decide +kernel
theorem dX10_work_20 : decode cX10_work 20 = .ok (.iload_n 1, 1) := by decide +kernel
theorem dX10_work_21 : decode cX10_work 21 = .ok (.iaload, 1) := by decide +kernel
theorem dX10_work_22 : decode cX10_work 22 = .ok (.iastore, 1) := by decide +kernel
theorem dX10_work_23 : decode cX10_work 23 = .ok (.goto 226, 3) := by decide +kernel
theorem dX10_work_26 : decode cX10_work 26 = .ok (.iload_n 2, 1) := by decide +kernel
theorem dX10_work_27 : decode cX10_work 27 = .ok (.iconst 1, 1) := by decide +kernel
theorem dX10_work_28 : decode cX10_work 28 = .ok (.if_icmp .ne 23, 3) := by decide +kernel
theorem dX10_work_31 : decode cX10_work 31 = .ok (.aload_n 0, 1) := by decide +kernel
theorem dX10_work_32 : decode cX10_work 32 = .ok (.getfield 63, 3) := by decide +kernel
theorem dX10_work_35 : decode cX10_work 35 = .ok (.iload_n 1, 1) := by decide +kernel
theorem dX10_work_36 : decode cX10_work 36 = .ok (.aload_n 0, 1) := by decide +kernel
theorem dX10_work_37 : decode cX10_work 37 = .ok (.getfield 60, 3) := by decide +kernel
theorem dX10_work_40 : decode cX10_work 40 = .ok (.aload_n 0, 1) := by decide +kernel
theorem dX10_work_41 : decode cX10_work 41 = .ok (.getfield 25, 3) := by decide +kernel
theorem dX10_work_44 : decode cX10_work 44 = .ok (.iload_n 1, 1) := by decide +kernel
theorem dX10_work_45 : decode cX10_work 45 = .ok (.iaload, 1) := by decide +kernel
theorem dX10_work_46 : decode cX10_work 46 = .ok (.iaload, 1) := by decide +kernel
theorem dX10_work_47 : decode cX10_work 47 = .ok (.iastore, 1) := by decide +kernel
theorem dX10_work_48 : decode cX10_work 48 = .ok (.goto 201, 3) := by decide +kernel
theorem dX10_work_51 : decode cX10_work 51 = .ok (.iload_n 2, 1) := by decide +kernel
theorem dX10_work_52 : decode cX10_work 52 = .ok (.bipush 10, 2) := by decide +kernel
theorem dX10_work_54 : decode cX10_work 54 = .ok (.if_icmp .ne 33, 3) := by decide +kernel
theorem dX10_work_57 : decode cX10_work 57 = .ok (.aload_n 0, 1) := by decide +kernel
theorem dX10_work_58 : decode cX10_work 58 = .ok (.getfield 63, 3) := by decide +kernel
theorem dX10_work_61 : decode cX10_work 61 = .ok (.iload_n 1, 1) := by decide +kernel
theorem dX10_work_62 : decode cX10_work 62 = .ok (.aload_n 0, 1) := by decide +kernel
theorem dX10_work_63 : decode cX10_work 63 = .ok (.getfield 60, 3) := by decide +kernel
theorem dX10_work_66 : decode cX10_work 66 = .ok (.aload_n 0, 1) := by decide +kernel
theorem dX10_work_67 : decode cX10_work 67 = .ok (.getfield 25, 3) := by decide +kernel
theorem dX10_work_70 : decode cX10_work 70 = .ok (.iload_n 1, 1) := by decide +kernel
theorem dX10_work_71 : decode cX10_work 71 = .ok (.iaload, 1) := by decide +kernel
theorem dX10_work_72 : decode cX10_work 72 = .ok (.iaload, 1) := by decide +kernel
theorem dX10_work_73 : decode cX10_work 73 = .ok (.ldc 90, 2) := by decide +kernel
theorem dX10_work_75 : decode cX10_work 75 = .ok (.if_icmp .ne 7, 3) := by decide +kernel
theorem dX10_work_78 : decode cX10_work 78 = .ok (.iconst 0, 1) := by decide +kernel
theorem dX10_work_79 : decode cX10_work 79 = .ok (.goto 4, 3) := by decide +kernel
theorem dX10_work_82 : decode cX10_work 82 = .ok (.iconst 1, 1) := by decide +kernel
theorem dX10_work_83 : decode cX10_work 83 = .ok (.iastore, 1) := by decide +kernel
theorem dX10_work_84 : decode cX10_work 84 = .ok (.goto 165, 3) := by decide +kernel
theorem dX10_work_87 : decode cX10_work 87 = .ok (.iload_n 2, 1) := by decide +kernel
theorem dX10_work_88 : decode cX10_work 88 = .ok (.bipush 9, 2) := by decide +kernel
theorem dX10_work_90 : decode cX10_work 90 = .ok (.if_icmp .ne 52, 3) := by decide +kernel
theorem dX10_work_93 : decode cX10_work 93 = .ok (.aload_n 0, 1) := by decide +kernel
theorem dX10_work_94 : decode cX10_work 94 = .ok (.getfield 63, 3) := by decide +kernel
theorem dX10_work_97 : decode cX10_work 97 = .ok (.iload_n 1, 1) := by decide +kernel
theorem dX10_work_98 : decode cX10_work 98 = .ok (.aload_n 0, 1) := by decide +kernel
theorem dX10_work_99 : decode cX10_work 99 = .ok (.getfield 63, 3) := by decide +kernel
theorem dX10_work_102 : decode cX10_work 102 = .ok (.aload_n 0, 1) := by decide +kernel
theorem dX10_work_103 : decode cX10_work 103 = .ok (.getfield 25, 3) := by decide +kernel
theorem dX10_work_106 : decode cX10_work 106 = .ok (.iload_n 1, 1) := by decide +kernel
theorem dX10_work_107 : decode cX10_work 107 = .ok (.iaload, 1) := by decide +kernel
theorem dX10_work_108 : decode cX10_work 108 = .ok (.iaload, 1) := by decide +kernel
theorem dX10_work_109 : decode cX10_work 109 = .ok (.ldc 90, 2) := by decide +kernel
theorem dX10_work_111 : decode cX10_work 111 = .ok (.if_icmp .ne 8, 3) := by decide +kernel
theorem dX10_work_114 : decode cX10_work 114 = .ok (.ldc 90, 2) := by decide +kernel
theorem dX10_work_116 : decode cX10_work 116 = .ok (.goto 22, 3) := by decide +kernel
theorem dX10_work_119 : decode cX10_work 119 = .ok (.aload_n 0, 1) := by decide +kernel
theorem dX10_work_120 : decode cX10_work 120 = .ok (.getfield 63, 3) := by decide +kernel
theorem dX10_work_123 : decode cX10_work 123 = .ok (.aload_n 0, 1) := by decide +kernel
theorem dX10_work_124 : decode cX10_work 124 = .ok (.getfield 25, 3) := by decide +kernel
theorem dX10_work_127 : decode cX10_work 127 = .ok (.iload_n 1, 1) := by decide +kernel
theorem dX10_work_128 : decode cX10_work 128 = .ok (.iaload, 1) := by decide +kernel
theorem dX10_work_129 : decode cX10_work 129 = .ok (.iaload, 1) := by decide +kernel
theorem dX10_work_130 : decode cX10_work 130 = .ok (.ifCond .ne 7, 3) := by decide +kernel
theorem dX10_work_133 : decode cX10_work 133 = .ok (.iconst 1, 1) := by decide +kernel
theorem dX10_work_134 : decode cX10_work 134 = .ok (.goto 4, 3) := by decide +kernel
theorem dX10_work_137 : decode cX10_work 137 = .ok (.iconst 0, 1) := by decide +kernel
theorem dX10_work_138 : decode cX10_work 138 = .ok (.iastore, 1) := by decide +kernel
theorem dX10_work_139 : decode cX10_work 139 = .ok (.goto 110, 3) := by decide +kernel
theorem dX10_work_142 : decode cX10_work 142 = .ok (.iload_n 2, 1) := by decide +kernel
theorem dX10_work_143 : decode cX10_work 143 = .ok (.bipush 11, 2) := by decide +kernel
theorem dX10_work_145 : decode cX10_work 145 = .ok (.if_icmp .ne 72, 3) := by decide +kernel
theorem dX10_work_148 : decode cX10_work 148 = .ok (.aload_n 0, 1) := by decide +kernel
theorem dX10_work_149 : decode cX10_work 149 = .ok (.getfield 63, 3) := by decide +kernel
theorem dX10_work_152 : decode cX10_work 152 = .ok (.iload_n 1, 1) := by decide +kernel
theorem dX10_work_153 : decode cX10_work 153 = .ok (.aload_n 0, 1) := by decide +kernel
theorem dX10_work_154 : decode cX10_work 154 = .ok (.getfield 63, 3) := by decide +kernel
theorem dX10_work_157 : decode cX10_work 157 = .ok (.aload_n 0, 1) := by decide +kernel
theorem dX10_work_158 : decode cX10_work 158 = .ok (.getfield 25, 3) := by decide +kernel
theorem dX10_work_161 : decode cX10_work 161 = .ok (.iload_n 1, 1) := by decide +kernel
theorem dX10_work_162 : decode cX10_work 162 = .ok (.iaload, 1) := by decide +kernel
theorem dX10_work_163 : decode cX10_work 163 = .ok (.iaload, 1) := by decide +kernel
theorem dX10_work_164 : decode cX10_work 164 = .ok (.ldc 90, 2) := by decide +kernel
theorem dX10_work_166 : decode cX10_work 166 = .ok (.if_icmp .ne 8, 3) := by decide +kernel
theorem dX10_work_169 : decode cX10_work 169 = .ok (.ldc 90, 2) := by decide +kernel
theorem dX10_work_171 : decode cX10_work 171 = .ok (.goto 42, 3) := by decide +kernel
theorem dX10_work_174 : decode cX10_work 174 = .ok (.aload_n 0, 1) := by decide +kernel
theorem dX10_work_175 : decode cX10_work 175 = .ok (.getfield 63, 3) := by decide +kernel
theorem dX10_work_178 : decode cX10_work 178 = .ok (.aload_n 0, 1) := by decide +kernel
theorem dX10_work_179 : decode cX10_work 179 = .ok (.getfield 25, 3) := by decide +kernel
theorem dX10_work_182 : decode cX10_work 182 = .ok (.iload_n 1, 1) := by decide +kernel
theorem dX10_work_183 : decode cX10_work 183 = .ok (.iaload, 1) := by decide +kernel
theorem dX10_work_184 : decode cX10_work 184 = .ok (.iaload, 1) := by decide +kernel
theorem dX10_work_185 : decode cX10_work 185 = .ok (.ifCond .eq 17, 3) := by decide +kernel
theorem dX10_work_188 : decode cX10_work 188 = .ok (.aload_n 0, 1) := by decide +kernel
theorem dX10_work_189 : decode cX10_work 189 = .ok (.getfield 63, 3) := by decide +kernel
theorem dX10_work_192 : decode cX10_work 192 = .ok (.aload_n 0, 1) := by decide +kernel
theorem dX10_work_193 : decode cX10_work 193 = .ok (.getfield 28, 3) := by decide +kernel
theorem dX10_work_196 : decode cX10_work 196 = .ok (.iload_n 1, 1) := by decide +kernel
theorem dX10_work_197 : decode cX10_work 197 = .ok (.iaload, 1) := by decide +kernel
theorem dX10_work_198 : decode cX10_work 198 = .ok (.iaload, 1) := by decide +kernel
theorem dX10_work_199 : decode cX10_work 199 = .ok (.goto 14, 3) := by decide +kernel
theorem dX10_work_202 : decode cX10_work 202 = .ok (.aload_n 0, 1) := by decide +kernel
theorem dX10_work_203 : decode cX10_work 203 = .ok (.getfield 63, 3) := by decide +kernel
theorem dX10_work_206 : decode cX10_work 206 = .ok (.aload_n 0, 1) := by decide +kernel
theorem dX10_work_207 : decode cX10_work 207 = .ok (.getfield 31, 3) := by decide +kernel
theorem dX10_work_210 : decode cX10_work 210 = .ok (.iload_n 1, 1) := by decide +kernel
theorem dX10_work_211 : decode cX10_work 211 = .ok (.iaload, 1) := by decide +kernel
theorem dX10_work_212 : decode cX10_work 212 = .ok (.iaload, 1) := by decide +kernel
theorem dX10_work_213 : decode cX10_work 213 = .ok (.iastore, 1) := by decide +kernel
theorem dX10_work_214 : decode cX10_work 214 = .ok (.goto 35, 3) := by decide +kernel
theorem dX10_work_217 : decode cX10_work 217 = .ok (.aload_n 0, 1) := by decide +kernel
theorem dX10_work_218 : decode cX10_work 218 = .ok (.getfield 63, 3) := by decide +kernel
theorem dX10_work_221 : decode cX10_work 221 = .ok (.iload_n 1, 1) := by decide +kernel
theorem dX10_work_222 : decode cX10_work 222 = .ok (.iload_n 2, 1) := by decide +kernel
theorem dX10_work_223 : decode cX10_work 223 = .ok (.aload_n 0, 1) := by decide +kernel
theorem dX10_work_224 : decode cX10_work 224 = .ok (.getfield 63, 3) := by decide +kernel
theorem dX10_work_227 : decode cX10_work 227 = .ok (.aload_n 0, 1) := by decide +kernel
theorem dX10_work_228 : decode cX10_work 228 = .ok (.getfield 25, 3) := by decide +kernel
theorem dX10_work_231 : decode cX10_work 231 = .ok (.iload_n 1, 1) := by decide +kernel
theorem dX10_work_232 : decode cX10_work 232 = .ok (.iaload, 1) := by decide +kernel
theorem dX10_work_233 : decode cX10_work 233 = .ok (.iaload, 1) := by decide +kernel
theorem dX10_work_234 : decode cX10_work 234 = .ok (.aload_n 0, 1) := by decide +kernel
theorem dX10_work_235 : decode cX10_work 235 = .ok (.getfield 63, 3) := by decide +kernel
theorem dX10_work_238 : decode cX10_work 238 = .ok (.aload_n 0, 1) := by decide +kernel
theorem dX10_work_239 : decode cX10_work 239 = .ok (.getfield 28, 3) := by decide +kernel
theorem dX10_work_242 : decode cX10_work 242 = .ok (.iload_n 1, 1) := by decide +kernel
theorem dX10_work_243 : decode cX10_work 243 = .ok (.iaload, 1) := by decide +kernel
theorem dX10_work_244 : decode cX10_work 244 = .ok (.iaload, 1) := by decide +kernel
theorem dX10_work_245 : decode cX10_work 245 = .ok (.invokestatic 162, 3) := by decide +kernel
theorem dX10_work_248 : decode cX10_work 248 = .ok (.iastore, 1) := by decide +kernel
theorem dX10_work_249 : decode cX10_work 249 = .ok (.return_, 1) := by decide +kernel
theorem dX10_workAll_0 : decode cX10_workAll 0 = .ok (.iconst 0, 1) := by decide +kernel
theorem dX10_workAll_1 : decode cX10_workAll 1 = .ok (.istore_n 3, 1) := by decide +kernel
theorem dX10_workAll_2 : decode cX10_workAll 2 = .ok (.iload_n 3, 1) := by decide +kernel
theorem dX10_workAll_3 : decode cX10_workAll 3 = .ok (.aload_n 0, 1) := by decide +kernel
theorem dX10_workAll_4 : decode cX10_workAll 4 = .ok (.getfield 103, 3) := by decide +kernel
theorem dX10_workAll_7 : decode cX10_workAll 7 = .ok (.if_icmp .ge 24, 3) := by decide +kernel
theorem dX10_workAll_10 : decode cX10_workAll 10 = .ok (.lload_n 1, 1) := by decide +kernel
theorem dX10_workAll_11 : decode cX10_workAll 11 = .ok (.iload_n 3, 1) := by decide +kernel
theorem dX10_workAll_12 : decode cX10_workAll 12 = .ok (.lshr, 1) := by decide +kernel
theorem dX10_workAll_13 : decode cX10_workAll 13 = .ok (.lconst 1, 1) := by decide +kernel
theorem dX10_workAll_14 : decode cX10_workAll 14 = .ok (.land, 1) := by decide +kernel
theorem dX10_workAll_15 : decode cX10_workAll 15 = .ok (.lconst 1, 1) := by decide +kernel
theorem dX10_workAll_16 : decode cX10_workAll 16 = .ok (.lcmp, 1) := by decide +kernel
theorem dX10_workAll_17 : decode cX10_workAll 17 = .ok (.ifCond .ne 8, 3) := by decide +kernel
theorem dX10_workAll_20 : decode cX10_workAll 20 = .ok (.aload_n 0, 1) := by decide +kernel
theorem dX10_workAll_21 : decode cX10_workAll 21 = .ok (.iload_n 3, 1) := by decide +kernel
theorem dX10_workAll_22 : decode cX10_workAll 22 = .ok (.invokevirtual 166, 3) := by decide +kernel
theorem dX10_workAll_25 : decode cX10_workAll 25 = .ok (.iinc 3 1, 3) := by decide +kernel
theorem dX10_workAll_28 : decode cX10_workAll 28 = .ok (.goto (-26), 3) := by decide +kernel
theorem dX10_workAll_31 : decode cX10_workAll 31 = .ok (.return_, 1) := by decide +kernel
theorem dX10_isSo_0 : decode cX10_isSo 0 = .ok (.aload_n 0, 1) := by decide +kernel
theorem dX10_isSo_1 : decode cX10_isSo 1 = .ok (.getfield 63, 3) := by decide +kernel
theorem dX10_isSo_4 : decode cX10_isSo 4 = .ok (.iload_n 1, 1) := by decide +kernel
theorem dX10_isSo_5 : decode cX10_isSo 5 = .ok (.iaload, 1) := by decide +kernel
theorem dX10_isSo_6 : decode cX10_isSo 6 = .ok (.ldc 90, 2) := by decide +kernel
theorem dX10_isSo_8 : decode cX10_isSo 8 = .ok (.if_icmp .eq 16, 3) := by decide +kernel
theorem dX10_isSo_11 : decode cX10_isSo 11 = .ok (.aload_n 0, 1) := by decide +kernel
theorem dX10_isSo_12 : decode cX10_isSo 12 = .ok (.getfield 63, 3) := by decide +kernel
theorem dX10_isSo_15 : decode cX10_isSo 15 = .ok (.iload_n 1, 1) := by decide +kernel
theorem dX10_isSo_16 : decode cX10_isSo 16 = .ok (.iaload, 1) := by decide +kernel
theorem dX10_isSo_17 : decode cX10_isSo 17 = .ok (.ifCond .eq 7, 3) := by decide +kernel
theorem dX10_isSo_20 : decode cX10_isSo 20 = .ok (.iconst 1, 1) := by decide +kernel
theorem dX10_isSo_21 : decode cX10_isSo 21 = .ok (.goto 4, 3) := by decide +kernel
theorem dX10_isSo_24 : decode cX10_isSo 24 = .ok (.iconst 0, 1) := by decide +kernel
theorem dX10_isSo_25 : decode cX10_isSo 25 = .ok (.ireturn, 1) := by decide +kernel
theorem dX10_judge_0 : decode cX10_judge 0 = .ok (.aload_n 0, 1) := by decide +kernel
theorem dX10_judge_1 : decode cX10_judge 1 = .ok (.aload_n 0, 1) := by decide +kernel
theorem dX10_judge_2 : decode cX10_judge 2 = .ok (.getfield 40, 3) := by decide +kernel
theorem dX10_judge_5 : decode cX10_judge 5 = .ok (.iload_n 1, 1) := by decide +kernel
theorem dX10_judge_6 : decode cX10_judge 6 = .ok (.laload, 1) := by decide +kernel
theorem dX10_judge_7 : decode cX10_judge 7 = .ok (.invokevirtual 169, 3) := by decide +kernel
theorem dX10_judge_10 : decode cX10_judge 10 = .ok (.aload_n 0, 1) := by decide +kernel
theorem dX10_judge_11 : decode cX10_judge 11 = .ok (.getfield 19, 3) := by decide +kernel
theorem dX10_judge_14 : decode cX10_judge 14 = .ok (.iconst 4, 1) := by decide +kernel
theorem dX10_judge_15 : decode cX10_judge 15 = .ok (.iload_n 1, 1) := by decide +kernel
theorem dX10_judge_16 : decode cX10_judge 16 = .ok (.imul, 1) := by decide +kernel
theorem dX10_judge_17 : decode cX10_judge 17 = .ok (.iconst 0, 1) := by decide +kernel
theorem dX10_judge_18 : decode cX10_judge 18 = .ok (.iadd, 1) := by decide +kernel
theorem dX10_judge_19 : decode cX10_judge 19 = .ok (.iaload, 1) := by decide +kernel
theorem dX10_judge_20 : decode cX10_judge 20 = .ok (.istore_n 2, 1) := by decide +kernel
theorem dX10_judge_21 : decode cX10_judge 21 = .ok (.aload_n 0, 1) := by decide +kernel
theorem dX10_judge_22 : decode cX10_judge 22 = .ok (.getfield 19, 3) := by decide +kernel
theorem dX10_judge_25 : decode cX10_judge 25 = .ok (.iconst 4, 1) := by decide +kernel
theorem dX10_judge_26 : decode cX10_judge 26 = .ok (.iload_n 1, 1) := by decide +kernel
theorem dX10_judge_27 : decode cX10_judge 27 = .ok (.imul, 1) := by decide +kernel
theorem dX10_judge_28 : decode cX10_judge 28 = .ok (.iconst 3, 1) := by decide +kernel
theorem dX10_judge_29 : decode cX10_judge 29 = .ok (.iadd, 1) := by decide +kernel
theorem dX10_judge_30 : decode cX10_judge 30 = .ok (.iaload, 1) := by decide +kernel
theorem dX10_judge_31 : decode cX10_judge 31 = .ok (.istore_n 3, 1) := by decide +kernel
theorem dX10_judge_32 : decode cX10_judge 32 = .ok (.aload_n 0, 1) := by decide +kernel
theorem dX10_judge_33 : decode cX10_judge 33 = .ok (.getfield 53, 3) := by decide +kernel
theorem dX10_judge_36 : decode cX10_judge 36 = .ok (.iload_n 1, 1) := by decide +kernel
theorem dX10_judge_37 : decode cX10_judge 37 = .ok (.iload_n 2, 1) := by decide +kernel
theorem dX10_judge_38 : decode cX10_judge 38 = .ok (.ifCond .lt 11, 3) := by decide +kernel
theorem dX10_judge_41 : decode cX10_judge 41 = .ok (.aload_n 0, 1) := by decide +kernel
theorem dX10_judge_42 : decode cX10_judge 42 = .ok (.iload_n 2, 1) := by decide +kernel
theorem dX10_judge_43 : decode cX10_judge 43 = .ok (.invokevirtual 173, 3) := by decide +kernel
theorem dX10_judge_46 : decode cX10_judge 46 = .ok (.ifCond .eq 7, 3) := by decide +kernel
theorem dX10_judge_49 : decode cX10_judge 49 = .ok (.iconst 1, 1) := by decide +kernel
theorem dX10_judge_50 : decode cX10_judge 50 = .ok (.goto 4, 3) := by decide +kernel
theorem dX10_judge_53 : decode cX10_judge 53 = .ok (.iconst 0, 1) := by decide +kernel
theorem dX10_judge_54 : decode cX10_judge 54 = .ok (.bastore, 1) := by decide +kernel
theorem dX10_judge_55 : decode cX10_judge 55 = .ok (.aload_n 0, 1) := by decide +kernel
theorem dX10_judge_56 : decode cX10_judge 56 = .ok (.getfield 57, 3) := by decide +kernel
theorem dX10_judge_59 : decode cX10_judge 59 = .ok (.iload_n 1, 1) := by decide +kernel
theorem dX10_judge_60 : decode cX10_judge 60 = .ok (.aload_n 0, 1) := by decide +kernel
theorem dX10_judge_61 : decode cX10_judge 61 = .ok (.getfield 16, 3) := by decide +kernel
theorem dX10_judge_64 : decode cX10_judge 64 = .ok (.iload_n 1, 1) := by decide +kernel
theorem dX10_judge_65 : decode cX10_judge 65 = .ok (.iaload, 1) := by decide +kernel
theorem dX10_judge_66 : decode cX10_judge 66 = .ok (.ifCond .ne 12, 3) := by decide +kernel
theorem dX10_judge_69 : decode cX10_judge 69 = .ok (.aload_n 0, 1) := by decide +kernel
theorem dX10_judge_70 : decode cX10_judge 70 = .ok (.getfield 50, 3) := by decide +kernel
theorem dX10_judge_73 : decode cX10_judge 73 = .ok (.iload_n 1, 1) := by decide +kernel
theorem dX10_judge_74 : decode cX10_judge 74 = .ok (.iaload, 1) := by decide +kernel
theorem dX10_judge_75 : decode cX10_judge 75 = .ok (.goto 53, 3) := by decide +kernel
theorem dX10_judge_78 : decode cX10_judge 78 = .ok (.iload_n 3, 1) := by decide +kernel
theorem dX10_judge_79 : decode cX10_judge 79 = .ok (.ifCond .lt 38, 3) := by decide +kernel
theorem dX10_judge_82 : decode cX10_judge 82 = .ok (.aload_n 0, 1) := by decide +kernel
theorem dX10_judge_83 : decode cX10_judge 83 = .ok (.getfield 63, 3) := by decide +kernel
theorem dX10_judge_86 : decode cX10_judge 86 = .ok (.iload_n 3, 1) := by decide +kernel
theorem dX10_judge_87 : decode cX10_judge 87 = .ok (.iaload, 1) := by decide +kernel
theorem dX10_judge_88 : decode cX10_judge 88 = .ok (.ldc 90, 2) := by decide +kernel
theorem dX10_judge_90 : decode cX10_judge 90 = .ok (.if_icmp .eq 27, 3) := by decide +kernel
theorem dX10_judge_93 : decode cX10_judge 93 = .ok (.aload_n 0, 1) := by decide +kernel
theorem dX10_judge_94 : decode cX10_judge 94 = .ok (.getfield 63, 3) := by decide +kernel
theorem dX10_judge_97 : decode cX10_judge 97 = .ok (.iload_n 3, 1) := by decide +kernel
theorem dX10_judge_98 : decode cX10_judge 98 = .ok (.iaload, 1) := by decide +kernel
theorem dX10_judge_99 : decode cX10_judge 99 = .ok (.aload_n 0, 1) := by decide +kernel
theorem dX10_judge_100 : decode cX10_judge 100 = .ok (.getfield 7, 3) := by decide +kernel
theorem dX10_judge_103 : decode cX10_judge 103 = .ok (.iload_n 1, 1) := by decide +kernel
theorem dX10_judge_104 : decode cX10_judge 104 = .ok (.iaload, 1) := by decide +kernel
theorem dX10_judge_105 : decode cX10_judge 105 = .ok (.aload_n 0, 1) := by decide +kernel
theorem dX10_judge_106 : decode cX10_judge 106 = .ok (.getfield 13, 3) := by decide +kernel
theorem dX10_judge_109 : decode cX10_judge 109 = .ok (.iload_n 1, 1) := by decide +kernel
theorem dX10_judge_110 : decode cX10_judge 110 = .ok (.iaload, 1) := by decide +kernel
theorem dX10_judge_111 : decode cX10_judge 111 = .ok (.invokestatic 99, 3) := by decide +kernel
theorem dX10_judge_114 : decode cX10_judge 114 = .ok (.ifCond .ne 8, 3) := by decide +kernel
theorem dX10_judge_117 : decode cX10_judge 117 = .ok (.ldc 90, 2) := by decide +kernel
theorem dX10_judge_119 : decode cX10_judge 119 = .ok (.goto 9, 3) := by decide +kernel
theorem dX10_judge_122 : decode cX10_judge 122 = .ok (.aload_n 0, 1) := by decide +kernel
