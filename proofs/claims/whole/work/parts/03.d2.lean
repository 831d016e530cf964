theorem dX7_init_0 : decode cX7_init 0 = .ok (.aload_n 0, 1) := by decide +kernel
theorem dX7_init_1 : decode cX7_init 1 = .ok (.invokespecial 3, 3) := by decide +kernel
theorem dX7_init_4 : decode cX7_init 4 = .ok (.return_, 1) := by decide +kernel
theorem dX7_tellOne_0 : decode cX7_tellOne 0 = .ok (.aload_n 1, 1) := by decide +kernel
theorem dX7_tellOne_1 : decode cX7_tellOne 1 = .ok (.getfield 9, 3) := by decide +kernel
theorem dX7_tellOne_4 : decode cX7_tellOne 4 = .ok (.iload_n 2, 1) := by decide +kernel
theorem dX7_tellOne_5 : decode cX7_tellOne 5 = .ok (.aaload, 1) := by decide +kernel
theorem dX7_tellOne_6 : decode cX7_tellOne 6 = .ok (.iconst 1, 1) := by decide +kernel
theorem dX7_tellOne_7 : decode cX7_tellOne 7 = .ok (.iaload, 1) := by decide +kernel
theorem dX7_tellOne_8 : decode cX7_tellOne 8 = .ok (.bipush (-9), 2) := by decide +kernel
theorem dX7_tellOne_10 : decode cX7_tellOne 10 = .ok (.if_icmp .ne 12, 3) := by decide +kernel
theorem dX7_tellOne_13 : decode cX7_tellOne 13 = .ok (.aload_n 0, 1) := by decide +kernel
theorem dX7_tellOne_14 : decode cX7_tellOne 14 = .ok (.aload_n 1, 1) := by decide +kernel
theorem dX7_tellOne_15 : decode cX7_tellOne 15 = .ok (.iload_n 2, 1) := by decide +kernel
theorem dX7_tellOne_16 : decode cX7_tellOne 16 = .ok (.invokevirtual 15, 3) := by decide +kernel
theorem dX7_tellOne_19 : decode cX7_tellOne 19 = .ok (.goto 9, 3) := by decide +kernel
theorem dX7_tellOne_22 : decode cX7_tellOne 22 = .ok (.aload_n 0, 1) := by decide +kernel
theorem dX7_tellOne_23 : decode cX7_tellOne 23 = .ok (.aload_n 1, 1) := by decide +kernel
theorem dX7_tellOne_24 : decode cX7_tellOne 24 = .ok (.iload_n 2, 1) := by decide +kernel
theorem dX7_tellOne_25 : decode cX7_tellOne 25 = .ok (.invokevirtual 21, 3) := by decide +kernel
theorem dX7_tellOne_28 : decode cX7_tellOne 28 = .ok (.ireturn, 1) := by decide +kernel
theorem dX7_addressOne_0 : decode cX7_addressOne 0 = .ok (.aload_n 1, 1) := by decide +kernel
theorem dX7_addressOne_1 : decode cX7_addressOne 1 = .ok (.getfield 24, 3) := by decide +kernel
theorem dX7_addressOne_4 : decode cX7_addressOne 4 = .ok (.iload_n 2, 1) := by decide +kernel
theorem dX7_addressOne_5 : decode cX7_addressOne 5 = .ok (.baload, 1) := by decide +kernel
theorem dX7_addressOne_6 : decode cX7_addressOne 6 = .ok (.ifCond .eq 10, 3) := by decide +kernel
theorem dX7_addressOne_9 : decode cX7_addressOne 9 = .ok (.aload_n 0, 1) := by decide +kernel
theorem dX7_addressOne_10 : decode cX7_addressOne 10 = .ok (.invokevirtual 28, 3) := by decide +kernel
theorem dX7_addressOne_13 : decode cX7_addressOne 13 = .ok (.goto 8, 3) := by decide +kernel
theorem dX7_addressOne_16 : decode cX7_addressOne 16 = .ok (.aload_n 0, 1) := by decide +kernel
theorem dX7_addressOne_17 : decode cX7_addressOne 17 = .ok (.iload_n 2, 1) := by decide +kernel
theorem dX7_addressOne_18 : decode cX7_addressOne 18 = .ok (.invokevirtual 32, 3) := by decide +kernel
theorem dX7_addressOne_21 : decode cX7_addressOne 21 = .ok (.ireturn, 1) := by decide +kernel
theorem dX7_leave_0 : decode cX7_leave 0 = .ok (.aload_n 0, 1) := by decide +kernel
theorem dX7_leave_1 : decode cX7_leave 1 = .ok (.bipush 31, 2) := by decide +kernel
theorem dX7_leave_3 : decode cX7_leave 3 = .ok (.aload_n 0, 1) := by decide +kernel
theorem dX7_leave_4 : decode cX7_leave 4 = .ok (.getfield 36, 3) := by decide +kernel
theorem dX7_leave_7 : decode cX7_leave 7 = .ok (.imul, 1) := by decide +kernel
theorem dX7_leave_8 : decode cX7_leave 8 = .ok (.iload_n 1, 1) := by decide +kernel
theorem dX7_leave_9 : decode cX7_leave 9 = .ok (.iadd, 1) := by decide +kernel
theorem dX7_leave_10 : decode cX7_leave 10 = .ok (.putfield 36, 3) := by decide +kernel
theorem dX7_leave_13 : decode cX7_leave 13 = .ok (.return_, 1) := by decide +kernel
theorem dX7_tellPlain_0 : decode cX7_tellPlain 0 = .ok (.aload_n 1, 1) := by decide +kernel
theorem dX7_tellPlain_1 : decode cX7_tellPlain 1 = .ok (.getfield 24, 3) := by decide +kernel
theorem dX7_tellPlain_4 : decode cX7_tellPlain 4 = .ok (.iload_n 2, 1) := by decide +kernel
theorem dX7_tellPlain_5 : decode cX7_tellPlain 5 = .ok (.baload, 1) := by decide +kernel
theorem dX7_tellPlain_6 : decode cX7_tellPlain 6 = .ok (.ifCond .eq 12, 3) := by decide +kernel
theorem dX7_tellPlain_9 : decode cX7_tellPlain 9 = .ok (.aload_n 0, 1) := by decide +kernel
theorem dX7_tellPlain_10 : decode cX7_tellPlain 10 = .ok (.aload_n 1, 1) := by decide +kernel
theorem dX7_tellPlain_11 : decode cX7_tellPlain 11 = .ok (.iload_n 2, 1) := by decide +kernel
theorem dX7_tellPlain_12 : decode cX7_tellPlain 12 = .ok (.invokevirtual 40, 3) := by decide +kernel
theorem dX7_tellPlain_15 : decode cX7_tellPlain 15 = .ok (.goto 9, 3) := by decide +kernel
theorem dX7_tellPlain_18 : decode cX7_tellPlain 18 = .ok (.aload_n 0, 1) := by decide +kernel
theorem dX7_tellPlain_19 : decode cX7_tellPlain 19 = .ok (.aload_n 1, 1) := by decide +kernel
theorem dX7_tellPlain_20 : decode cX7_tellPlain 20 = .ok (.iload_n 2, 1) := by decide +kernel
theorem dX7_tellPlain_21 : decode cX7_tellPlain 21 = .ok (.invokevirtual 43, 3) := by decide +kernel
theorem dX7_tellPlain_24 : decode cX7_tellPlain 24 = .ok (.ireturn, 1) := by decide +kernel
theorem dX7_tellAsked_0 : decode cX7_tellAsked 0 = .ok (.aload_n 0, 1) := by decide +kernel
theorem dX7_tellAsked_1 : decode cX7_tellAsked 1 = .ok (.iconst 1, 1) := by decide +kernel
theorem dX7_tellAsked_2 : decode cX7_tellAsked 2 = .ok (.invokevirtual 46, 3) := by decide +kernel
theorem dX7_tellAsked_5 : decode cX7_tellAsked 5 = .ok (.aload_n 1, 1) := by decide +kernel
theorem dX7_tellAsked_6 : decode cX7_tellAsked 6 = .ok (.getfield 50, 3) := by decide +kernel
theorem dX7_tellAsked_9 : decode cX7_tellAsked 9 = .ok (.iload_n 2, 1) := by decide +kernel
theorem dX7_tellAsked_10 : decode cX7_tellAsked 10 = .ok (.iaload, 1) := by decide +kernel
theorem dX7_tellAsked_11 : decode cX7_tellAsked 11 = .ok (.aload_n 1, 1) := by decide +kernel
theorem dX7_tellAsked_12 : decode cX7_tellAsked 12 = .ok (.getfield 54, 3) := by decide +kernel
theorem dX7_tellAsked_15 : decode cX7_tellAsked 15 = .ok (.iload_n 2, 1) := by decide +kernel
theorem dX7_tellAsked_16 : decode cX7_tellAsked 16 = .ok (.iaload, 1) := by decide +kernel
theorem dX7_tellAsked_17 : decode cX7_tellAsked 17 = .ok (.isub, 1) := by decide +kernel
theorem dX7_tellAsked_18 : decode cX7_tellAsked 18 = .ok (.ireturn, 1) := by decide +kernel
theorem dX7_tellMade_0 : decode cX7_tellMade 0 = .ok (.aload_n 0, 1) := by decide +kernel
theorem dX7_tellMade_1 : decode cX7_tellMade 1 = .ok (.iconst 2, 1) := by decide +kernel
theorem dX7_tellMade_2 : decode cX7_tellMade 2 = .ok (.invokevirtual 46, 3) := by decide +kernel
theorem dX7_tellMade_5 : decode cX7_tellMade 5 = .ok (.aload_n 0, 1) := by decide +kernel
theorem dX7_tellMade_6 : decode cX7_tellMade 6 = .ok (.aload_n 1, 1) := by decide +kernel
theorem dX7_tellMade_7 : decode cX7_tellMade 7 = .ok (.iload_n 2, 1) := by decide +kernel
theorem dX7_tellMade_8 : decode cX7_tellMade 8 = .ok (.invokevirtual 43, 3) := by decide +kernel
theorem dX7_tellMade_11 : decode cX7_tellMade 11 = .ok (.sipush 1000, 3) := by decide +kernel
theorem dX7_tellMade_14 : decode cX7_tellMade 14 = .ok (.iadd, 1) := by decide +kernel
theorem dX7_tellMade_15 : decode cX7_tellMade 15 = .ok (.ireturn, 1) := by decide +kernel
theorem dX7_tellNeeded_0 : decode cX7_tellNeeded 0 = .ok (.aload_n 0, 1) := by decide +kernel
theorem dX7_tellNeeded_1 : decode cX7_tellNeeded 1 = .ok (.iconst 3, 1) := by decide +kernel
theorem dX7_tellNeeded_2 : decode cX7_tellNeeded 2 = .ok (.invokevirtual 46, 3) := by decide +kernel
theorem dX7_tellNeeded_5 : decode cX7_tellNeeded 5 = .ok (.iconst 2, 1) := by decide +kernel
theorem dX7_tellNeeded_6 : decode cX7_tellNeeded 6 = .ok (.aload_n 0, 1) := by decide +kernel
theorem dX7_tellNeeded_7 : decode cX7_tellNeeded 7 = .ok (.aload_n 1, 1) := by decide +kernel
theorem dX7_tellNeeded_8 : decode cX7_tellNeeded 8 = .ok (.iload_n 2, 1) := by decide +kernel
theorem dX7_tellNeeded_9 : decode cX7_tellNeeded 9 = .ok (.invokevirtual 15, 3) := by decide +kernel
theorem dX7_tellNeeded_12 : decode cX7_tellNeeded 12 = .ok (.imul, 1) := by decide +kernel
theorem dX7_tellNeeded_13 : decode cX7_tellNeeded 13 = .ok (.ireturn, 1) := by decide +kernel
theorem dX7_addressLent_0 : decode cX7_addressLent 0 = .ok (.aload_n 0, 1) := by decide +kernel
theorem dX7_addressLent_1 : decode cX7_addressLent 1 = .ok (.iconst 4, 1) := by decide +kernel
theorem dX7_addressLent_2 : decode cX7_addressLent 2 = .ok (.invokevirtual 46, 3) := by decide +kernel
theorem dX7_addressLent_5 : decode cX7_addressLent 5 = .ok (.bipush 10, 2) := by decide +kernel
theorem dX7_addressLent_7 : decode cX7_addressLent 7 = .ok (.iload_n 1, 1) := by decide +kernel
theorem dX7_addressLent_8 : decode cX7_addressLent 8 = .ok (.imul, 1) := by decide +kernel
theorem dX7_addressLent_9 : decode cX7_addressLent 9 = .ok (.ireturn, 1) := by decide +kernel
theorem dX7_addressMade_0 : decode cX7_addressMade 0 = .ok (.aload_n 0, 1) := by decide +kernel
theorem dX7_addressMade_1 : decode cX7_addressMade 1 = .ok (.iconst 5, 1) := by decide +kernel
theorem dX7_addressMade_2 : decode cX7_addressMade 2 = .ok (.invokevirtual 46, 3) := by decide +kernel
theorem dX7_addressMade_5 : decode cX7_addressMade 5 = .ok (.iconst 5, 1) := by decide +kernel
theorem dX7_addressMade_6 : decode cX7_addressMade 6 = .ok (.ireturn, 1) := by decide +kernel
theorem dX8_init_0 : decode cX8_init 0 = .ok (.aload_n 0, 1) := by decide +kernel
theorem dX8_init_1 : decode cX8_init 1 = .ok (.invokespecial 3, 3) := by decide +kernel
theorem dX8_init_4 : decode cX8_init 4 = .ok (.aload_n 0, 1) := by decide +kernel
theorem dX8_init_5 : decode cX8_init 5 = .ok (.bipush 12, 2) := by decide +kernel
theorem dX8_init_7 : decode cX8_init 7 = .ok (.newarray .int, 2) := by decide +kernel
theorem dX8_init_9 : decode cX8_init 9 = .ok (.putfield 9, 3) := by decide +kernel
theorem dX8_init_12 : decode cX8_init 12 = .ok (.aload_n 0, 1) := by decide +kernel
theorem dX8_init_13 : decode cX8_init 13 = .ok (.bipush 12, 2) := by decide +kernel
theorem dX8_init_15 : decode cX8_init 15 = .ok (.newarray .int, 2) := by decide +kernel
theorem dX8_init_17 : decode cX8_init 17 = .ok (.putfield 15, 3) := by decide +kernel
theorem dX8_init_20 : decode cX8_init 20 = .ok (.aload_n 0, 1) := by decide +kernel
theorem dX8_init_21 : decode cX8_init 21 = .ok (.new 18, 3) := by decide +kernel
theorem dX8_init_24 : decode cX8_init 24 = .ok (.dup, 1) := by decide +kernel
theorem dX8_init_25 : decode cX8_init 25 = .ok (.invokespecial 20, 3) := by decide +kernel
theorem dX8_init_28 : decode cX8_init 28 = .ok (.putfield 21, 3) := by decide +kernel
theorem dX8_init_31 : decode cX8_init 31 = .ok (.aload_n 0, 1) := by decide +kernel
theorem dX8_init_32 : decode cX8_init 32 = .ok (.getfield 9, 3) := by decide +kernel
theorem dX8_init_35 : decode cX8_init 35 = .ok (.ldc 25, 2) := by decide +kernel
theorem dX8_init_37 : decode cX8_init 37 = .ok (.invokestatic 26, 3) := by decide +kernel
theorem dX8_init_40 : decode cX8_init 40 = .ok (.return_, 1) := by decide +kernel
theorem dX8_run_0 : decode cX8_run 0 = .ok (.aload_n 1, 1) := by decide +kernel
theorem dX8_run_1 : decode cX8_run 1 = .ok (.getfield 32, 3) := by decide +kernel
theorem dX8_run_4 : decode cX8_run 4 = .ok (.getfield 38, 3) := by decide +kernel
theorem dX8_run_7 : decode cX8_run 7 = .ok (.iload_n 2, 1) := by decide +kernel
theorem dX8_run_8 : decode cX8_run 8 = .ok (.iaload, 1) := by decide +kernel
theorem dX8_run_9 : decode cX8_run 9 = .ok (.aload_n 1, 1) := by decide +kernel
theorem dX8_run_10 : decode cX8_run 10 = .ok (.getfield 32, 3) := by decide +kernel
theorem dX8_run_13 : decode cX8_run 13 = .ok (.invokevirtual 43, 3) := by decide +kernel
theorem dX8_run_16 : decode cX8_run 16 = .ok (.iand, 1) := by decide +kernel
theorem dX8_run_17 : decode cX8_run 17 = .ok (.istore_n 3, 1) := by decide +kernel
theorem dX8_run_18 : decode cX8_run 18 = .ok (.aload_n 1, 1) := by decide +kernel
theorem dX8_run_19 : decode cX8_run 19 = .ok (.getfield 32, 3) := by decide +kernel
theorem dX8_run_22 : decode cX8_run 22 = .ok (.iload_n 3, 1) := by decide +kernel
theorem dX8_run_23 : decode cX8_run 23 = .ok (.invokestatic 47, 3) := by decide +kernel
theorem dX8_run_26 : decode cX8_run 26 = .ok (.istore 4, 2) := by decide +kernel
theorem dX8_run_28 : decode cX8_run 28 = .ok (.iload 4, 2) := by decide +kernel
theorem dX8_run_30 : decode cX8_run 30 = .ok (.sipush 20000, 3) := by decide +kernel
theorem dX8_run_33 : decode cX8_run 33 = .ok (.if_icmp .le 6, 3) := by decide +kernel
theorem dX8_run_36 : decode cX8_run 36 = .ok (.bipush (-6), 2) := by decide +kernel
theorem dX8_run_38 : decode cX8_run 38 = .ok (.ireturn, 1) := by decide +kernel
theorem dX8_run_39 : decode cX8_run 39 = .ok (.aload_n 0, 1) := by decide +kernel
theorem dX8_run_40 : decode cX8_run 40 = .ok (.iload_n 3, 1) := by decide +kernel
theorem dX8_run_41 : decode cX8_run 41 = .ok (.invokevirtual 51, 3) := by decide +kernel
theorem dX8_run_44 : decode cX8_run 44 = .ok (.aload_n 0, 1) := by decide +kernel
theorem dX8_run_45 : decode cX8_run 45 = .ok (.getfield 9, 3) := by decide +kernel
theorem dX8_run_48 : decode cX8_run 48 = .ok (.ldc 25, 2) := by decide +kernel
theorem dX8_run_50 : decode cX8_run 50 = .ok (.invokestatic 26, 3) := by decide +kernel
theorem dX8_run_53 : decode cX8_run 53 = .ok (.aload_n 0, 1) := by decide +kernel
theorem dX8_run_54 : decode cX8_run 54 = .ok (.getfield 21, 3) := by decide +kernel
theorem dX8_run_57 : decode cX8_run 57 = .ok (.aload_n 1, 1) := by decide +kernel
theorem dX8_run_58 : decode cX8_run 58 = .ok (.aload_n 0, 1) := by decide +kernel
theorem dX8_run_59 : decode cX8_run 59 = .ok (.getfield 9, 3) := by decide +kernel
theorem dX8_run_62 : decode cX8_run 62 = .ok (.invokevirtual 55, 3) := by decide +kernel
theorem dX8_run_65 : decode cX8_run 65 = .ok (.aload_n 0, 1) := by decide +kernel
theorem dX8_run_66 : decode cX8_run 66 = .ok (.iconst 1, 1) := by decide +kernel
theorem dX8_run_67 : decode cX8_run 67 = .ok (.putfield 59, 3) := by decide +kernel
theorem dX8_run_70 : decode cX8_run 70 = .ok (.aload_n 0, 1) := by decide +kernel
theorem dX8_run_71 : decode cX8_run 71 = .ok (.getfield 21, 3) := by decide +kernel
theorem dX8_run_74 : decode cX8_run 74 = .ok (.getfield 63, 3) := by decide +kernel
theorem dX8_run_77 : decode cX8_run 77 = .ok (.iload_n 2, 1) := by decide +kernel
theorem dX8_run_78 : decode cX8_run 78 = .ok (.baload, 1) := by decide +kernel
theorem dX8_run_79 : decode cX8_run 79 = .ok (.ifCond .ne 45, 3) := by decide +kernel
theorem dX8_run_82 : decode cX8_run 82 = .ok (.aload_n 0, 1) := by decide +kernel
theorem dX8_run_83 : decode cX8_run 83 = .ok (.getfield 59, 3) := by decide +kernel
theorem dX8_run_86 : decode cX8_run 86 = .ok (.iload 4, 2) := by decide +kernel
theorem dX8_run_88 : decode cX8_run 88 = .ok (.if_icmp .ge 36, 3) := by decide +kernel
theorem dX8_run_91 : decode cX8_run 91 = .ok (.aload_n 0, 1) := by decide +kernel
theorem dX8_run_92 : decode cX8_run 92 = .ok (.getfield 21, 3) := by decide +kernel
theorem dX8_run_95 : decode cX8_run 95 = .ok (.aload_n 1, 1) := by decide +kernel
theorem dX8_run_96 : decode cX8_run 96 = .ok (.aload_n 0, 1) := by decide +kernel
theorem dX8_run_97 : decode cX8_run 97 = .ok (.getfield 9, 3) := by decide +kernel
theorem dX8_run_100 : decode cX8_run 100 = .ok (.aload_n 0, 1) := by decide +kernel
theorem dX8_run_101 : decode cX8_run 101 = .ok (.aload_n 1, 1) := by decide +kernel
theorem dX8_run_102 : decode cX8_run 102 = .ok (.getfield 32, 3) := by decide +kernel
theorem dX8_run_105 : decode cX8_run 105 = .ok (.invokevirtual 67, 3) := by decide +kernel
theorem dX8_run_108 : decode cX8_run 108 = .ok (.invokevirtual 71, 3) := by decide +kernel
theorem dX8_run_111 : decode cX8_run 111 = .ok (.aload_n 0, 1) := by decide +kernel
theorem dX8_run_112 : decode cX8_run 112 = .ok (.dup, 1) := by decide +kernel
theorem dX8_run_113 : decode cX8_run 113 = .ok (.getfield 59, 3) := by decide +kernel
theorem dX8_run_116 : decode cX8_run 116 = .ok (.iconst 1, 1) := by decide +kernel
theorem dX8_run_117 : decode cX8_run 117 = .ok (.iadd, 1) := by decide +kernel
theorem dX8_run_118 : decode cX8_run 118 = .ok (.putfield 59, 3) := by decide +kernel
theorem dX8_run_121 : decode cX8_run 121 = .ok (.goto (-51), 3) := by decide +kernel
theorem dX8_run_124 : decode cX8_run 124 = .ok (.aload_n 0, 1) := by decide +kernel
theorem dX8_run_125 : decode cX8_run 125 = .ok (.getfield 21, 3) := by decide +kernel
theorem dX8_run_128 : decode cX8_run 128 = .ok (.getfield 63, 3) := by decide +kernel
theorem dX8_run_131 : decode cX8_run 131 = .ok (.iload_n 2, 1) := by decide +kernel
theorem dX8_run_132 : decode cX8_run 132 = .ok (.baload, 1) := by decide +kernel
theorem dX8_run_133 : decode cX8_run 133 = .ok (.ifCond .ne 12, 3) := by decide +kernel
theorem dX8_run_136 : decode cX8_run 136 = .ok (.aload_n 0, 1) := by decide +kernel
theorem dX8_run_137 : decode cX8_run 137 = .ok (.getfield 9, 3) := by decide +kernel
theorem dX8_run_140 : decode cX8_run 140 = .ok (.ldc 25, 2) := by decide +kernel
theorem dX8_run_142 : decode cX8_run 142 = .ok (.invokestatic 26, 3) := by decide +kernel
theorem dX8_run_145 : decode cX8_run 145 = .ok (.aload_n 0, 1) := by decide +kernel
theorem dX8_run_146 : decode cX8_run 146 = .ok (.getfield 21, 3) := by decide +kernel
theorem dX8_run_149 : decode cX8_run 149 = .ok (.getfield 63, 3) := by decide +kernel
theorem dX8_run_152 : decode cX8_run 152 = .ok (.iload_n 2, 1) := by decide +kernel
theorem dX8_run_153 : decode cX8_run 153 = .ok (.baload, 1) := by decide +kernel
theorem dX8_run_154 : decode cX8_run 154 = .ok (.invokestatic 75, 3) := by decide +kernel
theorem dX8_run_157 : decode cX8_run 157 = .ok (.ireturn, 1) := by decide +kernel
theorem dX8_countRows_0 : decode cX8_countRows 0 = .ok (.iconst 1, 1) := by decide +kernel
theorem dX8_countRows_1 : decode cX8_countRows 1 = .ok (.istore_n 2, 1) := by decide +kernel
theorem dX8_countRows_2 : decode cX8_countRows 2 = .ok (.iconst 0, 1) := by decide +kernel
theorem dX8_countRows_3 : decode cX8_countRows 3 = .ok (.istore_n 3, 1) := by decide +kernel
theorem dX8_countRows_4 : decode cX8_countRows 4 = .ok (.iload_n 3, 1) := by decide +kernel
theorem dX8_countRows_5 : decode cX8_countRows 5 = .ok (.aload_n 0, 1) := by decide +kernel
theorem dX8_countRows_6 : decode cX8_countRows 6 = .ok (.getfield 79, 3) := by decide +kernel
theorem dX8_countRows_9 : decode cX8_countRows 9 = .ok (.if_icmp .ge 42, 3) := by decide +kernel
theorem dX8_countRows_12 : decode cX8_countRows 12 = .ok (.iload_n 2, 1) := by decide +kernel
theorem dX8_countRows_13 : decode cX8_countRows 13 = .ok (.sipush 20000, 3) := by decide +kernel
theorem dX8_countRows_16 : decode cX8_countRows 16 = .ok (.if_icmp .gt 35, 3) := by decide +kernel
theorem dX8_countRows_19 : decode cX8_countRows 19 = .ok (.iload_n 1, 1) := by decide +kernel
theorem dX8_countRows_20 : decode cX8_countRows 20 = .ok (.iload_n 3, 1) := by decide +kernel
theorem dX8_countRows_21 : decode cX8_countRows 21 = .ok (.invokestatic 82, 3) := by decide +kernel
theorem dX8_countRows_24 : decode cX8_countRows 24 = .ok (.ifCond .eq 21, 3) := by decide +kernel
theorem dX8_countRows_27 : decode cX8_countRows 27 = .ok (.iload_n 2, 1) := by decide +kernel
theorem dX8_countRows_28 : decode cX8_countRows 28 = .ok (.aload_n 0, 1) := by decide +kernel
theorem dX8_countRows_29 : decode cX8_countRows 29 = .ok (.getfield 86, 3) := by decide +kernel
theorem dX8_countRows_32 : decode cX8_countRows 32 = .ok (.iload_n 3, 1) := by decide +kernel
theorem dX8_countRows_33 : decode cX8_countRows 33 = .ok (.iaload, 1) := by decide +kernel
theorem dX8_countRows_34 : decode cX8_countRows 34 = .ok (.aload_n 0, 1) := by decide +kernel
theorem dX8_countRows_35 : decode cX8_countRows 35 = .ok (.getfield 89, 3) := by decide +kernel
theorem dX8_countRows_38 : decode cX8_countRows 38 = .ok (.iload_n 3, 1) := by decide +kernel
theorem dX8_countRows_39 : decode cX8_countRows 39 = .ok (.iaload, 1) := by decide +kernel
theorem dX8_countRows_40 : decode cX8_countRows 40 = .ok (.isub, 1) := by decide +kernel
theorem dX8_countRows_41 : decode cX8_countRows 41 = .ok (.iconst 2, 1) := by decide +kernel
theorem dX8_countRows_42 : decode cX8_countRows 42 = .ok (.iadd, 1) := by decide +kernel
theorem dX8_countRows_43 : decode cX8_countRows 43 = .ok (.imul, 1) := by decide +kernel
theorem dX8_countRows_44 : decode cX8_countRows 44 = .ok (.istore_n 2, 1) := by decide +kernel
theorem dX8_countRows_45 : decode cX8_countRows 45 = .ok (.iinc 3 1, 3) := by decide +kernel
theorem dX8_countRows_48 : decode cX8_countRows 48 = .ok (.goto (-44), 3) := by decide +kernel
theorem dX8_countRows_51 : decode cX8_countRows 51 = .ok (.iload_n 2, 1) := by decide +kernel
theorem dX8_countRows_52 : decode cX8_countRows 52 = .ok (.ireturn, 1) := by decide +kernel
theorem dX8_listTurning_0 : decode cX8_listTurning 0 = .ok (.aload_n 0, 1) := by decide +kernel
theorem dX8_listTurning_1 : decode cX8_listTurning 1 = .ok (.iconst 0, 1) := by decide +kernel
theorem dX8_listTurning_2 : decode cX8_listTurning 2 = .ok (.putfield 92, 3) := by decide +kernel
theorem dX8_listTurning_5 : decode cX8_listTurning 5 = .ok (.iconst 0, 1) := by decide +kernel
theorem dX8_listTurning_6 : decode cX8_listTurning 6 = .ok (.istore_n 2, 1) := by decide +kernel
theorem dX8_listTurning_7 : decode cX8_listTurning 7 = .ok (.iload_n 2, 1) := by decide +kernel
theorem dX8_listTurning_8 : decode cX8_listTurning 8 = .ok (.bipush 12, 2) := by decide +kernel
theorem dX8_listTurning_10 : decode cX8_listTurning 10 = .ok (.if_icmp .ge 37, 3) := by decide +kernel
theorem dX8_listTurning_13 : decode cX8_listTurning 13 = .ok (.iload_n 1, 1) := by decide +kernel
theorem dX8_listTurning_14 : decode cX8_listTurning 14 = .ok (.iload_n 2, 1) := by decide +kernel
theorem dX8_listTurning_15 : decode cX8_listTurning 15 = .ok (.invokestatic 82, 3) := by decide +kernel
theorem dX8_listTurning_18 : decode cX8_listTurning 18 = .ok (.ifCond .eq 23, 3) := by decide +kernel
theorem dX8_listTurning_21 : decode cX8_listTurning 21 = .ok (.aload_n 0, 1) := by decide +kernel
theorem dX8_listTurning_22 : decode cX8_listTurning 22 = .ok (.getfield 15, 3) := by decide +kernel
theorem dX8_listTurning_25 : decode cX8_listTurning 25 = .ok (.aload_n 0, 1) := by decide +kernel
theorem dX8_listTurning_26 : decode cX8_listTurning 26 = .ok (.getfield 92, 3) := by decide +kernel
theorem dX8_listTurning_29 : decode cX8_listTurning 29 = .ok (.iload_n 2, 1) := by decide +kernel
theorem dX8_listTurning_30 : decode cX8_listTurning 30 = .ok (.iastore, 1) := by decide +kernel
theorem dX8_listTurning_31 : decode cX8_listTurning 31 = .ok (.aload_n 0, 1) := by decide +kernel
theorem dX8_listTurning_32 : decode cX8_listTurning 32 = .ok (.dup, 1) := by decide +kernel
theorem dX8_listTurning_33 : decode cX8_listTurning 33 = .ok (.getfield 92, 3) := by decide +kernel
theorem dX8_listTurning_36 : decode cX8_listTurning 36 = .ok (.iconst 1, 1) := by decide +kernel
theorem dX8_listTurning_37 : decode cX8_listTurning 37 = .ok (.iadd, 1) := by decide +kernel
theorem dX8_listTurning_38 : decode cX8_listTurning 38 = .ok (.putfield 92, 3) := by decide +kernel
theorem dX8_listTurning_41 : decode cX8_listTurning 41 = .ok (.iinc 2 1, 3) := by decide +kernel
theorem dX8_listTurning_44 : decode cX8_listTurning 44 = .ok (.goto (-37), 3) := by decide +kernel
theorem dX8_listTurning_47 : decode cX8_listTurning 47 = .ok (.return_, 1) := by decide +kernel
theorem dX8_turnRow_0 : decode cX8_turnRow 0 = .ok (.iconst 0, 1) := by decide +kernel
theorem dX8_turnRow_1 : decode cX8_turnRow 1 = .ok (.istore_n 2, 1) := by decide +kernel
theorem dX8_turnRow_2 : decode cX8_turnRow 2 = .ok (.aload_n 0, 1) := by decide +kernel
theorem dX8_turnRow_3 : decode cX8_turnRow 3 = .ok (.getfield 92, 3) := by decide +kernel
theorem dX8_turnRow_6 : decode cX8_turnRow 6 = .ok (.iconst 1, 1) := by decide +kernel
theorem dX8_turnRow_7 : decode cX8_turnRow 7 = .ok (.isub, 1) := by decide +kernel
theorem dX8_turnRow_8 : decode cX8_turnRow 8 = .ok (.istore_n 3, 1) := by decide +kernel
theorem dX8_turnRow_9 : decode cX8_turnRow 9 = .ok (.iload_n 3, 1) := by decide +kernel
theorem dX8_turnRow_10 : decode cX8_turnRow 10 = .ok (.ifCond .lt 91, 3) := by decide +kernel
theorem dX8_turnRow_13 : decode cX8_turnRow 13 = .ok (.aload_n 0, 1) := by decide +kernel
theorem dX8_turnRow_14 : decode cX8_turnRow 14 = .ok (.getfield 15, 3) := by decide +kernel
theorem dX8_turnRow_17 : decode cX8_turnRow 17 = .ok (.iload_n 3, 1) := by decide +kernel
theorem dX8_turnRow_18 : decode cX8_turnRow 18 = .ok (.iaload, 1) := by decide +kernel
theorem dX8_turnRow_19 : decode cX8_turnRow 19 = .ok (.istore 4, 2) := by decide +kernel
theorem dX8_turnRow_21 : decode cX8_turnRow 21 = .ok (.iload_n 2, 1) := by decide +kernel
theorem dX8_turnRow_22 : decode cX8_turnRow 22 = .ok (.iconst 1, 1) := by decide +kernel
theorem dX8_turnRow_23 : decode cX8_turnRow 23 = .ok (.iload 4, 2) := by decide +kernel
theorem dX8_turnRow_25 : decode cX8_turnRow 25 = .ok (.ishl, 1) := by decide +kernel
theorem dX8_turnRow_26 : decode cX8_turnRow 26 = .ok (.ior, 1) := by decide +kernel
theorem dX8_turnRow_27 : decode cX8_turnRow 27 = .ok (.istore_n 2, 1) := by decide +kernel
theorem dX8_turnRow_28 : decode cX8_turnRow 28 = .ok (.aload_n 0, 1) := by decide +kernel
theorem dX8_turnRow_29 : decode cX8_turnRow 29 = .ok (.getfield 9, 3) := by decide +kernel
theorem dX8_turnRow_32 : decode cX8_turnRow 32 = .ok (.iload 4, 2) := by decide +kernel
theorem dX8_turnRow_34 : decode cX8_turnRow 34 = .ok (.iaload, 1) := by decide +kernel
theorem dX8_turnRow_35 : decode cX8_turnRow 35 = .ok (.ldc 25, 2) := by decide +kernel
theorem dX8_turnRow_37 : decode cX8_turnRow 37 = .ok (.if_icmp .ne 19, 3) := by decide +kernel
theorem dX8_turnRow_40 : decode cX8_turnRow 40 = .ok (.aload_n 0, 1) := by decide +kernel
theorem dX8_turnRow_41 : decode cX8_turnRow 41 = .ok (.getfield 9, 3) := by decide +kernel
theorem dX8_turnRow_44 : decode cX8_turnRow 44 = .ok (.iload 4, 2) := by decide +kernel
theorem dX8_turnRow_46 : decode cX8_turnRow 46 = .ok (.aload_n 1, 1) := by decide +kernel
theorem dX8_turnRow_47 : decode cX8_turnRow 47 = .ok (.getfield 89, 3) := by decide +kernel
theorem dX8_turnRow_50 : decode cX8_turnRow 50 = .ok (.iload 4, 2) := by decide +kernel
theorem dX8_turnRow_52 : decode cX8_turnRow 52 = .ok (.iaload, 1) := by decide +kernel
theorem dX8_turnRow_53 : decode cX8_turnRow 53 = .ok (.iastore, 1) := by decide +kernel
theorem dX8_turnRow_54 : decode cX8_turnRow 54 = .ok (.iload_n 2, 1) := by decide +kernel
theorem dX8_turnRow_55 : decode cX8_turnRow 55 = .ok (.ireturn, 1) := by decide +kernel
theorem dX8_turnRow_56 : decode cX8_turnRow 56 = .ok (.aload_n 0, 1) := by decide +kernel
theorem dX8_turnRow_57 : decode cX8_turnRow 57 = .ok (.getfield 9, 3) := by decide +kernel
theorem dX8_turnRow_60 : decode cX8_turnRow 60 = .ok (.iload 4, 2) := by decide +kernel
theorem dX8_turnRow_62 : decode cX8_turnRow 62 = .ok (.iaload, 1) := by decide +kernel
theorem dX8_turnRow_63 : decode cX8_turnRow 63 = .ok (.aload_n 1, 1) := by decide +kernel
theorem dX8_turnRow_64 : decode cX8_turnRow 64 = .ok (.getfield 86, 3) := by decide +kernel
theorem dX8_turnRow_67 : decode cX8_turnRow 67 = .ok (.iload 4, 2) := by decide +kernel
theorem dX8_turnRow_69 : decode cX8_turnRow 69 = .ok (.iaload, 1) := by decide +kernel
theorem dX8_turnRow_70 : decode cX8_turnRow 70 = .ok (.if_icmp .ge 16, 3) := by decide +kernel
theorem dX8_turnRow_73 : decode cX8_turnRow 73 = .ok (.aload_n 0, 1) := by decide +kernel
theorem dX8_turnRow_74 : decode cX8_turnRow 74 = .ok (.getfield 9, 3) := by decide +kernel
theorem dX8_turnRow_77 : decode cX8_turnRow 77 = .ok (.iload 4, 2) := by decide +kernel
theorem dX8_turnRow_79 : decode cX8_turnRow 79 = .ok (.dup2, 1) := by decide +kernel
theorem dX8_turnRow_80 : decode cX8_turnRow 80 = .ok (.iaload, 1) := by decide +kernel
theorem dX8_turnRow_81 : decode cX8_turnRow 81 = .ok (.iconst 1, 1) := by decide +kernel
theorem dX8_turnRow_82 : decode cX8_turnRow 82 = .ok (.iadd, 1) := by decide +kernel
theorem dX8_turnRow_83 : decode cX8_turnRow 83 = .ok (.iastore, 1) := by decide +kernel
theorem dX8_turnRow_84 : decode cX8_turnRow 84 = .ok (.iload_n 2, 1) := by decide +kernel
theorem dX8_turnRow_85 : decode cX8_turnRow 85 = .ok (.ireturn, 1) := by decide +kernel
theorem dX8_turnRow_86 : decode cX8_turnRow 86 = .ok (.aload_n 0, 1) := by decide +kernel
theorem dX8_turnRow_87 : decode cX8_turnRow 87 = .ok (.getfield 9, 3) := by decide +kernel
theorem dX8_turnRow_90 : decode cX8_turnRow 90 = .ok (.iload 4, 2) := by decide +kernel
theorem dX8_turnRow_92 : decode cX8_turnRow 92 = .ok (.ldc 25, 2) := by decide +kernel
theorem dX8_turnRow_94 : decode cX8_turnRow 94 = .ok (.iastore, 1) := by decide +kernel
theorem dX8_turnRow_95 : decode cX8_turnRow 95 = .ok (.iinc 3 (-1), 3) := by decide +kernel
theorem dX8_turnRow_98 : decode cX8_turnRow 98 = .ok (.goto (-89), 3) := by decide +kernel
theorem dX8_turnRow_101 : decode cX8_turnRow 101 = .ok (.iload_n 2, 1) := by decide +kernel
theorem dX8_turnRow_102 : decode cX8_turnRow 102 = .ok (.ireturn, 1) := by decide +kernel
theorem dX9_init_0 : decode cX9_init 0 = .ok (.aload_n 0, 1) := by decide +kernel
theorem dX9_init_1 : decode cX9_init 1 = .ok (.invokespecial 1, 3) := by decide +kernel
theorem dX9_init_4 : decode cX9_init 4 = .ok (.aload_n 0, 1) := by decide +kernel
theorem dX9_init_5 : decode cX9_init 5 = .ok (.new 7, 3) := by decide +kernel
theorem dX9_init_8 : decode cX9_init 8 = .ok (.dup, 1) := by decide +kernel
theorem dX9_init_9 : decode cX9_init 9 = .ok (.invokespecial 9, 3) := by decide +kernel
theorem dX9_init_12 : decode cX9_init 12 = .ok (.putfield 10, 3) := by decide +kernel
theorem dX9_init_15 : decode cX9_init 15 = .ok (.aload_n 0, 1) := by decide +kernel
theorem dX9_init_16 : decode cX9_init 16 = .ok (.new 16, 3) := by decide +kernel
theorem dX9_init_19 : decode cX9_init 19 = .ok (.dup, 1) := by decide +kernel
theorem dX9_init_20 : decode cX9_init 20 = .ok (.invokespecial 18, 3) := by decide +kernel
theorem dX9_init_23 : decode cX9_init 23 = .ok (.putfield 19, 3) := by decide +kernel
theorem dX9_init_26 : decode cX9_init 26 = .ok (.aload_n 0, 1) := by decide +kernel
theorem dX9_init_27 : decode cX9_init 27 = .ok (.iconst 4, 1) := by decide +kernel
theorem dX9_init_28 : decode cX9_init 28 = .ok (.bipush 12, 2) := by decide +kernel
theorem dX9_init_30 : decode cX9_init 30 = .ok (.multianewarray 23 2, 4) := by decide +kernel
theorem dX9_init_34 : decode cX9_init 34 = .ok (.putfield 25, 3) := by decide +kernel
theorem dX9_init_37 : decode cX9_init 37 = .ok (.iconst 0, 1) := by decide +kernel
theorem dX9_init_38 : decode cX9_init 38 = .ok (.istore_n 1, 1) := by decide +kernel
theorem dX9_init_39 : decode cX9_init 39 = .ok (.iload_n 1, 1) := by decide +kernel
theorem dX9_init_40 : decode cX9_init 40 = .ok (.iconst 4, 1) := by decide +kernel
theorem dX9_init_41 : decode cX9_init 41 = .ok (.if_icmp .ge 20, 3) := by decide +kernel
theorem dX9_init_44 : decode cX9_init 44 = .ok (.aload_n 0, 1) := by decide +kernel
theorem dX9_init_45 : decode cX9_init 45 = .ok (.getfield 25, 3) := by decide +kernel
theorem dX9_init_48 : decode cX9_init 48 = .ok (.iload_n 1, 1) := by decide +kernel
theorem dX9_init_49 : decode cX9_init 49 = .ok (.aaload, 1) := by decide +kernel
theorem dX9_init_50 : decode cX9_init 50 = .ok (.ldc 28, 2) := by decide +kernel
theorem dX9_init_52 : decode cX9_init 52 = .ok (.invokestatic 29, 3) := by decide +kernel
theorem dX9_init_55 : decode cX9_init 55 = .ok (.iinc 1 1, 3) := by decide +kernel
theorem dX9_init_58 : decode cX9_init 58 = .ok (.goto (-19), 3) := by decide +kernel
theorem dX9_init_61 : decode cX9_init 61 = .ok (.aload_n 0, 1) := by decide +kernel
theorem dX9_init_62 : decode cX9_init 62 = .ok (.new 35, 3) := by decide +kernel
theorem dX9_init_65 : decode cX9_init 65 = .ok (.dup, 1) := by decide +kernel
theorem dX9_init_66 : decode cX9_init 66 = .ok (.invokespecial 37, 3) := by decide +kernel
theorem dX9_init_69 : decode cX9_init 69 = .ok (.putfield 38, 3) := by decide +kernel
theorem dX9_init_72 : decode cX9_init 72 = .ok (.aload_n 0, 1) := by decide +kernel
theorem dX9_init_73 : decode cX9_init 73 = .ok (.new 42, 3) := by decide +kernel
theorem dX9_init_76 : decode cX9_init 76 = .ok (.dup, 1) := by decide +kernel
theorem dX9_init_77 : decode cX9_init 77 = .ok (.invokespecial 44, 3) := by decide +kernel
theorem dX9_init_80 : decode cX9_init 80 = .ok (.putfield 45, 3) := by decide +kernel
theorem dX9_init_83 : decode cX9_init 83 = .ok (.aload_n 0, 1) := by decide +kernel
theorem dX9_init_84 : decode cX9_init 84 = .ok (.new 49, 3) := by decide +kernel
theorem dX9_init_87 : decode cX9_init 87 = .ok (.dup, 1) := by decide +kernel
theorem dX9_init_88 : decode cX9_init 88 = .ok (.invokespecial 51, 3) := by decide +kernel
theorem dX9_init_91 : decode cX9_init 91 = .ok (.putfield 52, 3) := by decide +kernel
theorem dX9_init_94 : decode cX9_init 94 = .ok (.aload_n 0, 1) := by decide +kernel
theorem dX9_init_95 : decode cX9_init 95 = .ok (.new 56, 3) := by decide +kernel
theorem dX9_init_98 : decode cX9_init 98 = .ok (.dup, 1) := by decide +kernel
theorem dX9_init_99 : decode cX9_init 99 = .ok (.invokespecial 58, 3) := by decide +kernel
theorem dX9_init_102 : decode cX9_init 102 = .ok (.putfield 59, 3) := by decide +kernel
theorem dX9_init_105 : decode cX9_init 105 = .ok (.aload_n 0, 1) := by decide +kernel
theorem dX9_init_106 : decode cX9_init 106 = .ok (.new 63, 3) := by decide +kernel
theorem dX9_init_109 : decode cX9_init 109 = .ok (.dup, 1) := by decide +kernel
theorem dX9_init_110 : decode cX9_init 110 = .ok (.invokespecial 65, 3) := by decide +kernel
theorem dX9_init_113 : decode cX9_init 113 = .ok (.putfield 66, 3) := by decide +kernel
theorem dX9_init_116 : decode cX9_init 116 = .ok (.return_, 1) := by decide +kernel
theorem dX9_field_0 : decode cX9_field 0 = .ok (.iload_n 1, 1) := by decide +kernel
theorem dX9_field_1 : decode cX9_field 1 = .ok (.sipush (-1000), 3) := by decide +kernel
theorem dX9_field_4 : decode cX9_field 4 = .ok (.if_icmp .lt 15, 3) := by decide +kernel
theorem dX9_field_7 : decode cX9_field 7 = .ok (.iload_n 2, 1) := by decide +kernel
theorem dX9_field_8 : decode cX9_field 8 = .ok (.sipush 1000, 3) := by decide +kernel
theorem dX9_field_11 : decode cX9_field 11 = .ok (.if_icmp .gt 8, 3) := by decide +kernel
theorem dX9_field_14 : decode cX9_field 14 = .ok (.iload_n 1, 1) := by decide +kernel
theorem dX9_field_15 : decode cX9_field 15 = .ok (.iload_n 2, 1) := by decide +kernel
theorem dX9_field_16 : decode cX9_field 16 = .ok (.if_icmp .le 6, 3) := by decide +kernel
theorem dX9_field_19 : decode cX9_field 19 = .ok (.bipush (-2), 2) := by decide +kernel
theorem dX9_field_21 : decode cX9_field 21 = .ok (.ireturn, 1) := by decide +kernel
theorem dX9_field_22 : decode cX9_field 22 = .ok (.iload_n 3, 1) := by decide +kernel
theorem dX9_field_23 : decode cX9_field 23 = .ok (.ifCond .eq 11, 3) := by decide +kernel
theorem dX9_field_26 : decode cX9_field 26 = .ok (.iload_n 3, 1) := by decide +kernel
theorem dX9_field_27 : decode cX9_field 27 = .ok (.iconst 1, 1) := by decide +kernel
theorem dX9_field_28 : decode cX9_field 28 = .ok (.if_icmp .eq 6, 3) := by decide +kernel
theorem dX9_field_31 : decode cX9_field 31 = .ok (.bipush (-2), 2) := by decide +kernel
theorem dX9_field_33 : decode cX9_field 33 = .ok (.ireturn, 1) := by decide +kernel
theorem dX9_field_34 : decode cX9_field 34 = .ok (.aload_n 0, 1) := by decide +kernel
theorem dX9_field_35 : decode cX9_field 35 = .ok (.getfield 10, 3) := by decide +kernel
theorem dX9_field_38 : decode cX9_field 38 = .ok (.getfield 70, 3) := by decide +kernel
theorem dX9_field_41 : decode cX9_field 41 = .ok (.iload_n 1, 1) := by decide +kernel
theorem dX9_field_42 : decode cX9_field 42 = .ok (.iload_n 2, 1) := by decide +kernel
theorem dX9_field_43 : decode cX9_field 43 = .ok (.iload_n 3, 1) := by decide +kernel
theorem dX9_field_44 : decode cX9_field 44 = .ok (.iconst 1, 1) := by decide +kernel
theorem dX9_field_45 : decode cX9_field 45 = .ok (.if_icmp .ne 7, 3) := by decide +kernel
theorem dX9_field_48 : decode cX9_field 48 = .ok (.iconst 1, 1) := by decide +kernel
theorem dX9_field_49 : decode cX9_field 49 = .ok (.goto 4, 3) := by decide +kernel
theorem dX9_field_52 : decode cX9_field 52 = .ok (.iconst 0, 1) := by decide +kernel
theorem dX9_field_53 : decode cX9_field 53 = .ok (.invokevirtual 74, 3) := by decide +kernel
theorem dX9_field_56 : decode cX9_field 56 = .ok (.istore 4, 2) := by decide +kernel
theorem dX9_field_58 : decode cX9_field 58 = .ok (.aload_n 0, 1) := by decide +kernel
theorem dX9_field_59 : decode cX9_field 59 = .ok (.getfield 10, 3) := by decide +kernel
theorem dX9_field_62 : decode cX9_field 62 = .ok (.invokevirtual 80, 3) := by decide +kernel
theorem dX9_field_65 : decode cX9_field 65 = .ok (.iload 4, 2) := by decide +kernel
theorem dX9_field_67 : decode cX9_field 67 = .ok (.ireturn, 1) := by decide +kernel
theorem dX9_part_0 : decode cX9_part 0 = .ok (.aload_n 0, 1) := by decide +kernel
theorem dX9_part_1 : decode cX9_part 1 = .ok (.iload_n 1, 1) := by decide +kernel
theorem dX9_part_2 : decode cX9_part 2 = .ok (.iload_n 2, 1) := by decide +kernel
theorem dX9_part_3 : decode cX9_part 3 = .ok (.iload_n 3, 1) := by decide +kernel
theorem dX9_part_4 : decode cX9_part 4 = .ok (.iload 4, 2) := by decide +kernel
theorem dX9_part_6 : decode cX9_part 6 = .ok (.invokevirtual 83, 3) := by decide +kernel
theorem dX9_part_9 : decode cX9_part 9 = .ok (.ifCond .ne 5, 3) := by decide +kernel
theorem dX9_part_12 : decode cX9_part 12 = .ok (.iconst (-1), 1) := by decide +kernel
theorem dX9_part_13 : decode cX9_part 13 = .ok (.ireturn, 1) := by decide +kernel
theorem dX9_part_14 : decode cX9_part 14 = .ok (.iload_n 1, 1) := by decide +kernel
theorem dX9_part_15 : decode cX9_part 15 = .ok (.ifCond .lt 9, 3) := by decide +kernel
theorem dX9_part_18 : decode cX9_part 18 = .ok (.iload_n 1, 1) := by decide +kernel
theorem dX9_part_19 : decode cX9_part 19 = .ok (.bipush 11, 2) := by decide +kernel
theorem dX9_part_21 : decode cX9_part 21 = .ok (.if_icmp .le 6, 3) := by decide +kernel
theorem dX9_part_24 : decode cX9_part 24 = .ok (.bipush (-2), 2) := by decide +kernel
theorem dX9_part_26 : decode cX9_part 26 = .ok (.ireturn, 1) := by decide +kernel
theorem dX9_part_27 : decode cX9_part 27 = .ok (.iload_n 1, 1) := by decide +kernel
theorem dX9_part_28 : decode cX9_part 28 = .ok (.ifCond .ne 18, 3) := by decide +kernel
theorem dX9_part_31 : decode cX9_part 31 = .ok (.iload_n 2, 1) := by decide +kernel
theorem dX9_part_32 : decode cX9_part 32 = .ok (.ldc 87, 2) := by decide +kernel
theorem dX9_part_34 : decode cX9_part 34 = .ok (.if_icmp .lt 9, 3) := by decide +kernel
theorem dX9_part_37 : decode cX9_part 37 = .ok (.iload_n 2, 1) := by decide +kernel
theorem dX9_part_38 : decode cX9_part 38 = .ok (.ldc 88, 2) := by decide +kernel
theorem dX9_part_40 : decode cX9_part 40 = .ok (.if_icmp .le 6, 3) := by decide +kernel
theorem dX9_part_43 : decode cX9_part 43 = .ok (.bipush (-2), 2) := by decide +kernel
theorem dX9_part_45 : decode cX9_part 45 = .ok (.ireturn, 1) := by decide +kernel
theorem dX9_part_46 : decode cX9_part 46 = .ok (.aload_n 0, 1) := by decide +kernel
theorem dX9_part_47 : decode cX9_part 47 = .ok (.getfield 10, 3) := by decide +kernel
theorem dX9_part_50 : decode cX9_part 50 = .ok (.getfield 89, 3) := by decide +kernel
theorem dX9_part_53 : decode cX9_part 53 = .ok (.iload_n 1, 1) := by decide +kernel
theorem dX9_part_54 : decode cX9_part 54 = .ok (.iload_n 2, 1) := by decide +kernel
theorem dX9_part_55 : decode cX9_part 55 = .ok (.iload_n 3, 1) := by decide +kernel
theorem dX9_part_56 : decode cX9_part 56 = .ok (.iload 4, 2) := by decide +kernel
theorem dX9_part_58 : decode cX9_part 58 = .ok (.invokevirtual 93, 3) := by decide +kernel
theorem dX9_part_61 : decode cX9_part 61 = .ok (.istore 5, 2) := by decide +kernel
theorem dX9_part_63 : decode cX9_part 63 = .ok (.aload_n 0, 1) := by decide +kernel
theorem dX9_part_64 : decode cX9_part 64 = .ok (.getfield 10, 3) := by decide +kernel
theorem dX9_part_67 : decode cX9_part 67 = .ok (.invokevirtual 80, 3) := by decide +kernel
theorem dX9_part_70 : decode cX9_part 70 = .ok (.iload 5, 2) := by decide +kernel
theorem dX9_part_72 : decode cX9_part 72 = .ok (.ireturn, 1) := by decide +kernel
theorem dX9_rule_0 : decode cX9_rule 0 = .ok (.aload_n 0, 1) := by decide +kernel
theorem dX9_rule_1 : decode cX9_rule 1 = .ok (.getfield 10, 3) := by decide +kernel
theorem dX9_rule_4 : decode cX9_rule 4 = .ok (.getfield 70, 3) := by decide +kernel
theorem dX9_rule_7 : decode cX9_rule 7 = .ok (.iload_n 1, 1) := by decide +kernel
theorem dX9_rule_8 : decode cX9_rule 8 = .ok (.invokevirtual 98, 3) := by decide +kernel
theorem dX9_rule_11 : decode cX9_rule 11 = .ok (.ifCond .eq 23, 3) := by decide +kernel
theorem dX9_rule_14 : decode cX9_rule 14 = .ok (.iload_n 3, 1) := by decide +kernel
theorem dX9_rule_15 : decode cX9_rule 15 = .ok (.bipush (-9), 2) := by decide +kernel
theorem dX9_rule_17 : decode cX9_rule 17 = .ok (.if_icmp .eq 19, 3) := by decide +kernel
theorem dX9_rule_20 : decode cX9_rule 20 = .ok (.aload_n 0, 1) := by decide +kernel
theorem dX9_rule_21 : decode cX9_rule 21 = .ok (.getfield 10, 3) := by decide +kernel
theorem dX9_rule_24 : decode cX9_rule 24 = .ok (.getfield 89, 3) := by decide +kernel
theorem dX9_rule_27 : decode cX9_rule 27 = .ok (.iload_n 3, 1) := by decide +kernel
theorem dX9_rule_28 : decode cX9_rule 28 = .ok (.invokevirtual 102, 3) := by decide +kernel
theorem dX9_rule_31 : decode cX9_rule 31 = .ok (.ifCond .ne 5, 3) := by decide +kernel
theorem dX9_rule_34 : decode cX9_rule 34 = .ok (.iconst (-1), 1) := by decide +kernel
theorem dX9_rule_35 : decode cX9_rule 35 = .ok (.ireturn, 1) := by decide +kernel
theorem dX9_rule_36 : decode cX9_rule 36 = .ok (.iload_n 2, 1) := by decide +kernel
theorem dX9_rule_37 : decode cX9_rule 37 = .ok (.ifCond .lt 28, 3) := by decide +kernel
theorem dX9_rule_40 : decode cX9_rule 40 = .ok (.iload_n 2, 1) := by decide +kernel
theorem dX9_rule_41 : decode cX9_rule 41 = .ok (.iconst 3, 1) := by decide +kernel
theorem dX9_rule_42 : decode cX9_rule 42 = .ok (.if_icmp .gt 23, 3) := by decide +kernel
theorem dX9_rule_45 : decode cX9_rule 45 = .ok (.iload_n 2, 1) := by decide +kernel
theorem dX9_rule_46 : decode cX9_rule 46 = .ok (.iconst 3, 1) := by decide +kernel
theorem dX9_rule_47 : decode cX9_rule 47 = .ok (.if_icmp .ne 21, 3) := by decide +kernel
theorem dX9_rule_50 : decode cX9_rule 50 = .ok (.aload_n 0, 1) := by decide +kernel
theorem dX9_rule_51 : decode cX9_rule 51 = .ok (.getfield 10, 3) := by decide +kernel
theorem dX9_rule_54 : decode cX9_rule 54 = .ok (.getfield 70, 3) := by decide +kernel
theorem dX9_rule_57 : decode cX9_rule 57 = .ok (.getfield 103, 3) := by decide +kernel
theorem dX9_rule_60 : decode cX9_rule 60 = .ok (.iload_n 1, 1) := by decide +kernel
theorem dX9_rule_61 : decode cX9_rule 61 = .ok (.baload, 1) := by decide +kernel
theorem dX9_rule_62 : decode cX9_rule 62 = .ok (.ifCond .ne 6, 3) := by decide +kernel
theorem dX9_rule_65 : decode cX9_rule 65 = .ok (.bipush (-2), 2) := by decide +kernel
theorem dX9_rule_67 : decode cX9_rule 67 = .ok (.ireturn, 1) := by decide +kernel
theorem dX9_rule_68 : decode cX9_rule 68 = .ok (.aload_n 0, 1) := by decide +kernel
theorem dX9_rule_69 : decode cX9_rule 69 = .ok (.getfield 10, 3) := by decide +kernel
theorem dX9_rule_72 : decode cX9_rule 72 = .ok (.iload_n 1, 1) := by decide +kernel
theorem dX9_rule_73 : decode cX9_rule 73 = .ok (.iload_n 2, 1) := by decide +kernel
theorem dX9_rule_74 : decode cX9_rule 74 = .ok (.iload_n 3, 1) := by decide +kernel
theorem dX9_rule_75 : decode cX9_rule 75 = .ok (.invokevirtual 107, 3) := by decide +kernel
theorem dX9_rule_78 : decode cX9_rule 78 = .ok (.istore 4, 2) := by decide +kernel
theorem dX9_rule_80 : decode cX9_rule 80 = .ok (.aload_n 0, 1) := by decide +kernel
theorem dX9_rule_81 : decode cX9_rule 81 = .ok (.getfield 10, 3) := by decide +kernel
theorem dX9_rule_84 : decode cX9_rule 84 = .ok (.getfield 70, 3) := by decide +kernel
theorem dX9_rule_87 : decode cX9_rule 87 = .ok (.iload 4, 2) := by decide +kernel
theorem dX9_rule_89 : decode cX9_rule 89 = .ok (.invokevirtual 111, 3) := by decide +kernel
theorem dX9_rule_92 : decode cX9_rule 92 = .ok (.iload_n 1, 1) := by decide +kernel
theorem dX9_rule_93 : decode cX9_rule 93 = .ok (.invokestatic 115, 3) := by decide +kernel
theorem dX9_rule_96 : decode cX9_rule 96 = .ok (.ifCond .eq 23, 3) := by decide +kernel
theorem dX9_rule_99 : decode cX9_rule 99 = .ok (.aload_n 0, 1) := by decide +kernel
theorem dX9_rule_100 : decode cX9_rule 100 = .ok (.getfield 19, 3) := by decide +kernel
theorem dX9_rule_103 : decode cX9_rule 103 = .ok (.aload_n 0, 1) := by decide +kernel
theorem dX9_rule_104 : decode cX9_rule 104 = .ok (.getfield 10, 3) := by decide +kernel
theorem dX9_rule_107 : decode cX9_rule 107 = .ok (.getfield 70, 3) := by decide +kernel
theorem dX9_rule_110 : decode cX9_rule 110 = .ok (.iload_n 1, 1) := by decide +kernel
theorem dX9_rule_111 : decode cX9_rule 111 = .ok (.iload 4, 2) := by decide +kernel
theorem dX9_rule_113 : decode cX9_rule 113 = .ok (.invokevirtual 119, 3) := by decide +kernel
theorem dX9_rule_116 : decode cX9_rule 116 = .ok (.bipush (-3), 2) := by decide +kernel
theorem dX9_rule_118 : decode cX9_rule 118 = .ok (.ireturn, 1) := by decide +kernel
theorem dX9_rule_119 : decode cX9_rule 119 = .ok (.aload_n 0, 1) := by decide +kernel
theorem dX9_rule_120 : decode cX9_rule 120 = .ok (.getfield 10, 3) := by decide +kernel
theorem dX9_rule_123 : decode cX9_rule 123 = .ok (.iload_n 1, 1) := by decide +kernel
theorem dX9_rule_124 : decode cX9_rule 124 = .ok (.iload_n 2, 1) := by decide +kernel
theorem dX9_rule_125 : decode cX9_rule 125 = .ok (.iload_n 3, 1) := by decide +kernel
theorem dX9_rule_126 : decode cX9_rule 126 = .ok (.invokevirtual 123, 3) := by decide +kernel
theorem dX9_rule_129 : decode cX9_rule 129 = .ok (.iconst 1, 1) := by decide +kernel
theorem dX9_rule_130 : decode cX9_rule 130 = .ok (.ireturn, 1) := by decide +kernel
theorem dX9_ring_0 : decode cX9_ring 0 = .ok (.iload_n 1, 1) := by decide +kernel
theorem dX9_ring_1 : decode cX9_ring 1 = .ok (.ifCond .lt 26, 3) := by decide +kernel
theorem dX9_ring_4 : decode cX9_ring 4 = .ok (.iload_n 1, 1) := by decide +kernel
theorem dX9_ring_5 : decode cX9_ring 5 = .ok (.aload_n 0, 1) := by decide +kernel
theorem dX9_ring_6 : decode cX9_ring 6 = .ok (.getfield 19, 3) := by decide +kernel
theorem dX9_ring_9 : decode cX9_ring 9 = .ok (.getfield 127, 3) := by decide +kernel
theorem dX9_ring_12 : decode cX9_ring 12 = .ok (.if_icmp .ge 15, 3) := by decide +kernel
theorem dX9_ring_15 : decode cX9_ring 15 = .ok (.aload_n 0, 1) := by decide +kernel
theorem dX9_ring_16 : decode cX9_ring 16 = .ok (.getfield 19, 3) := by decide +kernel
theorem dX9_ring_19 : decode cX9_ring 19 = .ok (.getfield 131, 3) := by decide +kernel
theorem dX9_ring_22 : decode cX9_ring 22 = .ok (.iload_n 1, 1) := by decide +kernel
theorem dX9_ring_23 : decode cX9_ring 23 = .ok (.iaload, 1) := by decide +kernel
theorem dX9_ring_24 : decode cX9_ring 24 = .ok (.goto 4, 3) := by decide +kernel
theorem dX9_ring_27 : decode cX9_ring 27 = .ok (.iconst (-1), 1) := by decide +kernel
theorem dX9_ring_28 : decode cX9_ring 28 = .ok (.ireturn, 1) := by decide +kernel
theorem dX9_about_0 : decode cX9_about 0 = .ok (.aload_n 0, 1) := by decide +kernel
theorem dX9_about_1 : decode cX9_about 1 = .ok (.getfield 10, 3) := by decide +kernel
theorem dX9_about_4 : decode cX9_about 4 = .ok (.getfield 70, 3) := by decide +kernel
theorem dX9_about_7 : decode cX9_about 7 = .ok (.iload_n 1, 1) := by decide +kernel
theorem dX9_about_8 : decode cX9_about 8 = .ok (.invokevirtual 98, 3) := by decide +kernel
theorem dX9_about_11 : decode cX9_about 11 = .ok (.ifCond .ne 5, 3) := by decide +kernel
theorem dX9_about_14 : decode cX9_about 14 = .ok (.iconst (-1), 1) := by decide +kernel
theorem dX9_about_15 : decode cX9_about 15 = .ok (.ireturn, 1) := by decide +kernel
theorem dX9_about_16 : decode cX9_about 16 = .ok (.iload_n 2, 1) := by decide +kernel
theorem dX9_about_17 : decode cX9_about 17 = .ok (.tableswitch 143 0 8 #[51, 64, 77, 98, 98, 98, 98, 115, 131], 51) := by decide +kernel
theorem dX9_about_68 : decode cX9_about 68 = .ok (.aload_n 0, 1) := by decide +kernel
theorem dX9_about_69 : decode cX9_about 69 = .ok (.getfield 10, 3) := by decide +kernel
theorem dX9_about_72 : decode cX9_about 72 = .ok (.getfield 70, 3) := by decide +kernel
theorem dX9_about_75 : decode cX9_about 75 = .ok (.getfield 135, 3) := by decide +kernel
theorem dX9_about_78 : decode cX9_about 78 = .ok (.iload_n 1, 1) := by decide +kernel
theorem dX9_about_79 : decode cX9_about 79 = .ok (.iaload, 1) := by decide +kernel
theorem dX9_about_80 : decode cX9_about 80 = .ok (.ireturn, 1) := by decide +kernel
theorem dX9_about_81 : decode cX9_about 81 = .ok (.aload_n 0, 1) := by decide +kernel
theorem dX9_about_82 : decode cX9_about 82 = .ok (.getfield 10, 3) := by decide +kernel
theorem dX9_about_85 : decode cX9_about 85 = .ok (.getfield 70, 3) := by decide +kernel
theorem dX9_about_88 : decode cX9_about 88 = .ok (.getfield 138, 3) := by decide +kernel
theorem dX9_about_91 : decode cX9_about 91 = .ok (.iload_n 1, 1) := by decide +kernel
theorem dX9_about_92 : decode cX9_about 92 = .ok (.iaload, 1) := by decide +kernel
theorem dX9_about_93 : decode cX9_about 93 = .ok (.ireturn, 1) := by decide +kernel
theorem dX9_about_94 : decode cX9_about 94 = .ok (.aload_n 0, 1) := by decide +kernel
theorem dX9_about_95 : decode cX9_about 95 = .ok (.getfield 10, 3) := by decide +kernel
theorem dX9_about_98 : decode cX9_about 98 = .ok (.getfield 70, 3) := by decide +kernel
theorem dX9_about_101 : decode cX9_about 101 = .ok (.getfield 103, 3) := by decide +kernel
theorem dX9_about_104 : decode cX9_about 104 = .ok (.iload_n 1, 1) := by decide +kernel
theorem dX9_about_105 : decode cX9_about 105 = .ok (.baload, 1) := by decide +kernel
theorem dX9_about_106 : decode cX9_about 106 = .ok (.ifCond .eq 7, 3) := by decide +kernel
theorem dX9_about_109 : decode cX9_about 109 = .ok (.iconst 1, 1) := by decide +kernel
theorem dX9_about_110 : decode cX9_about 110 = .ok (.goto 4, 3) := by decide +kernel
theorem dX9_about_113 : decode cX9_about 113 = .ok (.iconst 0, 1) := by decide +kernel
theorem dX9_about_114 : decode cX9_about 114 = .ok (.ireturn, 1) := by decide +kernel
theorem dX9_about_115 : decode cX9_about 115 = .ok (.aload_n 0, 1) := by decide +kernel
theorem dX9_about_116 : decode cX9_about 116 = .ok (.getfield 10, 3) := by decide +kernel
theorem dX9_about_119 : decode cX9_about 119 = .ok (.getfield 70, 3) := by decide +kernel
theorem dX9_about_122 : decode cX9_about 122 = .ok (.getfield 141, 3) := by decide +kernel
theorem dX9_about_125 : decode cX9_about 125 = .ok (.iload_n 1, 1) := by decide +kernel
theorem dX9_about_126 : decode cX9_about 126 = .ok (.aaload, 1) := by decide +kernel
theorem dX9_about_127 : decode cX9_about 127 = .ok (.iload_n 2, 1) := by decide +kernel
theorem dX9_about_128 : decode cX9_about 128 = .ok (.iconst 3, 1) := by decide +kernel
theorem dX9_about_129 : decode cX9_about 129 = .ok (.isub, 1) := by decide +kernel
theorem dX9_about_130 : decode cX9_about 130 = .ok (.iaload, 1) := by decide +kernel
theorem dX9_about_131 : decode cX9_about 131 = .ok (.ireturn, 1) := by decide +kernel
theorem dX9_about_132 : decode cX9_about 132 = .ok (.aload_n 0, 1) := by decide +kernel
theorem dX9_about_133 : decode cX9_about 133 = .ok (.getfield 10, 3) := by decide +kernel
theorem dX9_about_136 : decode cX9_about 136 = .ok (.getfield 70, 3) := by decide +kernel
theorem dX9_about_139 : decode cX9_about 139 = .ok (.getfield 144, 3) := by decide +kernel
theorem dX9_about_142 : decode cX9_about 142 = .ok (.iload_n 1, 1) := by decide +kernel
theorem dX9_about_143 : decode cX9_about 143 = .ok (.iaload, 1) := by decide +kernel
theorem dX9_about_144 : decode cX9_about 144 = .ok (.invokestatic 147, 3) := by decide +kernel
theorem dX9_about_147 : decode cX9_about 147 = .ok (.ireturn, 1) := by decide +kernel
theorem dX9_about_148 : decode cX9_about 148 = .ok (.aload_n 0, 1) := by decide +kernel
theorem dX9_about_149 : decode cX9_about 149 = .ok (.getfield 10, 3) := by decide +kernel
theorem dX9_about_152 : decode cX9_about 152 = .ok (.getfield 70, 3) := by decide +kernel
theorem dX9_about_155 : decode cX9_about 155 = .ok (.iload_n 1, 1) := by decide +kernel
theorem dX9_about_156 : decode cX9_about 156 = .ok (.invokevirtual 152, 3) := by decide +kernel
theorem dX9_about_159 : decode cX9_about 159 = .ok (.ireturn, 1) := by decide +kernel
theorem dX9_about_160 : decode cX9_about 160 = .ok (.bipush (-2), 2) := by decide +kernel
theorem dX9_about_162 : decode cX9_about 162 = .ok (.ireturn, 1) := by decide +kernel
theorem dX9_hangs_0 : decode cX9_hangs 0 = .ok (.aload_n 0, 1) := by decide +kernel
theorem dX9_hangs_1 : decode cX9_hangs 1 = .ok (.getfield 10, 3) := by decide +kernel
theorem dX9_hangs_4 : decode cX9_hangs 4 = .ok (.getfield 70, 3) := by decide +kernel
theorem dX9_hangs_7 : decode cX9_hangs 7 = .ok (.iload_n 1, 1) := by decide +kernel
theorem dX9_hangs_8 : decode cX9_hangs 8 = .ok (.invokevirtual 98, 3) := by decide +kernel
theorem dX9_hangs_11 : decode cX9_hangs 11 = .ok (.ifCond .eq 17, 3) := by decide +kernel
theorem dX9_hangs_14 : decode cX9_hangs 14 = .ok (.aload_n 0, 1) := by decide +kernel
theorem dX9_hangs_15 : decode cX9_hangs 15 = .ok (.getfield 10, 3) := by decide +kernel
theorem dX9_hangs_18 : decode cX9_hangs 18 = .ok (.getfield 70, 3) := by decide +kernel
theorem dX9_hangs_21 : decode cX9_hangs 21 = .ok (.iload_n 2, 1) := by decide +kernel
theorem dX9_hangs_22 : decode cX9_hangs 22 = .ok (.invokevirtual 98, 3) := by decide +kernel
theorem dX9_hangs_25 : decode cX9_hangs 25 = .ok (.ifCond .ne 5, 3) := by decide +kernel
theorem dX9_hangs_28 : decode cX9_hangs 28 = .ok (.iconst (-1), 1) := by decide +kernel
theorem dX9_hangs_29 : decode cX9_hangs 29 = .ok (.ireturn, 1) := by decide +kernel
theorem dX9_hangs_30 : decode cX9_hangs 30 = .ok (.aload_n 0, 1) := by decide +kernel
theorem dX9_hangs_31 : decode cX9_hangs 31 = .ok (.getfield 10, 3) := by decide +kernel
theorem dX9_hangs_34 : decode cX9_hangs 34 = .ok (.getfield 70, 3) := by decide +kernel
theorem dX9_hangs_37 : decode cX9_hangs 37 = .ok (.getfield 144, 3) := by decide +kernel
theorem dX9_hangs_40 : decode cX9_hangs 40 = .ok (.iload_n 1, 1) := by decide +kernel
theorem dX9_hangs_41 : decode cX9_hangs 41 = .ok (.iaload, 1) := by decide +kernel
theorem dX9_hangs_42 : decode cX9_hangs 42 = .ok (.iload_n 2, 1) := by decide +kernel
theorem dX9_hangs_43 : decode cX9_hangs 43 = .ok (.invokestatic 115, 3) := by decide +kernel
theorem dX9_hangs_46 : decode cX9_hangs 46 = .ok (.invokestatic 155, 3) := by decide +kernel
theorem dX9_hangs_49 : decode cX9_hangs 49 = .ok (.ireturn, 1) := by decide +kernel
theorem dX9_answer_0 : decode cX9_answer 0 = .ok (.aload_n 0, 1) := by decide +kernel
theorem dX9_answer_1 : decode cX9_answer 1 = .ok (.iload_n 1, 1) := by decide +kernel
theorem dX9_answer_2 : decode cX9_answer 2 = .ok (.iload_n 2, 1) := by decide +kernel
theorem dX9_answer_3 : decode cX9_answer 3 = .ok (.invokevirtual 159, 3) := by decide +kernel
theorem dX9_answer_6 : decode cX9_answer 6 = .ok (.ifCond .ne 5, 3) := by decide +kernel
theorem dX9_answer_9 : decode cX9_answer 9 = .ok (.iconst (-1), 1) := by decide +kernel
theorem dX9_answer_10 : decode cX9_answer 10 = .ok (.ireturn, 1) := by decide +kernel
theorem dX9_answer_11 : decode cX9_answer 11 = .ok (.aload_n 0, 1) := by decide +kernel
theorem dX9_answer_12 : decode cX9_answer 12 = .ok (.getfield 10, 3) := by decide +kernel
theorem dX9_answer_15 : decode cX9_answer 15 = .ok (.getfield 70, 3) := by decide +kernel
theorem dX9_answer_18 : decode cX9_answer 18 = .ok (.getfield 103, 3) := by decide +kernel
theorem dX9_answer_21 : decode cX9_answer 21 = .ok (.iload_n 2, 1) := by decide +kernel
theorem dX9_answer_22 : decode cX9_answer 22 = .ok (.baload, 1) := by decide +kernel
theorem dX9_answer_23 : decode cX9_answer 23 = .ok (.ifCond .eq 6, 3) := by decide +kernel
theorem dX9_answer_26 : decode cX9_answer 26 = .ok (.bipush (-3), 2) := by decide +kernel
theorem dX9_answer_28 : decode cX9_answer 28 = .ok (.ireturn, 1) := by decide +kernel
theorem dX9_answer_29 : decode cX9_answer 29 = .ok (.aload_n 0, 1) := by decide +kernel
theorem dX9_answer_30 : decode cX9_answer 30 = .ok (.getfield 10, 3) := by decide +kernel
theorem dX9_answer_33 : decode cX9_answer 33 = .ok (.getfield 70, 3) := by decide +kernel
theorem dX9_answer_36 : decode cX9_answer 36 = .ok (.iload_n 2, 1) := by decide +kernel
theorem dX9_answer_37 : decode cX9_answer 37 = .ok (.iload_n 3, 1) := by decide +kernel
theorem dX9_answer_38 : decode cX9_answer 38 = .ok (.invokevirtual 162, 3) := by decide +kernel
theorem dX9_answer_41 : decode cX9_answer 41 = .ok (.ifCond .ne 6, 3) := by decide +kernel
theorem dX9_answer_44 : decode cX9_answer 44 = .ok (.bipush (-2), 2) := by decide +kernel
theorem dX9_answer_46 : decode cX9_answer 46 = .ok (.ireturn, 1) := by decide +kernel
theorem dX9_answer_47 : decode cX9_answer 47 = .ok (.aload_n 0, 1) := by decide +kernel
theorem dX9_answer_48 : decode cX9_answer 48 = .ok (.iload_n 1, 1) := by decide +kernel
theorem dX9_answer_49 : decode cX9_answer 49 = .ok (.invokevirtual 165, 3) := by decide +kernel
theorem dX9_answer_52 : decode cX9_answer 52 = .ok (.iload_n 2, 1) := by decide +kernel
theorem dX9_answer_53 : decode cX9_answer 53 = .ok (.invokestatic 115, 3) := by decide +kernel
theorem dX9_answer_56 : decode cX9_answer 56 = .ok (.ifCond .eq 6, 3) := by decide +kernel
theorem dX9_answer_59 : decode cX9_answer 59 = .ok (.bipush (-3), 2) := by decide +kernel
theorem dX9_answer_61 : decode cX9_answer 61 = .ok (.ireturn, 1) := by decide +kernel
theorem dX9_answer_62 : decode cX9_answer 62 = .ok (.aload_n 0, 1) := by decide +kernel
theorem dX9_answer_63 : decode cX9_answer 63 = .ok (.getfield 25, 3) := by decide +kernel
theorem dX9_answer_66 : decode cX9_answer 66 = .ok (.iload_n 1, 1) := by decide +kernel
theorem dX9_answer_67 : decode cX9_answer 67 = .ok (.aaload, 1) := by decide +kernel
theorem dX9_answer_68 : decode cX9_answer 68 = .ok (.iload_n 2, 1) := by decide +kernel
theorem dX9_answer_69 : decode cX9_answer 69 = .ok (.iload_n 3, 1) := by decide +kernel
theorem dX9_answer_70 : decode cX9_answer 70 = .ok (.iastore, 1) := by decide +kernel
theorem dX9_answer_71 : decode cX9_answer 71 = .ok (.aload_n 0, 1) := by decide +kernel
theorem dX9_answer_72 : decode cX9_answer 72 = .ok (.getfield 10, 3) := by decide +kernel
theorem dX9_answer_75 : decode cX9_answer 75 = .ok (.getfield 70, 3) := by decide +kernel
theorem dX9_answer_78 : decode cX9_answer 78 = .ok (.iload_n 2, 1) := by decide +kernel
theorem dX9_answer_79 : decode cX9_answer 79 = .ok (.invokevirtual 152, 3) := by decide +kernel
theorem dX9_answer_82 : decode cX9_answer 82 = .ok (.ireturn, 1) := by decide +kernel
theorem dX9_clear_0 : decode cX9_clear 0 = .ok (.aload_n 0, 1) := by decide +kernel
theorem dX9_clear_1 : decode cX9_clear 1 = .ok (.iload_n 1, 1) := by decide +kernel
theorem dX9_clear_2 : decode cX9_clear 2 = .ok (.iload_n 2, 1) := by decide +kernel
theorem dX9_clear_3 : decode cX9_clear 3 = .ok (.invokevirtual 159, 3) := by decide +kernel
theorem dX9_clear_6 : decode cX9_clear 6 = .ok (.ifCond .ne 5, 3) := by decide +kernel
theorem dX9_clear_9 : decode cX9_clear 9 = .ok (.iconst (-1), 1) := by decide +kernel
theorem dX9_clear_10 : decode cX9_clear 10 = .ok (.ireturn, 1) := by decide +kernel
theorem dX9_clear_11 : decode cX9_clear 11 = .ok (.aload_n 0, 1) := by decide +kernel
theorem dX9_clear_12 : decode cX9_clear 12 = .ok (.getfield 10, 3) := by decide +kernel
theorem dX9_clear_15 : decode cX9_clear 15 = .ok (.getfield 70, 3) := by decide +kernel
theorem dX9_clear_18 : decode cX9_clear 18 = .ok (.getfield 103, 3) := by decide +kernel
theorem dX9_clear_21 : decode cX9_clear 21 = .ok (.iload_n 2, 1) := by decide +kernel
theorem dX9_clear_22 : decode cX9_clear 22 = .ok (.baload, 1) := by decide +kernel
theorem dX9_clear_23 : decode cX9_clear 23 = .ok (.ifCond .ne 15, 3) := by decide +kernel
theorem dX9_clear_26 : decode cX9_clear 26 = .ok (.aload_n 0, 1) := by decide +kernel
theorem dX9_clear_27 : decode cX9_clear 27 = .ok (.iload_n 1, 1) := by decide +kernel
theorem dX9_clear_28 : decode cX9_clear 28 = .ok (.invokevirtual 165, 3) := by decide +kernel
theorem dX9_clear_31 : decode cX9_clear 31 = .ok (.iload_n 2, 1) := by decide +kernel
theorem dX9_clear_32 : decode cX9_clear 32 = .ok (.invokestatic 115, 3) := by decide +kernel
theorem dX9_clear_35 : decode cX9_clear 35 = .ok (.ifCond .eq 6, 3) := by decide +kernel
theorem dX9_clear_38 : decode cX9_clear 38 = .ok (.bipush (-3), 2) := by decide +kernel
theorem dX9_clear_40 : decode cX9_clear 40 = .ok (.ireturn, 1) := by decide +kernel
theorem dX9_clear_41 : decode cX9_clear 41 = .ok (.aload_n 0, 1) := by decide +kernel
theorem dX9_clear_42 : decode cX9_clear 42 = .ok (.getfield 25, 3) := by decide +kernel
theorem dX9_clear_45 : decode cX9_clear 45 = .ok (.iload_n 1, 1) := by decide +kernel
theorem dX9_clear_46 : decode cX9_clear 46 = .ok (.aaload, 1) := by decide +kernel
theorem dX9_clear_47 : decode cX9_clear 47 = .ok (.iload_n 2, 1) := by decide +kernel
theorem dX9_clear_48 : decode cX9_clear 48 = .ok (.iaload, 1) := by decide +kernel
theorem dX9_clear_49 : decode cX9_clear 49 = .ok (.ldc 28, 2) := by decide +kernel
theorem dX9_clear_51 : decode cX9_clear 51 = .ok (.if_icmp .eq 7, 3) := by decide +kernel
theorem dX9_clear_54 : decode cX9_clear 54 = .ok (.iconst 1, 1) := by decide +kernel
theorem dX9_clear_55 : decode cX9_clear 55 = .ok (.goto 4, 3) := by decide +kernel
theorem dX9_clear_58 : decode cX9_clear 58 = .ok (.iconst 0, 1) := by decide +kernel
theorem dX9_clear_59 : decode cX9_clear 59 = .ok (.invokestatic 155, 3) := by decide +kernel
theorem dX9_clear_62 : decode cX9_clear 62 = .ok (.istore_n 3, 1) := by decide +kernel
theorem dX9_clear_63 : decode cX9_clear 63 = .ok (.aload_n 0, 1) := by decide +kernel
theorem dX9_clear_64 : decode cX9_clear 64 = .ok (.getfield 25, 3) := by decide +kernel
theorem dX9_clear_67 : decode cX9_clear 67 = .ok (.iload_n 1, 1) := by decide +kernel
theorem dX9_clear_68 : decode cX9_clear 68 = .ok (.aaload, 1) := by decide +kernel
theorem dX9_clear_69 : decode cX9_clear 69 = .ok (.iload_n 2, 1) := by decide +kernel
theorem dX9_clear_70 : decode cX9_clear 70 = .ok (.ldc 28, 2) := by decide +kernel
theorem dX9_clear_72 : decode cX9_clear 72 = .ok (.iastore, 1) := by decide +kernel
theorem dX9_clear_73 : decode cX9_clear 73 = .ok (.iload_n 3, 1) := by decide +kernel
theorem dX9_clear_74 : decode cX9_clear 74 = .ok (.ireturn, 1) := by decide +kernel
theorem dX9_kept_0 : decode cX9_kept 0 = .ok (.aload_n 0, 1) := by decide +kernel
theorem dX9_kept_1 : decode cX9_kept 1 = .ok (.iload_n 1, 1) := by decide +kernel
theorem dX9_kept_2 : decode cX9_kept 2 = .ok (.iload_n 2, 1) := by decide +kernel
theorem dX9_kept_3 : decode cX9_kept 3 = .ok (.invokevirtual 159, 3) := by decide +kernel
theorem dX9_kept_6 : decode cX9_kept 6 = .ok (.ifCond .ne 6, 3) := by decide +kernel
theorem dX9_kept_9 : decode cX9_kept 9 = .ok (.ldc 28, 2) := by decide +kernel
theorem dX9_kept_11 : decode cX9_kept 11 = .ok (.ireturn, 1) := by decide +kernel
theorem dX9_kept_12 : decode cX9_kept 12 = .ok (.aload_n 0, 1) := by decide +kernel
theorem dX9_kept_13 : decode cX9_kept 13 = .ok (.getfield 10, 3) := by decide +kernel
theorem dX9_kept_16 : decode cX9_kept 16 = .ok (.getfield 70, 3) := by decide +kernel
theorem dX9_kept_19 : decode cX9_kept 19 = .ok (.getfield 103, 3) := by decide +kernel
theorem dX9_kept_22 : decode cX9_kept 22 = .ok (.iload_n 2, 1) := by decide +kernel
theorem dX9_kept_23 : decode cX9_kept 23 = .ok (.baload, 1) := by decide +kernel
theorem dX9_kept_24 : decode cX9_kept 24 = .ok (.ifCond .ne 12, 3) := by decide +kernel
theorem dX9_kept_27 : decode cX9_kept 27 = .ok (.aload_n 0, 1) := by decide +kernel
theorem dX9_kept_28 : decode cX9_kept 28 = .ok (.getfield 25, 3) := by decide +kernel
theorem dX9_kept_31 : decode cX9_kept 31 = .ok (.iload_n 1, 1) := by decide +kernel
theorem dX9_kept_32 : decode cX9_kept 32 = .ok (.aaload, 1) := by decide +kernel
theorem dX9_kept_33 : decode cX9_kept 33 = .ok (.iload_n 2, 1) := by decide +kernel
theorem dX9_kept_34 : decode cX9_kept 34 = .ok (.iaload, 1) := by decide +kernel
theorem dX9_kept_35 : decode cX9_kept 35 = .ok (.ireturn, 1) := by decide +kernel
theorem dX9_kept_36 : decode cX9_kept 36 = .ok (.aload_n 0, 1) := by decide +kernel
theorem dX9_kept_37 : decode cX9_kept 37 = .ok (.getfield 38, 3) := by decide +kernel
theorem dX9_kept_40 : decode cX9_kept 40 = .ok (.aload_n 0, 1) := by decide +kernel
theorem dX9_kept_41 : decode cX9_kept 41 = .ok (.getfield 10, 3) := by decide +kernel
theorem dX9_kept_44 : decode cX9_kept 44 = .ok (.aload_n 0, 1) := by decide +kernel
theorem dX9_kept_45 : decode cX9_kept 45 = .ok (.getfield 25, 3) := by decide +kernel
theorem dX9_kept_48 : decode cX9_kept 48 = .ok (.iload_n 1, 1) := by decide +kernel
theorem dX9_kept_49 : decode cX9_kept 49 = .ok (.aaload, 1) := by decide +kernel
theorem dX9_kept_50 : decode cX9_kept 50 = .ok (.invokevirtual 168, 3) := by decide +kernel
theorem dX9_kept_53 : decode cX9_kept 53 = .ok (.aload_n 0, 1) := by decide +kernel
theorem dX9_kept_54 : decode cX9_kept 54 = .ok (.getfield 38, 3) := by decide +kernel
theorem dX9_kept_57 : decode cX9_kept 57 = .ok (.aload_n 0, 1) := by decide +kernel
theorem dX9_kept_58 : decode cX9_kept 58 = .ok (.getfield 10, 3) := by decide +kernel
theorem dX9_kept_61 : decode cX9_kept 61 = .ok (.getfield 70, 3) := by decide +kernel
theorem dX9_kept_64 : decode cX9_kept 64 = .ok (.getfield 141, 3) := by decide +kernel
theorem dX9_kept_67 : decode cX9_kept 67 = .ok (.iload_n 2, 1) := by decide +kernel
theorem dX9_kept_68 : decode cX9_kept 68 = .ok (.aaload, 1) := by decide +kernel
theorem dX9_kept_69 : decode cX9_kept 69 = .ok (.iconst 3, 1) := by decide +kernel
theorem dX9_kept_70 : decode cX9_kept 70 = .ok (.iaload, 1) := by decide +kernel
theorem dX9_kept_71 : decode cX9_kept 71 = .ok (.invokevirtual 172, 3) := by decide +kernel
theorem dX9_kept_74 : decode cX9_kept 74 = .ok (.ireturn, 1) := by decide +kernel
theorem dX9_counts_0 : decode cX9_counts 0 = .ok (.aload_n 0, 1) := by decide +kernel
theorem dX9_counts_1 : decode cX9_counts 1 = .ok (.iload_n 1, 1) := by decide +kernel
theorem dX9_counts_2 : decode cX9_counts 2 = .ok (.iload_n 2, 1) := by decide +kernel
theorem dX9_counts_3 : decode cX9_counts 3 = .ok (.invokevirtual 159, 3) := by decide +kernel
theorem dX9_counts_6 : decode cX9_counts 6 = .ok (.ifCond .ne 6, 3) := by decide +kernel
theorem dX9_counts_9 : decode cX9_counts 9 = .ok (.ldc 28, 2) := by decide +kernel
theorem dX9_counts_11 : decode cX9_counts 11 = .ok (.ireturn, 1) := by decide +kernel
theorem dX9_counts_12 : decode cX9_counts 12 = .ok (.aload_n 0, 1) := by decide +kernel
theorem dX9_counts_13 : decode cX9_counts 13 = .ok (.getfield 38, 3) := by decide +kernel
theorem dX9_counts_16 : decode cX9_counts 16 = .ok (.aload_n 0, 1) := by decide +kernel
theorem dX9_counts_17 : decode cX9_counts 17 = .ok (.getfield 10, 3) := by decide +kernel
theorem dX9_counts_20 : decode cX9_counts 20 = .ok (.aload_n 0, 1) := by decide +kernel
theorem dX9_counts_21 : decode cX9_counts 21 = .ok (.getfield 25, 3) := by decide +kernel
theorem dX9_counts_24 : decode cX9_counts 24 = .ok (.iload_n 1, 1) := by decide +kernel
theorem dX9_counts_25 : decode cX9_counts 25 = .ok (.aaload, 1) := by decide +kernel
theorem dX9_counts_26 : decode cX9_counts 26 = .ok (.invokevirtual 168, 3) := by decide +kernel
theorem dX9_counts_29 : decode cX9_counts 29 = .ok (.aload_n 0, 1) := by decide +kernel
theorem dX9_counts_30 : decode cX9_counts 30 = .ok (.getfield 38, 3) := by decide +kernel
theorem dX9_counts_33 : decode cX9_counts 33 = .ok (.getfield 175, 3) := by decide +kernel
theorem dX9_counts_36 : decode cX9_counts 36 = .ok (.iload_n 2, 1) := by decide +kernel
theorem dX9_counts_37 : decode cX9_counts 37 = .ok (.iaload, 1) := by decide +kernel
theorem dX9_counts_38 : decode cX9_counts 38 = .ok (.ireturn, 1) := by decide +kernel
theorem dX9_status_0 : decode cX9_status 0 = .ok (.aload_n 0, 1) := by decide +kernel
theorem dX9_status_1 : decode cX9_status 1 = .ok (.iload_n 1, 1) := by decide +kernel
theorem dX9_status_2 : decode cX9_status 2 = .ok (.iload_n 2, 1) := by decide +kernel
theorem dX9_status_3 : decode cX9_status 3 = .ok (.invokevirtual 159, 3) := by decide +kernel
theorem dX9_status_6 : decode cX9_status 6 = .ok (.ifCond .ne 5, 3) := by decide +kernel
theorem dX9_status_9 : decode cX9_status 9 = .ok (.iconst (-1), 1) := by decide +kernel
theorem dX9_status_10 : decode cX9_status 10 = .ok (.ireturn, 1) := by decide +kernel
theorem dX9_status_11 : decode cX9_status 11 = .ok (.aload_n 0, 1) := by decide +kernel
theorem dX9_status_12 : decode cX9_status 12 = .ok (.getfield 38, 3) := by decide +kernel
theorem dX9_status_15 : decode cX9_status 15 = .ok (.aload_n 0, 1) := by decide +kernel
theorem dX9_status_16 : decode cX9_status 16 = .ok (.getfield 10, 3) := by decide +kernel
theorem dX9_status_19 : decode cX9_status 19 = .ok (.aload_n 0, 1) := by decide +kernel
theorem dX9_status_20 : decode cX9_status 20 = .ok (.getfield 25, 3) := by decide +kernel
theorem dX9_status_23 : decode cX9_status 23 = .ok (.iload_n 1, 1) := by decide +kernel
theorem dX9_status_24 : decode cX9_status 24 = .ok (.aaload, 1) := by decide +kernel
theorem dX9_status_25 : decode cX9_status 25 = .ok (.invokevirtual 168, 3) := by decide +kernel
theorem dX9_status_28 : decode cX9_status 28 = .ok (.aload_n 0, 1) := by decide +kernel
theorem dX9_status_29 : decode cX9_status 29 = .ok (.getfield 38, 3) := by decide +kernel
theorem dX9_status_32 : decode cX9_status 32 = .ok (.aload_n 0, 1) := by decide +kernel
theorem dX9_status_33 : decode cX9_status 33 = .ok (.getfield 10, 3) := by decide +kernel
theorem dX9_status_36 : decode cX9_status 36 = .ok (.getfield 70, 3) := by decide +kernel
theorem dX9_status_39 : decode cX9_status 39 = .ok (.iload_n 2, 1) := by decide +kernel
theorem dX9_status_40 : decode cX9_status 40 = .ok (.invokevirtual 178, 3) := by decide +kernel
theorem dX9_status_43 : decode cX9_status 43 = .ok (.ireturn, 1) := by decide +kernel
theorem dX9_done_0 : decode cX9_done 0 = .ok (.aload_n 0, 1) := by decide +kernel
theorem dX9_done_1 : decode cX9_done 1 = .ok (.iload_n 1, 1) := by decide +kernel
theorem dX9_done_2 : decode cX9_done 2 = .ok (.invokevirtual 182, 3) := by decide +kernel
theorem dX9_done_5 : decode cX9_done 5 = .ok (.ifCond .ne 5, 3) := by decide +kernel
theorem dX9_done_8 : decode cX9_done 8 = .ok (.iconst (-1), 1) := by decide +kernel
theorem dX9_done_9 : decode cX9_done 9 = .ok (.ireturn, 1) := by decide +kernel
theorem dX9_done_10 : decode cX9_done 10 = .ok (.aload_n 0, 1) := by decide +kernel
theorem dX9_done_11 : decode cX9_done 11 = .ok (.getfield 38, 3) := by decide +kernel
theorem dX9_done_14 : decode cX9_done 14 = .ok (.aload_n 0, 1) := by decide +kernel
theorem dX9_done_15 : decode cX9_done 15 = .ok (.getfield 10, 3) := by decide +kernel
theorem dX9_done_18 : decode cX9_done 18 = .ok (.aload_n 0, 1) := by decide +kernel
theorem dX9_done_19 : decode cX9_done 19 = .ok (.getfield 25, 3) := by decide +kernel
theorem dX9_done_22 : decode cX9_done 22 = .ok (.iload_n 1, 1) := by decide +kernel
theorem dX9_done_23 : decode cX9_done 23 = .ok (.aaload, 1) := by decide +kernel
theorem dX9_done_24 : decode cX9_done 24 = .ok (.invokevirtual 168, 3) := by decide +kernel
theorem dX9_done_27 : decode cX9_done 27 = .ok (.iconst 0, 1) := by decide +kernel
theorem dX9_done_28 : decode cX9_done 28 = .ok (.istore_n 2, 1) := by decide +kernel
theorem dX9_done_29 : decode cX9_done 29 = .ok (.iload_n 2, 1) := by decide +kernel
theorem dX9_done_30 : decode cX9_done 30 = .ok (.aload_n 0, 1) := by decide +kernel
theorem dX9_done_31 : decode cX9_done 31 = .ok (.getfield 10, 3) := by decide +kernel
theorem dX9_done_34 : decode cX9_done 34 = .ok (.getfield 70, 3) := by decide +kernel
theorem dX9_done_37 : decode cX9_done 37 = .ok (.getfield 185, 3) := by decide +kernel
theorem dX9_done_40 : decode cX9_done 40 = .ok (.if_icmp .ge 37, 3) := by decide +kernel
theorem dX9_done_43 : decode cX9_done 43 = .ok (.aload_n 0, 1) := by decide +kernel
theorem dX9_done_44 : decode cX9_done 44 = .ok (.getfield 38, 3) := by decide +kernel
theorem dX9_done_47 : decode cX9_done 47 = .ok (.aload_n 0, 1) := by decide +kernel
theorem dX9_done_48 : decode cX9_done 48 = .ok (.getfield 10, 3) := by decide +kernel
theorem dX9_done_51 : decode cX9_done 51 = .ok (.getfield 70, 3) := by decide +kernel
theorem dX9_done_54 : decode cX9_done 54 = .ok (.iload_n 2, 1) := by decide +kernel
theorem dX9_done_55 : decode cX9_done 55 = .ok (.invokevirtual 178, 3) := by decide +kernel
theorem dX9_done_58 : decode cX9_done 58 = .ok (.istore_n 3, 1) := by decide +kernel
theorem dX9_done_59 : decode cX9_done 59 = .ok (.iload_n 3, 1) := by decide +kernel
theorem dX9_done_60 : decode cX9_done 60 = .ok (.iconst 2, 1) := by decide +kernel
theorem dX9_done_61 : decode cX9_done 61 = .ok (.if_icmp .eq 8, 3) := by decide +kernel
theorem dX9_done_64 : decode cX9_done 64 = .ok (.iload_n 3, 1) := by decide +kernel
theorem dX9_done_65 : decode cX9_done 65 = .ok (.iconst 4, 1) := by decide +kernel
theorem dX9_done_66 : decode cX9_done 66 = .ok (.if_icmp .ne 5, 3) := by decide +kernel
theorem dX9_done_69 : decode cX9_done 69 = .ok (.iconst 0, 1) := by decide +kernel
theorem dX9_done_70 : decode cX9_done 70 = .ok (.ireturn, 1) := by decide +kernel
theorem dX9_done_71 : decode cX9_done 71 = .ok (.iinc 2 1, 3) := by decide +kernel
theorem dX9_done_74 : decode cX9_done 74 = .ok (.goto (-45), 3) := by decide +kernel
theorem dX9_done_77 : decode cX9_done 77 = .ok (.iconst 1, 1) := by decide +kernel
theorem dX9_done_78 : decode cX9_done 78 = .ok (.ireturn, 1) := by decide +kernel
theorem dX9_value_0 : decode cX9_value 0 = .ok (.aload_n 0, 1) := by decide +kernel
theorem dX9_value_1 : decode cX9_value 1 = .ok (.iload_n 1, 1) := by decide +kernel
theorem dX9_value_2 : decode cX9_value 2 = .ok (.invokevirtual 182, 3) := by decide +kernel
theorem dX9_value_5 : decode cX9_value 5 = .ok (.ifCond .eq 17, 3) := by decide +kernel
theorem dX9_value_8 : decode cX9_value 8 = .ok (.aload_n 0, 1) := by decide +kernel
theorem dX9_value_9 : decode cX9_value 9 = .ok (.getfield 10, 3) := by decide +kernel
theorem dX9_value_12 : decode cX9_value 12 = .ok (.getfield 89, 3) := by decide +kernel
theorem dX9_value_15 : decode cX9_value 15 = .ok (.iload_n 2, 1) := by decide +kernel
theorem dX9_value_16 : decode cX9_value 16 = .ok (.invokevirtual 102, 3) := by decide +kernel
theorem dX9_value_19 : decode cX9_value 19 = .ok (.ifCond .ne 6, 3) := by decide +kernel
theorem dX9_value_22 : decode cX9_value 22 = .ok (.ldc 28, 2) := by decide +kernel
theorem dX9_value_24 : decode cX9_value 24 = .ok (.ireturn, 1) := by decide +kernel
theorem dX9_value_25 : decode cX9_value 25 = .ok (.aload_n 0, 1) := by decide +kernel
theorem dX9_value_26 : decode cX9_value 26 = .ok (.getfield 38, 3) := by decide +kernel
theorem dX9_value_29 : decode cX9_value 29 = .ok (.aload_n 0, 1) := by decide +kernel
theorem dX9_value_30 : decode cX9_value 30 = .ok (.getfield 10, 3) := by decide +kernel
theorem dX9_value_33 : decode cX9_value 33 = .ok (.aload_n 0, 1) := by decide +kernel
theorem dX9_value_34 : decode cX9_value 34 = .ok (.getfield 25, 3) := by decide +kernel
theorem dX9_value_37 : decode cX9_value 37 = .ok (.iload_n 1, 1) := by decide +kernel
theorem dX9_value_38 : decode cX9_value 38 = .ok (.aaload, 1) := by decide +kernel
theorem dX9_value_39 : decode cX9_value 39 = .ok (.invokevirtual 168, 3) := by decide +kernel
theorem dX9_value_42 : decode cX9_value 42 = .ok (.aload_n 0, 1) := by decide +kernel
theorem dX9_value_43 : decode cX9_value 43 = .ok (.getfield 38, 3) := by decide +kernel
theorem dX9_value_46 : decode cX9_value 46 = .ok (.getfield 186, 3) := by decide +kernel
theorem dX9_value_49 : decode cX9_value 49 = .ok (.iload_n 2, 1) := by decide +kernel
theorem dX9_value_50 : decode cX9_value 50 = .ok (.iaload, 1) := by decide +kernel
theorem dX9_value_51 : decode cX9_value 51 = .ok (.ireturn, 1) := by decide +kernel
theorem dX9_copy_0 : decode cX9_copy 0 = .ok (.aload_n 0, 1) := by decide +kernel
theorem dX9_copy_1 : decode cX9_copy 1 = .ok (.iload_n 1, 1) := by decide +kernel
theorem dX9_copy_2 : decode cX9_copy 2 = .ok (.invokevirtual 182, 3) := by decide +kernel
theorem dX9_copy_5 : decode cX9_copy 5 = .ok (.ifCond .eq 11, 3) := by decide +kernel
theorem dX9_copy_8 : decode cX9_copy 8 = .ok (.aload_n 0, 1) := by decide +kernel
theorem dX9_copy_9 : decode cX9_copy 9 = .ok (.iload_n 2, 1) := by decide +kernel
theorem dX9_copy_10 : decode cX9_copy 10 = .ok (.invokevirtual 182, 3) := by decide +kernel
theorem dX9_copy_13 : decode cX9_copy 13 = .ok (.ifCond .ne 5, 3) := by decide +kernel
theorem dX9_copy_16 : decode cX9_copy 16 = .ok (.iconst (-1), 1) := by decide +kernel
theorem dX9_copy_17 : decode cX9_copy 17 = .ok (.ireturn, 1) := by decide +kernel
theorem dX9_copy_18 : decode cX9_copy 18 = .ok (.aload_n 0, 1) := by decide +kernel
theorem dX9_copy_19 : decode cX9_copy 19 = .ok (.iload_n 2, 1) := by decide +kernel
theorem dX9_copy_20 : decode cX9_copy 20 = .ok (.invokevirtual 165, 3) := by decide +kernel
theorem dX9_copy_23 : decode cX9_copy 23 = .ok (.ifCond .eq 6, 3) := by decide +kernel
theorem dX9_copy_26 : decode cX9_copy 26 = .ok (.bipush (-3), 2) := by decide +kernel
theorem dX9_copy_28 : decode cX9_copy 28 = .ok (.ireturn, 1) := by decide +kernel
theorem dX9_copy_29 : decode cX9_copy 29 = .ok (.iconst 0, 1) := by decide +kernel
theorem dX9_copy_30 : decode cX9_copy 30 = .ok (.istore_n 3, 1) := by decide +kernel
theorem dX9_copy_31 : decode cX9_copy 31 = .ok (.iconst 0, 1) := by decide +kernel
theorem dX9_copy_32 : decode cX9_copy 32 = .ok (.istore 4, 2) := by decide +kernel
theorem dX9_copy_34 : decode cX9_copy 34 = .ok (.iload 4, 2) := by decide +kernel
theorem dX9_copy_36 : decode cX9_copy 36 = .ok (.aload_n 0, 1) := by decide +kernel
theorem dX9_copy_37 : decode cX9_copy 37 = .ok (.getfield 10, 3) := by decide +kernel
theorem dX9_copy_40 : decode cX9_copy 40 = .ok (.getfield 70, 3) := by decide +kernel
theorem dX9_copy_43 : decode cX9_copy 43 = .ok (.getfield 185, 3) := by decide +kernel
theorem dX9_copy_46 : decode cX9_copy 46 = .ok (.if_icmp .ge 51, 3) := by decide +kernel
theorem dX9_copy_49 : decode cX9_copy 49 = .ok (.aload_n 0, 1) := by decide +kernel
theorem dX9_copy_50 : decode cX9_copy 50 = .ok (.getfield 25, 3) := by decide +kernel
theorem dX9_copy_53 : decode cX9_copy 53 = .ok (.iload_n 2, 1) := by decide +kernel
theorem dX9_copy_54 : decode cX9_copy 54 = .ok (.aaload, 1) := by decide +kernel
theorem dX9_copy_55 : decode cX9_copy 55 = .ok (.iload 4, 2) := by decide +kernel
theorem dX9_copy_57 : decode cX9_copy 57 = .ok (.iaload, 1) := by decide +kernel
theorem dX9_copy_58 : decode cX9_copy 58 = .ok (.aload_n 0, 1) := by decide +kernel
theorem dX9_copy_59 : decode cX9_copy 59 = .ok (.getfield 25, 3) := by decide +kernel
theorem dX9_copy_62 : decode cX9_copy 62 = .ok (.iload_n 1, 1) := by decide +kernel
theorem dX9_copy_63 : decode cX9_copy 63 = .ok (.aaload, 1) := by decide +kernel
theorem dX9_copy_64 : decode cX9_copy 64 = .ok (.iload 4, 2) := by decide +kernel
theorem dX9_copy_66 : decode cX9_copy 66 = .ok (.iaload, 1) := by decide +kernel
theorem dX9_copy_67 : decode cX9_copy 67 = .ok (.if_icmp .eq 24, 3) := by decide +kernel
theorem dX9_copy_70 : decode cX9_copy 70 = .ok (.aload_n 0, 1) := by decide +kernel
theorem dX9_copy_71 : decode cX9_copy 71 = .ok (.getfield 25, 3) := by decide +kernel
theorem dX9_copy_74 : decode cX9_copy 74 = .ok (.iload_n 2, 1) := by decide +kernel
theorem dX9_copy_75 : decode cX9_copy 75 = .ok (.aaload, 1) := by decide +kernel
theorem dX9_copy_76 : decode cX9_copy 76 = .ok (.iload 4, 2) := by decide +kernel
theorem dX9_copy_78 : decode cX9_copy 78 = .ok (.aload_n 0, 1) := by decide +kernel
theorem dX9_copy_79 : decode cX9_copy 79 = .ok (.getfield 25, 3) := by decide +kernel
theorem dX9_copy_82 : decode cX9_copy 82 = .ok (.iload_n 1, 1) := by decide +kernel
theorem dX9_copy_83 : decode cX9_copy 83 = .ok (.aaload, 1) := by decide +kernel
theorem dX9_copy_84 : decode cX9_copy 84 = .ok (.iload 4, 2) := by decide +kernel
theorem dX9_copy_86 : decode cX9_copy 86 = .ok (.iaload, 1) := by decide +kernel
theorem dX9_copy_87 : decode cX9_copy 87 = .ok (.iastore, 1) := by decide +kernel
theorem dX9_copy_88 : decode cX9_copy 88 = .ok (.iinc 3 1, 3) := by decide +kernel
theorem dX9_copy_91 : decode cX9_copy 91 = .ok (.iinc 4 1, 3) := by decide +kernel
theorem dX9_copy_94 : decode cX9_copy 94 = .ok (.goto (-60), 3) := by decide +kernel
theorem dX9_copy_97 : decode cX9_copy 97 = .ok (.iload_n 3, 1) := by decide +kernel
theorem dX9_copy_98 : decode cX9_copy 98 = .ok (.ireturn, 1) := by decide +kernel
theorem dX9_join_0 : decode cX9_join 0 = .ok (.aload_n 0, 1) := by decide +kernel
theorem dX9_join_1 : decode cX9_join 1 = .ok (.iload_n 1, 1) := by decide +kernel
theorem dX9_join_2 : decode cX9_join 2 = .ok (.invokevirtual 182, 3) := by decide +kernel
theorem dX9_join_5 : decode cX9_join 5 = .ok (.ifCond .eq 28, 3) := by decide +kernel
theorem dX9_join_8 : decode cX9_join 8 = .ok (.aload_n 0, 1) := by decide +kernel
theorem dX9_join_9 : decode cX9_join 9 = .ok (.iload_n 2, 1) := by decide +kernel
theorem dX9_join_10 : decode cX9_join 10 = .ok (.invokevirtual 182, 3) := by decide +kernel
theorem dX9_join_13 : decode cX9_join 13 = .ok (.ifCond .eq 20, 3) := by decide +kernel
theorem dX9_join_16 : decode cX9_join 16 = .ok (.aload_n 0, 1) := by decide +kernel
theorem dX9_join_17 : decode cX9_join 17 = .ok (.iload_n 3, 1) := by decide +kernel
theorem dX9_join_18 : decode cX9_join 18 = .ok (.invokevirtual 182, 3) := by decide +kernel
theorem dX9_join_21 : decode cX9_join 21 = .ok (.ifCond .eq 12, 3) := by decide +kernel
theorem dX9_join_24 : decode cX9_join 24 = .ok (.aload_n 0, 1) := by decide +kernel
theorem dX9_join_25 : decode cX9_join 25 = .ok (.iload 4, 2) := by decide +kernel
theorem dX9_join_27 : decode cX9_join 27 = .ok (.invokevirtual 182, 3) := by decide +kernel
theorem dX9_join_30 : decode cX9_join 30 = .ok (.ifCond .ne 5, 3) := by decide +kernel
theorem dX9_join_33 : decode cX9_join 33 = .ok (.iconst (-1), 1) := by decide +kernel
theorem dX9_join_34 : decode cX9_join 34 = .ok (.ireturn, 1) := by decide +kernel
theorem dX9_join_35 : decode cX9_join 35 = .ok (.aload_n 0, 1) := by decide +kernel
theorem dX9_join_36 : decode cX9_join 36 = .ok (.iload 4, 2) := by decide +kernel
theorem dX9_join_38 : decode cX9_join 38 = .ok (.invokevirtual 165, 3) := by decide +kernel
theorem dX9_join_41 : decode cX9_join 41 = .ok (.ifCond .eq 6, 3) := by decide +kernel
theorem dX9_join_44 : decode cX9_join 44 = .ok (.bipush (-3), 2) := by decide +kernel
theorem dX9_join_46 : decode cX9_join 46 = .ok (.ireturn, 1) := by decide +kernel
theorem dX9_join_47 : decode cX9_join 47 = .ok (.aload_n 0, 1) := by decide +kernel
theorem dX9_join_48 : decode cX9_join 48 = .ok (.getfield 45, 3) := by decide +kernel
theorem dX9_join_51 : decode cX9_join 51 = .ok (.invokevirtual 189, 3) := by decide +kernel
theorem dX9_join_54 : decode cX9_join 54 = .ok (.iconst 0, 1) := by decide +kernel
theorem dX9_join_55 : decode cX9_join 55 = .ok (.istore 5, 2) := by decide +kernel
theorem dX9_join_57 : decode cX9_join 57 = .ok (.iload 5, 2) := by decide +kernel
theorem dX9_join_59 : decode cX9_join 59 = .ok (.aload_n 0, 1) := by decide +kernel
theorem dX9_join_60 : decode cX9_join 60 = .ok (.getfield 10, 3) := by decide +kernel
theorem dX9_join_63 : decode cX9_join 63 = .ok (.getfield 70, 3) := by decide +kernel
theorem dX9_join_66 : decode cX9_join 66 = .ok (.getfield 185, 3) := by decide +kernel
theorem dX9_join_69 : decode cX9_join 69 = .ok (.if_icmp .ge 55, 3) := by decide +kernel
theorem dX9_join_72 : decode cX9_join 72 = .ok (.aload_n 0, 1) := by decide +kernel
theorem dX9_join_73 : decode cX9_join 73 = .ok (.getfield 25, 3) := by decide +kernel
theorem dX9_join_76 : decode cX9_join 76 = .ok (.iload 4, 2) := by decide +kernel
theorem dX9_join_78 : decode cX9_join 78 = .ok (.aaload, 1) := by decide +kernel
theorem dX9_join_79 : decode cX9_join 79 = .ok (.iload 5, 2) := by decide +kernel
theorem dX9_join_81 : decode cX9_join 81 = .ok (.aload_n 0, 1) := by decide +kernel
theorem dX9_join_82 : decode cX9_join 82 = .ok (.getfield 45, 3) := by decide +kernel
theorem dX9_join_85 : decode cX9_join 85 = .ok (.iload 5, 2) := by decide +kernel
theorem dX9_join_87 : decode cX9_join 87 = .ok (.aload_n 0, 1) := by decide +kernel
theorem dX9_join_88 : decode cX9_join 88 = .ok (.getfield 25, 3) := by decide +kernel
theorem dX9_join_91 : decode cX9_join 91 = .ok (.iload_n 1, 1) := by decide +kernel
theorem dX9_join_92 : decode cX9_join 92 = .ok (.aaload, 1) := by decide +kernel
theorem dX9_join_93 : decode cX9_join 93 = .ok (.iload 5, 2) := by decide +kernel
theorem dX9_join_95 : decode cX9_join 95 = .ok (.iaload, 1) := by decide +kernel
theorem dX9_join_96 : decode cX9_join 96 = .ok (.aload_n 0, 1) := by decide +kernel
theorem dX9_join_97 : decode cX9_join 97 = .ok (.getfield 25, 3) := by decide +kernel
theorem dX9_join_100 : decode cX9_join 100 = .ok (.iload_n 2, 1) := by decide +kernel
theorem dX9_join_101 : decode cX9_join 101 = .ok (.aaload, 1) := by decide +kernel
theorem dX9_join_102 : decode cX9_join 102 = .ok (.iload 5, 2) := by decide +kernel
theorem dX9_join_104 : decode cX9_join 104 = .ok (.iaload, 1) := by decide +kernel
theorem dX9_join_105 : decode cX9_join 105 = .ok (.aload_n 0, 1) := by decide +kernel
theorem dX9_join_106 : decode cX9_join 106 = .ok (.getfield 25, 3) := by decide +kernel
theorem dX9_join_109 : decode cX9_join 109 = .ok (.iload_n 3, 1) := by decide +kernel
theorem dX9_join_110 : decode cX9_join 110 = .ok (.aaload, 1) := by decide +kernel
theorem dX9_join_111 : decode cX9_join 111 = .ok (.iload 5, 2) := by decide +kernel
theorem dX9_join_113 : decode cX9_join 113 = .ok (.iaload, 1) := by decide +kernel
theorem dX9_join_114 : decode cX9_join 114 = .ok (.invokevirtual 192, 3) := by decide +kernel
theorem dX9_join_117 : decode cX9_join 117 = .ok (.iastore, 1) := by decide +kernel
theorem dX9_join_118 : decode cX9_join 118 = .ok (.iinc 5 1, 3) := by decide +kernel
theorem dX9_join_121 : decode cX9_join 121 = .ok (.goto (-64), 3) := by decide +kernel
theorem dX9_join_124 : decode cX9_join 124 = .ok (.aload_n 0, 1) := by decide +kernel
theorem dX9_join_125 : decode cX9_join 125 = .ok (.getfield 45, 3) := by decide +kernel
theorem dX9_join_128 : decode cX9_join 128 = .ok (.getfield 195, 3) := by decide +kernel
theorem dX9_join_131 : decode cX9_join 131 = .ok (.ireturn, 1) := by decide +kernel
theorem dX9_odds_0 : decode cX9_odds 0 = .ok (.iload_n 1, 1) := by decide +kernel
theorem dX9_odds_1 : decode cX9_odds 1 = .ok (.ifCond .lt 26, 3) := by decide +kernel
theorem dX9_odds_4 : decode cX9_odds 4 = .ok (.iload_n 1, 1) := by decide +kernel
theorem dX9_odds_5 : decode cX9_odds 5 = .ok (.aload_n 0, 1) := by decide +kernel
theorem dX9_odds_6 : decode cX9_odds 6 = .ok (.getfield 45, 3) := by decide +kernel
theorem dX9_odds_9 : decode cX9_odds 9 = .ok (.getfield 195, 3) := by decide +kernel
theorem dX9_odds_12 : decode cX9_odds 12 = .ok (.if_icmp .ge 15, 3) := by decide +kernel
theorem dX9_odds_15 : decode cX9_odds 15 = .ok (.aload_n 0, 1) := by decide +kernel
theorem dX9_odds_16 : decode cX9_odds 16 = .ok (.getfield 45, 3) := by decide +kernel
theorem dX9_odds_19 : decode cX9_odds 19 = .ok (.getfield 196, 3) := by decide +kernel
theorem dX9_odds_22 : decode cX9_odds 22 = .ok (.iload_n 1, 1) := by decide +kernel
theorem dX9_odds_23 : decode cX9_odds 23 = .ok (.iaload, 1) := by decide +kernel
theorem dX9_odds_24 : decode cX9_odds 24 = .ok (.goto 4, 3) := by decide +kernel
theorem dX9_odds_27 : decode cX9_odds 27 = .ok (.iconst (-1), 1) := by decide +kernel
theorem dX9_odds_28 : decode cX9_odds 28 = .ok (.ireturn, 1) := by decide +kernel
theorem dX9_seal_0 : decode cX9_seal 0 = .ok (.aload_n 0, 1) := by decide +kernel
theorem dX9_seal_1 : decode cX9_seal 1 = .ok (.iload_n 1, 1) := by decide +kernel
theorem dX9_seal_2 : decode cX9_seal 2 = .ok (.invokevirtual 182, 3) := by decide +kernel
theorem dX9_seal_5 : decode cX9_seal 5 = .ok (.ifCond .ne 5, 3) := by decide +kernel
theorem dX9_seal_8 : decode cX9_seal 8 = .ok (.iconst (-1), 1) := by decide +kernel
theorem dX9_seal_9 : decode cX9_seal 9 = .ok (.ireturn, 1) := by decide +kernel
theorem dX9_seal_10 : decode cX9_seal 10 = .ok (.iload_n 2, 1) := by decide +kernel
theorem dX9_seal_11 : decode cX9_seal 11 = .ok (.iconst 1, 1) := by decide +kernel
theorem dX9_seal_12 : decode cX9_seal 12 = .ok (.if_icmp .lt 19, 3) := by decide +kernel
theorem dX9_seal_15 : decode cX9_seal 15 = .ok (.iload_n 2, 1) := by decide +kernel
theorem dX9_seal_16 : decode cX9_seal 16 = .ok (.iconst 1, 1) := by decide +kernel
theorem dX9_seal_17 : decode cX9_seal 17 = .ok (.aload_n 0, 1) := by decide +kernel
theorem dX9_seal_18 : decode cX9_seal 18 = .ok (.getfield 10, 3) := by decide +kernel
theorem dX9_seal_21 : decode cX9_seal 21 = .ok (.getfield 70, 3) := by decide +kernel
theorem dX9_seal_24 : decode cX9_seal 24 = .ok (.getfield 185, 3) := by decide +kernel
theorem dX9_seal_27 : decode cX9_seal 27 = .ok (.ishl, 1) := by decide +kernel
theorem dX9_seal_28 : decode cX9_seal 28 = .ok (.if_icmp .lt 6, 3) := by decide +kernel
theorem dX9_seal_31 : decode cX9_seal 31 = .ok (.bipush (-2), 2) := by decide +kernel
theorem dX9_seal_33 : decode cX9_seal 33 = .ok (.ireturn, 1) := by decide +kernel
theorem dX9_seal_34 : decode cX9_seal 34 = .ok (.aload_n 0, 1) := by decide +kernel
theorem dX9_seal_35 : decode cX9_seal 35 = .ok (.getfield 38, 3) := by decide +kernel
theorem dX9_seal_38 : decode cX9_seal 38 = .ok (.aload_n 0, 1) := by decide +kernel
theorem dX9_seal_39 : decode cX9_seal 39 = .ok (.getfield 10, 3) := by decide +kernel
theorem dX9_seal_42 : decode cX9_seal 42 = .ok (.aload_n 0, 1) := by decide +kernel
theorem dX9_seal_43 : decode cX9_seal 43 = .ok (.getfield 25, 3) := by decide +kernel
theorem dX9_seal_46 : decode cX9_seal 46 = .ok (.iload_n 1, 1) := by decide +kernel
theorem dX9_seal_47 : decode cX9_seal 47 = .ok (.aaload, 1) := by decide +kernel
theorem dX9_seal_48 : decode cX9_seal 48 = .ok (.invokevirtual 168, 3) := by decide +kernel
theorem dX9_seal_51 : decode cX9_seal 51 = .ok (.aload_n 0, 1) := by decide +kernel
theorem dX9_seal_52 : decode cX9_seal 52 = .ok (.getfield 52, 3) := by decide +kernel
theorem dX9_seal_55 : decode cX9_seal 55 = .ok (.iload_n 1, 1) := by decide +kernel
theorem dX9_seal_56 : decode cX9_seal 56 = .ok (.iload_n 2, 1) := by decide +kernel
theorem dX9_seal_57 : decode cX9_seal 57 = .ok (.aload_n 0, 1) := by decide +kernel
theorem dX9_seal_58 : decode cX9_seal 58 = .ok (.getfield 25, 3) := by decide +kernel
theorem dX9_seal_61 : decode cX9_seal 61 = .ok (.iload_n 1, 1) := by decide +kernel
theorem dX9_seal_62 : decode cX9_seal 62 = .ok (.aaload, 1) := by decide +kernel
theorem dX9_seal_63 : decode cX9_seal 63 = .ok (.aload_n 0, 1) := by decide +kernel
theorem dX9_seal_64 : decode cX9_seal 64 = .ok (.getfield 10, 3) := by decide +kernel
theorem dX9_seal_67 : decode cX9_seal 67 = .ok (.getfield 70, 3) := by decide +kernel
theorem dX9_seal_70 : decode cX9_seal 70 = .ok (.aload_n 0, 1) := by decide +kernel
theorem dX9_seal_71 : decode cX9_seal 71 = .ok (.getfield 38, 3) := by decide +kernel
theorem dX9_seal_74 : decode cX9_seal 74 = .ok (.invokevirtual 199, 3) := by decide +kernel
theorem dX9_seal_77 : decode cX9_seal 77 = .ok (.ireturn, 1) := by decide +kernel
theorem dX9_open_0 : decode cX9_open 0 = .ok (.aload_n 0, 1) := by decide +kernel
theorem dX9_open_1 : decode cX9_open 1 = .ok (.getfield 52, 3) := by decide +kernel
theorem dX9_open_4 : decode cX9_open 4 = .ok (.iload_n 1, 1) := by decide +kernel
theorem dX9_open_5 : decode cX9_open 5 = .ok (.invokevirtual 202, 3) := by decide +kernel
theorem dX9_open_8 : decode cX9_open 8 = .ok (.ifCond .ne 5, 3) := by decide +kernel
theorem dX9_open_11 : decode cX9_open 11 = .ok (.iconst (-1), 1) := by decide +kernel
theorem dX9_open_12 : decode cX9_open 12 = .ok (.ireturn, 1) := by decide +kernel
theorem dX9_open_13 : decode cX9_open 13 = .ok (.aload_n 0, 1) := by decide +kernel
theorem dX9_open_14 : decode cX9_open 14 = .ok (.getfield 52, 3) := by decide +kernel
theorem dX9_open_17 : decode cX9_open 17 = .ok (.getfield 203, 3) := by decide +kernel
theorem dX9_open_20 : decode cX9_open 20 = .ok (.iload_n 1, 1) := by decide +kernel
theorem dX9_open_21 : decode cX9_open 21 = .ok (.baload, 1) := by decide +kernel
theorem dX9_open_22 : decode cX9_open 22 = .ok (.ifCond .ne 7, 3) := by decide +kernel
theorem dX9_open_25 : decode cX9_open 25 = .ok (.iconst 1, 1) := by decide +kernel
theorem dX9_open_26 : decode cX9_open 26 = .ok (.goto 4, 3) := by decide +kernel
theorem dX9_open_29 : decode cX9_open 29 = .ok (.iconst 0, 1) := by decide +kernel
theorem dX9_open_30 : decode cX9_open 30 = .ok (.invokestatic 155, 3) := by decide +kernel
theorem dX9_open_33 : decode cX9_open 33 = .ok (.istore_n 2, 1) := by decide +kernel
theorem dX9_open_34 : decode cX9_open 34 = .ok (.aload_n 0, 1) := by decide +kernel
theorem dX9_open_35 : decode cX9_open 35 = .ok (.getfield 52, 3) := by decide +kernel
theorem dX9_open_38 : decode cX9_open 38 = .ok (.getfield 203, 3) := by decide +kernel
theorem dX9_open_41 : decode cX9_open 41 = .ok (.iload_n 1, 1) := by decide +kernel
theorem dX9_open_42 : decode cX9_open 42 = .ok (.iconst 1, 1) := by decide +kernel
theorem dX9_open_43 : decode cX9_open 43 = .ok (.bastore, 1) := by decide +kernel
theorem dX9_open_44 : decode cX9_open 44 = .ok (.iload_n 2, 1) := by decide +kernel
theorem dX9_open_45 : decode cX9_open 45 = .ok (.ireturn, 1) := by decide +kernel
theorem dX9_sealed_0 : decode cX9_sealed 0 = .ok (.aload_n 0, 1) := by decide +kernel
theorem dX9_sealed_1 : decode cX9_sealed 1 = .ok (.getfield 52, 3) := by decide +kernel
theorem dX9_sealed_4 : decode cX9_sealed 4 = .ok (.iload_n 1, 1) := by decide +kernel
theorem dX9_sealed_5 : decode cX9_sealed 5 = .ok (.invokevirtual 202, 3) := by decide +kernel
theorem dX9_sealed_8 : decode cX9_sealed 8 = .ok (.ifCond .ne 5, 3) := by decide +kernel
theorem dX9_sealed_11 : decode cX9_sealed 11 = .ok (.iconst (-1), 1) := by decide +kernel
theorem dX9_sealed_12 : decode cX9_sealed 12 = .ok (.ireturn, 1) := by decide +kernel
theorem dX9_sealed_13 : decode cX9_sealed 13 = .ok (.iload_n 2, 1) := by decide +kernel
theorem dX9_sealed_14 : decode cX9_sealed 14 = .ok (.bipush 30, 2) := by decide +kernel
theorem dX9_sealed_16 : decode cX9_sealed 16 = .ok (.if_icmp .lt 35, 3) := by decide +kernel
theorem dX9_sealed_19 : decode cX9_sealed 19 = .ok (.aload_n 0, 1) := by decide +kernel
theorem dX9_sealed_20 : decode cX9_sealed 20 = .ok (.getfield 10, 3) := by decide +kernel
theorem dX9_sealed_23 : decode cX9_sealed 23 = .ok (.getfield 70, 3) := by decide +kernel
theorem dX9_sealed_26 : decode cX9_sealed 26 = .ok (.iload_n 2, 1) := by decide +kernel
theorem dX9_sealed_27 : decode cX9_sealed 27 = .ok (.bipush 30, 2) := by decide +kernel
theorem dX9_sealed_29 : decode cX9_sealed 29 = .ok (.isub, 1) := by decide +kernel
theorem dX9_sealed_30 : decode cX9_sealed 30 = .ok (.invokevirtual 98, 3) := by decide +kernel
theorem dX9_sealed_33 : decode cX9_sealed 33 = .ok (.ifCond .eq 18, 3) := by decide +kernel
theorem dX9_sealed_36 : decode cX9_sealed 36 = .ok (.aload_n 0, 1) := by decide +kernel
theorem dX9_sealed_37 : decode cX9_sealed 37 = .ok (.getfield 52, 3) := by decide +kernel
theorem dX9_sealed_40 : decode cX9_sealed 40 = .ok (.getfield 206, 3) := by decide +kernel
theorem dX9_sealed_43 : decode cX9_sealed 43 = .ok (.iload_n 1, 1) := by decide +kernel
theorem dX9_sealed_44 : decode cX9_sealed 44 = .ok (.aaload, 1) := by decide +kernel
theorem dX9_sealed_45 : decode cX9_sealed 45 = .ok (.iload_n 2, 1) := by decide +kernel
theorem dX9_sealed_46 : decode cX9_sealed 46 = .ok (.bipush 30, 2) := by decide +kernel
theorem dX9_sealed_48 : decode cX9_sealed 48 = .ok (.isub, 1) := by decide +kernel
theorem dX9_sealed_49 : decode cX9_sealed 49 = .ok (.iaload, 1) := by decide +kernel
theorem dX9_sealed_50 : decode cX9_sealed 50 = .ok (.ireturn, 1) := by decide +kernel
theorem dX9_sealed_51 : decode cX9_sealed 51 = .ok (.iload_n 2, 1) := by decide +kernel
theorem dX9_sealed_52 : decode cX9_sealed 52 = .ok (.bipush 10, 2) := by decide +kernel
theorem dX9_sealed_54 : decode cX9_sealed 54 = .ok (.if_icmp .lt 35, 3) := by decide +kernel
theorem dX9_sealed_57 : decode cX9_sealed 57 = .ok (.aload_n 0, 1) := by decide +kernel
theorem dX9_sealed_58 : decode cX9_sealed 58 = .ok (.getfield 10, 3) := by decide +kernel
theorem dX9_sealed_61 : decode cX9_sealed 61 = .ok (.getfield 70, 3) := by decide +kernel
theorem dX9_sealed_64 : decode cX9_sealed 64 = .ok (.iload_n 2, 1) := by decide +kernel
theorem dX9_sealed_65 : decode cX9_sealed 65 = .ok (.bipush 10, 2) := by decide +kernel
theorem dX9_sealed_67 : decode cX9_sealed 67 = .ok (.isub, 1) := by decide +kernel
theorem dX9_sealed_68 : decode cX9_sealed 68 = .ok (.invokevirtual 98, 3) := by decide +kernel
theorem dX9_sealed_71 : decode cX9_sealed 71 = .ok (.ifCond .eq 18, 3) := by decide +kernel
theorem dX9_sealed_74 : decode cX9_sealed 74 = .ok (.aload_n 0, 1) := by decide +kernel
theorem dX9_sealed_75 : decode cX9_sealed 75 = .ok (.getfield 52, 3) := by decide +kernel
theorem dX9_sealed_78 : decode cX9_sealed 78 = .ok (.getfield 209, 3) := by decide +kernel
theorem dX9_sealed_81 : decode cX9_sealed 81 = .ok (.iload_n 1, 1) := by decide +kernel
theorem dX9_sealed_82 : decode cX9_sealed 82 = .ok (.aaload, 1) := by decide +kernel
theorem dX9_sealed_83 : decode cX9_sealed 83 = .ok (.iload_n 2, 1) := by decide +kernel
theorem dX9_sealed_84 : decode cX9_sealed 84 = .ok (.bipush 10, 2) := by decide +kernel
theorem dX9_sealed_86 : decode cX9_sealed 86 = .ok (.isub, 1) := by decide +kernel
theorem dX9_sealed_87 : decode cX9_sealed 87 = .ok (.iaload, 1) := by decide +kernel
theorem dX9_sealed_88 : decode cX9_sealed 88 = .ok (.ireturn, 1) := by decide +kernel
theorem dX9_sealed_89 : decode cX9_sealed 89 = .ok (.iload_n 2, 1) := by decide +kernel
theorem dX9_sealed_90 : decode cX9_sealed 90 = .ok (.tableswitch 72 0 3 #[30, 40, 50, 63], 30) := by decide +kernel
theorem dX9_sealed_120 : decode cX9_sealed 120 = .ok (.aload_n 0, 1) := by decide +kernel
theorem dX9_sealed_121 : decode cX9_sealed 121 = .ok (.getfield 52, 3) := by decide +kernel
theorem dX9_sealed_124 : decode cX9_sealed 124 = .ok (.getfield 212, 3) := by decide +kernel
theorem dX9_sealed_127 : decode cX9_sealed 127 = .ok (.iload_n 1, 1) := by decide +kernel
theorem dX9_sealed_128 : decode cX9_sealed 128 = .ok (.iaload, 1) := by decide +kernel
theorem dX9_sealed_129 : decode cX9_sealed 129 = .ok (.ireturn, 1) := by decide +kernel
theorem dX9_sealed_130 : decode cX9_sealed 130 = .ok (.aload_n 0, 1) := by decide +kernel
theorem dX9_sealed_131 : decode cX9_sealed 131 = .ok (.getfield 52, 3) := by decide +kernel
theorem dX9_sealed_134 : decode cX9_sealed 134 = .ok (.getfield 215, 3) := by decide +kernel
theorem dX9_sealed_137 : decode cX9_sealed 137 = .ok (.iload_n 1, 1) := by decide +kernel
theorem dX9_sealed_138 : decode cX9_sealed 138 = .ok (.iaload, 1) := by decide +kernel
theorem dX9_sealed_139 : decode cX9_sealed 139 = .ok (.ireturn, 1) := by decide +kernel
theorem dX9_sealed_140 : decode cX9_sealed 140 = .ok (.aload_n 0, 1) := by decide +kernel
theorem dX9_sealed_141 : decode cX9_sealed 141 = .ok (.getfield 52, 3) := by decide +kernel
theorem dX9_sealed_144 : decode cX9_sealed 144 = .ok (.getfield 203, 3) := by decide +kernel
theorem dX9_sealed_147 : decode cX9_sealed 147 = .ok (.iload_n 1, 1) := by decide +kernel
theorem dX9_sealed_148 : decode cX9_sealed 148 = .ok (.baload, 1) := by decide +kernel
theorem dX9_sealed_149 : decode cX9_sealed 149 = .ok (.invokestatic 155, 3) := by decide +kernel
theorem dX9_sealed_152 : decode cX9_sealed 152 = .ok (.ireturn, 1) := by decide +kernel
theorem dX9_sealed_153 : decode cX9_sealed 153 = .ok (.aload_n 0, 1) := by decide +kernel
theorem dX9_sealed_154 : decode cX9_sealed 154 = .ok (.iload_n 1, 1) := by decide +kernel
theorem dX9_sealed_155 : decode cX9_sealed 155 = .ok (.invokevirtual 217, 3) := by decide +kernel
theorem dX9_sealed_158 : decode cX9_sealed 158 = .ok (.invokestatic 155, 3) := by decide +kernel
theorem dX9_sealed_161 : decode cX9_sealed 161 = .ok (.ireturn, 1) := by decide +kernel
theorem dX9_sealed_162 : decode cX9_sealed 162 = .ok (.bipush (-2), 2) := by decide +kernel
theorem dX9_sealed_164 : decode cX9_sealed 164 = .ok (.ireturn, 1) := by decide +kernel
theorem dX9_reach_0 : decode cX9_reach 0 = .ok (.aload_n 0, 1) := by decide +kernel
theorem dX9_reach_1 : decode cX9_reach 1 = .ok (.getfield 10, 3) := by decide +kernel
theorem dX9_reach_4 : decode cX9_reach 4 = .ok (.getfield 70, 3) := by decide +kernel
theorem dX9_reach_7 : decode cX9_reach 7 = .ok (.iload_n 1, 1) := by decide +kernel
theorem dX9_reach_8 : decode cX9_reach 8 = .ok (.invokevirtual 98, 3) := by decide +kernel
theorem dX9_reach_11 : decode cX9_reach 11 = .ok (.ifCond .eq 18, 3) := by decide +kernel
theorem dX9_reach_14 : decode cX9_reach 14 = .ok (.aload_n 0, 1) := by decide +kernel
theorem dX9_reach_15 : decode cX9_reach 15 = .ok (.getfield 59, 3) := by decide +kernel
theorem dX9_reach_18 : decode cX9_reach 18 = .ok (.aload_n 0, 1) := by decide +kernel
theorem dX9_reach_19 : decode cX9_reach 19 = .ok (.getfield 10, 3) := by decide +kernel
theorem dX9_reach_22 : decode cX9_reach 22 = .ok (.iload_n 1, 1) := by decide +kernel
theorem dX9_reach_23 : decode cX9_reach 23 = .ok (.invokevirtual 220, 3) := by decide +kernel
theorem dX9_reach_26 : decode cX9_reach 26 = .ok (.goto 4, 3) := by decide +kernel
theorem dX9_reach_29 : decode cX9_reach 29 = .ok (.iconst (-1), 1) := by decide +kernel
theorem dX9_reach_30 : decode cX9_reach 30 = .ok (.ireturn, 1) := by decide +kernel
theorem dX9_found_0 : decode cX9_found 0 = .ok (.aload_n 0, 1) := by decide +kernel
theorem dX9_found_1 : decode cX9_found 1 = .ok (.getfield 10, 3) := by decide +kernel
theorem dX9_found_4 : decode cX9_found 4 = .ok (.getfield 70, 3) := by decide +kernel
theorem dX9_found_7 : decode cX9_found 7 = .ok (.iload_n 1, 1) := by decide +kernel
theorem dX9_found_8 : decode cX9_found 8 = .ok (.invokevirtual 98, 3) := by decide +kernel
theorem dX9_found_11 : decode cX9_found 11 = .ok (.ifCond .eq 15, 3) := by decide +kernel
theorem dX9_found_14 : decode cX9_found 14 = .ok (.aload_n 0, 1) := by decide +kernel
theorem dX9_found_15 : decode cX9_found 15 = .ok (.getfield 59, 3) := by decide +kernel
theorem dX9_found_18 : decode cX9_found 18 = .ok (.getfield 224, 3) := by decide +kernel
theorem dX9_found_21 : decode cX9_found 21 = .ok (.iload_n 1, 1) := by decide +kernel
theorem dX9_found_22 : decode cX9_found 22 = .ok (.iaload, 1) := by decide +kernel
theorem dX9_found_23 : decode cX9_found 23 = .ok (.goto 5, 3) := by decide +kernel
theorem dX9_found_26 : decode cX9_found 26 = .ok (.ldc 28, 2) := by decide +kernel
theorem dX9_found_28 : decode cX9_found 28 = .ok (.ireturn, 1) := by decide +kernel
theorem dX9_tried_0 : decode cX9_tried 0 = .ok (.aload_n 0, 1) := by decide +kernel
theorem dX9_tried_1 : decode cX9_tried 1 = .ok (.getfield 59, 3) := by decide +kernel
theorem dX9_tried_4 : decode cX9_tried 4 = .ok (.getfield 227, 3) := by decide +kernel
theorem dX9_tried_7 : decode cX9_tried 7 = .ok (.ireturn, 1) := by decide +kernel
theorem dX9_told_0 : decode cX9_told 0 = .ok (.iload_n 1, 1) := by decide +kernel
theorem dX9_told_1 : decode cX9_told 1 = .ok (.tableswitch 96 0 5 #[39, 50, 61, 75, 83, 88], 39) := by decide +kernel
theorem dX9_told_40 : decode cX9_told 40 = .ok (.aload_n 0, 1) := by decide +kernel
theorem dX9_told_41 : decode cX9_told 41 = .ok (.getfield 10, 3) := by decide +kernel
theorem dX9_told_44 : decode cX9_told 44 = .ok (.getfield 70, 3) := by decide +kernel
theorem dX9_told_47 : decode cX9_told 47 = .ok (.getfield 185, 3) := by decide +kernel
theorem dX9_told_50 : decode cX9_told 50 = .ok (.ireturn, 1) := by decide +kernel
theorem dX9_told_51 : decode cX9_told 51 = .ok (.aload_n 0, 1) := by decide +kernel
theorem dX9_told_52 : decode cX9_told 52 = .ok (.getfield 10, 3) := by decide +kernel
theorem dX9_told_55 : decode cX9_told 55 = .ok (.getfield 89, 3) := by decide +kernel
theorem dX9_told_58 : decode cX9_told 58 = .ok (.getfield 230, 3) := by decide +kernel
theorem dX9_told_61 : decode cX9_told 61 = .ok (.ireturn, 1) := by decide +kernel
theorem dX9_told_62 : decode cX9_told 62 = .ok (.aload_n 0, 1) := by decide +kernel
theorem dX9_told_63 : decode cX9_told 63 = .ok (.getfield 10, 3) := by decide +kernel
theorem dX9_told_66 : decode cX9_told 66 = .ok (.getfield 70, 3) := by decide +kernel
theorem dX9_told_69 : decode cX9_told 69 = .ok (.invokevirtual 231, 3) := by decide +kernel
theorem dX9_told_72 : decode cX9_told 72 = .ok (.invokestatic 147, 3) := by decide +kernel
theorem dX9_told_75 : decode cX9_told 75 = .ok (.ireturn, 1) := by decide +kernel
theorem dX9_told_76 : decode cX9_told 76 = .ok (.aload_n 0, 1) := by decide +kernel
theorem dX9_told_77 : decode cX9_told 77 = .ok (.getfield 52, 3) := by decide +kernel
theorem dX9_told_80 : decode cX9_told 80 = .ok (.getfield 235, 3) := by decide +kernel
theorem dX9_told_83 : decode cX9_told 83 = .ok (.ireturn, 1) := by decide +kernel
theorem dX9_told_84 : decode cX9_told 84 = .ok (.aload_n 0, 1) := by decide +kernel
theorem dX9_told_85 : decode cX9_told 85 = .ok (.invokevirtual 236, 3) := by decide +kernel
theorem dX9_told_88 : decode cX9_told 88 = .ok (.ireturn, 1) := by decide +kernel
theorem dX9_told_89 : decode cX9_told 89 = .ok (.aload_n 0, 1) := by decide +kernel
theorem dX9_told_90 : decode cX9_told 90 = .ok (.getfield 45, 3) := by decide +kernel
theorem dX9_told_93 : decode cX9_told 93 = .ok (.getfield 195, 3) := by decide +kernel
theorem dX9_told_96 : decode cX9_told 96 = .ok (.ireturn, 1) := by decide +kernel
theorem dX9_told_97 : decode cX9_told 97 = .ok (.iload_n 1, 1) := by decide +kernel
theorem dX9_told_98 : decode cX9_told 98 = .ok (.bipush 10, 2) := by decide +kernel
theorem dX9_told_100 : decode cX9_told 100 = .ok (.if_icmp .lt 25, 3) := by decide +kernel
theorem dX9_told_103 : decode cX9_told 103 = .ok (.aload_n 0, 1) := by decide +kernel
theorem dX9_told_104 : decode cX9_told 104 = .ok (.iload_n 1, 1) := by decide +kernel
theorem dX9_told_105 : decode cX9_told 105 = .ok (.bipush 10, 2) := by decide +kernel
theorem dX9_told_107 : decode cX9_told 107 = .ok (.isub, 1) := by decide +kernel
theorem dX9_told_108 : decode cX9_told 108 = .ok (.invokevirtual 182, 3) := by decide +kernel
theorem dX9_told_111 : decode cX9_told 111 = .ok (.ifCond .eq 14, 3) := by decide +kernel
theorem dX9_told_114 : decode cX9_told 114 = .ok (.aload_n 0, 1) := by decide +kernel
theorem dX9_told_115 : decode cX9_told 115 = .ok (.iload_n 1, 1) := by decide +kernel
theorem dX9_told_116 : decode cX9_told 116 = .ok (.bipush 10, 2) := by decide +kernel
theorem dX9_told_118 : decode cX9_told 118 = .ok (.isub, 1) := by decide +kernel
theorem dX9_told_119 : decode cX9_told 119 = .ok (.invokevirtual 239, 3) := by decide +kernel
theorem dX9_told_122 : decode cX9_told 122 = .ok (.goto 5, 3) := by decide +kernel
theorem dX9_told_125 : decode cX9_told 125 = .ok (.bipush (-2), 2) := by decide +kernel
theorem dX9_told_127 : decode cX9_told 127 = .ok (.ireturn, 1) := by decide +kernel
theorem dX9_tell_0 : decode cX9_tell 0 = .ok (.aload_n 0, 1) := by decide +kernel
theorem dX9_tell_1 : decode cX9_tell 1 = .ok (.getfield 10, 3) := by decide +kernel
theorem dX9_tell_4 : decode cX9_tell 4 = .ok (.getfield 70, 3) := by decide +kernel
theorem dX9_tell_7 : decode cX9_tell 7 = .ok (.iload_n 1, 1) := by decide +kernel
theorem dX9_tell_8 : decode cX9_tell 8 = .ok (.invokevirtual 98, 3) := by decide +kernel
theorem dX9_tell_11 : decode cX9_tell 11 = .ok (.ifCond .eq 21, 3) := by decide +kernel
theorem dX9_tell_14 : decode cX9_tell 14 = .ok (.aload_n 0, 1) := by decide +kernel
theorem dX9_tell_15 : decode cX9_tell 15 = .ok (.getfield 66, 3) := by decide +kernel
theorem dX9_tell_18 : decode cX9_tell 18 = .ok (.aload_n 0, 1) := by decide +kernel
theorem dX9_tell_19 : decode cX9_tell 19 = .ok (.getfield 10, 3) := by decide +kernel
theorem dX9_tell_22 : decode cX9_tell 22 = .ok (.getfield 70, 3) := by decide +kernel
theorem dX9_tell_25 : decode cX9_tell 25 = .ok (.iload_n 1, 1) := by decide +kernel
theorem dX9_tell_26 : decode cX9_tell 26 = .ok (.invokevirtual 242, 3) := by decide +kernel
theorem dX9_tell_29 : decode cX9_tell 29 = .ok (.goto 4, 3) := by decide +kernel
theorem dX9_tell_32 : decode cX9_tell 32 = .ok (.iconst (-1), 1) := by decide +kernel
theorem dX9_tell_33 : decode cX9_tell 33 = .ok (.ireturn, 1) := by decide +kernel
theorem dX9_address_0 : decode cX9_address 0 = .ok (.aload_n 0, 1) := by decide +kernel
theorem dX9_address_1 : decode cX9_address 1 = .ok (.getfield 10, 3) := by decide +kernel
theorem dX9_address_4 : decode cX9_address 4 = .ok (.getfield 70, 3) := by decide +kernel
theorem dX9_address_7 : decode cX9_address 7 = .ok (.iload_n 1, 1) := by decide +kernel
theorem dX9_address_8 : decode cX9_address 8 = .ok (.invokevirtual 98, 3) := by decide +kernel
theorem dX9_address_11 : decode cX9_address 11 = .ok (.ifCond .eq 21, 3) := by decide +kernel
theorem dX9_address_14 : decode cX9_address 14 = .ok (.aload_n 0, 1) := by decide +kernel
theorem dX9_address_15 : decode cX9_address 15 = .ok (.getfield 66, 3) := by decide +kernel
theorem dX9_address_18 : decode cX9_address 18 = .ok (.aload_n 0, 1) := by decide +kernel
theorem dX9_address_19 : decode cX9_address 19 = .ok (.getfield 10, 3) := by decide +kernel
theorem dX9_address_22 : decode cX9_address 22 = .ok (.getfield 70, 3) := by decide +kernel
theorem dX9_address_25 : decode cX9_address 25 = .ok (.iload_n 1, 1) := by decide +kernel
theorem dX9_address_26 : decode cX9_address 26 = .ok (.invokevirtual 245, 3) := by decide +kernel
theorem dX9_address_29 : decode cX9_address 29 = .ok (.goto 4, 3) := by decide +kernel
theorem dX9_address_32 : decode cX9_address 32 = .ok (.iconst (-1), 1) := by decide +kernel
theorem dX9_address_33 : decode cX9_address 33 = .ok (.ireturn, 1) := by decide +kernel
theorem dX9_trace_0 : decode cX9_trace 0 = .ok (.aload_n 0, 1) := by decide +kernel
theorem dX9_trace_1 : decode cX9_trace 1 = .ok (.getfield 66, 3) := by decide +kernel
theorem dX9_trace_4 : decode cX9_trace 4 = .ok (.getfield 248, 3) := by decide +kernel
theorem dX9_trace_7 : decode cX9_trace 7 = .ok (.ireturn, 1) := by decide +kernel
theorem dX9_knowsOperands_0 : decode cX9_knowsOperands 0 = .ok (.iload_n 1, 1) := by decide +kernel
theorem dX9_knowsOperands_1 : decode cX9_knowsOperands 1 = .ok (.tableswitch 166 1 11 #[59, 71, 71, 71, 71, 71, 71, 71, 105, 59, 117], 59) := by decide +kernel
theorem dX9_knowsOperands_60 : decode cX9_knowsOperands 60 = .ok (.aload_n 0, 1) := by decide +kernel
theorem dX9_knowsOperands_61 : decode cX9_knowsOperands 61 = .ok (.getfield 10, 3) := by decide +kernel
theorem dX9_knowsOperands_64 : decode cX9_knowsOperands 64 = .ok (.getfield 70, 3) := by decide +kernel
theorem dX9_knowsOperands_67 : decode cX9_knowsOperands 67 = .ok (.iload_n 2, 1) := by decide +kernel
theorem dX9_knowsOperands_68 : decode cX9_knowsOperands 68 = .ok (.invokevirtual 98, 3) := by decide +kernel
theorem dX9_knowsOperands_71 : decode cX9_knowsOperands 71 = .ok (.ireturn, 1) := by decide +kernel
theorem dX9_knowsOperands_72 : decode cX9_knowsOperands 72 = .ok (.aload_n 0, 1) := by decide +kernel
theorem dX9_knowsOperands_73 : decode cX9_knowsOperands 73 = .ok (.getfield 10, 3) := by decide +kernel
theorem dX9_knowsOperands_76 : decode cX9_knowsOperands 76 = .ok (.getfield 89, 3) := by decide +kernel
theorem dX9_knowsOperands_79 : decode cX9_knowsOperands 79 = .ok (.iload_n 2, 1) := by decide +kernel
theorem dX9_knowsOperands_80 : decode cX9_knowsOperands 80 = .ok (.invokevirtual 102, 3) := by decide +kernel
theorem dX9_knowsOperands_83 : decode cX9_knowsOperands 83 = .ok (.ifCond .eq 21, 3) := by decide +kernel
theorem dX9_knowsOperands_86 : decode cX9_knowsOperands 86 = .ok (.aload_n 0, 1) := by decide +kernel
theorem dX9_knowsOperands_87 : decode cX9_knowsOperands 87 = .ok (.getfield 10, 3) := by decide +kernel
theorem dX9_knowsOperands_90 : decode cX9_knowsOperands 90 = .ok (.getfield 89, 3) := by decide +kernel
theorem dX9_knowsOperands_93 : decode cX9_knowsOperands 93 = .ok (.iload_n 3, 1) := by decide +kernel
theorem dX9_knowsOperands_94 : decode cX9_knowsOperands 94 = .ok (.invokevirtual 102, 3) := by decide +kernel
theorem dX9_knowsOperands_97 : decode cX9_knowsOperands 97 = .ok (.ifCond .eq 7, 3) := by decide +kernel
theorem dX9_knowsOperands_100 : decode cX9_knowsOperands 100 = .ok (.iconst 1, 1) := by decide +kernel
theorem dX9_knowsOperands_101 : decode cX9_knowsOperands 101 = .ok (.goto 4, 3) := by decide +kernel
theorem dX9_knowsOperands_104 : decode cX9_knowsOperands 104 = .ok (.iconst 0, 1) := by decide +kernel
theorem dX9_knowsOperands_105 : decode cX9_knowsOperands 105 = .ok (.ireturn, 1) := by decide +kernel
theorem dX9_knowsOperands_106 : decode cX9_knowsOperands 106 = .ok (.aload_n 0, 1) := by decide +kernel
theorem dX9_knowsOperands_107 : decode cX9_knowsOperands 107 = .ok (.getfield 10, 3) := by decide +kernel
theorem dX9_knowsOperands_110 : decode cX9_knowsOperands 110 = .ok (.getfield 89, 3) := by decide +kernel
theorem dX9_knowsOperands_113 : decode cX9_knowsOperands 113 = .ok (.iload_n 2, 1) := by decide +kernel
theorem dX9_knowsOperands_114 : decode cX9_knowsOperands 114 = .ok (.invokevirtual 102, 3) := by decide +kernel
theorem dX9_knowsOperands_117 : decode cX9_knowsOperands 117 = .ok (.ireturn, 1) := by decide +kernel
theorem dX9_knowsOperands_118 : decode cX9_knowsOperands 118 = .ok (.aload_n 0, 1) := by decide +kernel
theorem dX9_knowsOperands_119 : decode cX9_knowsOperands 119 = .ok (.getfield 10, 3) := by decide +kernel
theorem dX9_knowsOperands_122 : decode cX9_knowsOperands 122 = .ok (.getfield 89, 3) := by decide +kernel
theorem dX9_knowsOperands_125 : decode cX9_knowsOperands 125 = .ok (.iload_n 2, 1) := by decide +kernel
theorem dX9_knowsOperands_126 : decode cX9_knowsOperands 126 = .ok (.invokevirtual 102, 3) := by decide +kernel
theorem dX9_knowsOperands_129 : decode cX9_knowsOperands 129 = .ok (.ifCond .eq 36, 3) := by decide +kernel
theorem dX9_knowsOperands_132 : decode cX9_knowsOperands 132 = .ok (.aload_n 0, 1) := by decide +kernel
theorem dX9_knowsOperands_133 : decode cX9_knowsOperands 133 = .ok (.getfield 10, 3) := by decide +kernel
theorem dX9_knowsOperands_136 : decode cX9_knowsOperands 136 = .ok (.getfield 89, 3) := by decide +kernel
theorem dX9_knowsOperands_139 : decode cX9_knowsOperands 139 = .ok (.iload_n 3, 1) := by decide +kernel
theorem dX9_knowsOperands_140 : decode cX9_knowsOperands 140 = .ok (.invokevirtual 102, 3) := by decide +kernel
theorem dX9_knowsOperands_143 : decode cX9_knowsOperands 143 = .ok (.ifCond .eq 22, 3) := by decide +kernel
theorem dX9_knowsOperands_146 : decode cX9_knowsOperands 146 = .ok (.aload_n 0, 1) := by decide +kernel
theorem dX9_knowsOperands_147 : decode cX9_knowsOperands 147 = .ok (.getfield 10, 3) := by decide +kernel
theorem dX9_knowsOperands_150 : decode cX9_knowsOperands 150 = .ok (.getfield 89, 3) := by decide +kernel
theorem dX9_knowsOperands_153 : decode cX9_knowsOperands 153 = .ok (.iload 4, 2) := by decide +kernel
theorem dX9_knowsOperands_155 : decode cX9_knowsOperands 155 = .ok (.invokevirtual 102, 3) := by decide +kernel
theorem dX9_knowsOperands_158 : decode cX9_knowsOperands 158 = .ok (.ifCond .eq 7, 3) := by decide +kernel
theorem dX9_knowsOperands_161 : decode cX9_knowsOperands 161 = .ok (.iconst 1, 1) := by decide +kernel
theorem dX9_knowsOperands_162 : decode cX9_knowsOperands 162 = .ok (.goto 4, 3) := by decide +kernel
theorem dX9_knowsOperands_165 : decode cX9_knowsOperands 165 = .ok (.iconst 0, 1) := by decide +kernel
theorem dX9_knowsOperands_166 : decode cX9_knowsOperands 166 = .ok (.ireturn, 1) := by decide +kernel
theorem dX9_knowsOperands_167 : decode cX9_knowsOperands 167 = .ok (.iconst 1, 1) := by decide +kernel
theorem dX9_knowsOperands_168 : decode cX9_knowsOperands 168 = .ok (.ireturn, 1) := by decide +kernel
theorem dX9_hasDraft_0 : decode cX9_hasDraft 0 = .ok (.iload_n 1, 1) := by decide +kernel
theorem dX9_hasDraft_1 : decode cX9_hasDraft 1 = .ok (.ifCond .lt 12, 3) := by decide +kernel
theorem dX9_hasDraft_4 : decode cX9_hasDraft 4 = .ok (.iload_n 1, 1) := by decide +kernel
theorem dX9_hasDraft_5 : decode cX9_hasDraft 5 = .ok (.iconst 4, 1) := by decide +kernel
theorem dX9_hasDraft_6 : decode cX9_hasDraft 6 = .ok (.if_icmp .ge 7, 3) := by decide +kernel
theorem dX9_hasDraft_9 : decode cX9_hasDraft 9 = .ok (.iconst 1, 1) := by decide +kernel
theorem dX9_hasDraft_10 : decode cX9_hasDraft 10 = .ok (.goto 4, 3) := by decide +kernel
theorem dX9_hasDraft_13 : decode cX9_hasDraft 13 = .ok (.iconst 0, 1) := by decide +kernel
theorem dX9_hasDraft_14 : decode cX9_hasDraft 14 = .ok (.ireturn, 1) := by decide +kernel
theorem dX9_hasPlace_0 : decode cX9_hasPlace 0 = .ok (.aload_n 0, 1) := by decide +kernel
theorem dX9_hasPlace_1 : decode cX9_hasPlace 1 = .ok (.iload_n 1, 1) := by decide +kernel
theorem dX9_hasPlace_2 : decode cX9_hasPlace 2 = .ok (.invokevirtual 182, 3) := by decide +kernel
theorem dX9_hasPlace_5 : decode cX9_hasPlace 5 = .ok (.ifCond .eq 21, 3) := by decide +kernel
theorem dX9_hasPlace_8 : decode cX9_hasPlace 8 = .ok (.aload_n 0, 1) := by decide +kernel
theorem dX9_hasPlace_9 : decode cX9_hasPlace 9 = .ok (.getfield 10, 3) := by decide +kernel
theorem dX9_hasPlace_12 : decode cX9_hasPlace 12 = .ok (.getfield 70, 3) := by decide +kernel
theorem dX9_hasPlace_15 : decode cX9_hasPlace 15 = .ok (.iload_n 2, 1) := by decide +kernel
theorem dX9_hasPlace_16 : decode cX9_hasPlace 16 = .ok (.invokevirtual 98, 3) := by decide +kernel
theorem dX9_hasPlace_19 : decode cX9_hasPlace 19 = .ok (.ifCond .eq 7, 3) := by decide +kernel
theorem dX9_hasPlace_22 : decode cX9_hasPlace 22 = .ok (.iconst 1, 1) := by decide +kernel
theorem dX9_hasPlace_23 : decode cX9_hasPlace 23 = .ok (.goto 4, 3) := by decide +kernel
theorem dX9_hasPlace_26 : decode cX9_hasPlace 26 = .ok (.iconst 0, 1) := by decide +kernel
theorem dX9_hasPlace_27 : decode cX9_hasPlace 27 = .ok (.ireturn, 1) := by decide +kernel
theorem dX9_lockedBits_0 : decode cX9_lockedBits 0 = .ok (.aload_n 0, 1) := by decide +kernel
theorem dX9_lockedBits_1 : decode cX9_lockedBits 1 = .ok (.getfield 52, 3) := by decide +kernel
theorem dX9_lockedBits_4 : decode cX9_lockedBits 4 = .ok (.iload_n 1, 1) := by decide +kernel
theorem dX9_lockedBits_5 : decode cX9_lockedBits 5 = .ok (.invokevirtual 251, 3) := by decide +kernel
theorem dX9_lockedBits_8 : decode cX9_lockedBits 8 = .ok (.aload_n 0, 1) := by decide +kernel
theorem dX9_lockedBits_9 : decode cX9_lockedBits 9 = .ok (.getfield 10, 3) := by decide +kernel
theorem dX9_lockedBits_12 : decode cX9_lockedBits 12 = .ok (.getfield 70, 3) := by decide +kernel
theorem dX9_lockedBits_15 : decode cX9_lockedBits 15 = .ok (.invokevirtual 231, 3) := by decide +kernel
theorem dX9_lockedBits_18 : decode cX9_lockedBits 18 = .ok (.iand, 1) := by decide +kernel
theorem dX9_lockedBits_19 : decode cX9_lockedBits 19 = .ok (.ireturn, 1) := by decide +kernel
theorem dX9_isHolding_0 : decode cX9_isHolding 0 = .ok (.aload_n 0, 1) := by decide +kernel
theorem dX9_isHolding_1 : decode cX9_isHolding 1 = .ok (.getfield 52, 3) := by decide +kernel
theorem dX9_isHolding_4 : decode cX9_isHolding 4 = .ok (.getfield 203, 3) := by decide +kernel
theorem dX9_isHolding_7 : decode cX9_isHolding 7 = .ok (.iload_n 1, 1) := by decide +kernel
theorem dX9_isHolding_8 : decode cX9_isHolding 8 = .ok (.baload, 1) := by decide +kernel
theorem dX9_isHolding_9 : decode cX9_isHolding 9 = .ok (.ifCond .eq 5, 3) := by decide +kernel
theorem dX9_isHolding_12 : decode cX9_isHolding 12 = .ok (.iconst 0, 1) := by decide +kernel
theorem dX9_isHolding_13 : decode cX9_isHolding 13 = .ok (.ireturn, 1) := by decide +kernel
theorem dX9_isHolding_14 : decode cX9_isHolding 14 = .ok (.aload_n 0, 1) := by decide +kernel
theorem dX9_isHolding_15 : decode cX9_isHolding 15 = .ok (.getfield 38, 3) := by decide +kernel
theorem dX9_isHolding_18 : decode cX9_isHolding 18 = .ok (.aload_n 0, 1) := by decide +kernel
theorem dX9_isHolding_19 : decode cX9_isHolding 19 = .ok (.getfield 10, 3) := by decide +kernel
theorem dX9_isHolding_22 : decode cX9_isHolding 22 = .ok (.aload_n 0, 1) := by decide +kernel
theorem dX9_isHolding_23 : decode cX9_isHolding 23 = .ok (.getfield 25, 3) := by decide +kernel
theorem dX9_isHolding_26 : decode cX9_isHolding 26 = .ok (.aload_n 0, 1) := by decide +kernel
theorem dX9_isHolding_27 : decode cX9_isHolding 27 = .ok (.getfield 52, 3) := by decide +kernel
theorem dX9_isHolding_30 : decode cX9_isHolding 30 = .ok (.getfield 212, 3) := by decide +kernel
theorem dX9_isHolding_33 : decode cX9_isHolding 33 = .ok (.iload_n 1, 1) := by decide +kernel
theorem dX9_isHolding_34 : decode cX9_isHolding 34 = .ok (.iaload, 1) := by decide +kernel
theorem dX9_isHolding_35 : decode cX9_isHolding 35 = .ok (.aaload, 1) := by decide +kernel
theorem dX9_isHolding_36 : decode cX9_isHolding 36 = .ok (.invokevirtual 168, 3) := by decide +kernel
theorem dX9_isHolding_39 : decode cX9_isHolding 39 = .ok (.aload_n 0, 1) := by decide +kernel
theorem dX9_isHolding_40 : decode cX9_isHolding 40 = .ok (.getfield 52, 3) := by decide +kernel
theorem dX9_isHolding_43 : decode cX9_isHolding 43 = .ok (.iload_n 1, 1) := by decide +kernel
theorem dX9_isHolding_44 : decode cX9_isHolding 44 = .ok (.aload_n 0, 1) := by decide +kernel
theorem dX9_isHolding_45 : decode cX9_isHolding 45 = .ok (.getfield 10, 3) := by decide +kernel
theorem dX9_isHolding_48 : decode cX9_isHolding 48 = .ok (.getfield 70, 3) := by decide +kernel
theorem dX9_isHolding_51 : decode cX9_isHolding 51 = .ok (.aload_n 0, 1) := by decide +kernel
theorem dX9_isHolding_52 : decode cX9_isHolding 52 = .ok (.getfield 38, 3) := by decide +kernel
theorem dX9_isHolding_55 : decode cX9_isHolding 55 = .ok (.invokevirtual 254, 3) := by decide +kernel
theorem dX9_isHolding_58 : decode cX9_isHolding 58 = .ok (.ireturn, 1) := by decide +kernel
theorem dX9_countHolding_0 : decode cX9_countHolding 0 = .ok (.iconst 0, 1) := by decide +kernel
theorem dX9_countHolding_1 : decode cX9_countHolding 1 = .ok (.istore_n 1, 1) := by decide +kernel
theorem dX9_countHolding_2 : decode cX9_countHolding 2 = .ok (.iconst 0, 1) := by decide +kernel
theorem dX9_countHolding_3 : decode cX9_countHolding 3 = .ok (.istore_n 2, 1) := by decide +kernel
theorem dX9_countHolding_4 : decode cX9_countHolding 4 = .ok (.iload_n 2, 1) := by decide +kernel
theorem dX9_countHolding_5 : decode cX9_countHolding 5 = .ok (.aload_n 0, 1) := by decide +kernel
theorem dX9_countHolding_6 : decode cX9_countHolding 6 = .ok (.getfield 52, 3) := by decide +kernel
theorem dX9_countHolding_9 : decode cX9_countHolding 9 = .ok (.getfield 235, 3) := by decide +kernel
theorem dX9_countHolding_12 : decode cX9_countHolding 12 = .ok (.if_icmp .ge 20, 3) := by decide +kernel
theorem dX9_countHolding_15 : decode cX9_countHolding 15 = .ok (.iload_n 1, 1) := by decide +kernel
theorem dX9_countHolding_16 : decode cX9_countHolding 16 = .ok (.aload_n 0, 1) := by decide +kernel
theorem dX9_countHolding_17 : decode cX9_countHolding 17 = .ok (.iload_n 2, 1) := by decide +kernel
theorem dX9_countHolding_18 : decode cX9_countHolding 18 = .ok (.invokevirtual 217, 3) := by decide +kernel
theorem dX9_countHolding_21 : decode cX9_countHolding 21 = .ok (.invokestatic 155, 3) := by decide +kernel
theorem dX9_countHolding_24 : decode cX9_countHolding 24 = .ok (.iadd, 1) := by decide +kernel
theorem dX9_countHolding_25 : decode cX9_countHolding 25 = .ok (.istore_n 1, 1) := by decide +kernel
theorem dX9_countHolding_26 : decode cX9_countHolding 26 = .ok (.iinc 2 1, 3) := by decide +kernel
theorem dX9_countHolding_29 : decode cX9_countHolding 29 = .ok (.goto (-25), 3) := by decide +kernel
theorem dX9_countHolding_32 : decode cX9_countHolding 32 = .ok (.iload_n 1, 1) := by decide +kernel
theorem dX9_countHolding_33 : decode cX9_countHolding 33 = .ok (.ireturn, 1) := by decide +kernel
theorem dX9_countAnswers_0 : decode cX9_countAnswers 0 = .ok (.iconst 0, 1) := by decide +kernel
theorem dX9_countAnswers_1 : decode cX9_countAnswers 1 = .ok (.istore_n 2, 1) := by decide +kernel
theorem dX9_countAnswers_2 : decode cX9_countAnswers 2 = .ok (.iconst 0, 1) := by decide +kernel
theorem dX9_countAnswers_3 : decode cX9_countAnswers 3 = .ok (.istore_n 3, 1) := by decide +kernel
theorem dX9_countAnswers_4 : decode cX9_countAnswers 4 = .ok (.iload_n 3, 1) := by decide +kernel
theorem dX9_countAnswers_5 : decode cX9_countAnswers 5 = .ok (.aload_n 0, 1) := by decide +kernel
theorem dX9_countAnswers_6 : decode cX9_countAnswers 6 = .ok (.getfield 10, 3) := by decide +kernel
theorem dX9_countAnswers_9 : decode cX9_countAnswers 9 = .ok (.getfield 70, 3) := by decide +kernel
theorem dX9_countAnswers_12 : decode cX9_countAnswers 12 = .ok (.getfield 185, 3) := by decide +kernel
theorem dX9_countAnswers_15 : decode cX9_countAnswers 15 = .ok (.if_icmp .ge 33, 3) := by decide +kernel
theorem dX9_countAnswers_18 : decode cX9_countAnswers 18 = .ok (.iload_n 2, 1) := by decide +kernel
theorem dX9_countAnswers_19 : decode cX9_countAnswers 19 = .ok (.aload_n 0, 1) := by decide +kernel
theorem dX9_countAnswers_20 : decode cX9_countAnswers 20 = .ok (.getfield 25, 3) := by decide +kernel
theorem dX9_countAnswers_23 : decode cX9_countAnswers 23 = .ok (.iload_n 1, 1) := by decide +kernel
theorem dX9_countAnswers_24 : decode cX9_countAnswers 24 = .ok (.aaload, 1) := by decide +kernel
theorem dX9_countAnswers_25 : decode cX9_countAnswers 25 = .ok (.iload_n 3, 1) := by decide +kernel
theorem dX9_countAnswers_26 : decode cX9_countAnswers 26 = .ok (.iaload, 1) := by decide +kernel
theorem dX9_countAnswers_27 : decode cX9_countAnswers 27 = .ok (.ldc 28, 2) := by decide +kernel
theorem dX9_countAnswers_29 : decode cX9_countAnswers 29 = .ok (.if_icmp .eq 7, 3) := by decide +kernel
theorem dX9_countAnswers_32 : decode cX9_countAnswers 32 = .ok (.iconst 1, 1) := by decide +kernel
theorem dX9_countAnswers_33 : decode cX9_countAnswers 33 = .ok (.goto 4, 3) := by decide +kernel
theorem dX9_countAnswers_36 : decode cX9_countAnswers 36 = .ok (.iconst 0, 1) := by decide +kernel
theorem dX9_countAnswers_37 : decode cX9_countAnswers 37 = .ok (.invokestatic 155, 3) := by decide +kernel
theorem dX9_countAnswers_40 : decode cX9_countAnswers 40 = .ok (.iadd, 1) := by decide +kernel
theorem dX9_countAnswers_41 : decode cX9_countAnswers 41 = .ok (.istore_n 2, 1) := by decide +kernel
theorem dX9_countAnswers_42 : decode cX9_countAnswers 42 = .ok (.iinc 3 1, 3) := by decide +kernel
theorem dX9_countAnswers_45 : decode cX9_countAnswers 45 = .ok (.goto (-41), 3) := by decide +kernel
theorem dX9_countAnswers_48 : decode cX9_countAnswers 48 = .ok (.iload_n 2, 1) := by decide +kernel
theorem dX9_countAnswers_49 : decode cX9_countAnswers 49 = .ok (.ireturn, 1) := by decide +kernel
theorem dX9_hasBit_0 : decode cX9_hasBit 0 = .ok (.iload_n 0, 1) := by decide +kernel
theorem dX9_hasBit_1 : decode cX9_hasBit 1 = .ok (.iload_n 1, 1) := by decide +kernel
theorem dX9_hasBit_2 : decode cX9_hasBit 2 = .ok (.ishr, 1) := by decide +kernel
theorem dX9_hasBit_3 : decode cX9_hasBit 3 = .ok (.iconst 1, 1) := by decide +kernel
theorem dX9_hasBit_4 : decode cX9_hasBit 4 = .ok (.iand, 1) := by decide +kernel
theorem dX9_hasBit_5 : decode cX9_hasBit 5 = .ok (.ifCond .eq 7, 3) := by decide +kernel
theorem dX9_hasBit_8 : decode cX9_hasBit 8 = .ok (.iconst 1, 1) := by decide +kernel
theorem dX9_hasBit_9 : decode cX9_hasBit 9 = .ok (.goto 4, 3) := by decide +kernel
theorem dX9_hasBit_12 : decode cX9_hasBit 12 = .ok (.iconst 0, 1) := by decide +kernel
theorem dX9_hasBit_13 : decode cX9_hasBit 13 = .ok (.ireturn, 1) := by decide +kernel
theorem dX9_truth_0 : decode cX9_truth 0 = .ok (.iload_n 0, 1) := by decide +kernel
theorem dX9_truth_1 : decode cX9_truth 1 = .ok (.ifCond .eq 7, 3) := by decide +kernel
theorem dX9_truth_4 : decode cX9_truth 4 = .ok (.iconst 1, 1) := by decide +kernel
theorem dX9_truth_5 : decode cX9_truth 5 = .ok (.goto 4, 3) := by decide +kernel
theorem dX9_truth_8 : decode cX9_truth 8 = .ok (.iconst 0, 1) := by decide +kernel
theorem dX9_truth_9 : decode cX9_truth 9 = .ok (.ireturn, 1) := by decide +kernel
theorem dX9_isYes_0 : decode cX9_isYes 0 = .ok (.iload_n 0, 1) := by decide +kernel
theorem dX9_isYes_1 : decode cX9_isYes 1 = .ok (.ldc 28, 2) := by decide +kernel
theorem dX9_isYes_3 : decode cX9_isYes 3 = .ok (.if_icmp .eq 11, 3) := by decide +kernel
theorem dX9_isYes_6 : decode cX9_isYes 6 = .ok (.iload_n 0, 1) := by decide +kernel
theorem dX9_isYes_7 : decode cX9_isYes 7 = .ok (.ifCond .eq 7, 3) := by decide +kernel
theorem dX9_isYes_10 : decode cX9_isYes 10 = .ok (.iconst 1, 1) := by decide +kernel
theorem dX9_isYes_11 : decode cX9_isYes 11 = .ok (.goto 4, 3) := by decide +kernel
theorem dX9_isYes_14 : decode cX9_isYes 14 = .ok (.iconst 0, 1) := by decide +kernel
theorem dX9_isYes_15 : decode cX9_isYes 15 = .ok (.ireturn, 1) := by decide +kernel
