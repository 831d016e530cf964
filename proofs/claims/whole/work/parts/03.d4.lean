theorem dX10_judge_123 : decode cX10_judge 123 = .ok (.getfield 63, 3) := by decide +kernel
theorem dX10_judge_126 : decode cX10_judge 126 = .ok (.iload_n 3, 1) := by decide +kernel
theorem dX10_judge_127 : decode cX10_judge 127 = .ok (.iaload, 1) := by decide +kernel
theorem dX10_judge_128 : decode cX10_judge 128 = .ok (.iastore, 1) := by decide +kernel
theorem dX10_judge_129 : decode cX10_judge 129 = .ok (.aload_n 0, 1) := by decide +kernel
theorem dX10_judge_130 : decode cX10_judge 130 = .ok (.getfield 60, 3) := by decide +kernel
theorem dX10_judge_133 : decode cX10_judge 133 = .ok (.iload_n 1, 1) := by decide +kernel
theorem dX10_judge_134 : decode cX10_judge 134 = .ok (.aload_n 0, 1) := by decide +kernel
theorem dX10_judge_135 : decode cX10_judge 135 = .ok (.getfield 53, 3) := by decide +kernel
theorem dX10_judge_138 : decode cX10_judge 138 = .ok (.iload_n 1, 1) := by decide +kernel
theorem dX10_judge_139 : decode cX10_judge 139 = .ok (.baload, 1) := by decide +kernel
theorem dX10_judge_140 : decode cX10_judge 140 = .ok (.ifCond .eq 12, 3) := by decide +kernel
theorem dX10_judge_143 : decode cX10_judge 143 = .ok (.aload_n 0, 1) := by decide +kernel
theorem dX10_judge_144 : decode cX10_judge 144 = .ok (.getfield 57, 3) := by decide +kernel
theorem dX10_judge_147 : decode cX10_judge 147 = .ok (.iload_n 1, 1) := by decide +kernel
theorem dX10_judge_148 : decode cX10_judge 148 = .ok (.iaload, 1) := by decide +kernel
theorem dX10_judge_149 : decode cX10_judge 149 = .ok (.goto 5, 3) := by decide +kernel
theorem dX10_judge_152 : decode cX10_judge 152 = .ok (.ldc 90, 2) := by decide +kernel
theorem dX10_judge_154 : decode cX10_judge 154 = .ok (.iastore, 1) := by decide +kernel
theorem dX10_judge_155 : decode cX10_judge 155 = .ok (.return_, 1) := by decide +kernel
theorem dX10_layDraft_0 : decode cX10_layDraft 0 = .ok (.aload_n 0, 1) := by decide +kernel
theorem dX10_layDraft_1 : decode cX10_layDraft 1 = .ok (.invokevirtual 149, 3) := by decide +kernel
theorem dX10_layDraft_4 : decode cX10_layDraft 4 = .ok (.iconst 0, 1) := by decide +kernel
theorem dX10_layDraft_5 : decode cX10_layDraft 5 = .ok (.istore_n 2, 1) := by decide +kernel
theorem dX10_layDraft_6 : decode cX10_layDraft 6 = .ok (.iload_n 2, 1) := by decide +kernel
theorem dX10_layDraft_7 : decode cX10_layDraft 7 = .ok (.aload_n 0, 1) := by decide +kernel
theorem dX10_layDraft_8 : decode cX10_layDraft 8 = .ok (.getfield 95, 3) := by decide +kernel
theorem dX10_layDraft_11 : decode cX10_layDraft 11 = .ok (.if_icmp .ge 34, 3) := by decide +kernel
theorem dX10_layDraft_14 : decode cX10_layDraft 14 = .ok (.aload_n 0, 1) := by decide +kernel
theorem dX10_layDraft_15 : decode cX10_layDraft 15 = .ok (.getfield 50, 3) := by decide +kernel
theorem dX10_layDraft_18 : decode cX10_layDraft 18 = .ok (.iload_n 2, 1) := by decide +kernel
theorem dX10_layDraft_19 : decode cX10_layDraft 19 = .ok (.aload_n 0, 1) := by decide +kernel
theorem dX10_layDraft_20 : decode cX10_layDraft 20 = .ok (.getfield 66, 3) := by decide +kernel
theorem dX10_layDraft_23 : decode cX10_layDraft 23 = .ok (.bipush 12, 2) := by decide +kernel
theorem dX10_layDraft_25 : decode cX10_layDraft 25 = .ok (.iload_n 1, 1) := by decide +kernel
theorem dX10_layDraft_26 : decode cX10_layDraft 26 = .ok (.imul, 1) := by decide +kernel
theorem dX10_layDraft_27 : decode cX10_layDraft 27 = .ok (.iload_n 2, 1) := by decide +kernel
theorem dX10_layDraft_28 : decode cX10_layDraft 28 = .ok (.iadd, 1) := by decide +kernel
theorem dX10_layDraft_29 : decode cX10_layDraft 29 = .ok (.iaload, 1) := by decide +kernel
theorem dX10_layDraft_30 : decode cX10_layDraft 30 = .ok (.iastore, 1) := by decide +kernel
theorem dX10_layDraft_31 : decode cX10_layDraft 31 = .ok (.aload_n 0, 1) := by decide +kernel
theorem dX10_layDraft_32 : decode cX10_layDraft 32 = .ok (.getfield 60, 3) := by decide +kernel
theorem dX10_layDraft_35 : decode cX10_layDraft 35 = .ok (.iload_n 2, 1) := by decide +kernel
theorem dX10_layDraft_36 : decode cX10_layDraft 36 = .ok (.ldc 90, 2) := by decide +kernel
theorem dX10_layDraft_38 : decode cX10_layDraft 38 = .ok (.iastore, 1) := by decide +kernel
theorem dX10_layDraft_39 : decode cX10_layDraft 39 = .ok (.iinc 2 1, 3) := by decide +kernel
theorem dX10_layDraft_42 : decode cX10_layDraft 42 = .ok (.goto (-36), 3) := by decide +kernel
theorem dX10_layDraft_45 : decode cX10_layDraft 45 = .ok (.iconst 0, 1) := by decide +kernel
theorem dX10_layDraft_46 : decode cX10_layDraft 46 = .ok (.istore_n 2, 1) := by decide +kernel
theorem dX10_layDraft_47 : decode cX10_layDraft 47 = .ok (.iload_n 2, 1) := by decide +kernel
theorem dX10_layDraft_48 : decode cX10_layDraft 48 = .ok (.aload_n 0, 1) := by decide +kernel
theorem dX10_layDraft_49 : decode cX10_layDraft 49 = .ok (.getfield 95, 3) := by decide +kernel
theorem dX10_layDraft_52 : decode cX10_layDraft 52 = .ok (.if_icmp .ge 19, 3) := by decide +kernel
theorem dX10_layDraft_55 : decode cX10_layDraft 55 = .ok (.aload_n 0, 1) := by decide +kernel
theorem dX10_layDraft_56 : decode cX10_layDraft 56 = .ok (.aload_n 0, 1) := by decide +kernel
theorem dX10_layDraft_57 : decode cX10_layDraft 57 = .ok (.getfield 44, 3) := by decide +kernel
theorem dX10_layDraft_60 : decode cX10_layDraft 60 = .ok (.iload_n 2, 1) := by decide +kernel
theorem dX10_layDraft_61 : decode cX10_layDraft 61 = .ok (.iaload, 1) := by decide +kernel
theorem dX10_layDraft_62 : decode cX10_layDraft 62 = .ok (.invokevirtual 176, 3) := by decide +kernel
theorem dX10_layDraft_65 : decode cX10_layDraft 65 = .ok (.iinc 2 1, 3) := by decide +kernel
theorem dX10_layDraft_68 : decode cX10_layDraft 68 = .ok (.goto (-21), 3) := by decide +kernel
theorem dX10_layDraft_71 : decode cX10_layDraft 71 = .ok (.aload_n 0, 1) := by decide +kernel
theorem dX10_layDraft_72 : decode cX10_layDraft 72 = .ok (.ldc2_w 179, 3) := by decide +kernel
theorem dX10_layDraft_75 : decode cX10_layDraft 75 = .ok (.invokevirtual 169, 3) := by decide +kernel
theorem dX10_layDraft_78 : decode cX10_layDraft 78 = .ok (.return_, 1) := by decide +kernel
theorem dX10_noDraft_0 : decode cX10_noDraft 0 = .ok (.iload_n 0, 1) := by decide +kernel
theorem dX10_noDraft_1 : decode cX10_noDraft 1 = .ok (.iconst 0, 1) := by decide +kernel
theorem dX10_noDraft_2 : decode cX10_noDraft 2 = .ok (.iconst 3, 1) := by decide +kernel
theorem dX10_noDraft_3 : decode cX10_noDraft 3 = .ok (.invokestatic 99, 3) := by decide +kernel
theorem dX10_noDraft_6 : decode cX10_noDraft 6 = .ok (.ifCond .ne 7, 3) := by decide +kernel
theorem dX10_noDraft_9 : decode cX10_noDraft 9 = .ok (.iconst 1, 1) := by decide +kernel
theorem dX10_noDraft_10 : decode cX10_noDraft 10 = .ok (.goto 4, 3) := by decide +kernel
theorem dX10_noDraft_13 : decode cX10_noDraft 13 = .ok (.iconst 0, 1) := by decide +kernel
theorem dX10_noDraft_14 : decode cX10_noDraft 14 = .ok (.ireturn, 1) := by decide +kernel
theorem dX10_isLocked_0 : decode cX10_isLocked 0 = .ok (.iconst 0, 1) := by decide +kernel
theorem dX10_isLocked_1 : decode cX10_isLocked 1 = .ok (.istore_n 3, 1) := by decide +kernel
theorem dX10_isLocked_2 : decode cX10_isLocked 2 = .ok (.iconst 0, 1) := by decide +kernel
theorem dX10_isLocked_3 : decode cX10_isLocked 3 = .ok (.istore 4, 2) := by decide +kernel
theorem dX10_isLocked_5 : decode cX10_isLocked 5 = .ok (.iload 4, 2) := by decide +kernel
theorem dX10_isLocked_7 : decode cX10_isLocked 7 = .ok (.aload_n 0, 1) := by decide +kernel
theorem dX10_isLocked_8 : decode cX10_isLocked 8 = .ok (.getfield 181, 3) := by decide +kernel
theorem dX10_isLocked_11 : decode cX10_isLocked 11 = .ok (.if_icmp .ge 55, 3) := by decide +kernel
theorem dX10_isLocked_14 : decode cX10_isLocked 14 = .ok (.iload_n 3, 1) := by decide +kernel
theorem dX10_isLocked_15 : decode cX10_isLocked 15 = .ok (.ifCond .ne 39, 3) := by decide +kernel
theorem dX10_isLocked_18 : decode cX10_isLocked 18 = .ok (.aload_n 0, 1) := by decide +kernel
theorem dX10_isLocked_19 : decode cX10_isLocked 19 = .ok (.getfield 72, 3) := by decide +kernel
theorem dX10_isLocked_22 : decode cX10_isLocked 22 = .ok (.iload 4, 2) := by decide +kernel
theorem dX10_isLocked_24 : decode cX10_isLocked 24 = .ok (.iaload, 1) := by decide +kernel
theorem dX10_isLocked_25 : decode cX10_isLocked 25 = .ok (.iload_n 1, 1) := by decide +kernel
theorem dX10_isLocked_26 : decode cX10_isLocked 26 = .ok (.if_icmp .ne 32, 3) := by decide +kernel
theorem dX10_isLocked_29 : decode cX10_isLocked 29 = .ok (.aload_n 0, 1) := by decide +kernel
theorem dX10_isLocked_30 : decode cX10_isLocked 30 = .ok (.getfield 78, 3) := by decide +kernel
theorem dX10_isLocked_33 : decode cX10_isLocked 33 = .ok (.iload 4, 2) := by decide +kernel
theorem dX10_isLocked_35 : decode cX10_isLocked 35 = .ok (.baload, 1) := by decide +kernel
theorem dX10_isLocked_36 : decode cX10_isLocked 36 = .ok (.ifCond .ne 22, 3) := by decide +kernel
theorem dX10_isLocked_39 : decode cX10_isLocked 39 = .ok (.aload_n 0, 1) := by decide +kernel
theorem dX10_isLocked_40 : decode cX10_isLocked 40 = .ok (.getfield 75, 3) := by decide +kernel
theorem dX10_isLocked_43 : decode cX10_isLocked 43 = .ok (.iload 4, 2) := by decide +kernel
theorem dX10_isLocked_45 : decode cX10_isLocked 45 = .ok (.iaload, 1) := by decide +kernel
theorem dX10_isLocked_46 : decode cX10_isLocked 46 = .ok (.iload_n 2, 1) := by decide +kernel
theorem dX10_isLocked_47 : decode cX10_isLocked 47 = .ok (.ishr, 1) := by decide +kernel
theorem dX10_isLocked_48 : decode cX10_isLocked 48 = .ok (.iconst 1, 1) := by decide +kernel
theorem dX10_isLocked_49 : decode cX10_isLocked 49 = .ok (.iand, 1) := by decide +kernel
theorem dX10_isLocked_50 : decode cX10_isLocked 50 = .ok (.iconst 1, 1) := by decide +kernel
theorem dX10_isLocked_51 : decode cX10_isLocked 51 = .ok (.if_icmp .ne 7, 3) := by decide +kernel
theorem dX10_isLocked_54 : decode cX10_isLocked 54 = .ok (.iconst 1, 1) := by decide +kernel
theorem dX10_isLocked_55 : decode cX10_isLocked 55 = .ok (.goto 4, 3) := by decide +kernel
theorem dX10_isLocked_58 : decode cX10_isLocked 58 = .ok (.iconst 0, 1) := by decide +kernel
theorem dX10_isLocked_59 : decode cX10_isLocked 59 = .ok (.istore_n 3, 1) := by decide +kernel
theorem dX10_isLocked_60 : decode cX10_isLocked 60 = .ok (.iinc 4 1, 3) := by decide +kernel
theorem dX10_isLocked_63 : decode cX10_isLocked 63 = .ok (.goto (-58), 3) := by decide +kernel
theorem dX10_isLocked_66 : decode cX10_isLocked 66 = .ok (.iload_n 3, 1) := by decide +kernel
theorem dX10_isLocked_67 : decode cX10_isLocked 67 = .ok (.ifCond .eq 16, 3) := by decide +kernel
theorem dX10_isLocked_70 : decode cX10_isLocked 70 = .ok (.aload_n 0, 1) := by decide +kernel
theorem dX10_isLocked_71 : decode cX10_isLocked 71 = .ok (.getfield 16, 3) := by decide +kernel
theorem dX10_isLocked_74 : decode cX10_isLocked 74 = .ok (.iload_n 2, 1) := by decide +kernel
theorem dX10_isLocked_75 : decode cX10_isLocked 75 = .ok (.iaload, 1) := by decide +kernel
theorem dX10_isLocked_76 : decode cX10_isLocked 76 = .ok (.ifCond .ne 7, 3) := by decide +kernel
theorem dX10_isLocked_79 : decode cX10_isLocked 79 = .ok (.iconst 1, 1) := by decide +kernel
theorem dX10_isLocked_80 : decode cX10_isLocked 80 = .ok (.goto 4, 3) := by decide +kernel
theorem dX10_isLocked_83 : decode cX10_isLocked 83 = .ok (.iconst 0, 1) := by decide +kernel
theorem dX10_isLocked_84 : decode cX10_isLocked 84 = .ok (.ireturn, 1) := by decide +kernel
theorem dX10_hasLocked_0 : decode cX10_hasLocked 0 = .ok (.iconst 0, 1) := by decide +kernel
theorem dX10_hasLocked_1 : decode cX10_hasLocked 1 = .ok (.istore_n 2, 1) := by decide +kernel
theorem dX10_hasLocked_2 : decode cX10_hasLocked 2 = .ok (.iconst 0, 1) := by decide +kernel
theorem dX10_hasLocked_3 : decode cX10_hasLocked 3 = .ok (.istore_n 3, 1) := by decide +kernel
theorem dX10_hasLocked_4 : decode cX10_hasLocked 4 = .ok (.iload_n 3, 1) := by decide +kernel
theorem dX10_hasLocked_5 : decode cX10_hasLocked 5 = .ok (.aload_n 0, 1) := by decide +kernel
theorem dX10_hasLocked_6 : decode cX10_hasLocked 6 = .ok (.getfield 95, 3) := by decide +kernel
theorem dX10_hasLocked_9 : decode cX10_hasLocked 9 = .ok (.if_icmp .ge 28, 3) := by decide +kernel
theorem dX10_hasLocked_12 : decode cX10_hasLocked 12 = .ok (.iload_n 2, 1) := by decide +kernel
theorem dX10_hasLocked_13 : decode cX10_hasLocked 13 = .ok (.ifCond .ne 12, 3) := by decide +kernel
theorem dX10_hasLocked_16 : decode cX10_hasLocked 16 = .ok (.aload_n 0, 1) := by decide +kernel
theorem dX10_hasLocked_17 : decode cX10_hasLocked 17 = .ok (.iload_n 1, 1) := by decide +kernel
theorem dX10_hasLocked_18 : decode cX10_hasLocked 18 = .ok (.iload_n 3, 1) := by decide +kernel
theorem dX10_hasLocked_19 : decode cX10_hasLocked 19 = .ok (.invokevirtual 184, 3) := by decide +kernel
theorem dX10_hasLocked_22 : decode cX10_hasLocked 22 = .ok (.ifCond .eq 7, 3) := by decide +kernel
theorem dX10_hasLocked_25 : decode cX10_hasLocked 25 = .ok (.iconst 1, 1) := by decide +kernel
theorem dX10_hasLocked_26 : decode cX10_hasLocked 26 = .ok (.goto 4, 3) := by decide +kernel
theorem dX10_hasLocked_29 : decode cX10_hasLocked 29 = .ok (.iconst 0, 1) := by decide +kernel
theorem dX10_hasLocked_30 : decode cX10_hasLocked 30 = .ok (.istore_n 2, 1) := by decide +kernel
theorem dX10_hasLocked_31 : decode cX10_hasLocked 31 = .ok (.iinc 3 1, 3) := by decide +kernel
theorem dX10_hasLocked_34 : decode cX10_hasLocked 34 = .ok (.goto (-30), 3) := by decide +kernel
theorem dX10_hasLocked_37 : decode cX10_hasLocked 37 = .ok (.iload_n 2, 1) := by decide +kernel
theorem dX10_hasLocked_38 : decode cX10_hasLocked 38 = .ok (.ireturn, 1) := by decide +kernel
theorem dX10_answer_0 : decode cX10_answer 0 = .ok (.iload_n 1, 1) := by decide +kernel
theorem dX10_answer_1 : decode cX10_answer 1 = .ok (.invokestatic 188, 3) := by decide +kernel
theorem dX10_answer_4 : decode cX10_answer 4 = .ok (.ifCond .ne 11, 3) := by decide +kernel
theorem dX10_answer_7 : decode cX10_answer 7 = .ok (.aload_n 0, 1) := by decide +kernel
theorem dX10_answer_8 : decode cX10_answer 8 = .ok (.iload_n 2, 1) := by decide +kernel
theorem dX10_answer_9 : decode cX10_answer 9 = .ok (.invokevirtual 114, 3) := by decide +kernel
theorem dX10_answer_12 : decode cX10_answer 12 = .ok (.ifCond .eq 5, 3) := by decide +kernel
theorem dX10_answer_15 : decode cX10_answer 15 = .ok (.iconst (-1), 1) := by decide +kernel
theorem dX10_answer_16 : decode cX10_answer 16 = .ok (.ireturn, 1) := by decide +kernel
theorem dX10_answer_17 : decode cX10_answer 17 = .ok (.aload_n 0, 1) := by decide +kernel
theorem dX10_answer_18 : decode cX10_answer 18 = .ok (.getfield 16, 3) := by decide +kernel
theorem dX10_answer_21 : decode cX10_answer 21 = .ok (.iload_n 2, 1) := by decide +kernel
theorem dX10_answer_22 : decode cX10_answer 22 = .ok (.iaload, 1) := by decide +kernel
theorem dX10_answer_23 : decode cX10_answer 23 = .ok (.iconst 1, 1) := by decide +kernel
theorem dX10_answer_24 : decode cX10_answer 24 = .ok (.if_icmp .ne 6, 3) := by decide +kernel
theorem dX10_answer_27 : decode cX10_answer 27 = .ok (.bipush (-3), 2) := by decide +kernel
theorem dX10_answer_29 : decode cX10_answer 29 = .ok (.ireturn, 1) := by decide +kernel
theorem dX10_answer_30 : decode cX10_answer 30 = .ok (.iload_n 3, 1) := by decide +kernel
theorem dX10_answer_31 : decode cX10_answer 31 = .ok (.aload_n 0, 1) := by decide +kernel
theorem dX10_answer_32 : decode cX10_answer 32 = .ok (.getfield 7, 3) := by decide +kernel
theorem dX10_answer_35 : decode cX10_answer 35 = .ok (.iload_n 2, 1) := by decide +kernel
theorem dX10_answer_36 : decode cX10_answer 36 = .ok (.iaload, 1) := by decide +kernel
theorem dX10_answer_37 : decode cX10_answer 37 = .ok (.aload_n 0, 1) := by decide +kernel
theorem dX10_answer_38 : decode cX10_answer 38 = .ok (.getfield 13, 3) := by decide +kernel
theorem dX10_answer_41 : decode cX10_answer 41 = .ok (.iload_n 2, 1) := by decide +kernel
theorem dX10_answer_42 : decode cX10_answer 42 = .ok (.iaload, 1) := by decide +kernel
theorem dX10_answer_43 : decode cX10_answer 43 = .ok (.invokestatic 99, 3) := by decide +kernel
theorem dX10_answer_46 : decode cX10_answer 46 = .ok (.ifCond .ne 6, 3) := by decide +kernel
theorem dX10_answer_49 : decode cX10_answer 49 = .ok (.bipush (-2), 2) := by decide +kernel
theorem dX10_answer_51 : decode cX10_answer 51 = .ok (.ireturn, 1) := by decide +kernel
theorem dX10_answer_52 : decode cX10_answer 52 = .ok (.aload_n 0, 1) := by decide +kernel
theorem dX10_answer_53 : decode cX10_answer 53 = .ok (.iload_n 1, 1) := by decide +kernel
theorem dX10_answer_54 : decode cX10_answer 54 = .ok (.iload_n 2, 1) := by decide +kernel
theorem dX10_answer_55 : decode cX10_answer 55 = .ok (.invokevirtual 184, 3) := by decide +kernel
theorem dX10_answer_58 : decode cX10_answer 58 = .ok (.ifCond .eq 6, 3) := by decide +kernel
theorem dX10_answer_61 : decode cX10_answer 61 = .ok (.bipush (-3), 2) := by decide +kernel
theorem dX10_answer_63 : decode cX10_answer 63 = .ok (.ireturn, 1) := by decide +kernel
theorem dX10_answer_64 : decode cX10_answer 64 = .ok (.aload_n 0, 1) := by decide +kernel
theorem dX10_answer_65 : decode cX10_answer 65 = .ok (.getfield 66, 3) := by decide +kernel
theorem dX10_answer_68 : decode cX10_answer 68 = .ok (.bipush 12, 2) := by decide +kernel
theorem dX10_answer_70 : decode cX10_answer 70 = .ok (.iload_n 1, 1) := by decide +kernel
theorem dX10_answer_71 : decode cX10_answer 71 = .ok (.imul, 1) := by decide +kernel
theorem dX10_answer_72 : decode cX10_answer 72 = .ok (.iload_n 2, 1) := by decide +kernel
theorem dX10_answer_73 : decode cX10_answer 73 = .ok (.iadd, 1) := by decide +kernel
theorem dX10_answer_74 : decode cX10_answer 74 = .ok (.iload_n 3, 1) := by decide +kernel
theorem dX10_answer_75 : decode cX10_answer 75 = .ok (.iastore, 1) := by decide +kernel
theorem dX10_answer_76 : decode cX10_answer 76 = .ok (.aload_n 0, 1) := by decide +kernel
theorem dX10_answer_77 : decode cX10_answer 77 = .ok (.invokevirtual 149, 3) := by decide +kernel
theorem dX10_answer_80 : decode cX10_answer 80 = .ok (.aload_n 0, 1) := by decide +kernel
theorem dX10_answer_81 : decode cX10_answer 81 = .ok (.iload_n 2, 1) := by decide +kernel
theorem dX10_answer_82 : decode cX10_answer 82 = .ok (.invokevirtual 152, 3) := by decide +kernel
theorem dX10_answer_85 : decode cX10_answer 85 = .ok (.ireturn, 1) := by decide +kernel
theorem dX10_clear_0 : decode cX10_clear 0 = .ok (.iload_n 1, 1) := by decide +kernel
theorem dX10_clear_1 : decode cX10_clear 1 = .ok (.invokestatic 188, 3) := by decide +kernel
theorem dX10_clear_4 : decode cX10_clear 4 = .ok (.ifCond .ne 11, 3) := by decide +kernel
theorem dX10_clear_7 : decode cX10_clear 7 = .ok (.aload_n 0, 1) := by decide +kernel
theorem dX10_clear_8 : decode cX10_clear 8 = .ok (.iload_n 2, 1) := by decide +kernel
theorem dX10_clear_9 : decode cX10_clear 9 = .ok (.invokevirtual 114, 3) := by decide +kernel
theorem dX10_clear_12 : decode cX10_clear 12 = .ok (.ifCond .eq 5, 3) := by decide +kernel
theorem dX10_clear_15 : decode cX10_clear 15 = .ok (.iconst (-1), 1) := by decide +kernel
theorem dX10_clear_16 : decode cX10_clear 16 = .ok (.ireturn, 1) := by decide +kernel
theorem dX10_clear_17 : decode cX10_clear 17 = .ok (.aload_n 0, 1) := by decide +kernel
theorem dX10_clear_18 : decode cX10_clear 18 = .ok (.getfield 16, 3) := by decide +kernel
theorem dX10_clear_21 : decode cX10_clear 21 = .ok (.iload_n 2, 1) := by decide +kernel
theorem dX10_clear_22 : decode cX10_clear 22 = .ok (.iaload, 1) := by decide +kernel
theorem dX10_clear_23 : decode cX10_clear 23 = .ok (.iconst 1, 1) := by decide +kernel
theorem dX10_clear_24 : decode cX10_clear 24 = .ok (.if_icmp .eq 12, 3) := by decide +kernel
theorem dX10_clear_27 : decode cX10_clear 27 = .ok (.aload_n 0, 1) := by decide +kernel
theorem dX10_clear_28 : decode cX10_clear 28 = .ok (.iload_n 1, 1) := by decide +kernel
theorem dX10_clear_29 : decode cX10_clear 29 = .ok (.iload_n 2, 1) := by decide +kernel
theorem dX10_clear_30 : decode cX10_clear 30 = .ok (.invokevirtual 184, 3) := by decide +kernel
theorem dX10_clear_33 : decode cX10_clear 33 = .ok (.ifCond .eq 6, 3) := by decide +kernel
theorem dX10_clear_36 : decode cX10_clear 36 = .ok (.bipush (-3), 2) := by decide +kernel
theorem dX10_clear_38 : decode cX10_clear 38 = .ok (.ireturn, 1) := by decide +kernel
theorem dX10_clear_39 : decode cX10_clear 39 = .ok (.aload_n 0, 1) := by decide +kernel
theorem dX10_clear_40 : decode cX10_clear 40 = .ok (.getfield 66, 3) := by decide +kernel
theorem dX10_clear_43 : decode cX10_clear 43 = .ok (.bipush 12, 2) := by decide +kernel
theorem dX10_clear_45 : decode cX10_clear 45 = .ok (.iload_n 1, 1) := by decide +kernel
theorem dX10_clear_46 : decode cX10_clear 46 = .ok (.imul, 1) := by decide +kernel
theorem dX10_clear_47 : decode cX10_clear 47 = .ok (.iload_n 2, 1) := by decide +kernel
theorem dX10_clear_48 : decode cX10_clear 48 = .ok (.iadd, 1) := by decide +kernel
theorem dX10_clear_49 : decode cX10_clear 49 = .ok (.iaload, 1) := by decide +kernel
theorem dX10_clear_50 : decode cX10_clear 50 = .ok (.ldc 90, 2) := by decide +kernel
theorem dX10_clear_52 : decode cX10_clear 52 = .ok (.if_icmp .ne 7, 3) := by decide +kernel
theorem dX10_clear_55 : decode cX10_clear 55 = .ok (.iconst 0, 1) := by decide +kernel
theorem dX10_clear_56 : decode cX10_clear 56 = .ok (.goto 4, 3) := by decide +kernel
theorem dX10_clear_59 : decode cX10_clear 59 = .ok (.iconst 1, 1) := by decide +kernel
theorem dX10_clear_60 : decode cX10_clear 60 = .ok (.istore_n 3, 1) := by decide +kernel
theorem dX10_clear_61 : decode cX10_clear 61 = .ok (.aload_n 0, 1) := by decide +kernel
theorem dX10_clear_62 : decode cX10_clear 62 = .ok (.getfield 66, 3) := by decide +kernel
theorem dX10_clear_65 : decode cX10_clear 65 = .ok (.bipush 12, 2) := by decide +kernel
theorem dX10_clear_67 : decode cX10_clear 67 = .ok (.iload_n 1, 1) := by decide +kernel
theorem dX10_clear_68 : decode cX10_clear 68 = .ok (.imul, 1) := by decide +kernel
theorem dX10_clear_69 : decode cX10_clear 69 = .ok (.iload_n 2, 1) := by decide +kernel
theorem dX10_clear_70 : decode cX10_clear 70 = .ok (.iadd, 1) := by decide +kernel
theorem dX10_clear_71 : decode cX10_clear 71 = .ok (.ldc 90, 2) := by decide +kernel
theorem dX10_clear_73 : decode cX10_clear 73 = .ok (.iastore, 1) := by decide +kernel
theorem dX10_clear_74 : decode cX10_clear 74 = .ok (.iload_n 3, 1) := by decide +kernel
theorem dX10_clear_75 : decode cX10_clear 75 = .ok (.ireturn, 1) := by decide +kernel
theorem dX10_kept_0 : decode cX10_kept 0 = .ok (.iload_n 1, 1) := by decide +kernel
theorem dX10_kept_1 : decode cX10_kept 1 = .ok (.invokestatic 188, 3) := by decide +kernel
theorem dX10_kept_4 : decode cX10_kept 4 = .ok (.ifCond .ne 11, 3) := by decide +kernel
theorem dX10_kept_7 : decode cX10_kept 7 = .ok (.aload_n 0, 1) := by decide +kernel
theorem dX10_kept_8 : decode cX10_kept 8 = .ok (.iload_n 2, 1) := by decide +kernel
theorem dX10_kept_9 : decode cX10_kept 9 = .ok (.invokevirtual 114, 3) := by decide +kernel
theorem dX10_kept_12 : decode cX10_kept 12 = .ok (.ifCond .eq 6, 3) := by decide +kernel
theorem dX10_kept_15 : decode cX10_kept 15 = .ok (.ldc 90, 2) := by decide +kernel
theorem dX10_kept_17 : decode cX10_kept 17 = .ok (.ireturn, 1) := by decide +kernel
theorem dX10_kept_18 : decode cX10_kept 18 = .ok (.aload_n 0, 1) := by decide +kernel
theorem dX10_kept_19 : decode cX10_kept 19 = .ok (.iload_n 1, 1) := by decide +kernel
theorem dX10_kept_20 : decode cX10_kept 20 = .ok (.invokevirtual 191, 3) := by decide +kernel
theorem dX10_kept_23 : decode cX10_kept 23 = .ok (.aload_n 0, 1) := by decide +kernel
theorem dX10_kept_24 : decode cX10_kept 24 = .ok (.getfield 19, 3) := by decide +kernel
theorem dX10_kept_27 : decode cX10_kept 27 = .ok (.iconst 4, 1) := by decide +kernel
theorem dX10_kept_28 : decode cX10_kept 28 = .ok (.iload_n 2, 1) := by decide +kernel
theorem dX10_kept_29 : decode cX10_kept 29 = .ok (.imul, 1) := by decide +kernel
theorem dX10_kept_30 : decode cX10_kept 30 = .ok (.iconst 3, 1) := by decide +kernel
theorem dX10_kept_31 : decode cX10_kept 31 = .ok (.iadd, 1) := by decide +kernel
theorem dX10_kept_32 : decode cX10_kept 32 = .ok (.iaload, 1) := by decide +kernel
theorem dX10_kept_33 : decode cX10_kept 33 = .ok (.istore_n 3, 1) := by decide +kernel
theorem dX10_kept_34 : decode cX10_kept 34 = .ok (.aload_n 0, 1) := by decide +kernel
theorem dX10_kept_35 : decode cX10_kept 35 = .ok (.getfield 16, 3) := by decide +kernel
theorem dX10_kept_38 : decode cX10_kept 38 = .ok (.iload_n 2, 1) := by decide +kernel
theorem dX10_kept_39 : decode cX10_kept 39 = .ok (.iaload, 1) := by decide +kernel
theorem dX10_kept_40 : decode cX10_kept 40 = .ok (.ifCond .ne 12, 3) := by decide +kernel
theorem dX10_kept_43 : decode cX10_kept 43 = .ok (.aload_n 0, 1) := by decide +kernel
theorem dX10_kept_44 : decode cX10_kept 44 = .ok (.getfield 50, 3) := by decide +kernel
theorem dX10_kept_47 : decode cX10_kept 47 = .ok (.iload_n 2, 1) := by decide +kernel
theorem dX10_kept_48 : decode cX10_kept 48 = .ok (.iaload, 1) := by decide +kernel
theorem dX10_kept_49 : decode cX10_kept 49 = .ok (.goto 18, 3) := by decide +kernel
theorem dX10_kept_52 : decode cX10_kept 52 = .ok (.iload_n 3, 1) := by decide +kernel
theorem dX10_kept_53 : decode cX10_kept 53 = .ok (.ifCond .ge 8, 3) := by decide +kernel
theorem dX10_kept_56 : decode cX10_kept 56 = .ok (.ldc 90, 2) := by decide +kernel
theorem dX10_kept_58 : decode cX10_kept 58 = .ok (.goto 9, 3) := by decide +kernel
theorem dX10_kept_61 : decode cX10_kept 61 = .ok (.aload_n 0, 1) := by decide +kernel
theorem dX10_kept_62 : decode cX10_kept 62 = .ok (.getfield 63, 3) := by decide +kernel
theorem dX10_kept_65 : decode cX10_kept 65 = .ok (.iload_n 3, 1) := by decide +kernel
theorem dX10_kept_66 : decode cX10_kept 66 = .ok (.iaload, 1) := by decide +kernel
theorem dX10_kept_67 : decode cX10_kept 67 = .ok (.ireturn, 1) := by decide +kernel
theorem dX10_counts_0 : decode cX10_counts 0 = .ok (.iload_n 1, 1) := by decide +kernel
theorem dX10_counts_1 : decode cX10_counts 1 = .ok (.invokestatic 188, 3) := by decide +kernel
theorem dX10_counts_4 : decode cX10_counts 4 = .ok (.ifCond .ne 11, 3) := by decide +kernel
theorem dX10_counts_7 : decode cX10_counts 7 = .ok (.aload_n 0, 1) := by decide +kernel
theorem dX10_counts_8 : decode cX10_counts 8 = .ok (.iload_n 2, 1) := by decide +kernel
theorem dX10_counts_9 : decode cX10_counts 9 = .ok (.invokevirtual 114, 3) := by decide +kernel
theorem dX10_counts_12 : decode cX10_counts 12 = .ok (.ifCond .eq 6, 3) := by decide +kernel
theorem dX10_counts_15 : decode cX10_counts 15 = .ok (.ldc 90, 2) := by decide +kernel
theorem dX10_counts_17 : decode cX10_counts 17 = .ok (.ireturn, 1) := by decide +kernel
theorem dX10_counts_18 : decode cX10_counts 18 = .ok (.aload_n 0, 1) := by decide +kernel
theorem dX10_counts_19 : decode cX10_counts 19 = .ok (.iload_n 1, 1) := by decide +kernel
theorem dX10_counts_20 : decode cX10_counts 20 = .ok (.invokevirtual 191, 3) := by decide +kernel
theorem dX10_counts_23 : decode cX10_counts 23 = .ok (.aload_n 0, 1) := by decide +kernel
theorem dX10_counts_24 : decode cX10_counts 24 = .ok (.getfield 60, 3) := by decide +kernel
theorem dX10_counts_27 : decode cX10_counts 27 = .ok (.iload_n 2, 1) := by decide +kernel
theorem dX10_counts_28 : decode cX10_counts 28 = .ok (.iaload, 1) := by decide +kernel
theorem dX10_counts_29 : decode cX10_counts 29 = .ok (.ireturn, 1) := by decide +kernel
theorem dX10_statusOf_0 : decode cX10_statusOf 0 = .ok (.aload_n 0, 1) := by decide +kernel
theorem dX10_statusOf_1 : decode cX10_statusOf 1 = .ok (.getfield 53, 3) := by decide +kernel
theorem dX10_statusOf_4 : decode cX10_statusOf 4 = .ok (.iload_n 1, 1) := by decide +kernel
theorem dX10_statusOf_5 : decode cX10_statusOf 5 = .ok (.baload, 1) := by decide +kernel
theorem dX10_statusOf_6 : decode cX10_statusOf 6 = .ok (.ifCond .ne 5, 3) := by decide +kernel
theorem dX10_statusOf_9 : decode cX10_statusOf 9 = .ok (.iconst 0, 1) := by decide +kernel
theorem dX10_statusOf_10 : decode cX10_statusOf 10 = .ok (.ireturn, 1) := by decide +kernel
theorem dX10_statusOf_11 : decode cX10_statusOf 11 = .ok (.aload_n 0, 1) := by decide +kernel
theorem dX10_statusOf_12 : decode cX10_statusOf 12 = .ok (.getfield 19, 3) := by decide +kernel
theorem dX10_statusOf_15 : decode cX10_statusOf 15 = .ok (.iconst 4, 1) := by decide +kernel
theorem dX10_statusOf_16 : decode cX10_statusOf 16 = .ok (.iload_n 1, 1) := by decide +kernel
theorem dX10_statusOf_17 : decode cX10_statusOf 17 = .ok (.imul, 1) := by decide +kernel
theorem dX10_statusOf_18 : decode cX10_statusOf 18 = .ok (.iconst 1, 1) := by decide +kernel
theorem dX10_statusOf_19 : decode cX10_statusOf 19 = .ok (.iadd, 1) := by decide +kernel
theorem dX10_statusOf_20 : decode cX10_statusOf 20 = .ok (.iaload, 1) := by decide +kernel
theorem dX10_statusOf_21 : decode cX10_statusOf 21 = .ok (.istore_n 2, 1) := by decide +kernel
theorem dX10_statusOf_22 : decode cX10_statusOf 22 = .ok (.aload_n 0, 1) := by decide +kernel
theorem dX10_statusOf_23 : decode cX10_statusOf 23 = .ok (.getfield 19, 3) := by decide +kernel
theorem dX10_statusOf_26 : decode cX10_statusOf 26 = .ok (.iconst 4, 1) := by decide +kernel
theorem dX10_statusOf_27 : decode cX10_statusOf 27 = .ok (.iload_n 1, 1) := by decide +kernel
theorem dX10_statusOf_28 : decode cX10_statusOf 28 = .ok (.imul, 1) := by decide +kernel
theorem dX10_statusOf_29 : decode cX10_statusOf 29 = .ok (.iconst 2, 1) := by decide +kernel
theorem dX10_statusOf_30 : decode cX10_statusOf 30 = .ok (.iadd, 1) := by decide +kernel
theorem dX10_statusOf_31 : decode cX10_statusOf 31 = .ok (.iaload, 1) := by decide +kernel
theorem dX10_statusOf_32 : decode cX10_statusOf 32 = .ok (.istore_n 3, 1) := by decide +kernel
theorem dX10_statusOf_33 : decode cX10_statusOf 33 = .ok (.aload_n 0, 1) := by decide +kernel
theorem dX10_statusOf_34 : decode cX10_statusOf 34 = .ok (.getfield 60, 3) := by decide +kernel
theorem dX10_statusOf_37 : decode cX10_statusOf 37 = .ok (.iload_n 1, 1) := by decide +kernel
theorem dX10_statusOf_38 : decode cX10_statusOf 38 = .ok (.iaload, 1) := by decide +kernel
theorem dX10_statusOf_39 : decode cX10_statusOf 39 = .ok (.ldc 90, 2) := by decide +kernel
theorem dX10_statusOf_41 : decode cX10_statusOf 41 = .ok (.if_icmp .ne 21, 3) := by decide +kernel
theorem dX10_statusOf_44 : decode cX10_statusOf 44 = .ok (.iload_n 2, 1) := by decide +kernel
theorem dX10_statusOf_45 : decode cX10_statusOf 45 = .ok (.ifCond .lt 15, 3) := by decide +kernel
theorem dX10_statusOf_48 : decode cX10_statusOf 48 = .ok (.aload_n 0, 1) := by decide +kernel
theorem dX10_statusOf_49 : decode cX10_statusOf 49 = .ok (.iload_n 2, 1) := by decide +kernel
theorem dX10_statusOf_50 : decode cX10_statusOf 50 = .ok (.invokevirtual 173, 3) := by decide +kernel
theorem dX10_statusOf_53 : decode cX10_statusOf 53 = .ok (.ifCond .eq 7, 3) := by decide +kernel
theorem dX10_statusOf_56 : decode cX10_statusOf 56 = .ok (.iconst 2, 1) := by decide +kernel
theorem dX10_statusOf_57 : decode cX10_statusOf 57 = .ok (.goto 4, 3) := by decide +kernel
theorem dX10_statusOf_60 : decode cX10_statusOf 60 = .ok (.iconst 1, 1) := by decide +kernel
theorem dX10_statusOf_61 : decode cX10_statusOf 61 = .ok (.ireturn, 1) := by decide +kernel
theorem dX10_statusOf_62 : decode cX10_statusOf 62 = .ok (.iload_n 3, 1) := by decide +kernel
theorem dX10_statusOf_63 : decode cX10_statusOf 63 = .ok (.ifCond .lt 16, 3) := by decide +kernel
theorem dX10_statusOf_66 : decode cX10_statusOf 66 = .ok (.aload_n 0, 1) := by decide +kernel
theorem dX10_statusOf_67 : decode cX10_statusOf 67 = .ok (.getfield 63, 3) := by decide +kernel
theorem dX10_statusOf_70 : decode cX10_statusOf 70 = .ok (.iload_n 3, 1) := by decide +kernel
theorem dX10_statusOf_71 : decode cX10_statusOf 71 = .ok (.iaload, 1) := by decide +kernel
theorem dX10_statusOf_72 : decode cX10_statusOf 72 = .ok (.ifCond .ne 7, 3) := by decide +kernel
theorem dX10_statusOf_75 : decode cX10_statusOf 75 = .ok (.iconst 4, 1) := by decide +kernel
theorem dX10_statusOf_76 : decode cX10_statusOf 76 = .ok (.goto 4, 3) := by decide +kernel
theorem dX10_statusOf_79 : decode cX10_statusOf 79 = .ok (.iconst 3, 1) := by decide +kernel
theorem dX10_statusOf_80 : decode cX10_statusOf 80 = .ok (.ireturn, 1) := by decide +kernel
theorem dX10_status_0 : decode cX10_status 0 = .ok (.iload_n 1, 1) := by decide +kernel
theorem dX10_status_1 : decode cX10_status 1 = .ok (.invokestatic 188, 3) := by decide +kernel
theorem dX10_status_4 : decode cX10_status 4 = .ok (.ifCond .ne 11, 3) := by decide +kernel
theorem dX10_status_7 : decode cX10_status 7 = .ok (.aload_n 0, 1) := by decide +kernel
theorem dX10_status_8 : decode cX10_status 8 = .ok (.iload_n 2, 1) := by decide +kernel
theorem dX10_status_9 : decode cX10_status 9 = .ok (.invokevirtual 114, 3) := by decide +kernel
theorem dX10_status_12 : decode cX10_status 12 = .ok (.ifCond .eq 5, 3) := by decide +kernel
theorem dX10_status_15 : decode cX10_status 15 = .ok (.iconst (-1), 1) := by decide +kernel
theorem dX10_status_16 : decode cX10_status 16 = .ok (.ireturn, 1) := by decide +kernel
theorem dX10_status_17 : decode cX10_status 17 = .ok (.aload_n 0, 1) := by decide +kernel
theorem dX10_status_18 : decode cX10_status 18 = .ok (.iload_n 1, 1) := by decide +kernel
theorem dX10_status_19 : decode cX10_status 19 = .ok (.invokevirtual 191, 3) := by decide +kernel
theorem dX10_status_22 : decode cX10_status 22 = .ok (.aload_n 0, 1) := by decide +kernel
theorem dX10_status_23 : decode cX10_status 23 = .ok (.iload_n 2, 1) := by decide +kernel
theorem dX10_status_24 : decode cX10_status 24 = .ok (.invokevirtual 194, 3) := by decide +kernel
theorem dX10_status_27 : decode cX10_status 27 = .ok (.ireturn, 1) := by decide +kernel
theorem dX10_done_0 : decode cX10_done 0 = .ok (.iload_n 1, 1) := by decide +kernel
theorem dX10_done_1 : decode cX10_done 1 = .ok (.invokestatic 188, 3) := by decide +kernel
theorem dX10_done_4 : decode cX10_done 4 = .ok (.ifCond .eq 5, 3) := by decide +kernel
theorem dX10_done_7 : decode cX10_done 7 = .ok (.iconst (-1), 1) := by decide +kernel
theorem dX10_done_8 : decode cX10_done 8 = .ok (.ireturn, 1) := by decide +kernel
theorem dX10_done_9 : decode cX10_done 9 = .ok (.aload_n 0, 1) := by decide +kernel
theorem dX10_done_10 : decode cX10_done 10 = .ok (.iload_n 1, 1) := by decide +kernel
theorem dX10_done_11 : decode cX10_done 11 = .ok (.invokevirtual 191, 3) := by decide +kernel
theorem dX10_done_14 : decode cX10_done 14 = .ok (.iconst 1, 1) := by decide +kernel
theorem dX10_done_15 : decode cX10_done 15 = .ok (.istore_n 2, 1) := by decide +kernel
theorem dX10_done_16 : decode cX10_done 16 = .ok (.iconst 0, 1) := by decide +kernel
theorem dX10_done_17 : decode cX10_done 17 = .ok (.istore_n 3, 1) := by decide +kernel
theorem dX10_done_18 : decode cX10_done 18 = .ok (.iload_n 3, 1) := by decide +kernel
theorem dX10_done_19 : decode cX10_done 19 = .ok (.aload_n 0, 1) := by decide +kernel
theorem dX10_done_20 : decode cX10_done 20 = .ok (.getfield 95, 3) := by decide +kernel
theorem dX10_done_23 : decode cX10_done 23 = .ok (.if_icmp .ge 37, 3) := by decide +kernel
theorem dX10_done_26 : decode cX10_done 26 = .ok (.iload_n 2, 1) := by decide +kernel
theorem dX10_done_27 : decode cX10_done 27 = .ok (.ifCond .eq 25, 3) := by decide +kernel
theorem dX10_done_30 : decode cX10_done 30 = .ok (.aload_n 0, 1) := by decide +kernel
theorem dX10_done_31 : decode cX10_done 31 = .ok (.iload_n 3, 1) := by decide +kernel
theorem dX10_done_32 : decode cX10_done 32 = .ok (.invokevirtual 194, 3) := by decide +kernel
theorem dX10_done_35 : decode cX10_done 35 = .ok (.iconst 2, 1) := by decide +kernel
theorem dX10_done_36 : decode cX10_done 36 = .ok (.if_icmp .eq 16, 3) := by decide +kernel
theorem dX10_done_39 : decode cX10_done 39 = .ok (.aload_n 0, 1) := by decide +kernel
theorem dX10_done_40 : decode cX10_done 40 = .ok (.iload_n 3, 1) := by decide +kernel
theorem dX10_done_41 : decode cX10_done 41 = .ok (.invokevirtual 194, 3) := by decide +kernel
theorem dX10_done_44 : decode cX10_done 44 = .ok (.iconst 4, 1) := by decide +kernel
theorem dX10_done_45 : decode cX10_done 45 = .ok (.if_icmp .eq 7, 3) := by decide +kernel
theorem dX10_done_48 : decode cX10_done 48 = .ok (.iconst 1, 1) := by decide +kernel
theorem dX10_done_49 : decode cX10_done 49 = .ok (.goto 4, 3) := by decide +kernel
theorem dX10_done_52 : decode cX10_done 52 = .ok (.iconst 0, 1) := by decide +kernel
theorem dX10_done_53 : decode cX10_done 53 = .ok (.istore_n 2, 1) := by decide +kernel
theorem dX10_done_54 : decode cX10_done 54 = .ok (.iinc 3 1, 3) := by decide +kernel
theorem dX10_done_57 : decode cX10_done 57 = .ok (.goto (-39), 3) := by decide +kernel
theorem dX10_done_60 : decode cX10_done 60 = .ok (.iload_n 2, 1) := by decide +kernel
theorem dX10_done_61 : decode cX10_done 61 = .ok (.ifCond .eq 7, 3) := by decide +kernel
theorem dX10_done_64 : decode cX10_done 64 = .ok (.iconst 1, 1) := by decide +kernel
theorem dX10_done_65 : decode cX10_done 65 = .ok (.goto 4, 3) := by decide +kernel
theorem dX10_done_68 : decode cX10_done 68 = .ok (.iconst 0, 1) := by decide +kernel
theorem dX10_done_69 : decode cX10_done 69 = .ok (.ireturn, 1) := by decide +kernel
theorem dX10_value_0 : decode cX10_value 0 = .ok (.iload_n 1, 1) := by decide +kernel
theorem dX10_value_1 : decode cX10_value 1 = .ok (.invokestatic 188, 3) := by decide +kernel
theorem dX10_value_4 : decode cX10_value 4 = .ok (.ifCond .ne 11, 3) := by decide +kernel
theorem dX10_value_7 : decode cX10_value 7 = .ok (.aload_n 0, 1) := by decide +kernel
theorem dX10_value_8 : decode cX10_value 8 = .ok (.iload_n 2, 1) := by decide +kernel
theorem dX10_value_9 : decode cX10_value 9 = .ok (.invokevirtual 117, 3) := by decide +kernel
theorem dX10_value_12 : decode cX10_value 12 = .ok (.ifCond .eq 6, 3) := by decide +kernel
theorem dX10_value_15 : decode cX10_value 15 = .ok (.ldc 90, 2) := by decide +kernel
theorem dX10_value_17 : decode cX10_value 17 = .ok (.ireturn, 1) := by decide +kernel
theorem dX10_value_18 : decode cX10_value 18 = .ok (.aload_n 0, 1) := by decide +kernel
theorem dX10_value_19 : decode cX10_value 19 = .ok (.iload_n 1, 1) := by decide +kernel
theorem dX10_value_20 : decode cX10_value 20 = .ok (.invokevirtual 191, 3) := by decide +kernel
theorem dX10_value_23 : decode cX10_value 23 = .ok (.aload_n 0, 1) := by decide +kernel
theorem dX10_value_24 : decode cX10_value 24 = .ok (.getfield 63, 3) := by decide +kernel
theorem dX10_value_27 : decode cX10_value 27 = .ok (.iload_n 2, 1) := by decide +kernel
theorem dX10_value_28 : decode cX10_value 28 = .ok (.iaload, 1) := by decide +kernel
theorem dX10_value_29 : decode cX10_value 29 = .ok (.ireturn, 1) := by decide +kernel
theorem dX10_copy_0 : decode cX10_copy 0 = .ok (.iload_n 1, 1) := by decide +kernel
theorem dX10_copy_1 : decode cX10_copy 1 = .ok (.invokestatic 188, 3) := by decide +kernel
theorem dX10_copy_4 : decode cX10_copy 4 = .ok (.ifCond .ne 10, 3) := by decide +kernel
theorem dX10_copy_7 : decode cX10_copy 7 = .ok (.iload_n 2, 1) := by decide +kernel
theorem dX10_copy_8 : decode cX10_copy 8 = .ok (.invokestatic 188, 3) := by decide +kernel
theorem dX10_copy_11 : decode cX10_copy 11 = .ok (.ifCond .eq 5, 3) := by decide +kernel
theorem dX10_copy_14 : decode cX10_copy 14 = .ok (.iconst (-1), 1) := by decide +kernel
theorem dX10_copy_15 : decode cX10_copy 15 = .ok (.ireturn, 1) := by decide +kernel
theorem dX10_copy_16 : decode cX10_copy 16 = .ok (.aload_n 0, 1) := by decide +kernel
theorem dX10_copy_17 : decode cX10_copy 17 = .ok (.iload_n 2, 1) := by decide +kernel
theorem dX10_copy_18 : decode cX10_copy 18 = .ok (.invokevirtual 197, 3) := by decide +kernel
theorem dX10_copy_21 : decode cX10_copy 21 = .ok (.ifCond .eq 6, 3) := by decide +kernel
theorem dX10_copy_24 : decode cX10_copy 24 = .ok (.bipush (-3), 2) := by decide +kernel
theorem dX10_copy_26 : decode cX10_copy 26 = .ok (.ireturn, 1) := by decide +kernel
theorem dX10_copy_27 : decode cX10_copy 27 = .ok (.iconst 0, 1) := by decide +kernel
theorem dX10_copy_28 : decode cX10_copy 28 = .ok (.istore_n 3, 1) := by decide +kernel
theorem dX10_copy_29 : decode cX10_copy 29 = .ok (.iconst 0, 1) := by decide +kernel
theorem dX10_copy_30 : decode cX10_copy 30 = .ok (.istore 4, 2) := by decide +kernel
theorem dX10_copy_32 : decode cX10_copy 32 = .ok (.iload 4, 2) := by decide +kernel
theorem dX10_copy_34 : decode cX10_copy 34 = .ok (.aload_n 0, 1) := by decide +kernel
theorem dX10_copy_35 : decode cX10_copy 35 = .ok (.getfield 95, 3) := by decide +kernel
theorem dX10_copy_38 : decode cX10_copy 38 = .ok (.if_icmp .ge 68, 3) := by decide +kernel
theorem dX10_copy_41 : decode cX10_copy 41 = .ok (.iload_n 3, 1) := by decide +kernel
theorem dX10_copy_42 : decode cX10_copy 42 = .ok (.aload_n 0, 1) := by decide +kernel
theorem dX10_copy_43 : decode cX10_copy 43 = .ok (.getfield 66, 3) := by decide +kernel
theorem dX10_copy_46 : decode cX10_copy 46 = .ok (.bipush 12, 2) := by decide +kernel
theorem dX10_copy_48 : decode cX10_copy 48 = .ok (.iload_n 1, 1) := by decide +kernel
theorem dX10_copy_49 : decode cX10_copy 49 = .ok (.imul, 1) := by decide +kernel
theorem dX10_copy_50 : decode cX10_copy 50 = .ok (.iload 4, 2) := by decide +kernel
theorem dX10_copy_52 : decode cX10_copy 52 = .ok (.iadd, 1) := by decide +kernel
theorem dX10_copy_53 : decode cX10_copy 53 = .ok (.iaload, 1) := by decide +kernel
theorem dX10_copy_54 : decode cX10_copy 54 = .ok (.aload_n 0, 1) := by decide +kernel
theorem dX10_copy_55 : decode cX10_copy 55 = .ok (.getfield 66, 3) := by decide +kernel
theorem dX10_copy_58 : decode cX10_copy 58 = .ok (.bipush 12, 2) := by decide +kernel
theorem dX10_copy_60 : decode cX10_copy 60 = .ok (.iload_n 2, 1) := by decide +kernel
theorem dX10_copy_61 : decode cX10_copy 61 = .ok (.imul, 1) := by decide +kernel
theorem dX10_copy_62 : decode cX10_copy 62 = .ok (.iload 4, 2) := by decide +kernel
theorem dX10_copy_64 : decode cX10_copy 64 = .ok (.iadd, 1) := by decide +kernel
theorem dX10_copy_65 : decode cX10_copy 65 = .ok (.iaload, 1) := by decide +kernel
theorem dX10_copy_66 : decode cX10_copy 66 = .ok (.if_icmp .eq 7, 3) := by decide +kernel
theorem dX10_copy_69 : decode cX10_copy 69 = .ok (.iconst 1, 1) := by decide +kernel
theorem dX10_copy_70 : decode cX10_copy 70 = .ok (.goto 4, 3) := by decide +kernel
theorem dX10_copy_73 : decode cX10_copy 73 = .ok (.iconst 0, 1) := by decide +kernel
theorem dX10_copy_74 : decode cX10_copy 74 = .ok (.iadd, 1) := by decide +kernel
theorem dX10_copy_75 : decode cX10_copy 75 = .ok (.istore_n 3, 1) := by decide +kernel
theorem dX10_copy_76 : decode cX10_copy 76 = .ok (.aload_n 0, 1) := by decide +kernel
theorem dX10_copy_77 : decode cX10_copy 77 = .ok (.getfield 66, 3) := by decide +kernel
theorem dX10_copy_80 : decode cX10_copy 80 = .ok (.bipush 12, 2) := by decide +kernel
theorem dX10_copy_82 : decode cX10_copy 82 = .ok (.iload_n 2, 1) := by decide +kernel
theorem dX10_copy_83 : decode cX10_copy 83 = .ok (.imul, 1) := by decide +kernel
theorem dX10_copy_84 : decode cX10_copy 84 = .ok (.iload 4, 2) := by decide +kernel
theorem dX10_copy_86 : decode cX10_copy 86 = .ok (.iadd, 1) := by decide +kernel
theorem dX10_copy_87 : decode cX10_copy 87 = .ok (.aload_n 0, 1) := by decide +kernel
theorem dX10_copy_88 : decode cX10_copy 88 = .ok (.getfield 66, 3) := by decide +kernel
theorem dX10_copy_91 : decode cX10_copy 91 = .ok (.bipush 12, 2) := by decide +kernel
theorem dX10_copy_93 : decode cX10_copy 93 = .ok (.iload_n 1, 1) := by decide +kernel
theorem dX10_copy_94 : decode cX10_copy 94 = .ok (.imul, 1) := by decide +kernel
theorem dX10_copy_95 : decode cX10_copy 95 = .ok (.iload 4, 2) := by decide +kernel
theorem dX10_copy_97 : decode cX10_copy 97 = .ok (.iadd, 1) := by decide +kernel
theorem dX10_copy_98 : decode cX10_copy 98 = .ok (.iaload, 1) := by decide +kernel
theorem dX10_copy_99 : decode cX10_copy 99 = .ok (.iastore, 1) := by decide +kernel
theorem dX10_copy_100 : decode cX10_copy 100 = .ok (.iinc 4 1, 3) := by decide +kernel
theorem dX10_copy_103 : decode cX10_copy 103 = .ok (.goto (-71), 3) := by decide +kernel
theorem dX10_copy_106 : decode cX10_copy 106 = .ok (.iload_n 3, 1) := by decide +kernel
theorem dX10_copy_107 : decode cX10_copy 107 = .ok (.ireturn, 1) := by decide +kernel
theorem dX10_join_0 : decode cX10_join 0 = .ok (.iload_n 1, 1) := by decide +kernel
theorem dX10_join_1 : decode cX10_join 1 = .ok (.invokestatic 188, 3) := by decide +kernel
theorem dX10_join_4 : decode cX10_join 4 = .ok (.ifCond .ne 25, 3) := by decide +kernel
theorem dX10_join_7 : decode cX10_join 7 = .ok (.iload_n 2, 1) := by decide +kernel
theorem dX10_join_8 : decode cX10_join 8 = .ok (.invokestatic 188, 3) := by decide +kernel
theorem dX10_join_11 : decode cX10_join 11 = .ok (.ifCond .ne 18, 3) := by decide +kernel
theorem dX10_join_14 : decode cX10_join 14 = .ok (.iload_n 3, 1) := by decide +kernel
theorem dX10_join_15 : decode cX10_join 15 = .ok (.invokestatic 188, 3) := by decide +kernel
theorem dX10_join_18 : decode cX10_join 18 = .ok (.ifCond .ne 11, 3) := by decide +kernel
theorem dX10_join_21 : decode cX10_join 21 = .ok (.iload 4, 2) := by decide +kernel
theorem dX10_join_23 : decode cX10_join 23 = .ok (.invokestatic 188, 3) := by decide +kernel
theorem dX10_join_26 : decode cX10_join 26 = .ok (.ifCond .eq 5, 3) := by decide +kernel
theorem dX10_join_29 : decode cX10_join 29 = .ok (.iconst (-1), 1) := by decide +kernel
theorem dX10_join_30 : decode cX10_join 30 = .ok (.ireturn, 1) := by decide +kernel
theorem dX10_join_31 : decode cX10_join 31 = .ok (.aload_n 0, 1) := by decide +kernel
theorem dX10_join_32 : decode cX10_join 32 = .ok (.iload 4, 2) := by decide +kernel
theorem dX10_join_34 : decode cX10_join 34 = .ok (.invokevirtual 197, 3) := by decide +kernel
theorem dX10_join_37 : decode cX10_join 37 = .ok (.ifCond .eq 6, 3) := by decide +kernel
theorem dX10_join_40 : decode cX10_join 40 = .ok (.bipush (-3), 2) := by decide +kernel
theorem dX10_join_42 : decode cX10_join 42 = .ok (.ireturn, 1) := by decide +kernel
theorem dX10_join_43 : decode cX10_join 43 = .ok (.aload_n 0, 1) := by decide +kernel
theorem dX10_join_44 : decode cX10_join 44 = .ok (.iconst 0, 1) := by decide +kernel
theorem dX10_join_45 : decode cX10_join 45 = .ok (.putfield 200, 3) := by decide +kernel
theorem dX10_join_48 : decode cX10_join 48 = .ok (.iconst 0, 1) := by decide +kernel
theorem dX10_join_49 : decode cX10_join 49 = .ok (.istore 5, 2) := by decide +kernel
theorem dX10_join_51 : decode cX10_join 51 = .ok (.iload 5, 2) := by decide +kernel
theorem dX10_join_53 : decode cX10_join 53 = .ok (.aload_n 0, 1) := by decide +kernel
theorem dX10_join_54 : decode cX10_join 54 = .ok (.getfield 95, 3) := by decide +kernel
theorem dX10_join_57 : decode cX10_join 57 = .ok (.if_icmp .ge 127, 3) := by decide +kernel
theorem dX10_join_60 : decode cX10_join 60 = .ok (.aload_n 0, 1) := by decide +kernel
theorem dX10_join_61 : decode cX10_join 61 = .ok (.getfield 66, 3) := by decide +kernel
theorem dX10_join_64 : decode cX10_join 64 = .ok (.bipush 12, 2) := by decide +kernel
theorem dX10_join_66 : decode cX10_join 66 = .ok (.iload_n 1, 1) := by decide +kernel
theorem dX10_join_67 : decode cX10_join 67 = .ok (.imul, 1) := by decide +kernel
theorem dX10_join_68 : decode cX10_join 68 = .ok (.iload 5, 2) := by decide +kernel
theorem dX10_join_70 : decode cX10_join 70 = .ok (.iadd, 1) := by decide +kernel
theorem dX10_join_71 : decode cX10_join 71 = .ok (.iaload, 1) := by decide +kernel
theorem dX10_join_72 : decode cX10_join 72 = .ok (.istore 6, 2) := by decide +kernel
theorem dX10_join_74 : decode cX10_join 74 = .ok (.aload_n 0, 1) := by decide +kernel
theorem dX10_join_75 : decode cX10_join 75 = .ok (.getfield 66, 3) := by decide +kernel
theorem dX10_join_78 : decode cX10_join 78 = .ok (.bipush 12, 2) := by decide +kernel
theorem dX10_join_80 : decode cX10_join 80 = .ok (.iload_n 2, 1) := by decide +kernel
theorem dX10_join_81 : decode cX10_join 81 = .ok (.imul, 1) := by decide +kernel
theorem dX10_join_82 : decode cX10_join 82 = .ok (.iload 5, 2) := by decide +kernel
theorem dX10_join_84 : decode cX10_join 84 = .ok (.iadd, 1) := by decide +kernel
theorem dX10_join_85 : decode cX10_join 85 = .ok (.iaload, 1) := by decide +kernel
theorem dX10_join_86 : decode cX10_join 86 = .ok (.istore 7, 2) := by decide +kernel
theorem dX10_join_88 : decode cX10_join 88 = .ok (.aload_n 0, 1) := by decide +kernel
theorem dX10_join_89 : decode cX10_join 89 = .ok (.getfield 66, 3) := by decide +kernel
theorem dX10_join_92 : decode cX10_join 92 = .ok (.bipush 12, 2) := by decide +kernel
theorem dX10_join_94 : decode cX10_join 94 = .ok (.iload_n 3, 1) := by decide +kernel
theorem dX10_join_95 : decode cX10_join 95 = .ok (.imul, 1) := by decide +kernel
theorem dX10_join_96 : decode cX10_join 96 = .ok (.iload 5, 2) := by decide +kernel
theorem dX10_join_98 : decode cX10_join 98 = .ok (.iadd, 1) := by decide +kernel
theorem dX10_join_99 : decode cX10_join 99 = .ok (.iaload, 1) := by decide +kernel
theorem dX10_join_100 : decode cX10_join 100 = .ok (.istore 8, 2) := by decide +kernel
theorem dX10_join_102 : decode cX10_join 102 = .ok (.iload 7, 2) := by decide +kernel
theorem dX10_join_104 : decode cX10_join 104 = .ok (.iload 8, 2) := by decide +kernel
theorem dX10_join_106 : decode cX10_join 106 = .ok (.if_icmp .eq 38, 3) := by decide +kernel
theorem dX10_join_109 : decode cX10_join 109 = .ok (.iload 7, 2) := by decide +kernel
theorem dX10_join_111 : decode cX10_join 111 = .ok (.iload 6, 2) := by decide +kernel
theorem dX10_join_113 : decode cX10_join 113 = .ok (.if_icmp .eq 31, 3) := by decide +kernel
theorem dX10_join_116 : decode cX10_join 116 = .ok (.iload 8, 2) := by decide +kernel
theorem dX10_join_118 : decode cX10_join 118 = .ok (.iload 6, 2) := by decide +kernel
theorem dX10_join_120 : decode cX10_join 120 = .ok (.if_icmp .eq 24, 3) := by decide +kernel
theorem dX10_join_123 : decode cX10_join 123 = .ok (.aload_n 0, 1) := by decide +kernel
theorem dX10_join_124 : decode cX10_join 124 = .ok (.getfield 69, 3) := by decide +kernel
theorem dX10_join_127 : decode cX10_join 127 = .ok (.aload_n 0, 1) := by decide +kernel
theorem dX10_join_128 : decode cX10_join 128 = .ok (.getfield 200, 3) := by decide +kernel
theorem dX10_join_131 : decode cX10_join 131 = .ok (.iload 5, 2) := by decide +kernel
theorem dX10_join_133 : decode cX10_join 133 = .ok (.iastore, 1) := by decide +kernel
theorem dX10_join_134 : decode cX10_join 134 = .ok (.aload_n 0, 1) := by decide +kernel
theorem dX10_join_135 : decode cX10_join 135 = .ok (.dup, 1) := by decide +kernel
theorem dX10_join_136 : decode cX10_join 136 = .ok (.getfield 200, 3) := by decide +kernel
theorem dX10_join_139 : decode cX10_join 139 = .ok (.iconst 1, 1) := by decide +kernel
theorem dX10_join_140 : decode cX10_join 140 = .ok (.iadd, 1) := by decide +kernel
theorem dX10_join_141 : decode cX10_join 141 = .ok (.putfield 200, 3) := by decide +kernel
theorem dX10_join_144 : decode cX10_join 144 = .ok (.aload_n 0, 1) := by decide +kernel
theorem dX10_join_145 : decode cX10_join 145 = .ok (.getfield 66, 3) := by decide +kernel
theorem dX10_join_148 : decode cX10_join 148 = .ok (.bipush 12, 2) := by decide +kernel
theorem dX10_join_150 : decode cX10_join 150 = .ok (.iload 4, 2) := by decide +kernel
theorem dX10_join_152 : decode cX10_join 152 = .ok (.imul, 1) := by decide +kernel
theorem dX10_join_153 : decode cX10_join 153 = .ok (.iload 5, 2) := by decide +kernel
theorem dX10_join_155 : decode cX10_join 155 = .ok (.iadd, 1) := by decide +kernel
theorem dX10_join_156 : decode cX10_join 156 = .ok (.iload 7, 2) := by decide +kernel
theorem dX10_join_158 : decode cX10_join 158 = .ok (.iload 8, 2) := by decide +kernel
theorem dX10_join_160 : decode cX10_join 160 = .ok (.if_icmp .eq 15, 3) := by decide +kernel
theorem dX10_join_163 : decode cX10_join 163 = .ok (.iload 7, 2) := by decide +kernel
theorem dX10_join_165 : decode cX10_join 165 = .ok (.iload 6, 2) := by decide +kernel
theorem dX10_join_167 : decode cX10_join 167 = .ok (.if_icmp .ne 8, 3) := by decide +kernel
theorem dX10_join_170 : decode cX10_join 170 = .ok (.iload 8, 2) := by decide +kernel
theorem dX10_join_172 : decode cX10_join 172 = .ok (.goto 5, 3) := by decide +kernel
theorem dX10_join_175 : decode cX10_join 175 = .ok (.iload 7, 2) := by decide +kernel
theorem dX10_join_177 : decode cX10_join 177 = .ok (.iastore, 1) := by decide +kernel
theorem dX10_join_178 : decode cX10_join 178 = .ok (.iinc 5 1, 3) := by decide +kernel
theorem dX10_join_181 : decode cX10_join 181 = .ok (.goto (-130), 3) := by decide +kernel
theorem dX10_join_184 : decode cX10_join 184 = .ok (.aload_n 0, 1) := by decide +kernel
theorem dX10_join_185 : decode cX10_join 185 = .ok (.getfield 200, 3) := by decide +kernel
theorem dX10_join_188 : decode cX10_join 188 = .ok (.ireturn, 1) := by decide +kernel
theorem dX10_odds_0 : decode cX10_odds 0 = .ok (.iload_n 1, 1) := by decide +kernel
theorem dX10_odds_1 : decode cX10_odds 1 = .ok (.iconst 0, 1) := by decide +kernel
theorem dX10_odds_2 : decode cX10_odds 2 = .ok (.aload_n 0, 1) := by decide +kernel
theorem dX10_odds_3 : decode cX10_odds 3 = .ok (.getfield 200, 3) := by decide +kernel
theorem dX10_odds_6 : decode cX10_odds 6 = .ok (.iconst 1, 1) := by decide +kernel
theorem dX10_odds_7 : decode cX10_odds 7 = .ok (.isub, 1) := by decide +kernel
theorem dX10_odds_8 : decode cX10_odds 8 = .ok (.invokestatic 99, 3) := by decide +kernel
theorem dX10_odds_11 : decode cX10_odds 11 = .ok (.ifCond .eq 12, 3) := by decide +kernel
theorem dX10_odds_14 : decode cX10_odds 14 = .ok (.aload_n 0, 1) := by decide +kernel
theorem dX10_odds_15 : decode cX10_odds 15 = .ok (.getfield 69, 3) := by decide +kernel
theorem dX10_odds_18 : decode cX10_odds 18 = .ok (.iload_n 1, 1) := by decide +kernel
theorem dX10_odds_19 : decode cX10_odds 19 = .ok (.iaload, 1) := by decide +kernel
theorem dX10_odds_20 : decode cX10_odds 20 = .ok (.goto 4, 3) := by decide +kernel
theorem dX10_odds_23 : decode cX10_odds 23 = .ok (.iconst (-1), 1) := by decide +kernel
theorem dX10_odds_24 : decode cX10_odds 24 = .ok (.ireturn, 1) := by decide +kernel
theorem dX10_noSeal_0 : decode cX10_noSeal 0 = .ok (.iload_n 1, 1) := by decide +kernel
theorem dX10_noSeal_1 : decode cX10_noSeal 1 = .ok (.iconst 0, 1) := by decide +kernel
theorem dX10_noSeal_2 : decode cX10_noSeal 2 = .ok (.aload_n 0, 1) := by decide +kernel
theorem dX10_noSeal_3 : decode cX10_noSeal 3 = .ok (.getfield 181, 3) := by decide +kernel
theorem dX10_noSeal_6 : decode cX10_noSeal 6 = .ok (.iconst 1, 1) := by decide +kernel
theorem dX10_noSeal_7 : decode cX10_noSeal 7 = .ok (.isub, 1) := by decide +kernel
theorem dX10_noSeal_8 : decode cX10_noSeal 8 = .ok (.invokestatic 99, 3) := by decide +kernel
theorem dX10_noSeal_11 : decode cX10_noSeal 11 = .ok (.ifCond .ne 7, 3) := by decide +kernel
theorem dX10_noSeal_14 : decode cX10_noSeal 14 = .ok (.iconst 1, 1) := by decide +kernel
theorem dX10_noSeal_15 : decode cX10_noSeal 15 = .ok (.goto 4, 3) := by decide +kernel
theorem dX10_noSeal_18 : decode cX10_noSeal 18 = .ok (.iconst 0, 1) := by decide +kernel
theorem dX10_noSeal_19 : decode cX10_noSeal 19 = .ok (.ireturn, 1) := by decide +kernel
theorem dX10_seal_0 : decode cX10_seal 0 = .ok (.iload_n 1, 1) := by decide +kernel
theorem dX10_seal_1 : decode cX10_seal 1 = .ok (.invokestatic 188, 3) := by decide +kernel
theorem dX10_seal_4 : decode cX10_seal 4 = .ok (.ifCond .eq 5, 3) := by decide +kernel
theorem dX10_seal_7 : decode cX10_seal 7 = .ok (.iconst (-1), 1) := by decide +kernel
theorem dX10_seal_8 : decode cX10_seal 8 = .ok (.ireturn, 1) := by decide +kernel
theorem dX10_seal_9 : decode cX10_seal 9 = .ok (.iload_n 2, 1) := by decide +kernel
theorem dX10_seal_10 : decode cX10_seal 10 = .ok (.iconst 1, 1) := by decide +kernel
theorem dX10_seal_11 : decode cX10_seal 11 = .ok (.iconst 1, 1) := by decide +kernel
theorem dX10_seal_12 : decode cX10_seal 12 = .ok (.aload_n 0, 1) := by decide +kernel
theorem dX10_seal_13 : decode cX10_seal 13 = .ok (.getfield 95, 3) := by decide +kernel
theorem dX10_seal_16 : decode cX10_seal 16 = .ok (.ishl, 1) := by decide +kernel
theorem dX10_seal_17 : decode cX10_seal 17 = .ok (.iconst 1, 1) := by decide +kernel
theorem dX10_seal_18 : decode cX10_seal 18 = .ok (.isub, 1) := by decide +kernel
theorem dX10_seal_19 : decode cX10_seal 19 = .ok (.invokestatic 99, 3) := by decide +kernel
theorem dX10_seal_22 : decode cX10_seal 22 = .ok (.ifCond .ne 6, 3) := by decide +kernel
theorem dX10_seal_25 : decode cX10_seal 25 = .ok (.bipush (-2), 2) := by decide +kernel
theorem dX10_seal_27 : decode cX10_seal 27 = .ok (.ireturn, 1) := by decide +kernel
theorem dX10_seal_28 : decode cX10_seal 28 = .ok (.aload_n 0, 1) := by decide +kernel
theorem dX10_seal_29 : decode cX10_seal 29 = .ok (.getfield 181, 3) := by decide +kernel
theorem dX10_seal_32 : decode cX10_seal 32 = .ok (.bipush 6, 2) := by decide +kernel
theorem dX10_seal_34 : decode cX10_seal 34 = .ok (.if_icmp .ne 6, 3) := by decide +kernel
theorem dX10_seal_37 : decode cX10_seal 37 = .ok (.bipush (-4), 2) := by decide +kernel
theorem dX10_seal_39 : decode cX10_seal 39 = .ok (.ireturn, 1) := by decide +kernel
theorem dX10_seal_40 : decode cX10_seal 40 = .ok (.aload_n 0, 1) := by decide +kernel
theorem dX10_seal_41 : decode cX10_seal 41 = .ok (.iload_n 1, 1) := by decide +kernel
theorem dX10_seal_42 : decode cX10_seal 42 = .ok (.invokevirtual 191, 3) := by decide +kernel
theorem dX10_seal_45 : decode cX10_seal 45 = .ok (.aload_n 0, 1) := by decide +kernel
theorem dX10_seal_46 : decode cX10_seal 46 = .ok (.getfield 72, 3) := by decide +kernel
theorem dX10_seal_49 : decode cX10_seal 49 = .ok (.aload_n 0, 1) := by decide +kernel
theorem dX10_seal_50 : decode cX10_seal 50 = .ok (.getfield 181, 3) := by decide +kernel
theorem dX10_seal_53 : decode cX10_seal 53 = .ok (.iload_n 1, 1) := by decide +kernel
theorem dX10_seal_54 : decode cX10_seal 54 = .ok (.iastore, 1) := by decide +kernel
theorem dX10_seal_55 : decode cX10_seal 55 = .ok (.aload_n 0, 1) := by decide +kernel
theorem dX10_seal_56 : decode cX10_seal 56 = .ok (.getfield 75, 3) := by decide +kernel
theorem dX10_seal_59 : decode cX10_seal 59 = .ok (.aload_n 0, 1) := by decide +kernel
theorem dX10_seal_60 : decode cX10_seal 60 = .ok (.getfield 181, 3) := by decide +kernel
theorem dX10_seal_63 : decode cX10_seal 63 = .ok (.iload_n 2, 1) := by decide +kernel
theorem dX10_seal_64 : decode cX10_seal 64 = .ok (.iastore, 1) := by decide +kernel
theorem dX10_seal_65 : decode cX10_seal 65 = .ok (.aload_n 0, 1) := by decide +kernel
theorem dX10_seal_66 : decode cX10_seal 66 = .ok (.getfield 78, 3) := by decide +kernel
theorem dX10_seal_69 : decode cX10_seal 69 = .ok (.aload_n 0, 1) := by decide +kernel
theorem dX10_seal_70 : decode cX10_seal 70 = .ok (.getfield 181, 3) := by decide +kernel
theorem dX10_seal_73 : decode cX10_seal 73 = .ok (.iconst 0, 1) := by decide +kernel
theorem dX10_seal_74 : decode cX10_seal 74 = .ok (.bastore, 1) := by decide +kernel
theorem dX10_seal_75 : decode cX10_seal 75 = .ok (.iconst 0, 1) := by decide +kernel
theorem dX10_seal_76 : decode cX10_seal 76 = .ok (.istore_n 3, 1) := by decide +kernel
theorem dX10_seal_77 : decode cX10_seal 77 = .ok (.iload_n 3, 1) := by decide +kernel
theorem dX10_seal_78 : decode cX10_seal 78 = .ok (.bipush 12, 2) := by decide +kernel
theorem dX10_seal_80 : decode cX10_seal 80 = .ok (.if_icmp .ge 98, 3) := by decide +kernel
theorem dX10_seal_83 : decode cX10_seal 83 = .ok (.iload_n 2, 1) := by decide +kernel
theorem dX10_seal_84 : decode cX10_seal 84 = .ok (.iload_n 3, 1) := by decide +kernel
theorem dX10_seal_85 : decode cX10_seal 85 = .ok (.ishr, 1) := by decide +kernel
theorem dX10_seal_86 : decode cX10_seal 86 = .ok (.iconst 1, 1) := by decide +kernel
theorem dX10_seal_87 : decode cX10_seal 87 = .ok (.iand, 1) := by decide +kernel
theorem dX10_seal_88 : decode cX10_seal 88 = .ok (.iconst 1, 1) := by decide +kernel
theorem dX10_seal_89 : decode cX10_seal 89 = .ok (.if_icmp .ne 7, 3) := by decide +kernel
theorem dX10_seal_92 : decode cX10_seal 92 = .ok (.iconst 1, 1) := by decide +kernel
theorem dX10_seal_93 : decode cX10_seal 93 = .ok (.goto 4, 3) := by decide +kernel
theorem dX10_seal_96 : decode cX10_seal 96 = .ok (.iconst 0, 1) := by decide +kernel
theorem dX10_seal_97 : decode cX10_seal 97 = .ok (.istore 4, 2) := by decide +kernel
theorem dX10_seal_99 : decode cX10_seal 99 = .ok (.aload_n 0, 1) := by decide +kernel
theorem dX10_seal_100 : decode cX10_seal 100 = .ok (.getfield 81, 3) := by decide +kernel
theorem dX10_seal_103 : decode cX10_seal 103 = .ok (.bipush 12, 2) := by decide +kernel
theorem dX10_seal_105 : decode cX10_seal 105 = .ok (.aload_n 0, 1) := by decide +kernel
theorem dX10_seal_106 : decode cX10_seal 106 = .ok (.getfield 181, 3) := by decide +kernel
theorem dX10_seal_109 : decode cX10_seal 109 = .ok (.imul, 1) := by decide +kernel
theorem dX10_seal_110 : decode cX10_seal 110 = .ok (.iload_n 3, 1) := by decide +kernel
theorem dX10_seal_111 : decode cX10_seal 111 = .ok (.iadd, 1) := by decide +kernel
theorem dX10_seal_112 : decode cX10_seal 112 = .ok (.iload 4, 2) := by decide +kernel
theorem dX10_seal_114 : decode cX10_seal 114 = .ok (.ifCond .eq 26, 3) := by decide +kernel
theorem dX10_seal_117 : decode cX10_seal 117 = .ok (.aload_n 0, 1) := by decide +kernel
theorem dX10_seal_118 : decode cX10_seal 118 = .ok (.getfield 16, 3) := by decide +kernel
theorem dX10_seal_121 : decode cX10_seal 121 = .ok (.iload_n 3, 1) := by decide +kernel
theorem dX10_seal_122 : decode cX10_seal 122 = .ok (.iaload, 1) := by decide +kernel
theorem dX10_seal_123 : decode cX10_seal 123 = .ok (.ifCond .ne 17, 3) := by decide +kernel
theorem dX10_seal_126 : decode cX10_seal 126 = .ok (.aload_n 0, 1) := by decide +kernel
theorem dX10_seal_127 : decode cX10_seal 127 = .ok (.getfield 66, 3) := by decide +kernel
theorem dX10_seal_130 : decode cX10_seal 130 = .ok (.bipush 12, 2) := by decide +kernel
theorem dX10_seal_132 : decode cX10_seal 132 = .ok (.iload_n 1, 1) := by decide +kernel
theorem dX10_seal_133 : decode cX10_seal 133 = .ok (.imul, 1) := by decide +kernel
theorem dX10_seal_134 : decode cX10_seal 134 = .ok (.iload_n 3, 1) := by decide +kernel
theorem dX10_seal_135 : decode cX10_seal 135 = .ok (.iadd, 1) := by decide +kernel
theorem dX10_seal_136 : decode cX10_seal 136 = .ok (.iaload, 1) := by decide +kernel
theorem dX10_seal_137 : decode cX10_seal 137 = .ok (.goto 5, 3) := by decide +kernel
theorem dX10_seal_140 : decode cX10_seal 140 = .ok (.ldc 90, 2) := by decide +kernel
theorem dX10_seal_142 : decode cX10_seal 142 = .ok (.iastore, 1) := by decide +kernel
theorem dX10_seal_143 : decode cX10_seal 143 = .ok (.aload_n 0, 1) := by decide +kernel
theorem dX10_seal_144 : decode cX10_seal 144 = .ok (.getfield 84, 3) := by decide +kernel
theorem dX10_seal_147 : decode cX10_seal 147 = .ok (.bipush 12, 2) := by decide +kernel
theorem dX10_seal_149 : decode cX10_seal 149 = .ok (.aload_n 0, 1) := by decide +kernel
theorem dX10_seal_150 : decode cX10_seal 150 = .ok (.getfield 181, 3) := by decide +kernel
theorem dX10_seal_153 : decode cX10_seal 153 = .ok (.imul, 1) := by decide +kernel
theorem dX10_seal_154 : decode cX10_seal 154 = .ok (.iload_n 3, 1) := by decide +kernel
theorem dX10_seal_155 : decode cX10_seal 155 = .ok (.iadd, 1) := by decide +kernel
theorem dX10_seal_156 : decode cX10_seal 156 = .ok (.iload 4, 2) := by decide +kernel
theorem dX10_seal_158 : decode cX10_seal 158 = .ok (.ifCond .eq 11, 3) := by decide +kernel
theorem dX10_seal_161 : decode cX10_seal 161 = .ok (.aload_n 0, 1) := by decide +kernel
theorem dX10_seal_162 : decode cX10_seal 162 = .ok (.iload_n 3, 1) := by decide +kernel
theorem dX10_seal_163 : decode cX10_seal 163 = .ok (.invokevirtual 194, 3) := by decide +kernel
theorem dX10_seal_166 : decode cX10_seal 166 = .ok (.goto 5, 3) := by decide +kernel
theorem dX10_seal_169 : decode cX10_seal 169 = .ok (.bipush (-9), 2) := by decide +kernel
theorem dX10_seal_171 : decode cX10_seal 171 = .ok (.iastore, 1) := by decide +kernel
theorem dX10_seal_172 : decode cX10_seal 172 = .ok (.iinc 3 1, 3) := by decide +kernel
theorem dX10_seal_175 : decode cX10_seal 175 = .ok (.goto (-98), 3) := by decide +kernel
theorem dX10_seal_178 : decode cX10_seal 178 = .ok (.aload_n 0, 1) := by decide +kernel
theorem dX10_seal_179 : decode cX10_seal 179 = .ok (.dup, 1) := by decide +kernel
theorem dX10_seal_180 : decode cX10_seal 180 = .ok (.getfield 181, 3) := by decide +kernel
theorem dX10_seal_183 : decode cX10_seal 183 = .ok (.iconst 1, 1) := by decide +kernel
theorem dX10_seal_184 : decode cX10_seal 184 = .ok (.iadd, 1) := by decide +kernel
theorem dX10_seal_185 : decode cX10_seal 185 = .ok (.putfield 181, 3) := by decide +kernel
theorem dX10_seal_188 : decode cX10_seal 188 = .ok (.aload_n 0, 1) := by decide +kernel
theorem dX10_seal_189 : decode cX10_seal 189 = .ok (.getfield 181, 3) := by decide +kernel
theorem dX10_seal_192 : decode cX10_seal 192 = .ok (.iconst 1, 1) := by decide +kernel
theorem dX10_seal_193 : decode cX10_seal 193 = .ok (.isub, 1) := by decide +kernel
theorem dX10_seal_194 : decode cX10_seal 194 = .ok (.ireturn, 1) := by decide +kernel
theorem dX10_open_0 : decode cX10_open 0 = .ok (.aload_n 0, 1) := by decide +kernel
theorem dX10_open_1 : decode cX10_open 1 = .ok (.iload_n 1, 1) := by decide +kernel
theorem dX10_open_2 : decode cX10_open 2 = .ok (.invokevirtual 203, 3) := by decide +kernel
theorem dX10_open_5 : decode cX10_open 5 = .ok (.ifCond .eq 5, 3) := by decide +kernel
theorem dX10_open_8 : decode cX10_open 8 = .ok (.iconst (-1), 1) := by decide +kernel
theorem dX10_open_9 : decode cX10_open 9 = .ok (.ireturn, 1) := by decide +kernel
theorem dX10_open_10 : decode cX10_open 10 = .ok (.aload_n 0, 1) := by decide +kernel
theorem dX10_open_11 : decode cX10_open 11 = .ok (.getfield 78, 3) := by decide +kernel
theorem dX10_open_14 : decode cX10_open 14 = .ok (.iload_n 1, 1) := by decide +kernel
theorem dX10_open_15 : decode cX10_open 15 = .ok (.baload, 1) := by decide +kernel
theorem dX10_open_16 : decode cX10_open 16 = .ok (.ifCond .eq 7, 3) := by decide +kernel
theorem dX10_open_19 : decode cX10_open 19 = .ok (.iconst 0, 1) := by decide +kernel
theorem dX10_open_20 : decode cX10_open 20 = .ok (.goto 4, 3) := by decide +kernel
theorem dX10_open_23 : decode cX10_open 23 = .ok (.iconst 1, 1) := by decide +kernel
theorem dX10_open_24 : decode cX10_open 24 = .ok (.istore_n 2, 1) := by decide +kernel
theorem dX10_open_25 : decode cX10_open 25 = .ok (.aload_n 0, 1) := by decide +kernel
theorem dX10_open_26 : decode cX10_open 26 = .ok (.getfield 78, 3) := by decide +kernel
theorem dX10_open_29 : decode cX10_open 29 = .ok (.iload_n 1, 1) := by decide +kernel
theorem dX10_open_30 : decode cX10_open 30 = .ok (.iconst 1, 1) := by decide +kernel
theorem dX10_open_31 : decode cX10_open 31 = .ok (.bastore, 1) := by decide +kernel
theorem dX10_open_32 : decode cX10_open 32 = .ok (.iload_n 2, 1) := by decide +kernel
theorem dX10_open_33 : decode cX10_open 33 = .ok (.ireturn, 1) := by decide +kernel
theorem dX10_sealHolds_0 : decode cX10_sealHolds 0 = .ok (.aload_n 0, 1) := by decide +kernel
theorem dX10_sealHolds_1 : decode cX10_sealHolds 1 = .ok (.getfield 78, 3) := by decide +kernel
theorem dX10_sealHolds_4 : decode cX10_sealHolds 4 = .ok (.iload_n 1, 1) := by decide +kernel
theorem dX10_sealHolds_5 : decode cX10_sealHolds 5 = .ok (.baload, 1) := by decide +kernel
theorem dX10_sealHolds_6 : decode cX10_sealHolds 6 = .ok (.ifCond .eq 5, 3) := by decide +kernel
theorem dX10_sealHolds_9 : decode cX10_sealHolds 9 = .ok (.iconst 0, 1) := by decide +kernel
theorem dX10_sealHolds_10 : decode cX10_sealHolds 10 = .ok (.ireturn, 1) := by decide +kernel
theorem dX10_sealHolds_11 : decode cX10_sealHolds 11 = .ok (.aload_n 0, 1) := by decide +kernel
theorem dX10_sealHolds_12 : decode cX10_sealHolds 12 = .ok (.aload_n 0, 1) := by decide +kernel
theorem dX10_sealHolds_13 : decode cX10_sealHolds 13 = .ok (.getfield 72, 3) := by decide +kernel
theorem dX10_sealHolds_16 : decode cX10_sealHolds 16 = .ok (.iload_n 1, 1) := by decide +kernel
theorem dX10_sealHolds_17 : decode cX10_sealHolds 17 = .ok (.iaload, 1) := by decide +kernel
theorem dX10_sealHolds_18 : decode cX10_sealHolds 18 = .ok (.invokevirtual 191, 3) := by decide +kernel
theorem dX10_sealHolds_21 : decode cX10_sealHolds 21 = .ok (.iconst 1, 1) := by decide +kernel
theorem dX10_sealHolds_22 : decode cX10_sealHolds 22 = .ok (.istore_n 2, 1) := by decide +kernel
theorem dX10_sealHolds_23 : decode cX10_sealHolds 23 = .ok (.iconst 0, 1) := by decide +kernel
theorem dX10_sealHolds_24 : decode cX10_sealHolds 24 = .ok (.istore_n 3, 1) := by decide +kernel
theorem dX10_sealHolds_25 : decode cX10_sealHolds 25 = .ok (.iload_n 3, 1) := by decide +kernel
theorem dX10_sealHolds_26 : decode cX10_sealHolds 26 = .ok (.aload_n 0, 1) := by decide +kernel
theorem dX10_sealHolds_27 : decode cX10_sealHolds 27 = .ok (.getfield 95, 3) := by decide +kernel
theorem dX10_sealHolds_30 : decode cX10_sealHolds 30 = .ok (.if_icmp .ge 51, 3) := by decide +kernel
theorem dX10_sealHolds_33 : decode cX10_sealHolds 33 = .ok (.iload_n 2, 1) := by decide +kernel
theorem dX10_sealHolds_34 : decode cX10_sealHolds 34 = .ok (.ifCond .eq 39, 3) := by decide +kernel
theorem dX10_sealHolds_37 : decode cX10_sealHolds 37 = .ok (.aload_n 0, 1) := by decide +kernel
theorem dX10_sealHolds_38 : decode cX10_sealHolds 38 = .ok (.getfield 75, 3) := by decide +kernel
theorem dX10_sealHolds_41 : decode cX10_sealHolds 41 = .ok (.iload_n 1, 1) := by decide +kernel
theorem dX10_sealHolds_42 : decode cX10_sealHolds 42 = .ok (.iaload, 1) := by decide +kernel
theorem dX10_sealHolds_43 : decode cX10_sealHolds 43 = .ok (.iload_n 3, 1) := by decide +kernel
theorem dX10_sealHolds_44 : decode cX10_sealHolds 44 = .ok (.ishr, 1) := by decide +kernel
theorem dX10_sealHolds_45 : decode cX10_sealHolds 45 = .ok (.iconst 1, 1) := by decide +kernel
theorem dX10_sealHolds_46 : decode cX10_sealHolds 46 = .ok (.iand, 1) := by decide +kernel
theorem dX10_sealHolds_47 : decode cX10_sealHolds 47 = .ok (.ifCond .eq 22, 3) := by decide +kernel
theorem dX10_sealHolds_50 : decode cX10_sealHolds 50 = .ok (.aload_n 0, 1) := by decide +kernel
theorem dX10_sealHolds_51 : decode cX10_sealHolds 51 = .ok (.iload_n 3, 1) := by decide +kernel
theorem dX10_sealHolds_52 : decode cX10_sealHolds 52 = .ok (.invokevirtual 194, 3) := by decide +kernel
theorem dX10_sealHolds_55 : decode cX10_sealHolds 55 = .ok (.aload_n 0, 1) := by decide +kernel
theorem dX10_sealHolds_56 : decode cX10_sealHolds 56 = .ok (.getfield 84, 3) := by decide +kernel
theorem dX10_sealHolds_59 : decode cX10_sealHolds 59 = .ok (.bipush 12, 2) := by decide +kernel
theorem dX10_sealHolds_61 : decode cX10_sealHolds 61 = .ok (.iload_n 1, 1) := by decide +kernel
theorem dX10_sealHolds_62 : decode cX10_sealHolds 62 = .ok (.imul, 1) := by decide +kernel
theorem dX10_sealHolds_63 : decode cX10_sealHolds 63 = .ok (.iload_n 3, 1) := by decide +kernel
theorem dX10_sealHolds_64 : decode cX10_sealHolds 64 = .ok (.iadd, 1) := by decide +kernel
theorem dX10_sealHolds_65 : decode cX10_sealHolds 65 = .ok (.iaload, 1) := by decide +kernel
theorem dX10_sealHolds_66 : decode cX10_sealHolds 66 = .ok (.if_icmp .ne 7, 3) := by decide +kernel
theorem dX10_sealHolds_69 : decode cX10_sealHolds 69 = .ok (.iconst 1, 1) := by decide +kernel
theorem dX10_sealHolds_70 : decode cX10_sealHolds 70 = .ok (.goto 4, 3) := by decide +kernel
theorem dX10_sealHolds_73 : decode cX10_sealHolds 73 = .ok (.iconst 0, 1) := by decide +kernel
theorem dX10_sealHolds_74 : decode cX10_sealHolds 74 = .ok (.istore_n 2, 1) := by decide +kernel
theorem dX10_sealHolds_75 : decode cX10_sealHolds 75 = .ok (.iinc 3 1, 3) := by decide +kernel
theorem dX10_sealHolds_78 : decode cX10_sealHolds 78 = .ok (.goto (-53), 3) := by decide +kernel
theorem dX10_sealHolds_81 : decode cX10_sealHolds 81 = .ok (.iload_n 2, 1) := by decide +kernel
theorem dX10_sealHolds_82 : decode cX10_sealHolds 82 = .ok (.ireturn, 1) := by decide +kernel
theorem dX10_sealed_0 : decode cX10_sealed 0 = .ok (.aload_n 0, 1) := by decide +kernel
theorem dX10_sealed_1 : decode cX10_sealed 1 = .ok (.iload_n 1, 1) := by decide +kernel
theorem dX10_sealed_2 : decode cX10_sealed 2 = .ok (.invokevirtual 203, 3) := by decide +kernel
theorem dX10_sealed_5 : decode cX10_sealed 5 = .ok (.ifCond .eq 5, 3) := by decide +kernel
theorem dX10_sealed_8 : decode cX10_sealed 8 = .ok (.iconst (-1), 1) := by decide +kernel
theorem dX10_sealed_9 : decode cX10_sealed 9 = .ok (.ireturn, 1) := by decide +kernel
theorem dX10_sealed_10 : decode cX10_sealed 10 = .ok (.iload_n 2, 1) := by decide +kernel
theorem dX10_sealed_11 : decode cX10_sealed 11 = .ok (.bipush 10, 2) := by decide +kernel
theorem dX10_sealed_13 : decode cX10_sealed 13 = .ok (.bipush 9, 2) := by decide +kernel
theorem dX10_sealed_15 : decode cX10_sealed 15 = .ok (.aload_n 0, 1) := by decide +kernel
theorem dX10_sealed_16 : decode cX10_sealed 16 = .ok (.getfield 95, 3) := by decide +kernel
theorem dX10_sealed_19 : decode cX10_sealed 19 = .ok (.iadd, 1) := by decide +kernel
theorem dX10_sealed_20 : decode cX10_sealed 20 = .ok (.invokestatic 99, 3) := by decide +kernel
theorem dX10_sealed_23 : decode cX10_sealed 23 = .ok (.ifCond .eq 18, 3) := by decide +kernel
theorem dX10_sealed_26 : decode cX10_sealed 26 = .ok (.aload_n 0, 1) := by decide +kernel
theorem dX10_sealed_27 : decode cX10_sealed 27 = .ok (.getfield 81, 3) := by decide +kernel
theorem dX10_sealed_30 : decode cX10_sealed 30 = .ok (.bipush 12, 2) := by decide +kernel
theorem dX10_sealed_32 : decode cX10_sealed 32 = .ok (.iload_n 1, 1) := by decide +kernel
theorem dX10_sealed_33 : decode cX10_sealed 33 = .ok (.imul, 1) := by decide +kernel
theorem dX10_sealed_34 : decode cX10_sealed 34 = .ok (.iload_n 2, 1) := by decide +kernel
theorem dX10_sealed_35 : decode cX10_sealed 35 = .ok (.iadd, 1) := by decide +kernel
theorem dX10_sealed_36 : decode cX10_sealed 36 = .ok (.bipush 10, 2) := by decide +kernel
theorem dX10_sealed_38 : decode cX10_sealed 38 = .ok (.isub, 1) := by decide +kernel
theorem dX10_sealed_39 : decode cX10_sealed 39 = .ok (.iaload, 1) := by decide +kernel
theorem dX10_sealed_40 : decode cX10_sealed 40 = .ok (.ireturn, 1) := by decide +kernel
theorem dX10_sealed_41 : decode cX10_sealed 41 = .ok (.iload_n 2, 1) := by decide +kernel
theorem dX10_sealed_42 : decode cX10_sealed 42 = .ok (.bipush 30, 2) := by decide +kernel
theorem dX10_sealed_44 : decode cX10_sealed 44 = .ok (.bipush 29, 2) := by decide +kernel
theorem dX10_sealed_46 : decode cX10_sealed 46 = .ok (.aload_n 0, 1) := by decide +kernel
theorem dX10_sealed_47 : decode cX10_sealed 47 = .ok (.getfield 95, 3) := by decide +kernel
theorem dX10_sealed_50 : decode cX10_sealed 50 = .ok (.iadd, 1) := by decide +kernel
theorem dX10_sealed_51 : decode cX10_sealed 51 = .ok (.invokestatic 99, 3) := by decide +kernel
theorem dX10_sealed_54 : decode cX10_sealed 54 = .ok (.ifCond .eq 18, 3) := by decide +kernel
theorem dX10_sealed_57 : decode cX10_sealed 57 = .ok (.aload_n 0, 1) := by decide +kernel
theorem dX10_sealed_58 : decode cX10_sealed 58 = .ok (.getfield 84, 3) := by decide +kernel
theorem dX10_sealed_61 : decode cX10_sealed 61 = .ok (.bipush 12, 2) := by decide +kernel
theorem dX10_sealed_63 : decode cX10_sealed 63 = .ok (.iload_n 1, 1) := by decide +kernel
theorem dX10_sealed_64 : decode cX10_sealed 64 = .ok (.imul, 1) := by decide +kernel
theorem dX10_sealed_65 : decode cX10_sealed 65 = .ok (.iload_n 2, 1) := by decide +kernel
theorem dX10_sealed_66 : decode cX10_sealed 66 = .ok (.iadd, 1) := by decide +kernel
theorem dX10_sealed_67 : decode cX10_sealed 67 = .ok (.bipush 30, 2) := by decide +kernel
theorem dX10_sealed_69 : decode cX10_sealed 69 = .ok (.isub, 1) := by decide +kernel
theorem dX10_sealed_70 : decode cX10_sealed 70 = .ok (.iaload, 1) := by decide +kernel
theorem dX10_sealed_71 : decode cX10_sealed 71 = .ok (.ireturn, 1) := by decide +kernel
theorem dX10_sealed_72 : decode cX10_sealed 72 = .ok (.iload_n 2, 1) := by decide +kernel
theorem dX10_sealed_73 : decode cX10_sealed 73 = .ok (.tableswitch 74 0 3 #[31, 38, 45, 60], 31) := by decide +kernel
theorem dX10_sealed_104 : decode cX10_sealed 104 = .ok (.aload_n 0, 1) := by decide +kernel
theorem dX10_sealed_105 : decode cX10_sealed 105 = .ok (.getfield 72, 3) := by decide +kernel
theorem dX10_sealed_108 : decode cX10_sealed 108 = .ok (.iload_n 1, 1) := by decide +kernel
theorem dX10_sealed_109 : decode cX10_sealed 109 = .ok (.iaload, 1) := by decide +kernel
theorem dX10_sealed_110 : decode cX10_sealed 110 = .ok (.ireturn, 1) := by decide +kernel
theorem dX10_sealed_111 : decode cX10_sealed 111 = .ok (.aload_n 0, 1) := by decide +kernel
theorem dX10_sealed_112 : decode cX10_sealed 112 = .ok (.getfield 75, 3) := by decide +kernel
theorem dX10_sealed_115 : decode cX10_sealed 115 = .ok (.iload_n 1, 1) := by decide +kernel
theorem dX10_sealed_116 : decode cX10_sealed 116 = .ok (.iaload, 1) := by decide +kernel
theorem dX10_sealed_117 : decode cX10_sealed 117 = .ok (.ireturn, 1) := by decide +kernel
theorem dX10_sealed_118 : decode cX10_sealed 118 = .ok (.aload_n 0, 1) := by decide +kernel
theorem dX10_sealed_119 : decode cX10_sealed 119 = .ok (.getfield 78, 3) := by decide +kernel
theorem dX10_sealed_122 : decode cX10_sealed 122 = .ok (.iload_n 1, 1) := by decide +kernel
theorem dX10_sealed_123 : decode cX10_sealed 123 = .ok (.baload, 1) := by decide +kernel
theorem dX10_sealed_124 : decode cX10_sealed 124 = .ok (.ifCond .eq 7, 3) := by decide +kernel
theorem dX10_sealed_127 : decode cX10_sealed 127 = .ok (.iconst 1, 1) := by decide +kernel
theorem dX10_sealed_128 : decode cX10_sealed 128 = .ok (.goto 4, 3) := by decide +kernel
theorem dX10_sealed_131 : decode cX10_sealed 131 = .ok (.iconst 0, 1) := by decide +kernel
theorem dX10_sealed_132 : decode cX10_sealed 132 = .ok (.ireturn, 1) := by decide +kernel
theorem dX10_sealed_133 : decode cX10_sealed 133 = .ok (.aload_n 0, 1) := by decide +kernel
theorem dX10_sealed_134 : decode cX10_sealed 134 = .ok (.iload_n 1, 1) := by decide +kernel
theorem dX10_sealed_135 : decode cX10_sealed 135 = .ok (.invokevirtual 206, 3) := by decide +kernel
theorem dX10_sealed_138 : decode cX10_sealed 138 = .ok (.ifCond .eq 7, 3) := by decide +kernel
theorem dX10_sealed_141 : decode cX10_sealed 141 = .ok (.iconst 1, 1) := by decide +kernel
theorem dX10_sealed_142 : decode cX10_sealed 142 = .ok (.goto 4, 3) := by decide +kernel
theorem dX10_sealed_145 : decode cX10_sealed 145 = .ok (.iconst 0, 1) := by decide +kernel
theorem dX10_sealed_146 : decode cX10_sealed 146 = .ok (.ireturn, 1) := by decide +kernel
theorem dX10_sealed_147 : decode cX10_sealed 147 = .ok (.bipush (-2), 2) := by decide +kernel
theorem dX10_sealed_149 : decode cX10_sealed 149 = .ok (.ireturn, 1) := by decide +kernel
theorem dX10_goesOn_0 : decode cX10_goesOn 0 = .ok (.aload_n 0, 1) := by decide +kernel
theorem dX10_goesOn_1 : decode cX10_goesOn 1 = .ok (.getfield 95, 3) := by decide +kernel
theorem dX10_goesOn_4 : decode cX10_goesOn 4 = .ok (.iconst 1, 1) := by decide +kernel
theorem dX10_goesOn_5 : decode cX10_goesOn 5 = .ok (.isub, 1) := by decide +kernel
theorem dX10_goesOn_6 : decode cX10_goesOn 6 = .ok (.istore_n 2, 1) := by decide +kernel
theorem dX10_goesOn_7 : decode cX10_goesOn 7 = .ok (.iload_n 2, 1) := by decide +kernel
theorem dX10_goesOn_8 : decode cX10_goesOn 8 = .ok (.ifCond .lt 74, 3) := by decide +kernel
theorem dX10_goesOn_11 : decode cX10_goesOn 11 = .ok (.iload_n 1, 1) := by decide +kernel
theorem dX10_goesOn_12 : decode cX10_goesOn 12 = .ok (.iload_n 2, 1) := by decide +kernel
theorem dX10_goesOn_13 : decode cX10_goesOn 13 = .ok (.ishr, 1) := by decide +kernel
theorem dX10_goesOn_14 : decode cX10_goesOn 14 = .ok (.iconst 1, 1) := by decide +kernel
theorem dX10_goesOn_15 : decode cX10_goesOn 15 = .ok (.iand, 1) := by decide +kernel
theorem dX10_goesOn_16 : decode cX10_goesOn 16 = .ok (.iconst 1, 1) := by decide +kernel
theorem dX10_goesOn_17 : decode cX10_goesOn 17 = .ok (.if_icmp .ne 59, 3) := by decide +kernel
theorem dX10_goesOn_20 : decode cX10_goesOn 20 = .ok (.aload_n 0, 1) := by decide +kernel
theorem dX10_goesOn_21 : decode cX10_goesOn 21 = .ok (.getfield 50, 3) := by decide +kernel
theorem dX10_goesOn_24 : decode cX10_goesOn 24 = .ok (.iload_n 2, 1) := by decide +kernel
theorem dX10_goesOn_25 : decode cX10_goesOn 25 = .ok (.iaload, 1) := by decide +kernel
theorem dX10_goesOn_26 : decode cX10_goesOn 26 = .ok (.ldc 90, 2) := by decide +kernel
theorem dX10_goesOn_28 : decode cX10_goesOn 28 = .ok (.if_icmp .ne 12, 3) := by decide +kernel
theorem dX10_goesOn_31 : decode cX10_goesOn 31 = .ok (.aload_n 0, 1) := by decide +kernel
theorem dX10_goesOn_32 : decode cX10_goesOn 32 = .ok (.getfield 7, 3) := by decide +kernel
theorem dX10_goesOn_35 : decode cX10_goesOn 35 = .ok (.iload_n 2, 1) := by decide +kernel
theorem dX10_goesOn_36 : decode cX10_goesOn 36 = .ok (.iaload, 1) := by decide +kernel
theorem dX10_goesOn_37 : decode cX10_goesOn 37 = .ok (.goto 11, 3) := by decide +kernel
theorem dX10_goesOn_40 : decode cX10_goesOn 40 = .ok (.aload_n 0, 1) := by decide +kernel
theorem dX10_goesOn_41 : decode cX10_goesOn 41 = .ok (.getfield 50, 3) := by decide +kernel
theorem dX10_goesOn_44 : decode cX10_goesOn 44 = .ok (.iload_n 2, 1) := by decide +kernel
theorem dX10_goesOn_45 : decode cX10_goesOn 45 = .ok (.iaload, 1) := by decide +kernel
theorem dX10_goesOn_46 : decode cX10_goesOn 46 = .ok (.iconst 1, 1) := by decide +kernel
theorem dX10_goesOn_47 : decode cX10_goesOn 47 = .ok (.iadd, 1) := by decide +kernel
theorem dX10_goesOn_48 : decode cX10_goesOn 48 = .ok (.istore_n 3, 1) := by decide +kernel
theorem dX10_goesOn_49 : decode cX10_goesOn 49 = .ok (.iload_n 3, 1) := by decide +kernel
theorem dX10_goesOn_50 : decode cX10_goesOn 50 = .ok (.aload_n 0, 1) := by decide +kernel
theorem dX10_goesOn_51 : decode cX10_goesOn 51 = .ok (.getfield 13, 3) := by decide +kernel
theorem dX10_goesOn_54 : decode cX10_goesOn 54 = .ok (.iload_n 2, 1) := by decide +kernel
theorem dX10_goesOn_55 : decode cX10_goesOn 55 = .ok (.iaload, 1) := by decide +kernel
theorem dX10_goesOn_56 : decode cX10_goesOn 56 = .ok (.if_icmp .gt 12, 3) := by decide +kernel
theorem dX10_goesOn_59 : decode cX10_goesOn 59 = .ok (.aload_n 0, 1) := by decide +kernel
theorem dX10_goesOn_60 : decode cX10_goesOn 60 = .ok (.getfield 50, 3) := by decide +kernel
theorem dX10_goesOn_63 : decode cX10_goesOn 63 = .ok (.iload_n 2, 1) := by decide +kernel
theorem dX10_goesOn_64 : decode cX10_goesOn 64 = .ok (.iload_n 3, 1) := by decide +kernel
theorem dX10_goesOn_65 : decode cX10_goesOn 65 = .ok (.iastore, 1) := by decide +kernel
theorem dX10_goesOn_66 : decode cX10_goesOn 66 = .ok (.iconst 1, 1) := by decide +kernel
theorem dX10_goesOn_67 : decode cX10_goesOn 67 = .ok (.ireturn, 1) := by decide +kernel
theorem dX10_goesOn_68 : decode cX10_goesOn 68 = .ok (.aload_n 0, 1) := by decide +kernel
theorem dX10_goesOn_69 : decode cX10_goesOn 69 = .ok (.getfield 50, 3) := by decide +kernel
theorem dX10_goesOn_72 : decode cX10_goesOn 72 = .ok (.iload_n 2, 1) := by decide +kernel
theorem dX10_goesOn_73 : decode cX10_goesOn 73 = .ok (.ldc 90, 2) := by decide +kernel
theorem dX10_goesOn_75 : decode cX10_goesOn 75 = .ok (.iastore, 1) := by decide +kernel
theorem dX10_goesOn_76 : decode cX10_goesOn 76 = .ok (.iinc 2 (-1), 3) := by decide +kernel
theorem dX10_goesOn_79 : decode cX10_goesOn 79 = .ok (.goto (-72), 3) := by decide +kernel
theorem dX10_goesOn_82 : decode cX10_goesOn 82 = .ok (.iconst 0, 1) := by decide +kernel
theorem dX10_goesOn_83 : decode cX10_goesOn 83 = .ok (.ireturn, 1) := by decide +kernel
theorem dX10_shows_0 : decode cX10_shows 0 = .ok (.iconst 0, 1) := by decide +kernel
theorem dX10_shows_1 : decode cX10_shows 1 = .ok (.istore_n 2, 1) := by decide +kernel
theorem dX10_shows_2 : decode cX10_shows 2 = .ok (.iload_n 2, 1) := by decide +kernel
theorem dX10_shows_3 : decode cX10_shows 3 = .ok (.aload_n 0, 1) := by decide +kernel
theorem dX10_shows_4 : decode cX10_shows 4 = .ok (.getfield 95, 3) := by decide +kernel
theorem dX10_shows_7 : decode cX10_shows 7 = .ok (.if_icmp .ge 35, 3) := by decide +kernel
theorem dX10_shows_10 : decode cX10_shows 10 = .ok (.aload_n 0, 1) := by decide +kernel
theorem dX10_shows_11 : decode cX10_shows 11 = .ok (.getfield 44, 3) := by decide +kernel
theorem dX10_shows_14 : decode cX10_shows 14 = .ok (.iload_n 2, 1) := by decide +kernel
theorem dX10_shows_15 : decode cX10_shows 15 = .ok (.iaload, 1) := by decide +kernel
theorem dX10_shows_16 : decode cX10_shows 16 = .ok (.istore_n 3, 1) := by decide +kernel
theorem dX10_shows_17 : decode cX10_shows 17 = .ok (.aload_n 0, 1) := by decide +kernel
theorem dX10_shows_18 : decode cX10_shows 18 = .ok (.getfield 37, 3) := by decide +kernel
theorem dX10_shows_21 : decode cX10_shows 21 = .ok (.iload_n 1, 1) := by decide +kernel
theorem dX10_shows_22 : decode cX10_shows 22 = .ok (.iaload, 1) := by decide +kernel
theorem dX10_shows_23 : decode cX10_shows 23 = .ok (.iload_n 3, 1) := by decide +kernel
theorem dX10_shows_24 : decode cX10_shows 24 = .ok (.ishr, 1) := by decide +kernel
theorem dX10_shows_25 : decode cX10_shows 25 = .ok (.iconst 1, 1) := by decide +kernel
theorem dX10_shows_26 : decode cX10_shows 26 = .ok (.iand, 1) := by decide +kernel
theorem dX10_shows_27 : decode cX10_shows 27 = .ok (.iconst 1, 1) := by decide +kernel
theorem dX10_shows_28 : decode cX10_shows 28 = .ok (.if_icmp .ne 8, 3) := by decide +kernel
theorem dX10_shows_31 : decode cX10_shows 31 = .ok (.aload_n 0, 1) := by decide +kernel
theorem dX10_shows_32 : decode cX10_shows 32 = .ok (.iload_n 3, 1) := by decide +kernel
theorem dX10_shows_33 : decode cX10_shows 33 = .ok (.invokevirtual 176, 3) := by decide +kernel
theorem dX10_shows_36 : decode cX10_shows 36 = .ok (.iinc 2 1, 3) := by decide +kernel
theorem dX10_shows_39 : decode cX10_shows 39 = .ok (.goto (-37), 3) := by decide +kernel
theorem dX10_shows_42 : decode cX10_shows 42 = .ok (.aload_n 0, 1) := by decide +kernel
theorem dX10_shows_43 : decode cX10_shows 43 = .ok (.iload_n 1, 1) := by decide +kernel
theorem dX10_shows_44 : decode cX10_shows 44 = .ok (.invokevirtual 176, 3) := by decide +kernel
theorem dX10_shows_47 : decode cX10_shows 47 = .ok (.aload_n 0, 1) := by decide +kernel
theorem dX10_shows_48 : decode cX10_shows 48 = .ok (.getfield 53, 3) := by decide +kernel
theorem dX10_shows_51 : decode cX10_shows 51 = .ok (.iload_n 1, 1) := by decide +kernel
theorem dX10_shows_52 : decode cX10_shows 52 = .ok (.baload, 1) := by decide +kernel
theorem dX10_shows_53 : decode cX10_shows 53 = .ok (.ireturn, 1) := by decide +kernel
theorem dX10_reach_0 : decode cX10_reach 0 = .ok (.aload_n 0, 1) := by decide +kernel
theorem dX10_reach_1 : decode cX10_reach 1 = .ok (.iload_n 1, 1) := by decide +kernel
theorem dX10_reach_2 : decode cX10_reach 2 = .ok (.invokevirtual 114, 3) := by decide +kernel
theorem dX10_reach_5 : decode cX10_reach 5 = .ok (.ifCond .eq 5, 3) := by decide +kernel
theorem dX10_reach_8 : decode cX10_reach 8 = .ok (.iconst (-1), 1) := by decide +kernel
theorem dX10_reach_9 : decode cX10_reach 9 = .ok (.ireturn, 1) := by decide +kernel
theorem dX10_reach_10 : decode cX10_reach 10 = .ok (.aload_n 0, 1) := by decide +kernel
theorem dX10_reach_11 : decode cX10_reach 11 = .ok (.invokevirtual 149, 3) := by decide +kernel
theorem dX10_reach_14 : decode cX10_reach 14 = .ok (.iconst 0, 1) := by decide +kernel
theorem dX10_reach_15 : decode cX10_reach 15 = .ok (.istore_n 2, 1) := by decide +kernel
theorem dX10_reach_16 : decode cX10_reach 16 = .ok (.lconst 1, 1) := by decide +kernel
theorem dX10_reach_17 : decode cX10_reach 17 = .ok (.lstore_n 3, 1) := by decide +kernel
theorem dX10_reach_18 : decode cX10_reach 18 = .ok (.iconst 0, 1) := by decide +kernel
theorem dX10_reach_19 : decode cX10_reach 19 = .ok (.istore 5, 2) := by decide +kernel
theorem dX10_reach_21 : decode cX10_reach 21 = .ok (.iload 5, 2) := by decide +kernel
theorem dX10_reach_23 : decode cX10_reach 23 = .ok (.aload_n 0, 1) := by decide +kernel
theorem dX10_reach_24 : decode cX10_reach 24 = .ok (.getfield 95, 3) := by decide +kernel
theorem dX10_reach_27 : decode cX10_reach 27 = .ok (.if_icmp .ge 76, 3) := by decide +kernel
theorem dX10_reach_30 : decode cX10_reach 30 = .ok (.aload_n 0, 1) := by decide +kernel
theorem dX10_reach_31 : decode cX10_reach 31 = .ok (.getfield 37, 3) := by decide +kernel
theorem dX10_reach_34 : decode cX10_reach 34 = .ok (.iload_n 1, 1) := by decide +kernel
theorem dX10_reach_35 : decode cX10_reach 35 = .ok (.iaload, 1) := by decide +kernel
theorem dX10_reach_36 : decode cX10_reach 36 = .ok (.iload 5, 2) := by decide +kernel
theorem dX10_reach_38 : decode cX10_reach 38 = .ok (.ishr, 1) := by decide +kernel
theorem dX10_reach_39 : decode cX10_reach 39 = .ok (.iconst 1, 1) := by decide +kernel
theorem dX10_reach_40 : decode cX10_reach 40 = .ok (.iand, 1) := by decide +kernel
theorem dX10_reach_41 : decode cX10_reach 41 = .ok (.iconst 1, 1) := by decide +kernel
theorem dX10_reach_42 : decode cX10_reach 42 = .ok (.if_icmp .ne 55, 3) := by decide +kernel
theorem dX10_reach_45 : decode cX10_reach 45 = .ok (.aload_n 0, 1) := by decide +kernel
theorem dX10_reach_46 : decode cX10_reach 46 = .ok (.getfield 16, 3) := by decide +kernel
theorem dX10_reach_49 : decode cX10_reach 49 = .ok (.iload 5, 2) := by decide +kernel
theorem dX10_reach_51 : decode cX10_reach 51 = .ok (.iaload, 1) := by decide +kernel
theorem dX10_reach_52 : decode cX10_reach 52 = .ok (.ifCond .ne 45, 3) := by decide +kernel
theorem dX10_reach_55 : decode cX10_reach 55 = .ok (.iload_n 2, 1) := by decide +kernel
theorem dX10_reach_56 : decode cX10_reach 56 = .ok (.iconst 1, 1) := by decide +kernel
theorem dX10_reach_57 : decode cX10_reach 57 = .ok (.iload 5, 2) := by decide +kernel
theorem dX10_reach_59 : decode cX10_reach 59 = .ok (.ishl, 1) := by decide +kernel
theorem dX10_reach_60 : decode cX10_reach 60 = .ok (.ior, 1) := by decide +kernel
theorem dX10_reach_61 : decode cX10_reach 61 = .ok (.istore_n 2, 1) := by decide +kernel
theorem dX10_reach_62 : decode cX10_reach 62 = .ok (.lload_n 3, 1) := by decide +kernel
theorem dX10_reach_63 : decode cX10_reach 63 = .ok (.ldc2_w 209, 3) := by decide +kernel
theorem dX10_reach_66 : decode cX10_reach 66 = .ok (.lcmp, 1) := by decide +kernel
theorem dX10_reach_67 : decode cX10_reach 67 = .ok (.ifCond .le 7, 3) := by decide +kernel
theorem dX10_reach_70 : decode cX10_reach 70 = .ok (.lload_n 3, 1) := by decide +kernel
theorem dX10_reach_71 : decode cX10_reach 71 = .ok (.goto 25, 3) := by decide +kernel
theorem dX10_reach_74 : decode cX10_reach 74 = .ok (.lload_n 3, 1) := by decide +kernel
theorem dX10_reach_75 : decode cX10_reach 75 = .ok (.aload_n 0, 1) := by decide +kernel
theorem dX10_reach_76 : decode cX10_reach 76 = .ok (.getfield 13, 3) := by decide +kernel
theorem dX10_reach_79 : decode cX10_reach 79 = .ok (.iload 5, 2) := by decide +kernel
theorem dX10_reach_81 : decode cX10_reach 81 = .ok (.iaload, 1) := by decide +kernel
theorem dX10_reach_82 : decode cX10_reach 82 = .ok (.aload_n 0, 1) := by decide +kernel
theorem dX10_reach_83 : decode cX10_reach 83 = .ok (.getfield 7, 3) := by decide +kernel
theorem dX10_reach_86 : decode cX10_reach 86 = .ok (.iload 5, 2) := by decide +kernel
theorem dX10_reach_88 : decode cX10_reach 88 = .ok (.iaload, 1) := by decide +kernel
theorem dX10_reach_89 : decode cX10_reach 89 = .ok (.isub, 1) := by decide +kernel
theorem dX10_reach_90 : decode cX10_reach 90 = .ok (.i2l, 1) := by decide +kernel
theorem dX10_reach_91 : decode cX10_reach 91 = .ok (.ldc2_w 211, 3) := by decide +kernel
theorem dX10_reach_94 : decode cX10_reach 94 = .ok (.ladd, 1) := by decide +kernel
theorem dX10_reach_95 : decode cX10_reach 95 = .ok (.lmul, 1) := by decide +kernel
theorem dX10_reach_96 : decode cX10_reach 96 = .ok (.lstore_n 3, 1) := by decide +kernel
theorem dX10_reach_97 : decode cX10_reach 97 = .ok (.iinc 5 1, 3) := by decide +kernel
theorem dX10_reach_100 : decode cX10_reach 100 = .ok (.goto (-79), 3) := by decide +kernel
theorem dX10_reach_103 : decode cX10_reach 103 = .ok (.lload_n 3, 1) := by decide +kernel
theorem dX10_reach_104 : decode cX10_reach 104 = .ok (.ldc2_w 209, 3) := by decide +kernel
theorem dX10_reach_107 : decode cX10_reach 107 = .ok (.lcmp, 1) := by decide +kernel
theorem dX10_reach_108 : decode cX10_reach 108 = .ok (.ifCond .le 6, 3) := by decide +kernel
theorem dX10_reach_111 : decode cX10_reach 111 = .ok (.bipush (-6), 2) := by decide +kernel
theorem dX10_reach_113 : decode cX10_reach 113 = .ok (.ireturn, 1) := by decide +kernel
theorem dX10_reach_114 : decode cX10_reach 114 = .ok (.iconst 0, 1) := by decide +kernel
theorem dX10_reach_115 : decode cX10_reach 115 = .ok (.istore 5, 2) := by decide +kernel
theorem dX10_reach_117 : decode cX10_reach 117 = .ok (.iload 5, 2) := by decide +kernel
theorem dX10_reach_119 : decode cX10_reach 119 = .ok (.bipush 12, 2) := by decide +kernel
theorem dX10_reach_121 : decode cX10_reach 121 = .ok (.if_icmp .ge 27, 3) := by decide +kernel
theorem dX10_reach_124 : decode cX10_reach 124 = .ok (.aload_n 0, 1) := by decide +kernel
theorem dX10_reach_125 : decode cX10_reach 125 = .ok (.getfield 50, 3) := by decide +kernel
theorem dX10_reach_128 : decode cX10_reach 128 = .ok (.iload 5, 2) := by decide +kernel
theorem dX10_reach_130 : decode cX10_reach 130 = .ok (.ldc 90, 2) := by decide +kernel
theorem dX10_reach_132 : decode cX10_reach 132 = .ok (.iastore, 1) := by decide +kernel
theorem dX10_reach_133 : decode cX10_reach 133 = .ok (.aload_n 0, 1) := by decide +kernel
theorem dX10_reach_134 : decode cX10_reach 134 = .ok (.getfield 60, 3) := by decide +kernel
theorem dX10_reach_137 : decode cX10_reach 137 = .ok (.iload 5, 2) := by decide +kernel
theorem dX10_reach_139 : decode cX10_reach 139 = .ok (.ldc 90, 2) := by decide +kernel
theorem dX10_reach_141 : decode cX10_reach 141 = .ok (.iastore, 1) := by decide +kernel
theorem dX10_reach_142 : decode cX10_reach 142 = .ok (.iinc 5 1, 3) := by decide +kernel
theorem dX10_reach_145 : decode cX10_reach 145 = .ok (.goto (-28), 3) := by decide +kernel
theorem dX10_reach_148 : decode cX10_reach 148 = .ok (.aload_n 0, 1) := by decide +kernel
theorem dX10_reach_149 : decode cX10_reach 149 = .ok (.iconst 1, 1) := by decide +kernel
theorem dX10_reach_150 : decode cX10_reach 150 = .ok (.putfield 213, 3) := by decide +kernel
theorem dX10_reach_153 : decode cX10_reach 153 = .ok (.aload_n 0, 1) := by decide +kernel
theorem dX10_reach_154 : decode cX10_reach 154 = .ok (.iload_n 1, 1) := by decide +kernel
theorem dX10_reach_155 : decode cX10_reach 155 = .ok (.invokevirtual 216, 3) := by decide +kernel
theorem dX10_reach_158 : decode cX10_reach 158 = .ok (.istore 5, 2) := by decide +kernel
theorem dX10_reach_160 : decode cX10_reach 160 = .ok (.iload 5, 2) := by decide +kernel
theorem dX10_reach_162 : decode cX10_reach 162 = .ok (.ifCond .ne 31, 3) := by decide +kernel
theorem dX10_reach_165 : decode cX10_reach 165 = .ok (.aload_n 0, 1) := by decide +kernel
theorem dX10_reach_166 : decode cX10_reach 166 = .ok (.iload_n 2, 1) := by decide +kernel
theorem dX10_reach_167 : decode cX10_reach 167 = .ok (.invokevirtual 219, 3) := by decide +kernel
theorem dX10_reach_170 : decode cX10_reach 170 = .ok (.ifCond .eq 23, 3) := by decide +kernel
theorem dX10_reach_173 : decode cX10_reach 173 = .ok (.aload_n 0, 1) := by decide +kernel
theorem dX10_reach_174 : decode cX10_reach 174 = .ok (.dup, 1) := by decide +kernel
theorem dX10_reach_175 : decode cX10_reach 175 = .ok (.getfield 213, 3) := by decide +kernel
theorem dX10_reach_178 : decode cX10_reach 178 = .ok (.iconst 1, 1) := by decide +kernel
theorem dX10_reach_179 : decode cX10_reach 179 = .ok (.iadd, 1) := by decide +kernel
theorem dX10_reach_180 : decode cX10_reach 180 = .ok (.putfield 213, 3) := by decide +kernel
theorem dX10_reach_183 : decode cX10_reach 183 = .ok (.aload_n 0, 1) := by decide +kernel
theorem dX10_reach_184 : decode cX10_reach 184 = .ok (.iload_n 1, 1) := by decide +kernel
theorem dX10_reach_185 : decode cX10_reach 185 = .ok (.invokevirtual 216, 3) := by decide +kernel
theorem dX10_reach_188 : decode cX10_reach 188 = .ok (.istore 5, 2) := by decide +kernel
theorem dX10_reach_190 : decode cX10_reach 190 = .ok (.goto (-30), 3) := by decide +kernel
theorem dX10_reach_193 : decode cX10_reach 193 = .ok (.iconst 0, 1) := by decide +kernel
theorem dX10_reach_194 : decode cX10_reach 194 = .ok (.istore 6, 2) := by decide +kernel
theorem dX10_reach_196 : decode cX10_reach 196 = .ok (.iload 6, 2) := by decide +kernel
theorem dX10_reach_198 : decode cX10_reach 198 = .ok (.bipush 12, 2) := by decide +kernel
theorem dX10_reach_200 : decode cX10_reach 200 = .ok (.if_icmp .ge 33, 3) := by decide +kernel
theorem dX10_reach_203 : decode cX10_reach 203 = .ok (.aload_n 0, 1) := by decide +kernel
theorem dX10_reach_204 : decode cX10_reach 204 = .ok (.getfield 87, 3) := by decide +kernel
theorem dX10_reach_207 : decode cX10_reach 207 = .ok (.iload 6, 2) := by decide +kernel
theorem dX10_reach_209 : decode cX10_reach 209 = .ok (.iload 5, 2) := by decide +kernel
theorem dX10_reach_211 : decode cX10_reach 211 = .ok (.ifCond .eq 13, 3) := by decide +kernel
theorem dX10_reach_214 : decode cX10_reach 214 = .ok (.aload_n 0, 1) := by decide +kernel
theorem dX10_reach_215 : decode cX10_reach 215 = .ok (.getfield 50, 3) := by decide +kernel
theorem dX10_reach_218 : decode cX10_reach 218 = .ok (.iload 6, 2) := by decide +kernel
theorem dX10_reach_220 : decode cX10_reach 220 = .ok (.iaload, 1) := by decide +kernel
theorem dX10_reach_221 : decode cX10_reach 221 = .ok (.goto 5, 3) := by decide +kernel
theorem dX10_reach_224 : decode cX10_reach 224 = .ok (.ldc 90, 2) := by decide +kernel
theorem dX10_reach_226 : decode cX10_reach 226 = .ok (.iastore, 1) := by decide +kernel
theorem dX10_reach_227 : decode cX10_reach 227 = .ok (.iinc 6 1, 3) := by decide +kernel
theorem dX10_reach_230 : decode cX10_reach 230 = .ok (.goto (-34), 3) := by decide +kernel
theorem dX10_reach_233 : decode cX10_reach 233 = .ok (.iload 5, 2) := by decide +kernel
theorem dX10_reach_235 : decode cX10_reach 235 = .ok (.ifCond .eq 7, 3) := by decide +kernel
theorem dX10_reach_238 : decode cX10_reach 238 = .ok (.iconst 1, 1) := by decide +kernel
theorem dX10_reach_239 : decode cX10_reach 239 = .ok (.goto 4, 3) := by decide +kernel
theorem dX10_reach_242 : decode cX10_reach 242 = .ok (.iconst 0, 1) := by decide +kernel
theorem dX10_reach_243 : decode cX10_reach 243 = .ok (.ireturn, 1) := by decide +kernel
theorem dX10_found_0 : decode cX10_found 0 = .ok (.aload_n 0, 1) := by decide +kernel
theorem dX10_found_1 : decode cX10_found 1 = .ok (.iload_n 1, 1) := by decide +kernel
theorem dX10_found_2 : decode cX10_found 2 = .ok (.invokevirtual 114, 3) := by decide +kernel
theorem dX10_found_5 : decode cX10_found 5 = .ok (.ifCond .eq 8, 3) := by decide +kernel
theorem dX10_found_8 : decode cX10_found 8 = .ok (.ldc 90, 2) := by decide +kernel
theorem dX10_found_10 : decode cX10_found 10 = .ok (.goto 9, 3) := by decide +kernel
theorem dX10_found_13 : decode cX10_found 13 = .ok (.aload_n 0, 1) := by decide +kernel
theorem dX10_found_14 : decode cX10_found 14 = .ok (.getfield 87, 3) := by decide +kernel
theorem dX10_found_17 : decode cX10_found 17 = .ok (.iload_n 1, 1) := by decide +kernel
theorem dX10_found_18 : decode cX10_found 18 = .ok (.iaload, 1) := by decide +kernel
theorem dX10_found_19 : decode cX10_found 19 = .ok (.ireturn, 1) := by decide +kernel
theorem dX10_tried_0 : decode cX10_tried 0 = .ok (.aload_n 0, 1) := by decide +kernel
theorem dX10_tried_1 : decode cX10_tried 1 = .ok (.getfield 213, 3) := by decide +kernel
theorem dX10_tried_4 : decode cX10_tried 4 = .ok (.ireturn, 1) := by decide +kernel
theorem dX10_asked_0 : decode cX10_asked 0 = .ok (.iconst 0, 1) := by decide +kernel
theorem dX10_asked_1 : decode cX10_asked 1 = .ok (.istore_n 1, 1) := by decide +kernel
theorem dX10_asked_2 : decode cX10_asked 2 = .ok (.iconst 0, 1) := by decide +kernel
theorem dX10_asked_3 : decode cX10_asked 3 = .ok (.istore_n 2, 1) := by decide +kernel
theorem dX10_asked_4 : decode cX10_asked 4 = .ok (.iload_n 2, 1) := by decide +kernel
theorem dX10_asked_5 : decode cX10_asked 5 = .ok (.aload_n 0, 1) := by decide +kernel
theorem dX10_asked_6 : decode cX10_asked 6 = .ok (.getfield 95, 3) := by decide +kernel
theorem dX10_asked_9 : decode cX10_asked 9 = .ok (.if_icmp .ge 26, 3) := by decide +kernel
theorem dX10_asked_12 : decode cX10_asked 12 = .ok (.iload_n 1, 1) := by decide +kernel
theorem dX10_asked_13 : decode cX10_asked 13 = .ok (.aload_n 0, 1) := by decide +kernel
theorem dX10_asked_14 : decode cX10_asked 14 = .ok (.getfield 16, 3) := by decide +kernel
theorem dX10_asked_17 : decode cX10_asked 17 = .ok (.iload_n 2, 1) := by decide +kernel
theorem dX10_asked_18 : decode cX10_asked 18 = .ok (.iaload, 1) := by decide +kernel
theorem dX10_asked_19 : decode cX10_asked 19 = .ok (.ifCond .ne 7, 3) := by decide +kernel
theorem dX10_asked_22 : decode cX10_asked 22 = .ok (.iconst 1, 1) := by decide +kernel
theorem dX10_asked_23 : decode cX10_asked 23 = .ok (.goto 4, 3) := by decide +kernel
theorem dX10_asked_26 : decode cX10_asked 26 = .ok (.iconst 0, 1) := by decide +kernel
theorem dX10_asked_27 : decode cX10_asked 27 = .ok (.iadd, 1) := by decide +kernel
theorem dX10_asked_28 : decode cX10_asked 28 = .ok (.istore_n 1, 1) := by decide +kernel
theorem dX10_asked_29 : decode cX10_asked 29 = .ok (.iinc 2 1, 3) := by decide +kernel
theorem dX10_asked_32 : decode cX10_asked 32 = .ok (.goto (-28), 3) := by decide +kernel
theorem dX10_asked_35 : decode cX10_asked 35 = .ok (.iload_n 1, 1) := by decide +kernel
theorem dX10_asked_36 : decode cX10_asked 36 = .ok (.ireturn, 1) := by decide +kernel
theorem dX10_told_0 : decode cX10_told 0 = .ok (.iconst 0, 1) := by decide +kernel
theorem dX10_told_1 : decode cX10_told 1 = .ok (.istore_n 2, 1) := by decide +kernel
theorem dX10_told_2 : decode cX10_told 2 = .ok (.iload_n 1, 1) := by decide +kernel
theorem dX10_told_3 : decode cX10_told 3 = .ok (.bipush 10, 2) := by decide +kernel
theorem dX10_told_5 : decode cX10_told 5 = .ok (.bipush 13, 2) := by decide +kernel
theorem dX10_told_7 : decode cX10_told 7 = .ok (.invokestatic 99, 3) := by decide +kernel
theorem dX10_told_10 : decode cX10_told 10 = .ok (.ifCond .eq 48, 3) := by decide +kernel
theorem dX10_told_13 : decode cX10_told 13 = .ok (.iconst 0, 1) := by decide +kernel
theorem dX10_told_14 : decode cX10_told 14 = .ok (.istore_n 3, 1) := by decide +kernel
theorem dX10_told_15 : decode cX10_told 15 = .ok (.iload_n 3, 1) := by decide +kernel
theorem dX10_told_16 : decode cX10_told 16 = .ok (.aload_n 0, 1) := by decide +kernel
theorem dX10_told_17 : decode cX10_told 17 = .ok (.getfield 95, 3) := by decide +kernel
theorem dX10_told_20 : decode cX10_told 20 = .ok (.if_icmp .ge 36, 3) := by decide +kernel
theorem dX10_told_23 : decode cX10_told 23 = .ok (.iload_n 2, 1) := by decide +kernel
theorem dX10_told_24 : decode cX10_told 24 = .ok (.aload_n 0, 1) := by decide +kernel
theorem dX10_told_25 : decode cX10_told 25 = .ok (.getfield 66, 3) := by decide +kernel
theorem dX10_told_28 : decode cX10_told 28 = .ok (.bipush 12, 2) := by decide +kernel
theorem dX10_told_30 : decode cX10_told 30 = .ok (.iload_n 1, 1) := by decide +kernel
theorem dX10_told_31 : decode cX10_told 31 = .ok (.bipush 10, 2) := by decide +kernel
theorem dX10_told_33 : decode cX10_told 33 = .ok (.isub, 1) := by decide +kernel
theorem dX10_told_34 : decode cX10_told 34 = .ok (.imul, 1) := by decide +kernel
theorem dX10_told_35 : decode cX10_told 35 = .ok (.iload_n 3, 1) := by decide +kernel
theorem dX10_told_36 : decode cX10_told 36 = .ok (.iadd, 1) := by decide +kernel
theorem dX10_told_37 : decode cX10_told 37 = .ok (.iaload, 1) := by decide +kernel
theorem dX10_told_38 : decode cX10_told 38 = .ok (.ldc 90, 2) := by decide +kernel
theorem dX10_told_40 : decode cX10_told 40 = .ok (.if_icmp .eq 7, 3) := by decide +kernel
theorem dX10_told_43 : decode cX10_told 43 = .ok (.iconst 1, 1) := by decide +kernel
theorem dX10_told_44 : decode cX10_told 44 = .ok (.goto 4, 3) := by decide +kernel
theorem dX10_told_47 : decode cX10_told 47 = .ok (.iconst 0, 1) := by decide +kernel
theorem dX10_told_48 : decode cX10_told 48 = .ok (.iadd, 1) := by decide +kernel
theorem dX10_told_49 : decode cX10_told 49 = .ok (.istore_n 2, 1) := by decide +kernel
theorem dX10_told_50 : decode cX10_told 50 = .ok (.iinc 3 1, 3) := by decide +kernel
theorem dX10_told_53 : decode cX10_told 53 = .ok (.goto (-38), 3) := by decide +kernel
theorem dX10_told_56 : decode cX10_told 56 = .ok (.iload_n 2, 1) := by decide +kernel
theorem dX10_told_57 : decode cX10_told 57 = .ok (.ireturn, 1) := by decide +kernel
theorem dX10_told_58 : decode cX10_told 58 = .ok (.iload_n 1, 1) := by decide +kernel
theorem dX10_told_59 : decode cX10_told 59 = .ok (.tableswitch 96 0 5 #[37, 42, 47, 52, 57, 91], 37) := by decide +kernel
theorem dX10_told_96 : decode cX10_told 96 = .ok (.aload_n 0, 1) := by decide +kernel
theorem dX10_told_97 : decode cX10_told 97 = .ok (.getfield 95, 3) := by decide +kernel
theorem dX10_told_100 : decode cX10_told 100 = .ok (.ireturn, 1) := by decide +kernel
theorem dX10_told_101 : decode cX10_told 101 = .ok (.aload_n 0, 1) := by decide +kernel
theorem dX10_told_102 : decode cX10_told 102 = .ok (.getfield 103, 3) := by decide +kernel
theorem dX10_told_105 : decode cX10_told 105 = .ok (.ireturn, 1) := by decide +kernel
theorem dX10_told_106 : decode cX10_told 106 = .ok (.aload_n 0, 1) := by decide +kernel
theorem dX10_told_107 : decode cX10_told 107 = .ok (.invokevirtual 222, 3) := by decide +kernel
theorem dX10_told_110 : decode cX10_told 110 = .ok (.ireturn, 1) := by decide +kernel
theorem dX10_told_111 : decode cX10_told 111 = .ok (.aload_n 0, 1) := by decide +kernel
theorem dX10_told_112 : decode cX10_told 112 = .ok (.getfield 181, 3) := by decide +kernel
theorem dX10_told_115 : decode cX10_told 115 = .ok (.ireturn, 1) := by decide +kernel
theorem dX10_told_116 : decode cX10_told 116 = .ok (.iconst 0, 1) := by decide +kernel
theorem dX10_told_117 : decode cX10_told 117 = .ok (.istore_n 3, 1) := by decide +kernel
theorem dX10_told_118 : decode cX10_told 118 = .ok (.iload_n 3, 1) := by decide +kernel
theorem dX10_told_119 : decode cX10_told 119 = .ok (.aload_n 0, 1) := by decide +kernel
theorem dX10_told_120 : decode cX10_told 120 = .ok (.getfield 181, 3) := by decide +kernel
theorem dX10_told_123 : decode cX10_told 123 = .ok (.if_icmp .ge 25, 3) := by decide +kernel
theorem dX10_told_126 : decode cX10_told 126 = .ok (.iload_n 2, 1) := by decide +kernel
theorem dX10_told_127 : decode cX10_told 127 = .ok (.aload_n 0, 1) := by decide +kernel
theorem dX10_told_128 : decode cX10_told 128 = .ok (.iload_n 3, 1) := by decide +kernel
theorem dX10_told_129 : decode cX10_told 129 = .ok (.invokevirtual 206, 3) := by decide +kernel
theorem dX10_told_132 : decode cX10_told 132 = .ok (.ifCond .eq 7, 3) := by decide +kernel
theorem dX10_told_135 : decode cX10_told 135 = .ok (.iconst 1, 1) := by decide +kernel
theorem dX10_told_136 : decode cX10_told 136 = .ok (.goto 4, 3) := by decide +kernel
theorem dX10_told_139 : decode cX10_told 139 = .ok (.iconst 0, 1) := by decide +kernel
theorem dX10_told_140 : decode cX10_told 140 = .ok (.iadd, 1) := by decide +kernel
theorem dX10_told_141 : decode cX10_told 141 = .ok (.istore_n 2, 1) := by decide +kernel
theorem dX10_told_142 : decode cX10_told 142 = .ok (.iinc 3 1, 3) := by decide +kernel
theorem dX10_told_145 : decode cX10_told 145 = .ok (.goto (-27), 3) := by decide +kernel
theorem dX10_told_148 : decode cX10_told 148 = .ok (.iload_n 2, 1) := by decide +kernel
theorem dX10_told_149 : decode cX10_told 149 = .ok (.ireturn, 1) := by decide +kernel
theorem dX10_told_150 : decode cX10_told 150 = .ok (.aload_n 0, 1) := by decide +kernel
theorem dX10_told_151 : decode cX10_told 151 = .ok (.getfield 200, 3) := by decide +kernel
theorem dX10_told_154 : decode cX10_told 154 = .ok (.ireturn, 1) := by decide +kernel
theorem dX10_told_155 : decode cX10_told 155 = .ok (.bipush (-2), 2) := by decide +kernel
theorem dX10_told_157 : decode cX10_told 157 = .ok (.ireturn, 1) := by decide +kernel
theorem dX10_traced_0 : decode cX10_traced 0 = .ok (.aload_n 0, 1) := by decide +kernel
theorem dX10_traced_1 : decode cX10_traced 1 = .ok (.bipush 31, 2) := by decide +kernel
theorem dX10_traced_3 : decode cX10_traced 3 = .ok (.aload_n 0, 1) := by decide +kernel
theorem dX10_traced_4 : decode cX10_traced 4 = .ok (.getfield 226, 3) := by decide +kernel
theorem dX10_traced_7 : decode cX10_traced 7 = .ok (.imul, 1) := by decide +kernel
theorem dX10_traced_8 : decode cX10_traced 8 = .ok (.iload_n 1, 1) := by decide +kernel
theorem dX10_traced_9 : decode cX10_traced 9 = .ok (.iadd, 1) := by decide +kernel
theorem dX10_traced_10 : decode cX10_traced 10 = .ok (.putfield 226, 3) := by decide +kernel
theorem dX10_traced_13 : decode cX10_traced 13 = .ok (.return_, 1) := by decide +kernel
theorem dX10_tell_0 : decode cX10_tell 0 = .ok (.aload_n 0, 1) := by decide +kernel
theorem dX10_tell_1 : decode cX10_tell 1 = .ok (.iload_n 1, 1) := by decide +kernel
theorem dX10_tell_2 : decode cX10_tell 2 = .ok (.invokevirtual 114, 3) := by decide +kernel
theorem dX10_tell_5 : decode cX10_tell 5 = .ok (.ifCond .eq 5, 3) := by decide +kernel
theorem dX10_tell_8 : decode cX10_tell 8 = .ok (.iconst (-1), 1) := by decide +kernel
theorem dX10_tell_9 : decode cX10_tell 9 = .ok (.ireturn, 1) := by decide +kernel
theorem dX10_tell_10 : decode cX10_tell 10 = .ok (.aload_n 0, 1) := by decide +kernel
theorem dX10_tell_11 : decode cX10_tell 11 = .ok (.getfield 19, 3) := by decide +kernel
theorem dX10_tell_14 : decode cX10_tell 14 = .ok (.iconst 4, 1) := by decide +kernel
theorem dX10_tell_15 : decode cX10_tell 15 = .ok (.iload_n 1, 1) := by decide +kernel
theorem dX10_tell_16 : decode cX10_tell 16 = .ok (.imul, 1) := by decide +kernel
theorem dX10_tell_17 : decode cX10_tell 17 = .ok (.iconst 1, 1) := by decide +kernel
theorem dX10_tell_18 : decode cX10_tell 18 = .ok (.iadd, 1) := by decide +kernel
theorem dX10_tell_19 : decode cX10_tell 19 = .ok (.iaload, 1) := by decide +kernel
theorem dX10_tell_20 : decode cX10_tell 20 = .ok (.ifCond .lt 7, 3) := by decide +kernel
theorem dX10_tell_23 : decode cX10_tell 23 = .ok (.iconst 1, 1) := by decide +kernel
theorem dX10_tell_24 : decode cX10_tell 24 = .ok (.goto 4, 3) := by decide +kernel
theorem dX10_tell_27 : decode cX10_tell 27 = .ok (.iconst 0, 1) := by decide +kernel
theorem dX10_tell_28 : decode cX10_tell 28 = .ok (.istore_n 2, 1) := by decide +kernel
theorem dX10_tell_29 : decode cX10_tell 29 = .ok (.iload_n 2, 1) := by decide +kernel
theorem dX10_tell_30 : decode cX10_tell 30 = .ok (.ifCond .eq 8, 3) := by decide +kernel
theorem dX10_tell_33 : decode cX10_tell 33 = .ok (.aload_n 0, 1) := by decide +kernel
theorem dX10_tell_34 : decode cX10_tell 34 = .ok (.iconst 3, 1) := by decide +kernel
theorem dX10_tell_35 : decode cX10_tell 35 = .ok (.invokevirtual 229, 3) := by decide +kernel
theorem dX10_tell_38 : decode cX10_tell 38 = .ok (.aload_n 0, 1) := by decide +kernel
theorem dX10_tell_39 : decode cX10_tell 39 = .ok (.getfield 16, 3) := by decide +kernel
theorem dX10_tell_42 : decode cX10_tell 42 = .ok (.iload_n 1, 1) := by decide +kernel
theorem dX10_tell_43 : decode cX10_tell 43 = .ok (.iaload, 1) := by decide +kernel
theorem dX10_tell_44 : decode cX10_tell 44 = .ok (.iconst 1, 1) := by decide +kernel
theorem dX10_tell_45 : decode cX10_tell 45 = .ok (.if_icmp .ne 8, 3) := by decide +kernel
theorem dX10_tell_48 : decode cX10_tell 48 = .ok (.aload_n 0, 1) := by decide +kernel
theorem dX10_tell_49 : decode cX10_tell 49 = .ok (.iconst 2, 1) := by decide +kernel
theorem dX10_tell_50 : decode cX10_tell 50 = .ok (.invokevirtual 229, 3) := by decide +kernel
theorem dX10_tell_53 : decode cX10_tell 53 = .ok (.aload_n 0, 1) := by decide +kernel
theorem dX10_tell_54 : decode cX10_tell 54 = .ok (.iconst 1, 1) := by decide +kernel
theorem dX10_tell_55 : decode cX10_tell 55 = .ok (.invokevirtual 229, 3) := by decide +kernel
theorem dX10_tell_58 : decode cX10_tell 58 = .ok (.aload_n 0, 1) := by decide +kernel
theorem dX10_tell_59 : decode cX10_tell 59 = .ok (.getfield 13, 3) := by decide +kernel
theorem dX10_tell_62 : decode cX10_tell 62 = .ok (.iload_n 1, 1) := by decide +kernel
theorem dX10_tell_63 : decode cX10_tell 63 = .ok (.iaload, 1) := by decide +kernel
theorem dX10_tell_64 : decode cX10_tell 64 = .ok (.aload_n 0, 1) := by decide +kernel
theorem dX10_tell_65 : decode cX10_tell 65 = .ok (.getfield 7, 3) := by decide +kernel
theorem dX10_tell_68 : decode cX10_tell 68 = .ok (.iload_n 1, 1) := by decide +kernel
theorem dX10_tell_69 : decode cX10_tell 69 = .ok (.iaload, 1) := by decide +kernel
theorem dX10_tell_70 : decode cX10_tell 70 = .ok (.isub, 1) := by decide +kernel
theorem dX10_tell_71 : decode cX10_tell 71 = .ok (.aload_n 0, 1) := by decide +kernel
theorem dX10_tell_72 : decode cX10_tell 72 = .ok (.getfield 16, 3) := by decide +kernel
theorem dX10_tell_75 : decode cX10_tell 75 = .ok (.iload_n 1, 1) := by decide +kernel
theorem dX10_tell_76 : decode cX10_tell 76 = .ok (.iaload, 1) := by decide +kernel
theorem dX10_tell_77 : decode cX10_tell 77 = .ok (.iconst 1, 1) := by decide +kernel
theorem dX10_tell_78 : decode cX10_tell 78 = .ok (.if_icmp .ne 9, 3) := by decide +kernel
theorem dX10_tell_81 : decode cX10_tell 81 = .ok (.sipush 1000, 3) := by decide +kernel
theorem dX10_tell_84 : decode cX10_tell 84 = .ok (.goto 4, 3) := by decide +kernel
theorem dX10_tell_87 : decode cX10_tell 87 = .ok (.iconst 0, 1) := by decide +kernel
theorem dX10_tell_88 : decode cX10_tell 88 = .ok (.iadd, 1) := by decide +kernel
theorem dX10_tell_89 : decode cX10_tell 89 = .ok (.istore_n 3, 1) := by decide +kernel
theorem dX10_tell_90 : decode cX10_tell 90 = .ok (.iload_n 2, 1) := by decide +kernel
theorem dX10_tell_91 : decode cX10_tell 91 = .ok (.ifCond .eq 9, 3) := by decide +kernel
theorem dX10_tell_94 : decode cX10_tell 94 = .ok (.iconst 2, 1) := by decide +kernel
theorem dX10_tell_95 : decode cX10_tell 95 = .ok (.iload_n 3, 1) := by decide +kernel
theorem dX10_tell_96 : decode cX10_tell 96 = .ok (.imul, 1) := by decide +kernel
theorem dX10_tell_97 : decode cX10_tell 97 = .ok (.goto 4, 3) := by decide +kernel
theorem dX10_tell_100 : decode cX10_tell 100 = .ok (.iload_n 3, 1) := by decide +kernel
theorem dX10_tell_101 : decode cX10_tell 101 = .ok (.ireturn, 1) := by decide +kernel
theorem dX10_address_0 : decode cX10_address 0 = .ok (.aload_n 0, 1) := by decide +kernel
theorem dX10_address_1 : decode cX10_address 1 = .ok (.iload_n 1, 1) := by decide +kernel
theorem dX10_address_2 : decode cX10_address 2 = .ok (.invokevirtual 114, 3) := by decide +kernel
theorem dX10_address_5 : decode cX10_address 5 = .ok (.ifCond .eq 5, 3) := by decide +kernel
theorem dX10_address_8 : decode cX10_address 8 = .ok (.iconst (-1), 1) := by decide +kernel
theorem dX10_address_9 : decode cX10_address 9 = .ok (.ireturn, 1) := by decide +kernel
theorem dX10_address_10 : decode cX10_address 10 = .ok (.aload_n 0, 1) := by decide +kernel
theorem dX10_address_11 : decode cX10_address 11 = .ok (.aload_n 0, 1) := by decide +kernel
theorem dX10_address_12 : decode cX10_address 12 = .ok (.getfield 16, 3) := by decide +kernel
theorem dX10_address_15 : decode cX10_address 15 = .ok (.iload_n 1, 1) := by decide +kernel
theorem dX10_address_16 : decode cX10_address 16 = .ok (.iaload, 1) := by decide +kernel
theorem dX10_address_17 : decode cX10_address 17 = .ok (.iconst 1, 1) := by decide +kernel
theorem dX10_address_18 : decode cX10_address 18 = .ok (.if_icmp .ne 7, 3) := by decide +kernel
theorem dX10_address_21 : decode cX10_address 21 = .ok (.iconst 5, 1) := by decide +kernel
theorem dX10_address_22 : decode cX10_address 22 = .ok (.goto 4, 3) := by decide +kernel
theorem dX10_address_25 : decode cX10_address 25 = .ok (.iconst 4, 1) := by decide +kernel
theorem dX10_address_26 : decode cX10_address 26 = .ok (.invokevirtual 229, 3) := by decide +kernel
theorem dX10_address_29 : decode cX10_address 29 = .ok (.aload_n 0, 1) := by decide +kernel
theorem dX10_address_30 : decode cX10_address 30 = .ok (.getfield 16, 3) := by decide +kernel
theorem dX10_address_33 : decode cX10_address 33 = .ok (.iload_n 1, 1) := by decide +kernel
theorem dX10_address_34 : decode cX10_address 34 = .ok (.iaload, 1) := by decide +kernel
theorem dX10_address_35 : decode cX10_address 35 = .ok (.iconst 1, 1) := by decide +kernel
theorem dX10_address_36 : decode cX10_address 36 = .ok (.if_icmp .ne 7, 3) := by decide +kernel
theorem dX10_address_39 : decode cX10_address 39 = .ok (.iconst 5, 1) := by decide +kernel
theorem dX10_address_40 : decode cX10_address 40 = .ok (.goto 7, 3) := by decide +kernel
theorem dX10_address_43 : decode cX10_address 43 = .ok (.bipush 10, 2) := by decide +kernel
theorem dX10_address_45 : decode cX10_address 45 = .ok (.iload_n 1, 1) := by decide +kernel
theorem dX10_address_46 : decode cX10_address 46 = .ok (.imul, 1) := by decide +kernel
theorem dX10_address_47 : decode cX10_address 47 = .ok (.ireturn, 1) := by decide +kernel
theorem dX10_trace_0 : decode cX10_trace 0 = .ok (.aload_n 0, 1) := by decide +kernel
theorem dX10_trace_1 : decode cX10_trace 1 = .ok (.getfield 226, 3) := by decide +kernel
theorem dX10_trace_4 : decode cX10_trace 4 = .ok (.ireturn, 1) := by decide +kernel
