theorem dX0_init_0 : decode cX0_init 0 = .ok (.aload_n 0, 1) := by decide +kernel
theorem dX0_init_1 : decode cX0_init 1 = .ok (.invokespecial 3, 3) := by decide +kernel
theorem dX0_init_4 : decode cX0_init 4 = .ok (.aload_n 0, 1) := by decide +kernel
theorem dX0_init_5 : decode cX0_init 5 = .ok (.bipush 12, 2) := by decide +kernel
theorem dX0_init_7 : decode cX0_init 7 = .ok (.newarray .int, 2) := by decide +kernel
theorem dX0_init_9 : decode cX0_init 9 = .ok (.putfield 9, 3) := by decide +kernel
theorem dX0_init_12 : decode cX0_init 12 = .ok (.aload_n 0, 1) := by decide +kernel
theorem dX0_init_13 : decode cX0_init 13 = .ok (.bipush 12, 2) := by decide +kernel
theorem dX0_init_15 : decode cX0_init 15 = .ok (.newarray .int, 2) := by decide +kernel
theorem dX0_init_17 : decode cX0_init 17 = .ok (.putfield 15, 3) := by decide +kernel
theorem dX0_init_20 : decode cX0_init 20 = .ok (.aload_n 0, 1) := by decide +kernel
theorem dX0_init_21 : decode cX0_init 21 = .ok (.bipush 12, 2) := by decide +kernel
theorem dX0_init_23 : decode cX0_init 23 = .ok (.newarray .boolean, 2) := by decide +kernel
theorem dX0_init_25 : decode cX0_init 25 = .ok (.putfield 18, 3) := by decide +kernel
theorem dX0_init_28 : decode cX0_init 28 = .ok (.aload_n 0, 1) := by decide +kernel
theorem dX0_init_29 : decode cX0_init 29 = .ok (.bipush 12, 2) := by decide +kernel
theorem dX0_init_31 : decode cX0_init 31 = .ok (.iconst 4, 1) := by decide +kernel
theorem dX0_init_32 : decode cX0_init 32 = .ok (.multianewarray 22 2, 4) := by decide +kernel
theorem dX0_init_36 : decode cX0_init 36 = .ok (.putfield 24, 3) := by decide +kernel
theorem dX0_init_39 : decode cX0_init 39 = .ok (.aload_n 0, 1) := by decide +kernel
theorem dX0_init_40 : decode cX0_init 40 = .ok (.bipush 12, 2) := by decide +kernel
theorem dX0_init_42 : decode cX0_init 42 = .ok (.newarray .int, 2) := by decide +kernel
theorem dX0_init_44 : decode cX0_init 44 = .ok (.putfield 27, 3) := by decide +kernel
theorem dX0_init_47 : decode cX0_init 47 = .ok (.aload_n 0, 1) := by decide +kernel
theorem dX0_init_48 : decode cX0_init 48 = .ok (.bipush 12, 2) := by decide +kernel
theorem dX0_init_50 : decode cX0_init 50 = .ok (.newarray .int, 2) := by decide +kernel
theorem dX0_init_52 : decode cX0_init 52 = .ok (.putfield 30, 3) := by decide +kernel
theorem dX0_init_55 : decode cX0_init 55 = .ok (.return_, 1) := by decide +kernel
theorem dX0_has_0 : decode cX0_has 0 = .ok (.iload_n 1, 1) := by decide +kernel
theorem dX0_has_1 : decode cX0_has 1 = .ok (.ifCond .lt 15, 3) := by decide +kernel
theorem dX0_has_4 : decode cX0_has 4 = .ok (.iload_n 1, 1) := by decide +kernel
theorem dX0_has_5 : decode cX0_has 5 = .ok (.aload_n 0, 1) := by decide +kernel
theorem dX0_has_6 : decode cX0_has 6 = .ok (.getfield 33, 3) := by decide +kernel
theorem dX0_has_9 : decode cX0_has 9 = .ok (.if_icmp .ge 7, 3) := by decide +kernel
theorem dX0_has_12 : decode cX0_has 12 = .ok (.iconst 1, 1) := by decide +kernel
theorem dX0_has_13 : decode cX0_has 13 = .ok (.goto 4, 3) := by decide +kernel
theorem dX0_has_16 : decode cX0_has 16 = .ok (.iconst 0, 1) := by decide +kernel
theorem dX0_has_17 : decode cX0_has 17 = .ok (.ireturn, 1) := by decide +kernel
theorem dX0_add_0 : decode cX0_add 0 = .ok (.aload_n 0, 1) := by decide +kernel
theorem dX0_add_1 : decode cX0_add 1 = .ok (.getfield 33, 3) := by decide +kernel
theorem dX0_add_4 : decode cX0_add 4 = .ok (.bipush 12, 2) := by decide +kernel
theorem dX0_add_6 : decode cX0_add 6 = .ok (.if_icmp .lt 6, 3) := by decide +kernel
theorem dX0_add_9 : decode cX0_add 9 = .ok (.bipush (-4), 2) := by decide +kernel
theorem dX0_add_11 : decode cX0_add 11 = .ok (.ireturn, 1) := by decide +kernel
theorem dX0_add_12 : decode cX0_add 12 = .ok (.aload_n 0, 1) := by decide +kernel
theorem dX0_add_13 : decode cX0_add 13 = .ok (.getfield 9, 3) := by decide +kernel
theorem dX0_add_16 : decode cX0_add 16 = .ok (.aload_n 0, 1) := by decide +kernel
theorem dX0_add_17 : decode cX0_add 17 = .ok (.getfield 33, 3) := by decide +kernel
theorem dX0_add_20 : decode cX0_add 20 = .ok (.iload_n 1, 1) := by decide +kernel
theorem dX0_add_21 : decode cX0_add 21 = .ok (.iastore, 1) := by decide +kernel
theorem dX0_add_22 : decode cX0_add 22 = .ok (.aload_n 0, 1) := by decide +kernel
theorem dX0_add_23 : decode cX0_add 23 = .ok (.getfield 15, 3) := by decide +kernel
theorem dX0_add_26 : decode cX0_add 26 = .ok (.aload_n 0, 1) := by decide +kernel
theorem dX0_add_27 : decode cX0_add 27 = .ok (.getfield 33, 3) := by decide +kernel
theorem dX0_add_30 : decode cX0_add 30 = .ok (.iload_n 2, 1) := by decide +kernel
theorem dX0_add_31 : decode cX0_add 31 = .ok (.iastore, 1) := by decide +kernel
theorem dX0_add_32 : decode cX0_add 32 = .ok (.aload_n 0, 1) := by decide +kernel
theorem dX0_add_33 : decode cX0_add 33 = .ok (.getfield 18, 3) := by decide +kernel
theorem dX0_add_36 : decode cX0_add 36 = .ok (.aload_n 0, 1) := by decide +kernel
theorem dX0_add_37 : decode cX0_add 37 = .ok (.getfield 33, 3) := by decide +kernel
theorem dX0_add_40 : decode cX0_add 40 = .ok (.iload_n 3, 1) := by decide +kernel
theorem dX0_add_41 : decode cX0_add 41 = .ok (.bastore, 1) := by decide +kernel
theorem dX0_add_42 : decode cX0_add 42 = .ok (.aload_n 0, 1) := by decide +kernel
theorem dX0_add_43 : decode cX0_add 43 = .ok (.getfield 24, 3) := by decide +kernel
theorem dX0_add_46 : decode cX0_add 46 = .ok (.aload_n 0, 1) := by decide +kernel
theorem dX0_add_47 : decode cX0_add 47 = .ok (.getfield 33, 3) := by decide +kernel
theorem dX0_add_50 : decode cX0_add 50 = .ok (.aaload, 1) := by decide +kernel
theorem dX0_add_51 : decode cX0_add 51 = .ok (.bipush (-9), 2) := by decide +kernel
theorem dX0_add_53 : decode cX0_add 53 = .ok (.invokestatic 37, 3) := by decide +kernel
theorem dX0_add_56 : decode cX0_add 56 = .ok (.aload_n 0, 1) := by decide +kernel
theorem dX0_add_57 : decode cX0_add 57 = .ok (.dup, 1) := by decide +kernel
theorem dX0_add_58 : decode cX0_add 58 = .ok (.getfield 33, 3) := by decide +kernel
theorem dX0_add_61 : decode cX0_add 61 = .ok (.iconst 1, 1) := by decide +kernel
theorem dX0_add_62 : decode cX0_add 62 = .ok (.iadd, 1) := by decide +kernel
theorem dX0_add_63 : decode cX0_add 63 = .ok (.putfield 33, 3) := by decide +kernel
theorem dX0_add_66 : decode cX0_add 66 = .ok (.aload_n 0, 1) := by decide +kernel
theorem dX0_add_67 : decode cX0_add 67 = .ok (.getfield 33, 3) := by decide +kernel
theorem dX0_add_70 : decode cX0_add 70 = .ok (.iconst 1, 1) := by decide +kernel
theorem dX0_add_71 : decode cX0_add 71 = .ok (.isub, 1) := by decide +kernel
theorem dX0_add_72 : decode cX0_add 72 = .ok (.ireturn, 1) := by decide +kernel
theorem dX0_inSpan_0 : decode cX0_inSpan 0 = .ok (.iload_n 2, 1) := by decide +kernel
theorem dX0_inSpan_1 : decode cX0_inSpan 1 = .ok (.aload_n 0, 1) := by decide +kernel
theorem dX0_inSpan_2 : decode cX0_inSpan 2 = .ok (.getfield 9, 3) := by decide +kernel
theorem dX0_inSpan_5 : decode cX0_inSpan 5 = .ok (.iload_n 1, 1) := by decide +kernel
theorem dX0_inSpan_6 : decode cX0_inSpan 6 = .ok (.iaload, 1) := by decide +kernel
theorem dX0_inSpan_7 : decode cX0_inSpan 7 = .ok (.if_icmp .lt 17, 3) := by decide +kernel
theorem dX0_inSpan_10 : decode cX0_inSpan 10 = .ok (.iload_n 2, 1) := by decide +kernel
theorem dX0_inSpan_11 : decode cX0_inSpan 11 = .ok (.aload_n 0, 1) := by decide +kernel
theorem dX0_inSpan_12 : decode cX0_inSpan 12 = .ok (.getfield 15, 3) := by decide +kernel
theorem dX0_inSpan_15 : decode cX0_inSpan 15 = .ok (.iload_n 1, 1) := by decide +kernel
theorem dX0_inSpan_16 : decode cX0_inSpan 16 = .ok (.iaload, 1) := by decide +kernel
theorem dX0_inSpan_17 : decode cX0_inSpan 17 = .ok (.if_icmp .gt 7, 3) := by decide +kernel
theorem dX0_inSpan_20 : decode cX0_inSpan 20 = .ok (.iconst 1, 1) := by decide +kernel
theorem dX0_inSpan_21 : decode cX0_inSpan 21 = .ok (.goto 4, 3) := by decide +kernel
theorem dX0_inSpan_24 : decode cX0_inSpan 24 = .ok (.iconst 0, 1) := by decide +kernel
theorem dX0_inSpan_25 : decode cX0_inSpan 25 = .ok (.ireturn, 1) := by decide +kernel
theorem dX0_askedBits_0 : decode cX0_askedBits 0 = .ok (.iconst 0, 1) := by decide +kernel
theorem dX0_askedBits_1 : decode cX0_askedBits 1 = .ok (.istore_n 1, 1) := by decide +kernel
theorem dX0_askedBits_2 : decode cX0_askedBits 2 = .ok (.iconst 0, 1) := by decide +kernel
theorem dX0_askedBits_3 : decode cX0_askedBits 3 = .ok (.istore_n 2, 1) := by decide +kernel
theorem dX0_askedBits_4 : decode cX0_askedBits 4 = .ok (.iload_n 2, 1) := by decide +kernel
theorem dX0_askedBits_5 : decode cX0_askedBits 5 = .ok (.aload_n 0, 1) := by decide +kernel
theorem dX0_askedBits_6 : decode cX0_askedBits 6 = .ok (.getfield 33, 3) := by decide +kernel
theorem dX0_askedBits_9 : decode cX0_askedBits 9 = .ok (.if_icmp .ge 24, 3) := by decide +kernel
theorem dX0_askedBits_12 : decode cX0_askedBits 12 = .ok (.aload_n 0, 1) := by decide +kernel
theorem dX0_askedBits_13 : decode cX0_askedBits 13 = .ok (.getfield 18, 3) := by decide +kernel
theorem dX0_askedBits_16 : decode cX0_askedBits 16 = .ok (.iload_n 2, 1) := by decide +kernel
theorem dX0_askedBits_17 : decode cX0_askedBits 17 = .ok (.baload, 1) := by decide +kernel
theorem dX0_askedBits_18 : decode cX0_askedBits 18 = .ok (.ifCond .ne 9, 3) := by decide +kernel
theorem dX0_askedBits_21 : decode cX0_askedBits 21 = .ok (.iload_n 1, 1) := by decide +kernel
theorem dX0_askedBits_22 : decode cX0_askedBits 22 = .ok (.iconst 1, 1) := by decide +kernel
theorem dX0_askedBits_23 : decode cX0_askedBits 23 = .ok (.iload_n 2, 1) := by decide +kernel
theorem dX0_askedBits_24 : decode cX0_askedBits 24 = .ok (.ishl, 1) := by decide +kernel
theorem dX0_askedBits_25 : decode cX0_askedBits 25 = .ok (.ior, 1) := by decide +kernel
theorem dX0_askedBits_26 : decode cX0_askedBits 26 = .ok (.istore_n 1, 1) := by decide +kernel
theorem dX0_askedBits_27 : decode cX0_askedBits 27 = .ok (.iinc 2 1, 3) := by decide +kernel
theorem dX0_askedBits_30 : decode cX0_askedBits 30 = .ok (.goto (-26), 3) := by decide +kernel
theorem dX0_askedBits_33 : decode cX0_askedBits 33 = .ok (.iload_n 1, 1) := by decide +kernel
theorem dX0_askedBits_34 : decode cX0_askedBits 34 = .ok (.ireturn, 1) := by decide +kernel
theorem dX0_hangersOn_0 : decode cX0_hangersOn 0 = .ok (.iconst 0, 1) := by decide +kernel
theorem dX0_hangersOn_1 : decode cX0_hangersOn 1 = .ok (.istore_n 2, 1) := by decide +kernel
theorem dX0_hangersOn_2 : decode cX0_hangersOn 2 = .ok (.iconst 0, 1) := by decide +kernel
theorem dX0_hangersOn_3 : decode cX0_hangersOn 3 = .ok (.istore_n 3, 1) := by decide +kernel
theorem dX0_hangersOn_4 : decode cX0_hangersOn 4 = .ok (.iload_n 3, 1) := by decide +kernel
theorem dX0_hangersOn_5 : decode cX0_hangersOn 5 = .ok (.aload_n 0, 1) := by decide +kernel
theorem dX0_hangersOn_6 : decode cX0_hangersOn 6 = .ok (.getfield 33, 3) := by decide +kernel
theorem dX0_hangersOn_9 : decode cX0_hangersOn 9 = .ok (.if_icmp .ge 25, 3) := by decide +kernel
theorem dX0_hangersOn_12 : decode cX0_hangersOn 12 = .ok (.iload_n 2, 1) := by decide +kernel
theorem dX0_hangersOn_13 : decode cX0_hangersOn 13 = .ok (.aload_n 0, 1) := by decide +kernel
theorem dX0_hangersOn_14 : decode cX0_hangersOn 14 = .ok (.getfield 30, 3) := by decide +kernel
theorem dX0_hangersOn_17 : decode cX0_hangersOn 17 = .ok (.iload_n 3, 1) := by decide +kernel
theorem dX0_hangersOn_18 : decode cX0_hangersOn 18 = .ok (.iaload, 1) := by decide +kernel
theorem dX0_hangersOn_19 : decode cX0_hangersOn 19 = .ok (.iload_n 1, 1) := by decide +kernel
theorem dX0_hangersOn_20 : decode cX0_hangersOn 20 = .ok (.invokestatic 43, 3) := by decide +kernel
theorem dX0_hangersOn_23 : decode cX0_hangersOn 23 = .ok (.invokestatic 47, 3) := by decide +kernel
theorem dX0_hangersOn_26 : decode cX0_hangersOn 26 = .ok (.iadd, 1) := by decide +kernel
theorem dX0_hangersOn_27 : decode cX0_hangersOn 27 = .ok (.istore_n 2, 1) := by decide +kernel
theorem dX0_hangersOn_28 : decode cX0_hangersOn 28 = .ok (.iinc 3 1, 3) := by decide +kernel
theorem dX0_hangersOn_31 : decode cX0_hangersOn 31 = .ok (.goto (-27), 3) := by decide +kernel
theorem dX0_hangersOn_34 : decode cX0_hangersOn 34 = .ok (.iload_n 2, 1) := by decide +kernel
theorem dX0_hangersOn_35 : decode cX0_hangersOn 35 = .ok (.ireturn, 1) := by decide +kernel
theorem dX0_spread_0 : decode cX0_spread 0 = .ok (.iload_n 1, 1) := by decide +kernel
theorem dX0_spread_1 : decode cX0_spread 1 = .ok (.istore_n 2, 1) := by decide +kernel
theorem dX0_spread_2 : decode cX0_spread 2 = .ok (.iconst 0, 1) := by decide +kernel
theorem dX0_spread_3 : decode cX0_spread 3 = .ok (.istore_n 3, 1) := by decide +kernel
theorem dX0_spread_4 : decode cX0_spread 4 = .ok (.iload_n 3, 1) := by decide +kernel
theorem dX0_spread_5 : decode cX0_spread 5 = .ok (.aload_n 0, 1) := by decide +kernel
theorem dX0_spread_6 : decode cX0_spread 6 = .ok (.getfield 33, 3) := by decide +kernel
theorem dX0_spread_9 : decode cX0_spread 9 = .ok (.if_icmp .ge 26, 3) := by decide +kernel
theorem dX0_spread_12 : decode cX0_spread 12 = .ok (.iload_n 1, 1) := by decide +kernel
theorem dX0_spread_13 : decode cX0_spread 13 = .ok (.iload_n 3, 1) := by decide +kernel
theorem dX0_spread_14 : decode cX0_spread 14 = .ok (.invokestatic 43, 3) := by decide +kernel
theorem dX0_spread_17 : decode cX0_spread 17 = .ok (.ifCond .eq 12, 3) := by decide +kernel
theorem dX0_spread_20 : decode cX0_spread 20 = .ok (.iload_n 2, 1) := by decide +kernel
theorem dX0_spread_21 : decode cX0_spread 21 = .ok (.aload_n 0, 1) := by decide +kernel
theorem dX0_spread_22 : decode cX0_spread 22 = .ok (.getfield 30, 3) := by decide +kernel
theorem dX0_spread_25 : decode cX0_spread 25 = .ok (.iload_n 3, 1) := by decide +kernel
theorem dX0_spread_26 : decode cX0_spread 26 = .ok (.iaload, 1) := by decide +kernel
theorem dX0_spread_27 : decode cX0_spread 27 = .ok (.ior, 1) := by decide +kernel
theorem dX0_spread_28 : decode cX0_spread 28 = .ok (.istore_n 2, 1) := by decide +kernel
theorem dX0_spread_29 : decode cX0_spread 29 = .ok (.iinc 3 1, 3) := by decide +kernel
theorem dX0_spread_32 : decode cX0_spread 32 = .ok (.goto (-28), 3) := by decide +kernel
theorem dX0_spread_35 : decode cX0_spread 35 = .ok (.iload_n 2, 1) := by decide +kernel
theorem dX0_spread_36 : decode cX0_spread 36 = .ok (.ireturn, 1) := by decide +kernel
theorem dX0_spreadHangs_0 : decode cX0_spreadHangs 0 = .ok (.iconst 0, 1) := by decide +kernel
theorem dX0_spreadHangs_1 : decode cX0_spreadHangs 1 = .ok (.istore_n 1, 1) := by decide +kernel
theorem dX0_spreadHangs_2 : decode cX0_spreadHangs 2 = .ok (.iload_n 1, 1) := by decide +kernel
theorem dX0_spreadHangs_3 : decode cX0_spreadHangs 3 = .ok (.aload_n 0, 1) := by decide +kernel
theorem dX0_spreadHangs_4 : decode cX0_spreadHangs 4 = .ok (.getfield 33, 3) := by decide +kernel
theorem dX0_spreadHangs_7 : decode cX0_spreadHangs 7 = .ok (.if_icmp .ge 21, 3) := by decide +kernel
theorem dX0_spreadHangs_10 : decode cX0_spreadHangs 10 = .ok (.aload_n 0, 1) := by decide +kernel
theorem dX0_spreadHangs_11 : decode cX0_spreadHangs 11 = .ok (.getfield 30, 3) := by decide +kernel
theorem dX0_spreadHangs_14 : decode cX0_spreadHangs 14 = .ok (.iload_n 1, 1) := by decide +kernel
theorem dX0_spreadHangs_15 : decode cX0_spreadHangs 15 = .ok (.aload_n 0, 1) := by decide +kernel
theorem dX0_spreadHangs_16 : decode cX0_spreadHangs 16 = .ok (.getfield 27, 3) := by decide +kernel
theorem dX0_spreadHangs_19 : decode cX0_spreadHangs 19 = .ok (.iload_n 1, 1) := by decide +kernel
theorem dX0_spreadHangs_20 : decode cX0_spreadHangs 20 = .ok (.iaload, 1) := by decide +kernel
theorem dX0_spreadHangs_21 : decode cX0_spreadHangs 21 = .ok (.iastore, 1) := by decide +kernel
theorem dX0_spreadHangs_22 : decode cX0_spreadHangs 22 = .ok (.iinc 1 1, 3) := by decide +kernel
theorem dX0_spreadHangs_25 : decode cX0_spreadHangs 25 = .ok (.goto (-23), 3) := by decide +kernel
theorem dX0_spreadHangs_28 : decode cX0_spreadHangs 28 = .ok (.iconst 0, 1) := by decide +kernel
theorem dX0_spreadHangs_29 : decode cX0_spreadHangs 29 = .ok (.istore_n 1, 1) := by decide +kernel
theorem dX0_spreadHangs_30 : decode cX0_spreadHangs 30 = .ok (.iload_n 1, 1) := by decide +kernel
theorem dX0_spreadHangs_31 : decode cX0_spreadHangs 31 = .ok (.aload_n 0, 1) := by decide +kernel
theorem dX0_spreadHangs_32 : decode cX0_spreadHangs 32 = .ok (.getfield 33, 3) := by decide +kernel
theorem dX0_spreadHangs_35 : decode cX0_spreadHangs 35 = .ok (.if_icmp .ge 53, 3) := by decide +kernel
theorem dX0_spreadHangs_38 : decode cX0_spreadHangs 38 = .ok (.iconst 0, 1) := by decide +kernel
theorem dX0_spreadHangs_39 : decode cX0_spreadHangs 39 = .ok (.istore_n 2, 1) := by decide +kernel
theorem dX0_spreadHangs_40 : decode cX0_spreadHangs 40 = .ok (.iload_n 2, 1) := by decide +kernel
theorem dX0_spreadHangs_41 : decode cX0_spreadHangs 41 = .ok (.aload_n 0, 1) := by decide +kernel
theorem dX0_spreadHangs_42 : decode cX0_spreadHangs 42 = .ok (.getfield 33, 3) := by decide +kernel
theorem dX0_spreadHangs_45 : decode cX0_spreadHangs 45 = .ok (.if_icmp .ge 37, 3) := by decide +kernel
theorem dX0_spreadHangs_48 : decode cX0_spreadHangs 48 = .ok (.aload_n 0, 1) := by decide +kernel
theorem dX0_spreadHangs_49 : decode cX0_spreadHangs 49 = .ok (.getfield 30, 3) := by decide +kernel
theorem dX0_spreadHangs_52 : decode cX0_spreadHangs 52 = .ok (.iload_n 2, 1) := by decide +kernel
theorem dX0_spreadHangs_53 : decode cX0_spreadHangs 53 = .ok (.iaload, 1) := by decide +kernel
theorem dX0_spreadHangs_54 : decode cX0_spreadHangs 54 = .ok (.iload_n 1, 1) := by decide +kernel
theorem dX0_spreadHangs_55 : decode cX0_spreadHangs 55 = .ok (.invokestatic 43, 3) := by decide +kernel
theorem dX0_spreadHangs_58 : decode cX0_spreadHangs 58 = .ok (.ifCond .eq 18, 3) := by decide +kernel
theorem dX0_spreadHangs_61 : decode cX0_spreadHangs 61 = .ok (.aload_n 0, 1) := by decide +kernel
theorem dX0_spreadHangs_62 : decode cX0_spreadHangs 62 = .ok (.getfield 30, 3) := by decide +kernel
theorem dX0_spreadHangs_65 : decode cX0_spreadHangs 65 = .ok (.iload_n 2, 1) := by decide +kernel
theorem dX0_spreadHangs_66 : decode cX0_spreadHangs 66 = .ok (.dup2, 1) := by decide +kernel
theorem dX0_spreadHangs_67 : decode cX0_spreadHangs 67 = .ok (.iaload, 1) := by decide +kernel
theorem dX0_spreadHangs_68 : decode cX0_spreadHangs 68 = .ok (.aload_n 0, 1) := by decide +kernel
theorem dX0_spreadHangs_69 : decode cX0_spreadHangs 69 = .ok (.getfield 30, 3) := by decide +kernel
theorem dX0_spreadHangs_72 : decode cX0_spreadHangs 72 = .ok (.iload_n 1, 1) := by decide +kernel
theorem dX0_spreadHangs_73 : decode cX0_spreadHangs 73 = .ok (.iaload, 1) := by decide +kernel
theorem dX0_spreadHangs_74 : decode cX0_spreadHangs 74 = .ok (.ior, 1) := by decide +kernel
theorem dX0_spreadHangs_75 : decode cX0_spreadHangs 75 = .ok (.iastore, 1) := by decide +kernel
theorem dX0_spreadHangs_76 : decode cX0_spreadHangs 76 = .ok (.iinc 2 1, 3) := by decide +kernel
theorem dX0_spreadHangs_79 : decode cX0_spreadHangs 79 = .ok (.goto (-39), 3) := by decide +kernel
theorem dX0_spreadHangs_82 : decode cX0_spreadHangs 82 = .ok (.iinc 1 1, 3) := by decide +kernel
theorem dX0_spreadHangs_85 : decode cX0_spreadHangs 85 = .ok (.goto (-55), 3) := by decide +kernel
theorem dX0_spreadHangs_88 : decode cX0_spreadHangs 88 = .ok (.return_, 1) := by decide +kernel
theorem dX0_leastHanging_0 : decode cX0_leastHanging 0 = .ok (.iconst 0, 1) := by decide +kernel
theorem dX0_leastHanging_1 : decode cX0_leastHanging 1 = .ok (.istore_n 3, 1) := by decide +kernel
theorem dX0_leastHanging_2 : decode cX0_leastHanging 2 = .ok (.iload_n 3, 1) := by decide +kernel
theorem dX0_leastHanging_3 : decode cX0_leastHanging 3 = .ok (.aload_n 0, 1) := by decide +kernel
theorem dX0_leastHanging_4 : decode cX0_leastHanging 4 = .ok (.getfield 33, 3) := by decide +kernel
theorem dX0_leastHanging_7 : decode cX0_leastHanging 7 = .ok (.if_icmp .ge 32, 3) := by decide +kernel
theorem dX0_leastHanging_10 : decode cX0_leastHanging 10 = .ok (.iload_n 1, 1) := by decide +kernel
theorem dX0_leastHanging_11 : decode cX0_leastHanging 11 = .ok (.iload_n 3, 1) := by decide +kernel
theorem dX0_leastHanging_12 : decode cX0_leastHanging 12 = .ok (.invokestatic 43, 3) := by decide +kernel
theorem dX0_leastHanging_15 : decode cX0_leastHanging 15 = .ok (.ifCond .eq 18, 3) := by decide +kernel
theorem dX0_leastHanging_18 : decode cX0_leastHanging 18 = .ok (.aload_n 0, 1) := by decide +kernel
theorem dX0_leastHanging_19 : decode cX0_leastHanging 19 = .ok (.getfield 30, 3) := by decide +kernel
theorem dX0_leastHanging_22 : decode cX0_leastHanging 22 = .ok (.iload_n 3, 1) := by decide +kernel
theorem dX0_leastHanging_23 : decode cX0_leastHanging 23 = .ok (.iaload, 1) := by decide +kernel
theorem dX0_leastHanging_24 : decode cX0_leastHanging 24 = .ok (.iload_n 2, 1) := by decide +kernel
theorem dX0_leastHanging_25 : decode cX0_leastHanging 25 = .ok (.invokestatic 43, 3) := by decide +kernel
theorem dX0_leastHanging_28 : decode cX0_leastHanging 28 = .ok (.ifCond .eq 5, 3) := by decide +kernel
theorem dX0_leastHanging_31 : decode cX0_leastHanging 31 = .ok (.iload_n 3, 1) := by decide +kernel
theorem dX0_leastHanging_32 : decode cX0_leastHanging 32 = .ok (.ireturn, 1) := by decide +kernel
theorem dX0_leastHanging_33 : decode cX0_leastHanging 33 = .ok (.iinc 3 1, 3) := by decide +kernel
theorem dX0_leastHanging_36 : decode cX0_leastHanging 36 = .ok (.goto (-34), 3) := by decide +kernel
theorem dX0_leastHanging_39 : decode cX0_leastHanging 39 = .ok (.bipush (-9), 2) := by decide +kernel
theorem dX0_leastHanging_41 : decode cX0_leastHanging 41 = .ok (.ireturn, 1) := by decide +kernel
theorem dX1_init_0 : decode cX1_init 0 = .ok (.aload_n 0, 1) := by decide +kernel
theorem dX1_init_1 : decode cX1_init 1 = .ok (.invokespecial 3, 3) := by decide +kernel
theorem dX1_init_4 : decode cX1_init 4 = .ok (.aload_n 0, 1) := by decide +kernel
theorem dX1_init_5 : decode cX1_init 5 = .ok (.bipush 12, 2) := by decide +kernel
theorem dX1_init_7 : decode cX1_init 7 = .ok (.newarray .int, 2) := by decide +kernel
theorem dX1_init_9 : decode cX1_init 9 = .ok (.putfield 9, 3) := by decide +kernel
theorem dX1_init_12 : decode cX1_init 12 = .ok (.return_, 1) := by decide +kernel
theorem dX1_begin_0 : decode cX1_begin 0 = .ok (.aload_n 0, 1) := by decide +kernel
theorem dX1_begin_1 : decode cX1_begin 1 = .ok (.iconst 0, 1) := by decide +kernel
theorem dX1_begin_2 : decode cX1_begin 2 = .ok (.putfield 15, 3) := by decide +kernel
theorem dX1_begin_5 : decode cX1_begin 5 = .ok (.return_, 1) := by decide +kernel
theorem dX1_joinOne_0 : decode cX1_joinOne 0 = .ok (.iload_n 3, 1) := by decide +kernel
theorem dX1_joinOne_1 : decode cX1_joinOne 1 = .ok (.iload 4, 2) := by decide +kernel
theorem dX1_joinOne_3 : decode cX1_joinOne 3 = .ok (.if_icmp .eq 9, 3) := by decide +kernel
theorem dX1_joinOne_6 : decode cX1_joinOne 6 = .ok (.iload 4, 2) := by decide +kernel
theorem dX1_joinOne_8 : decode cX1_joinOne 8 = .ok (.iload_n 2, 1) := by decide +kernel
theorem dX1_joinOne_9 : decode cX1_joinOne 9 = .ok (.if_icmp .ne 5, 3) := by decide +kernel
theorem dX1_joinOne_12 : decode cX1_joinOne 12 = .ok (.iload_n 3, 1) := by decide +kernel
theorem dX1_joinOne_13 : decode cX1_joinOne 13 = .ok (.ireturn, 1) := by decide +kernel
theorem dX1_joinOne_14 : decode cX1_joinOne 14 = .ok (.iload_n 3, 1) := by decide +kernel
theorem dX1_joinOne_15 : decode cX1_joinOne 15 = .ok (.iload_n 2, 1) := by decide +kernel
theorem dX1_joinOne_16 : decode cX1_joinOne 16 = .ok (.if_icmp .ne 6, 3) := by decide +kernel
theorem dX1_joinOne_19 : decode cX1_joinOne 19 = .ok (.iload 4, 2) := by decide +kernel
theorem dX1_joinOne_21 : decode cX1_joinOne 21 = .ok (.ireturn, 1) := by decide +kernel
theorem dX1_joinOne_22 : decode cX1_joinOne 22 = .ok (.aload_n 0, 1) := by decide +kernel
theorem dX1_joinOne_23 : decode cX1_joinOne 23 = .ok (.getfield 15, 3) := by decide +kernel
theorem dX1_joinOne_26 : decode cX1_joinOne 26 = .ok (.bipush 12, 2) := by decide +kernel
theorem dX1_joinOne_28 : decode cX1_joinOne 28 = .ok (.if_icmp .ge 23, 3) := by decide +kernel
theorem dX1_joinOne_31 : decode cX1_joinOne 31 = .ok (.aload_n 0, 1) := by decide +kernel
theorem dX1_joinOne_32 : decode cX1_joinOne 32 = .ok (.getfield 9, 3) := by decide +kernel
theorem dX1_joinOne_35 : decode cX1_joinOne 35 = .ok (.aload_n 0, 1) := by decide +kernel
theorem dX1_joinOne_36 : decode cX1_joinOne 36 = .ok (.getfield 15, 3) := by decide +kernel
theorem dX1_joinOne_39 : decode cX1_joinOne 39 = .ok (.iload_n 1, 1) := by decide +kernel
theorem dX1_joinOne_40 : decode cX1_joinOne 40 = .ok (.iastore, 1) := by decide +kernel
theorem dX1_joinOne_41 : decode cX1_joinOne 41 = .ok (.aload_n 0, 1) := by decide +kernel
theorem dX1_joinOne_42 : decode cX1_joinOne 42 = .ok (.dup, 1) := by decide +kernel
theorem dX1_joinOne_43 : decode cX1_joinOne 43 = .ok (.getfield 15, 3) := by decide +kernel
theorem dX1_joinOne_46 : decode cX1_joinOne 46 = .ok (.iconst 1, 1) := by decide +kernel
theorem dX1_joinOne_47 : decode cX1_joinOne 47 = .ok (.iadd, 1) := by decide +kernel
theorem dX1_joinOne_48 : decode cX1_joinOne 48 = .ok (.putfield 15, 3) := by decide +kernel
theorem dX1_joinOne_51 : decode cX1_joinOne 51 = .ok (.iload_n 3, 1) := by decide +kernel
theorem dX1_joinOne_52 : decode cX1_joinOne 52 = .ok (.ireturn, 1) := by decide +kernel
theorem dX2_init_0 : decode cX2_init 0 = .ok (.aload_n 0, 1) := by decide +kernel
theorem dX2_init_1 : decode cX2_init 1 = .ok (.invokespecial 3, 3) := by decide +kernel
theorem dX2_init_4 : decode cX2_init 4 = .ok (.aload_n 0, 1) := by decide +kernel
theorem dX2_init_5 : decode cX2_init 5 = .ok (.new 9, 3) := by decide +kernel
theorem dX2_init_8 : decode cX2_init 8 = .ok (.dup, 1) := by decide +kernel
theorem dX2_init_9 : decode cX2_init 9 = .ok (.invokespecial 11, 3) := by decide +kernel
theorem dX2_init_12 : decode cX2_init 12 = .ok (.putfield 12, 3) := by decide +kernel
theorem dX2_init_15 : decode cX2_init 15 = .ok (.aload_n 0, 1) := by decide +kernel
theorem dX2_init_16 : decode cX2_init 16 = .ok (.new 18, 3) := by decide +kernel
theorem dX2_init_19 : decode cX2_init 19 = .ok (.dup, 1) := by decide +kernel
theorem dX2_init_20 : decode cX2_init 20 = .ok (.invokespecial 20, 3) := by decide +kernel
theorem dX2_init_23 : decode cX2_init 23 = .ok (.putfield 21, 3) := by decide +kernel
theorem dX2_init_26 : decode cX2_init 26 = .ok (.aload_n 0, 1) := by decide +kernel
theorem dX2_init_27 : decode cX2_init 27 = .ok (.bipush 62, 2) := by decide +kernel
theorem dX2_init_29 : decode cX2_init 29 = .ok (.newarray .int, 2) := by decide +kernel
theorem dX2_init_31 : decode cX2_init 31 = .ok (.putfield 25, 3) := by decide +kernel
theorem dX2_init_34 : decode cX2_init 34 = .ok (.aload_n 0, 1) := by decide +kernel
theorem dX2_init_35 : decode cX2_init 35 = .ok (.bipush 62, 2) := by decide +kernel
theorem dX2_init_37 : decode cX2_init 37 = .ok (.newarray .int, 2) := by decide +kernel
theorem dX2_init_39 : decode cX2_init 39 = .ok (.putfield 29, 3) := by decide +kernel
theorem dX2_init_42 : decode cX2_init 42 = .ok (.aload_n 0, 1) := by decide +kernel
theorem dX2_init_43 : decode cX2_init 43 = .ok (.bipush 50, 2) := by decide +kernel
theorem dX2_init_45 : decode cX2_init 45 = .ok (.newarray .int, 2) := by decide +kernel
theorem dX2_init_47 : decode cX2_init 47 = .ok (.putfield 32, 3) := by decide +kernel
theorem dX2_init_50 : decode cX2_init 50 = .ok (.return_, 1) := by decide +kernel
theorem dX2_directWith_0 : decode cX2_directWith 0 = .ok (.iload_n 2, 1) := by decide +kernel
theorem dX2_directWith_1 : decode cX2_directWith 1 = .ok (.ifCond .ne 7, 3) := by decide +kernel
theorem dX2_directWith_4 : decode cX2_directWith 4 = .ok (.iload_n 3, 1) := by decide +kernel
theorem dX2_directWith_5 : decode cX2_directWith 5 = .ok (.goto 14, 3) := by decide +kernel
theorem dX2_directWith_8 : decode cX2_directWith 8 = .ok (.aload_n 0, 1) := by decide +kernel
theorem dX2_directWith_9 : decode cX2_directWith 9 = .ok (.getfield 12, 3) := by decide +kernel
theorem dX2_directWith_12 : decode cX2_directWith 12 = .ok (.getfield 35, 3) := by decide +kernel
theorem dX2_directWith_15 : decode cX2_directWith 15 = .ok (.iload_n 1, 1) := by decide +kernel
theorem dX2_directWith_16 : decode cX2_directWith 16 = .ok (.aaload, 1) := by decide +kernel
theorem dX2_directWith_17 : decode cX2_directWith 17 = .ok (.iconst 0, 1) := by decide +kernel
theorem dX2_directWith_18 : decode cX2_directWith 18 = .ok (.iaload, 1) := by decide +kernel
theorem dX2_directWith_19 : decode cX2_directWith 19 = .ok (.istore 4, 2) := by decide +kernel
theorem dX2_directWith_21 : decode cX2_directWith 21 = .ok (.iload_n 2, 1) := by decide +kernel
theorem dX2_directWith_22 : decode cX2_directWith 22 = .ok (.iconst 3, 1) := by decide +kernel
theorem dX2_directWith_23 : decode cX2_directWith 23 = .ok (.if_icmp .ne 7, 3) := by decide +kernel
theorem dX2_directWith_26 : decode cX2_directWith 26 = .ok (.iload_n 3, 1) := by decide +kernel
theorem dX2_directWith_27 : decode cX2_directWith 27 = .ok (.goto 14, 3) := by decide +kernel
theorem dX2_directWith_30 : decode cX2_directWith 30 = .ok (.aload_n 0, 1) := by decide +kernel
theorem dX2_directWith_31 : decode cX2_directWith 31 = .ok (.getfield 12, 3) := by decide +kernel
theorem dX2_directWith_34 : decode cX2_directWith 34 = .ok (.getfield 35, 3) := by decide +kernel
theorem dX2_directWith_37 : decode cX2_directWith 37 = .ok (.iload_n 1, 1) := by decide +kernel
theorem dX2_directWith_38 : decode cX2_directWith 38 = .ok (.aaload, 1) := by decide +kernel
theorem dX2_directWith_39 : decode cX2_directWith 39 = .ok (.iconst 3, 1) := by decide +kernel
theorem dX2_directWith_40 : decode cX2_directWith 40 = .ok (.iaload, 1) := by decide +kernel
theorem dX2_directWith_41 : decode cX2_directWith 41 = .ok (.istore 5, 2) := by decide +kernel
theorem dX2_directWith_43 : decode cX2_directWith 43 = .ok (.aload_n 0, 1) := by decide +kernel
theorem dX2_directWith_44 : decode cX2_directWith 44 = .ok (.getfield 21, 3) := by decide +kernel
theorem dX2_directWith_47 : decode cX2_directWith 47 = .ok (.iload 4, 2) := by decide +kernel
theorem dX2_directWith_49 : decode cX2_directWith 49 = .ok (.invokevirtual 39, 3) := by decide +kernel
theorem dX2_directWith_52 : decode cX2_directWith 52 = .ok (.aload_n 0, 1) := by decide +kernel
theorem dX2_directWith_53 : decode cX2_directWith 53 = .ok (.getfield 21, 3) := by decide +kernel
theorem dX2_directWith_56 : decode cX2_directWith 56 = .ok (.iload 5, 2) := by decide +kernel
theorem dX2_directWith_58 : decode cX2_directWith 58 = .ok (.invokevirtual 39, 3) := by decide +kernel
theorem dX2_directWith_61 : decode cX2_directWith 61 = .ok (.ior, 1) := by decide +kernel
theorem dX2_directWith_62 : decode cX2_directWith 62 = .ok (.ireturn, 1) := by decide +kernel
theorem dX2_setRule_0 : decode cX2_setRule 0 = .ok (.aload_n 0, 1) := by decide +kernel
theorem dX2_setRule_1 : decode cX2_setRule 1 = .ok (.getfield 12, 3) := by decide +kernel
theorem dX2_setRule_4 : decode cX2_setRule 4 = .ok (.getfield 43, 3) := by decide +kernel
theorem dX2_setRule_7 : decode cX2_setRule 7 = .ok (.iload_n 1, 1) := by decide +kernel
theorem dX2_setRule_8 : decode cX2_setRule 8 = .ok (.aload_n 0, 1) := by decide +kernel
theorem dX2_setRule_9 : decode cX2_setRule 9 = .ok (.iload_n 1, 1) := by decide +kernel
theorem dX2_setRule_10 : decode cX2_setRule 10 = .ok (.iload_n 2, 1) := by decide +kernel
theorem dX2_setRule_11 : decode cX2_setRule 11 = .ok (.iload_n 3, 1) := by decide +kernel
theorem dX2_setRule_12 : decode cX2_setRule 12 = .ok (.invokevirtual 46, 3) := by decide +kernel
theorem dX2_setRule_15 : decode cX2_setRule 15 = .ok (.iastore, 1) := by decide +kernel
theorem dX2_setRule_16 : decode cX2_setRule 16 = .ok (.aload_n 0, 1) := by decide +kernel
theorem dX2_setRule_17 : decode cX2_setRule 17 = .ok (.getfield 12, 3) := by decide +kernel
theorem dX2_setRule_20 : decode cX2_setRule 20 = .ok (.getfield 35, 3) := by decide +kernel
theorem dX2_setRule_23 : decode cX2_setRule 23 = .ok (.iload_n 1, 1) := by decide +kernel
theorem dX2_setRule_24 : decode cX2_setRule 24 = .ok (.aaload, 1) := by decide +kernel
theorem dX2_setRule_25 : decode cX2_setRule 25 = .ok (.iload_n 2, 1) := by decide +kernel
theorem dX2_setRule_26 : decode cX2_setRule 26 = .ok (.iload_n 3, 1) := by decide +kernel
theorem dX2_setRule_27 : decode cX2_setRule 27 = .ok (.iastore, 1) := by decide +kernel
theorem dX2_setRule_28 : decode cX2_setRule 28 = .ok (.aload_n 0, 1) := by decide +kernel
theorem dX2_setRule_29 : decode cX2_setRule 29 = .ok (.getfield 12, 3) := by decide +kernel
theorem dX2_setRule_32 : decode cX2_setRule 32 = .ok (.invokevirtual 50, 3) := by decide +kernel
theorem dX2_setRule_35 : decode cX2_setRule 35 = .ok (.aload_n 0, 1) := by decide +kernel
theorem dX2_setRule_36 : decode cX2_setRule 36 = .ok (.invokevirtual 53, 3) := by decide +kernel
theorem dX2_setRule_39 : decode cX2_setRule 39 = .ok (.return_, 1) := by decide +kernel
theorem dX2_arrange_0 : decode cX2_arrange 0 = .ok (.iconst 0, 1) := by decide +kernel
theorem dX2_arrange_1 : decode cX2_arrange 1 = .ok (.istore_n 1, 1) := by decide +kernel
theorem dX2_arrange_2 : decode cX2_arrange 2 = .ok (.iload_n 1, 1) := by decide +kernel
theorem dX2_arrange_3 : decode cX2_arrange 3 = .ok (.aload_n 0, 1) := by decide +kernel
theorem dX2_arrange_4 : decode cX2_arrange 4 = .ok (.getfield 21, 3) := by decide +kernel
theorem dX2_arrange_7 : decode cX2_arrange 7 = .ok (.getfield 56, 3) := by decide +kernel
theorem dX2_arrange_10 : decode cX2_arrange 10 = .ok (.if_icmp .ge 31, 3) := by decide +kernel
theorem dX2_arrange_13 : decode cX2_arrange 13 = .ok (.aload_n 0, 1) := by decide +kernel
theorem dX2_arrange_14 : decode cX2_arrange 14 = .ok (.getfield 32, 3) := by decide +kernel
theorem dX2_arrange_17 : decode cX2_arrange 17 = .ok (.iload_n 1, 1) := by decide +kernel
theorem dX2_arrange_18 : decode cX2_arrange 18 = .ok (.aload_n 0, 1) := by decide +kernel
theorem dX2_arrange_19 : decode cX2_arrange 19 = .ok (.getfield 12, 3) := by decide +kernel
theorem dX2_arrange_22 : decode cX2_arrange 22 = .ok (.aload_n 0, 1) := by decide +kernel
theorem dX2_arrange_23 : decode cX2_arrange 23 = .ok (.getfield 21, 3) := by decide +kernel
theorem dX2_arrange_26 : decode cX2_arrange 26 = .ok (.getfield 60, 3) := by decide +kernel
theorem dX2_arrange_29 : decode cX2_arrange 29 = .ok (.iload_n 1, 1) := by decide +kernel
theorem dX2_arrange_30 : decode cX2_arrange 30 = .ok (.iaload, 1) := by decide +kernel
theorem dX2_arrange_31 : decode cX2_arrange 31 = .ok (.invokevirtual 63, 3) := by decide +kernel
theorem dX2_arrange_34 : decode cX2_arrange 34 = .ok (.iastore, 1) := by decide +kernel
theorem dX2_arrange_35 : decode cX2_arrange 35 = .ok (.iinc 1 1, 3) := by decide +kernel
theorem dX2_arrange_38 : decode cX2_arrange 38 = .ok (.goto (-36), 3) := by decide +kernel
theorem dX2_arrange_41 : decode cX2_arrange 41 = .ok (.aload_n 0, 1) := by decide +kernel
theorem dX2_arrange_42 : decode cX2_arrange 42 = .ok (.iconst 0, 1) := by decide +kernel
theorem dX2_arrange_43 : decode cX2_arrange 43 = .ok (.putfield 66, 3) := by decide +kernel
theorem dX2_arrange_46 : decode cX2_arrange 46 = .ok (.iconst 0, 1) := by decide +kernel
theorem dX2_arrange_47 : decode cX2_arrange 47 = .ok (.istore_n 1, 1) := by decide +kernel
theorem dX2_arrange_48 : decode cX2_arrange 48 = .ok (.iload_n 1, 1) := by decide +kernel
theorem dX2_arrange_49 : decode cX2_arrange 49 = .ok (.bipush 12, 2) := by decide +kernel
theorem dX2_arrange_51 : decode cX2_arrange 51 = .ok (.if_icmp .gt 108, 3) := by decide +kernel
theorem dX2_arrange_54 : decode cX2_arrange 54 = .ok (.iconst 0, 1) := by decide +kernel
theorem dX2_arrange_55 : decode cX2_arrange 55 = .ok (.istore_n 2, 1) := by decide +kernel
theorem dX2_arrange_56 : decode cX2_arrange 56 = .ok (.iload_n 2, 1) := by decide +kernel
theorem dX2_arrange_57 : decode cX2_arrange 57 = .ok (.aload_n 0, 1) := by decide +kernel
theorem dX2_arrange_58 : decode cX2_arrange 58 = .ok (.getfield 21, 3) := by decide +kernel
theorem dX2_arrange_61 : decode cX2_arrange 61 = .ok (.getfield 56, 3) := by decide +kernel
theorem dX2_arrange_64 : decode cX2_arrange 64 = .ok (.if_icmp .ge 33, 3) := by decide +kernel
theorem dX2_arrange_67 : decode cX2_arrange 67 = .ok (.aload_n 0, 1) := by decide +kernel
theorem dX2_arrange_68 : decode cX2_arrange 68 = .ok (.getfield 32, 3) := by decide +kernel
theorem dX2_arrange_71 : decode cX2_arrange 71 = .ok (.iload_n 2, 1) := by decide +kernel
theorem dX2_arrange_72 : decode cX2_arrange 72 = .ok (.iaload, 1) := by decide +kernel
theorem dX2_arrange_73 : decode cX2_arrange 73 = .ok (.invokestatic 69, 3) := by decide +kernel
theorem dX2_arrange_76 : decode cX2_arrange 76 = .ok (.iload_n 1, 1) := by decide +kernel
theorem dX2_arrange_77 : decode cX2_arrange 77 = .ok (.if_icmp .ne 14, 3) := by decide +kernel
theorem dX2_arrange_80 : decode cX2_arrange 80 = .ok (.aload_n 0, 1) := by decide +kernel
theorem dX2_arrange_81 : decode cX2_arrange 81 = .ok (.iload_n 2, 1) := by decide +kernel
theorem dX2_arrange_82 : decode cX2_arrange 82 = .ok (.aload_n 0, 1) := by decide +kernel
theorem dX2_arrange_83 : decode cX2_arrange 83 = .ok (.getfield 32, 3) := by decide +kernel
theorem dX2_arrange_86 : decode cX2_arrange 86 = .ok (.iload_n 2, 1) := by decide +kernel
theorem dX2_arrange_87 : decode cX2_arrange 87 = .ok (.iaload, 1) := by decide +kernel
theorem dX2_arrange_88 : decode cX2_arrange 88 = .ok (.invokevirtual 74, 3) := by decide +kernel
theorem dX2_arrange_91 : decode cX2_arrange 91 = .ok (.iinc 2 1, 3) := by decide +kernel
theorem dX2_arrange_94 : decode cX2_arrange 94 = .ok (.goto (-38), 3) := by decide +kernel
theorem dX2_arrange_97 : decode cX2_arrange 97 = .ok (.iconst 0, 1) := by decide +kernel
theorem dX2_arrange_98 : decode cX2_arrange 98 = .ok (.istore_n 2, 1) := by decide +kernel
theorem dX2_arrange_99 : decode cX2_arrange 99 = .ok (.iload_n 2, 1) := by decide +kernel
theorem dX2_arrange_100 : decode cX2_arrange 100 = .ok (.aload_n 0, 1) := by decide +kernel
theorem dX2_arrange_101 : decode cX2_arrange 101 = .ok (.getfield 12, 3) := by decide +kernel
theorem dX2_arrange_104 : decode cX2_arrange 104 = .ok (.getfield 78, 3) := by decide +kernel
theorem dX2_arrange_107 : decode cX2_arrange 107 = .ok (.if_icmp .ge 46, 3) := by decide +kernel
theorem dX2_arrange_110 : decode cX2_arrange 110 = .ok (.aload_n 0, 1) := by decide +kernel
theorem dX2_arrange_111 : decode cX2_arrange 111 = .ok (.getfield 12, 3) := by decide +kernel
theorem dX2_arrange_114 : decode cX2_arrange 114 = .ok (.getfield 79, 3) := by decide +kernel
theorem dX2_arrange_117 : decode cX2_arrange 117 = .ok (.iload_n 2, 1) := by decide +kernel
theorem dX2_arrange_118 : decode cX2_arrange 118 = .ok (.iaload, 1) := by decide +kernel
theorem dX2_arrange_119 : decode cX2_arrange 119 = .ok (.invokestatic 69, 3) := by decide +kernel
theorem dX2_arrange_122 : decode cX2_arrange 122 = .ok (.iload_n 1, 1) := by decide +kernel
theorem dX2_arrange_123 : decode cX2_arrange 123 = .ok (.if_icmp .ne 24, 3) := by decide +kernel
theorem dX2_arrange_126 : decode cX2_arrange 126 = .ok (.aload_n 0, 1) := by decide +kernel
theorem dX2_arrange_127 : decode cX2_arrange 127 = .ok (.bipush 50, 2) := by decide +kernel
theorem dX2_arrange_129 : decode cX2_arrange 129 = .ok (.iload_n 2, 1) := by decide +kernel
theorem dX2_arrange_130 : decode cX2_arrange 130 = .ok (.iadd, 1) := by decide +kernel
theorem dX2_arrange_131 : decode cX2_arrange 131 = .ok (.aload_n 0, 1) := by decide +kernel
theorem dX2_arrange_132 : decode cX2_arrange 132 = .ok (.getfield 12, 3) := by decide +kernel
theorem dX2_arrange_135 : decode cX2_arrange 135 = .ok (.getfield 79, 3) := by decide +kernel
theorem dX2_arrange_138 : decode cX2_arrange 138 = .ok (.iload_n 2, 1) := by decide +kernel
theorem dX2_arrange_139 : decode cX2_arrange 139 = .ok (.iaload, 1) := by decide +kernel
theorem dX2_arrange_140 : decode cX2_arrange 140 = .ok (.iconst 1, 1) := by decide +kernel
theorem dX2_arrange_141 : decode cX2_arrange 141 = .ok (.iload_n 2, 1) := by decide +kernel
theorem dX2_arrange_142 : decode cX2_arrange 142 = .ok (.ishl, 1) := by decide +kernel
theorem dX2_arrange_143 : decode cX2_arrange 143 = .ok (.ior, 1) := by decide +kernel
theorem dX2_arrange_144 : decode cX2_arrange 144 = .ok (.invokevirtual 74, 3) := by decide +kernel
theorem dX2_arrange_147 : decode cX2_arrange 147 = .ok (.iinc 2 1, 3) := by decide +kernel
theorem dX2_arrange_150 : decode cX2_arrange 150 = .ok (.goto (-51), 3) := by decide +kernel
theorem dX2_arrange_153 : decode cX2_arrange 153 = .ok (.iinc 1 1, 3) := by decide +kernel
theorem dX2_arrange_156 : decode cX2_arrange 156 = .ok (.goto (-108), 3) := by decide +kernel
theorem dX2_arrange_159 : decode cX2_arrange 159 = .ok (.return_, 1) := by decide +kernel
theorem dX2_addStep_0 : decode cX2_addStep 0 = .ok (.aload_n 0, 1) := by decide +kernel
theorem dX2_addStep_1 : decode cX2_addStep 1 = .ok (.getfield 66, 3) := by decide +kernel
theorem dX2_addStep_4 : decode cX2_addStep 4 = .ok (.aload_n 0, 1) := by decide +kernel
theorem dX2_addStep_5 : decode cX2_addStep 5 = .ok (.getfield 25, 3) := by decide +kernel
theorem dX2_addStep_8 : decode cX2_addStep 8 = .ok (.arraylength, 1) := by decide +kernel
theorem dX2_addStep_9 : decode cX2_addStep 9 = .ok (.if_icmp .ge 33, 3) := by decide +kernel
theorem dX2_addStep_12 : decode cX2_addStep 12 = .ok (.aload_n 0, 1) := by decide +kernel
theorem dX2_addStep_13 : decode cX2_addStep 13 = .ok (.getfield 25, 3) := by decide +kernel
theorem dX2_addStep_16 : decode cX2_addStep 16 = .ok (.aload_n 0, 1) := by decide +kernel
theorem dX2_addStep_17 : decode cX2_addStep 17 = .ok (.getfield 66, 3) := by decide +kernel
theorem dX2_addStep_20 : decode cX2_addStep 20 = .ok (.iload_n 1, 1) := by decide +kernel
theorem dX2_addStep_21 : decode cX2_addStep 21 = .ok (.iastore, 1) := by decide +kernel
theorem dX2_addStep_22 : decode cX2_addStep 22 = .ok (.aload_n 0, 1) := by decide +kernel
theorem dX2_addStep_23 : decode cX2_addStep 23 = .ok (.getfield 29, 3) := by decide +kernel
theorem dX2_addStep_26 : decode cX2_addStep 26 = .ok (.aload_n 0, 1) := by decide +kernel
theorem dX2_addStep_27 : decode cX2_addStep 27 = .ok (.getfield 66, 3) := by decide +kernel
theorem dX2_addStep_30 : decode cX2_addStep 30 = .ok (.iload_n 2, 1) := by decide +kernel
theorem dX2_addStep_31 : decode cX2_addStep 31 = .ok (.iastore, 1) := by decide +kernel
theorem dX2_addStep_32 : decode cX2_addStep 32 = .ok (.aload_n 0, 1) := by decide +kernel
theorem dX2_addStep_33 : decode cX2_addStep 33 = .ok (.dup, 1) := by decide +kernel
theorem dX2_addStep_34 : decode cX2_addStep 34 = .ok (.getfield 66, 3) := by decide +kernel
theorem dX2_addStep_37 : decode cX2_addStep 37 = .ok (.iconst 1, 1) := by decide +kernel
theorem dX2_addStep_38 : decode cX2_addStep 38 = .ok (.iadd, 1) := by decide +kernel
theorem dX2_addStep_39 : decode cX2_addStep 39 = .ok (.putfield 66, 3) := by decide +kernel
theorem dX2_addStep_42 : decode cX2_addStep 42 = .ok (.return_, 1) := by decide +kernel
theorem dX3_init_0 : decode cX3_init 0 = .ok (.aload_n 0, 1) := by decide +kernel
theorem dX3_init_1 : decode cX3_init 1 = .ok (.invokespecial 3, 3) := by decide +kernel
theorem dX3_init_4 : decode cX3_init 4 = .ok (.aload_n 0, 1) := by decide +kernel
theorem dX3_init_5 : decode cX3_init 5 = .ok (.bipush 50, 2) := by decide +kernel
theorem dX3_init_7 : decode cX3_init 7 = .ok (.newarray .int, 2) := by decide +kernel
theorem dX3_init_9 : decode cX3_init 9 = .ok (.putfield 9, 3) := by decide +kernel
theorem dX3_init_12 : decode cX3_init 12 = .ok (.aload_n 0, 1) := by decide +kernel
theorem dX3_init_13 : decode cX3_init 13 = .ok (.bipush 50, 2) := by decide +kernel
theorem dX3_init_15 : decode cX3_init 15 = .ok (.newarray .int, 2) := by decide +kernel
theorem dX3_init_17 : decode cX3_init 17 = .ok (.putfield 15, 3) := by decide +kernel
theorem dX3_init_20 : decode cX3_init 20 = .ok (.aload_n 0, 1) := by decide +kernel
theorem dX3_init_21 : decode cX3_init 21 = .ok (.bipush 50, 2) := by decide +kernel
theorem dX3_init_23 : decode cX3_init 23 = .ok (.newarray .int, 2) := by decide +kernel
theorem dX3_init_25 : decode cX3_init 25 = .ok (.putfield 18, 3) := by decide +kernel
theorem dX3_init_28 : decode cX3_init 28 = .ok (.aload_n 0, 1) := by decide +kernel
theorem dX3_init_29 : decode cX3_init 29 = .ok (.bipush 50, 2) := by decide +kernel
theorem dX3_init_31 : decode cX3_init 31 = .ok (.newarray .int, 2) := by decide +kernel
theorem dX3_init_33 : decode cX3_init 33 = .ok (.putfield 21, 3) := by decide +kernel
theorem dX3_init_36 : decode cX3_init 36 = .ok (.aload_n 0, 1) := by decide +kernel
theorem dX3_init_37 : decode cX3_init 37 = .ok (.bipush 50, 2) := by decide +kernel
theorem dX3_init_39 : decode cX3_init 39 = .ok (.newarray .int, 2) := by decide +kernel
theorem dX3_init_41 : decode cX3_init 41 = .ok (.putfield 24, 3) := by decide +kernel
theorem dX3_init_44 : decode cX3_init 44 = .ok (.return_, 1) := by decide +kernel
theorem dX3_has_0 : decode cX3_has 0 = .ok (.iload_n 1, 1) := by decide +kernel
theorem dX3_has_1 : decode cX3_has 1 = .ok (.ifCond .lt 15, 3) := by decide +kernel
theorem dX3_has_4 : decode cX3_has 4 = .ok (.iload_n 1, 1) := by decide +kernel
theorem dX3_has_5 : decode cX3_has 5 = .ok (.aload_n 0, 1) := by decide +kernel
theorem dX3_has_6 : decode cX3_has 6 = .ok (.getfield 27, 3) := by decide +kernel
theorem dX3_has_9 : decode cX3_has 9 = .ok (.if_icmp .ge 7, 3) := by decide +kernel
theorem dX3_has_12 : decode cX3_has 12 = .ok (.iconst 1, 1) := by decide +kernel
theorem dX3_has_13 : decode cX3_has 13 = .ok (.goto 4, 3) := by decide +kernel
theorem dX3_has_16 : decode cX3_has 16 = .ok (.iconst 0, 1) := by decide +kernel
theorem dX3_has_17 : decode cX3_has 17 = .ok (.ireturn, 1) := by decide +kernel
theorem dX3_add_0 : decode cX3_add 0 = .ok (.aload_n 0, 1) := by decide +kernel
theorem dX3_add_1 : decode cX3_add 1 = .ok (.getfield 27, 3) := by decide +kernel
theorem dX3_add_4 : decode cX3_add 4 = .ok (.bipush 50, 2) := by decide +kernel
theorem dX3_add_6 : decode cX3_add 6 = .ok (.if_icmp .lt 6, 3) := by decide +kernel
theorem dX3_add_9 : decode cX3_add 9 = .ok (.bipush (-4), 2) := by decide +kernel
theorem dX3_add_11 : decode cX3_add 11 = .ok (.ireturn, 1) := by decide +kernel
theorem dX3_add_12 : decode cX3_add 12 = .ok (.aload_n 0, 1) := by decide +kernel
theorem dX3_add_13 : decode cX3_add 13 = .ok (.getfield 9, 3) := by decide +kernel
theorem dX3_add_16 : decode cX3_add 16 = .ok (.aload_n 0, 1) := by decide +kernel
theorem dX3_add_17 : decode cX3_add 17 = .ok (.getfield 27, 3) := by decide +kernel
theorem dX3_add_20 : decode cX3_add 20 = .ok (.iload_n 1, 1) := by decide +kernel
theorem dX3_add_21 : decode cX3_add 21 = .ok (.iastore, 1) := by decide +kernel
theorem dX3_add_22 : decode cX3_add 22 = .ok (.aload_n 0, 1) := by decide +kernel
theorem dX3_add_23 : decode cX3_add 23 = .ok (.getfield 15, 3) := by decide +kernel
theorem dX3_add_26 : decode cX3_add 26 = .ok (.aload_n 0, 1) := by decide +kernel
theorem dX3_add_27 : decode cX3_add 27 = .ok (.getfield 27, 3) := by decide +kernel
theorem dX3_add_30 : decode cX3_add 30 = .ok (.iload_n 2, 1) := by decide +kernel
theorem dX3_add_31 : decode cX3_add 31 = .ok (.iastore, 1) := by decide +kernel
theorem dX3_add_32 : decode cX3_add 32 = .ok (.aload_n 0, 1) := by decide +kernel
theorem dX3_add_33 : decode cX3_add 33 = .ok (.getfield 18, 3) := by decide +kernel
theorem dX3_add_36 : decode cX3_add 36 = .ok (.aload_n 0, 1) := by decide +kernel
theorem dX3_add_37 : decode cX3_add 37 = .ok (.getfield 27, 3) := by decide +kernel
theorem dX3_add_40 : decode cX3_add 40 = .ok (.iload_n 3, 1) := by decide +kernel
theorem dX3_add_41 : decode cX3_add 41 = .ok (.iastore, 1) := by decide +kernel
theorem dX3_add_42 : decode cX3_add 42 = .ok (.aload_n 0, 1) := by decide +kernel
theorem dX3_add_43 : decode cX3_add 43 = .ok (.getfield 21, 3) := by decide +kernel
theorem dX3_add_46 : decode cX3_add 46 = .ok (.aload_n 0, 1) := by decide +kernel
theorem dX3_add_47 : decode cX3_add 47 = .ok (.getfield 27, 3) := by decide +kernel
theorem dX3_add_50 : decode cX3_add 50 = .ok (.iload 4, 2) := by decide +kernel
theorem dX3_add_52 : decode cX3_add 52 = .ok (.iastore, 1) := by decide +kernel
theorem dX3_add_53 : decode cX3_add 53 = .ok (.aload_n 0, 1) := by decide +kernel
theorem dX3_add_54 : decode cX3_add 54 = .ok (.getfield 24, 3) := by decide +kernel
theorem dX3_add_57 : decode cX3_add 57 = .ok (.aload_n 0, 1) := by decide +kernel
theorem dX3_add_58 : decode cX3_add 58 = .ok (.getfield 27, 3) := by decide +kernel
theorem dX3_add_61 : decode cX3_add 61 = .ok (.aload_n 0, 1) := by decide +kernel
theorem dX3_add_62 : decode cX3_add 62 = .ok (.aload_n 0, 1) := by decide +kernel
theorem dX3_add_63 : decode cX3_add 63 = .ok (.getfield 27, 3) := by decide +kernel
theorem dX3_add_66 : decode cX3_add 66 = .ok (.invokevirtual 31, 3) := by decide +kernel
theorem dX3_add_69 : decode cX3_add 69 = .ok (.iastore, 1) := by decide +kernel
theorem dX3_add_70 : decode cX3_add 70 = .ok (.aload_n 0, 1) := by decide +kernel
theorem dX3_add_71 : decode cX3_add 71 = .ok (.dup, 1) := by decide +kernel
theorem dX3_add_72 : decode cX3_add 72 = .ok (.getfield 27, 3) := by decide +kernel
theorem dX3_add_75 : decode cX3_add 75 = .ok (.iconst 1, 1) := by decide +kernel
theorem dX3_add_76 : decode cX3_add 76 = .ok (.iadd, 1) := by decide +kernel
theorem dX3_add_77 : decode cX3_add 77 = .ok (.putfield 27, 3) := by decide +kernel
theorem dX3_add_80 : decode cX3_add 80 = .ok (.aload_n 0, 1) := by decide +kernel
theorem dX3_add_81 : decode cX3_add 81 = .ok (.getfield 27, 3) := by decide +kernel
theorem dX3_add_84 : decode cX3_add 84 = .ok (.iconst 1, 1) := by decide +kernel
theorem dX3_add_85 : decode cX3_add 85 = .ok (.isub, 1) := by decide +kernel
theorem dX3_add_86 : decode cX3_add 86 = .ok (.ireturn, 1) := by decide +kernel
theorem dX3_answersOfRule_0 : decode cX3_answersOfRule 0 = .ok (.iload_n 1, 1) := by decide +kernel
theorem dX3_answersOfRule_1 : decode cX3_answersOfRule 1 = .ok (.bipush (-9), 2) := by decide +kernel
theorem dX3_answersOfRule_3 : decode cX3_answersOfRule 3 = .ok (.if_icmp .ne 7, 3) := by decide +kernel
theorem dX3_answersOfRule_6 : decode cX3_answersOfRule 6 = .ok (.iconst 0, 1) := by decide +kernel
theorem dX3_answersOfRule_7 : decode cX3_answersOfRule 7 = .ok (.goto 9, 3) := by decide +kernel
theorem dX3_answersOfRule_10 : decode cX3_answersOfRule 10 = .ok (.aload_n 0, 1) := by decide +kernel
theorem dX3_answersOfRule_11 : decode cX3_answersOfRule 11 = .ok (.getfield 24, 3) := by decide +kernel
theorem dX3_answersOfRule_14 : decode cX3_answersOfRule 14 = .ok (.iload_n 1, 1) := by decide +kernel
theorem dX3_answersOfRule_15 : decode cX3_answersOfRule 15 = .ok (.iaload, 1) := by decide +kernel
theorem dX3_answersOfRule_16 : decode cX3_answersOfRule 16 = .ok (.ireturn, 1) := by decide +kernel
theorem dX3_gatherAnswers_0 : decode cX3_gatherAnswers 0 = .ok (.aload_n 0, 1) := by decide +kernel
theorem dX3_gatherAnswers_1 : decode cX3_gatherAnswers 1 = .ok (.getfield 9, 3) := by decide +kernel
theorem dX3_gatherAnswers_4 : decode cX3_gatherAnswers 4 = .ok (.iload_n 1, 1) := by decide +kernel
theorem dX3_gatherAnswers_5 : decode cX3_gatherAnswers 5 = .ok (.iaload, 1) := by decide +kernel
theorem dX3_gatherAnswers_6 : decode cX3_gatherAnswers 6 = .ok (.tableswitch 121 0 11 #[62, 64, 121, 121, 121, 121, 121, 121, 121, 73, 64, 85], 62) := by decide +kernel
theorem dX3_gatherAnswers_68 : decode cX3_gatherAnswers 68 = .ok (.iconst 0, 1) := by decide +kernel
theorem dX3_gatherAnswers_69 : decode cX3_gatherAnswers 69 = .ok (.ireturn, 1) := by decide +kernel
theorem dX3_gatherAnswers_70 : decode cX3_gatherAnswers 70 = .ok (.iconst 1, 1) := by decide +kernel
theorem dX3_gatherAnswers_71 : decode cX3_gatherAnswers 71 = .ok (.aload_n 0, 1) := by decide +kernel
theorem dX3_gatherAnswers_72 : decode cX3_gatherAnswers 72 = .ok (.getfield 15, 3) := by decide +kernel
theorem dX3_gatherAnswers_75 : decode cX3_gatherAnswers 75 = .ok (.iload_n 1, 1) := by decide +kernel
theorem dX3_gatherAnswers_76 : decode cX3_gatherAnswers 76 = .ok (.iaload, 1) := by decide +kernel
theorem dX3_gatherAnswers_77 : decode cX3_gatherAnswers 77 = .ok (.ishl, 1) := by decide +kernel
theorem dX3_gatherAnswers_78 : decode cX3_gatherAnswers 78 = .ok (.ireturn, 1) := by decide +kernel
theorem dX3_gatherAnswers_79 : decode cX3_gatherAnswers 79 = .ok (.aload_n 0, 1) := by decide +kernel
theorem dX3_gatherAnswers_80 : decode cX3_gatherAnswers 80 = .ok (.getfield 24, 3) := by decide +kernel
theorem dX3_gatherAnswers_83 : decode cX3_gatherAnswers 83 = .ok (.aload_n 0, 1) := by decide +kernel
theorem dX3_gatherAnswers_84 : decode cX3_gatherAnswers 84 = .ok (.getfield 15, 3) := by decide +kernel
theorem dX3_gatherAnswers_87 : decode cX3_gatherAnswers 87 = .ok (.iload_n 1, 1) := by decide +kernel
theorem dX3_gatherAnswers_88 : decode cX3_gatherAnswers 88 = .ok (.iaload, 1) := by decide +kernel
theorem dX3_gatherAnswers_89 : decode cX3_gatherAnswers 89 = .ok (.iaload, 1) := by decide +kernel
theorem dX3_gatherAnswers_90 : decode cX3_gatherAnswers 90 = .ok (.ireturn, 1) := by decide +kernel
theorem dX3_gatherAnswers_91 : decode cX3_gatherAnswers 91 = .ok (.aload_n 0, 1) := by decide +kernel
theorem dX3_gatherAnswers_92 : decode cX3_gatherAnswers 92 = .ok (.getfield 24, 3) := by decide +kernel
theorem dX3_gatherAnswers_95 : decode cX3_gatherAnswers 95 = .ok (.aload_n 0, 1) := by decide +kernel
theorem dX3_gatherAnswers_96 : decode cX3_gatherAnswers 96 = .ok (.getfield 15, 3) := by decide +kernel
theorem dX3_gatherAnswers_99 : decode cX3_gatherAnswers 99 = .ok (.iload_n 1, 1) := by decide +kernel
theorem dX3_gatherAnswers_100 : decode cX3_gatherAnswers 100 = .ok (.iaload, 1) := by decide +kernel
theorem dX3_gatherAnswers_101 : decode cX3_gatherAnswers 101 = .ok (.iaload, 1) := by decide +kernel
theorem dX3_gatherAnswers_102 : decode cX3_gatherAnswers 102 = .ok (.aload_n 0, 1) := by decide +kernel
theorem dX3_gatherAnswers_103 : decode cX3_gatherAnswers 103 = .ok (.getfield 24, 3) := by decide +kernel
theorem dX3_gatherAnswers_106 : decode cX3_gatherAnswers 106 = .ok (.aload_n 0, 1) := by decide +kernel
theorem dX3_gatherAnswers_107 : decode cX3_gatherAnswers 107 = .ok (.getfield 18, 3) := by decide +kernel
theorem dX3_gatherAnswers_110 : decode cX3_gatherAnswers 110 = .ok (.iload_n 1, 1) := by decide +kernel
theorem dX3_gatherAnswers_111 : decode cX3_gatherAnswers 111 = .ok (.iaload, 1) := by decide +kernel
theorem dX3_gatherAnswers_112 : decode cX3_gatherAnswers 112 = .ok (.iaload, 1) := by decide +kernel
theorem dX3_gatherAnswers_113 : decode cX3_gatherAnswers 113 = .ok (.ior, 1) := by decide +kernel
theorem dX3_gatherAnswers_114 : decode cX3_gatherAnswers 114 = .ok (.aload_n 0, 1) := by decide +kernel
theorem dX3_gatherAnswers_115 : decode cX3_gatherAnswers 115 = .ok (.getfield 24, 3) := by decide +kernel
theorem dX3_gatherAnswers_118 : decode cX3_gatherAnswers 118 = .ok (.aload_n 0, 1) := by decide +kernel
theorem dX3_gatherAnswers_119 : decode cX3_gatherAnswers 119 = .ok (.getfield 21, 3) := by decide +kernel
theorem dX3_gatherAnswers_122 : decode cX3_gatherAnswers 122 = .ok (.iload_n 1, 1) := by decide +kernel
theorem dX3_gatherAnswers_123 : decode cX3_gatherAnswers 123 = .ok (.iaload, 1) := by decide +kernel
theorem dX3_gatherAnswers_124 : decode cX3_gatherAnswers 124 = .ok (.iaload, 1) := by decide +kernel
theorem dX3_gatherAnswers_125 : decode cX3_gatherAnswers 125 = .ok (.ior, 1) := by decide +kernel
theorem dX3_gatherAnswers_126 : decode cX3_gatherAnswers 126 = .ok (.ireturn, 1) := by decide +kernel
theorem dX3_gatherAnswers_127 : decode cX3_gatherAnswers 127 = .ok (.aload_n 0, 1) := by decide +kernel
theorem dX3_gatherAnswers_128 : decode cX3_gatherAnswers 128 = .ok (.getfield 24, 3) := by decide +kernel
theorem dX3_gatherAnswers_131 : decode cX3_gatherAnswers 131 = .ok (.aload_n 0, 1) := by decide +kernel
theorem dX3_gatherAnswers_132 : decode cX3_gatherAnswers 132 = .ok (.getfield 15, 3) := by decide +kernel
theorem dX3_gatherAnswers_135 : decode cX3_gatherAnswers 135 = .ok (.iload_n 1, 1) := by decide +kernel
theorem dX3_gatherAnswers_136 : decode cX3_gatherAnswers 136 = .ok (.iaload, 1) := by decide +kernel
theorem dX3_gatherAnswers_137 : decode cX3_gatherAnswers 137 = .ok (.iaload, 1) := by decide +kernel
theorem dX3_gatherAnswers_138 : decode cX3_gatherAnswers 138 = .ok (.aload_n 0, 1) := by decide +kernel
theorem dX3_gatherAnswers_139 : decode cX3_gatherAnswers 139 = .ok (.getfield 24, 3) := by decide +kernel
theorem dX3_gatherAnswers_142 : decode cX3_gatherAnswers 142 = .ok (.aload_n 0, 1) := by decide +kernel
theorem dX3_gatherAnswers_143 : decode cX3_gatherAnswers 143 = .ok (.getfield 18, 3) := by decide +kernel
theorem dX3_gatherAnswers_146 : decode cX3_gatherAnswers 146 = .ok (.iload_n 1, 1) := by decide +kernel
theorem dX3_gatherAnswers_147 : decode cX3_gatherAnswers 147 = .ok (.iaload, 1) := by decide +kernel
theorem dX3_gatherAnswers_148 : decode cX3_gatherAnswers 148 = .ok (.iaload, 1) := by decide +kernel
theorem dX3_gatherAnswers_149 : decode cX3_gatherAnswers 149 = .ok (.ior, 1) := by decide +kernel
theorem dX3_gatherAnswers_150 : decode cX3_gatherAnswers 150 = .ok (.ireturn, 1) := by decide +kernel
theorem dX4_init_0 : decode cX4_init 0 = .ok (.aload_n 0, 1) := by decide +kernel
theorem dX4_init_1 : decode cX4_init 1 = .ok (.invokespecial 3, 3) := by decide +kernel
theorem dX4_init_4 : decode cX4_init 4 = .ok (.aload_n 0, 1) := by decide +kernel
theorem dX4_init_5 : decode cX4_init 5 = .ok (.bipush 12, 2) := by decide +kernel
theorem dX4_init_7 : decode cX4_init 7 = .ok (.newarray .int, 2) := by decide +kernel
theorem dX4_init_9 : decode cX4_init 9 = .ok (.putfield 9, 3) := by decide +kernel
theorem dX4_init_12 : decode cX4_init 12 = .ok (.return_, 1) := by decide +kernel
theorem dX4_follow_0 : decode cX4_follow 0 = .ok (.iload_n 2, 1) := by decide +kernel
theorem dX4_follow_1 : decode cX4_follow 1 = .ok (.istore 4, 2) := by decide +kernel
theorem dX4_follow_3 : decode cX4_follow 3 = .ok (.iload_n 3, 1) := by decide +kernel
theorem dX4_follow_4 : decode cX4_follow 4 = .ok (.istore 5, 2) := by decide +kernel
theorem dX4_follow_6 : decode cX4_follow 6 = .ok (.aload_n 0, 1) := by decide +kernel
theorem dX4_follow_7 : decode cX4_follow 7 = .ok (.iconst 0, 1) := by decide +kernel
theorem dX4_follow_8 : decode cX4_follow 8 = .ok (.putfield 15, 3) := by decide +kernel
theorem dX4_follow_11 : decode cX4_follow 11 = .ok (.aload_n 0, 1) := by decide +kernel
theorem dX4_follow_12 : decode cX4_follow 12 = .ok (.getfield 15, 3) := by decide +kernel
theorem dX4_follow_15 : decode cX4_follow 15 = .ok (.bipush 12, 2) := by decide +kernel
theorem dX4_follow_17 : decode cX4_follow 17 = .ok (.if_icmp .ge 73, 3) := by decide +kernel
theorem dX4_follow_20 : decode cX4_follow 20 = .ok (.iload 4, 2) := by decide +kernel
theorem dX4_follow_22 : decode cX4_follow 22 = .ok (.bipush (-9), 2) := by decide +kernel
theorem dX4_follow_24 : decode cX4_follow 24 = .ok (.if_icmp .eq 66, 3) := by decide +kernel
theorem dX4_follow_27 : decode cX4_follow 27 = .ok (.aload_n 0, 1) := by decide +kernel
theorem dX4_follow_28 : decode cX4_follow 28 = .ok (.getfield 9, 3) := by decide +kernel
theorem dX4_follow_31 : decode cX4_follow 31 = .ok (.aload_n 0, 1) := by decide +kernel
theorem dX4_follow_32 : decode cX4_follow 32 = .ok (.getfield 15, 3) := by decide +kernel
theorem dX4_follow_35 : decode cX4_follow 35 = .ok (.iload 4, 2) := by decide +kernel
theorem dX4_follow_37 : decode cX4_follow 37 = .ok (.iastore, 1) := by decide +kernel
theorem dX4_follow_38 : decode cX4_follow 38 = .ok (.aload_n 0, 1) := by decide +kernel
theorem dX4_follow_39 : decode cX4_follow 39 = .ok (.dup, 1) := by decide +kernel
theorem dX4_follow_40 : decode cX4_follow 40 = .ok (.getfield 15, 3) := by decide +kernel
theorem dX4_follow_43 : decode cX4_follow 43 = .ok (.iconst 1, 1) := by decide +kernel
theorem dX4_follow_44 : decode cX4_follow 44 = .ok (.iadd, 1) := by decide +kernel
theorem dX4_follow_45 : decode cX4_follow 45 = .ok (.putfield 15, 3) := by decide +kernel
theorem dX4_follow_48 : decode cX4_follow 48 = .ok (.iload 5, 2) := by decide +kernel
theorem dX4_follow_50 : decode cX4_follow 50 = .ok (.iload_n 2, 1) := by decide +kernel
theorem dX4_follow_51 : decode cX4_follow 51 = .ok (.invokestatic 19, 3) := by decide +kernel
theorem dX4_follow_54 : decode cX4_follow 54 = .ok (.ifCond .eq 4, 3) := by decide +kernel
theorem dX4_follow_57 : decode cX4_follow 57 = .ok (.return_, 1) := by decide +kernel
theorem dX4_follow_58 : decode cX4_follow 58 = .ok (.aload_n 1, 1) := by decide +kernel
theorem dX4_follow_59 : decode cX4_follow 59 = .ok (.iload 5, 2) := by decide +kernel
theorem dX4_follow_61 : decode cX4_follow 61 = .ok (.iload_n 2, 1) := by decide +kernel
theorem dX4_follow_62 : decode cX4_follow 62 = .ok (.invokevirtual 23, 3) := by decide +kernel
theorem dX4_follow_65 : decode cX4_follow 65 = .ok (.istore 4, 2) := by decide +kernel
theorem dX4_follow_67 : decode cX4_follow 67 = .ok (.iload 4, 2) := by decide +kernel
theorem dX4_follow_69 : decode cX4_follow 69 = .ok (.bipush (-9), 2) := by decide +kernel
theorem dX4_follow_71 : decode cX4_follow 71 = .ok (.if_icmp .ne 7, 3) := by decide +kernel
theorem dX4_follow_74 : decode cX4_follow 74 = .ok (.iconst 0, 1) := by decide +kernel
theorem dX4_follow_75 : decode cX4_follow 75 = .ok (.goto 10, 3) := by decide +kernel
theorem dX4_follow_78 : decode cX4_follow 78 = .ok (.aload_n 1, 1) := by decide +kernel
theorem dX4_follow_79 : decode cX4_follow 79 = .ok (.getfield 29, 3) := by decide +kernel
theorem dX4_follow_82 : decode cX4_follow 82 = .ok (.iload 4, 2) := by decide +kernel
theorem dX4_follow_84 : decode cX4_follow 84 = .ok (.iaload, 1) := by decide +kernel
theorem dX4_follow_85 : decode cX4_follow 85 = .ok (.istore 5, 2) := by decide +kernel
theorem dX4_follow_87 : decode cX4_follow 87 = .ok (.goto (-76), 3) := by decide +kernel
theorem dX4_follow_90 : decode cX4_follow 90 = .ok (.return_, 1) := by decide +kernel
theorem dX5_init_0 : decode cX5_init 0 = .ok (.aload_n 0, 1) := by decide +kernel
theorem dX5_init_1 : decode cX5_init 1 = .ok (.invokespecial 3, 3) := by decide +kernel
theorem dX5_init_4 : decode cX5_init 4 = .ok (.aload_n 0, 1) := by decide +kernel
theorem dX5_init_5 : decode cX5_init 5 = .ok (.bipush 6, 2) := by decide +kernel
theorem dX5_init_7 : decode cX5_init 7 = .ok (.newarray .int, 2) := by decide +kernel
theorem dX5_init_9 : decode cX5_init 9 = .ok (.putfield 9, 3) := by decide +kernel
theorem dX5_init_12 : decode cX5_init 12 = .ok (.aload_n 0, 1) := by decide +kernel
theorem dX5_init_13 : decode cX5_init 13 = .ok (.bipush 6, 2) := by decide +kernel
theorem dX5_init_15 : decode cX5_init 15 = .ok (.newarray .int, 2) := by decide +kernel
theorem dX5_init_17 : decode cX5_init 17 = .ok (.putfield 15, 3) := by decide +kernel
theorem dX5_init_20 : decode cX5_init 20 = .ok (.aload_n 0, 1) := by decide +kernel
theorem dX5_init_21 : decode cX5_init 21 = .ok (.bipush 6, 2) := by decide +kernel
theorem dX5_init_23 : decode cX5_init 23 = .ok (.newarray .boolean, 2) := by decide +kernel
theorem dX5_init_25 : decode cX5_init 25 = .ok (.putfield 18, 3) := by decide +kernel
theorem dX5_init_28 : decode cX5_init 28 = .ok (.aload_n 0, 1) := by decide +kernel
theorem dX5_init_29 : decode cX5_init 29 = .ok (.bipush 6, 2) := by decide +kernel
theorem dX5_init_31 : decode cX5_init 31 = .ok (.bipush 12, 2) := by decide +kernel
theorem dX5_init_33 : decode cX5_init 33 = .ok (.multianewarray 22 2, 4) := by decide +kernel
theorem dX5_init_37 : decode cX5_init 37 = .ok (.putfield 24, 3) := by decide +kernel
theorem dX5_init_40 : decode cX5_init 40 = .ok (.aload_n 0, 1) := by decide +kernel
theorem dX5_init_41 : decode cX5_init 41 = .ok (.bipush 6, 2) := by decide +kernel
theorem dX5_init_43 : decode cX5_init 43 = .ok (.bipush 12, 2) := by decide +kernel
theorem dX5_init_45 : decode cX5_init 45 = .ok (.multianewarray 22 2, 4) := by decide +kernel
theorem dX5_init_49 : decode cX5_init 49 = .ok (.putfield 27, 3) := by decide +kernel
theorem dX5_init_52 : decode cX5_init 52 = .ok (.return_, 1) := by decide +kernel
theorem dX5_has_0 : decode cX5_has 0 = .ok (.iload_n 1, 1) := by decide +kernel
theorem dX5_has_1 : decode cX5_has 1 = .ok (.ifCond .lt 15, 3) := by decide +kernel
theorem dX5_has_4 : decode cX5_has 4 = .ok (.iload_n 1, 1) := by decide +kernel
theorem dX5_has_5 : decode cX5_has 5 = .ok (.aload_n 0, 1) := by decide +kernel
theorem dX5_has_6 : decode cX5_has 6 = .ok (.getfield 30, 3) := by decide +kernel
theorem dX5_has_9 : decode cX5_has 9 = .ok (.if_icmp .ge 7, 3) := by decide +kernel
theorem dX5_has_12 : decode cX5_has 12 = .ok (.iconst 1, 1) := by decide +kernel
theorem dX5_has_13 : decode cX5_has 13 = .ok (.goto 4, 3) := by decide +kernel
theorem dX5_has_16 : decode cX5_has 16 = .ok (.iconst 0, 1) := by decide +kernel
theorem dX5_has_17 : decode cX5_has 17 = .ok (.ireturn, 1) := by decide +kernel
theorem dX5_add_0 : decode cX5_add 0 = .ok (.aload_n 0, 1) := by decide +kernel
theorem dX5_add_1 : decode cX5_add 1 = .ok (.getfield 30, 3) := by decide +kernel
theorem dX5_add_4 : decode cX5_add 4 = .ok (.bipush 6, 2) := by decide +kernel
theorem dX5_add_6 : decode cX5_add 6 = .ok (.if_icmp .lt 6, 3) := by decide +kernel
theorem dX5_add_9 : decode cX5_add 9 = .ok (.bipush (-4), 2) := by decide +kernel
theorem dX5_add_11 : decode cX5_add 11 = .ok (.ireturn, 1) := by decide +kernel
theorem dX5_add_12 : decode cX5_add 12 = .ok (.aload_n 0, 1) := by decide +kernel
theorem dX5_add_13 : decode cX5_add 13 = .ok (.getfield 9, 3) := by decide +kernel
theorem dX5_add_16 : decode cX5_add 16 = .ok (.aload_n 0, 1) := by decide +kernel
theorem dX5_add_17 : decode cX5_add 17 = .ok (.getfield 30, 3) := by decide +kernel
theorem dX5_add_20 : decode cX5_add 20 = .ok (.iload_n 1, 1) := by decide +kernel
theorem dX5_add_21 : decode cX5_add 21 = .ok (.iastore, 1) := by decide +kernel
theorem dX5_add_22 : decode cX5_add 22 = .ok (.aload_n 0, 1) := by decide +kernel
theorem dX5_add_23 : decode cX5_add 23 = .ok (.getfield 15, 3) := by decide +kernel
theorem dX5_add_26 : decode cX5_add 26 = .ok (.aload_n 0, 1) := by decide +kernel
theorem dX5_add_27 : decode cX5_add 27 = .ok (.getfield 30, 3) := by decide +kernel
theorem dX5_add_30 : decode cX5_add 30 = .ok (.iload_n 2, 1) := by decide +kernel
theorem dX5_add_31 : decode cX5_add 31 = .ok (.iastore, 1) := by decide +kernel
theorem dX5_add_32 : decode cX5_add 32 = .ok (.iconst 0, 1) := by decide +kernel
theorem dX5_add_33 : decode cX5_add 33 = .ok (.istore 6, 2) := by decide +kernel
theorem dX5_add_35 : decode cX5_add 35 = .ok (.iload 6, 2) := by decide +kernel
theorem dX5_add_37 : decode cX5_add 37 = .ok (.bipush 12, 2) := by decide +kernel
theorem dX5_add_39 : decode cX5_add 39 = .ok (.if_icmp .ge 74, 3) := by decide +kernel
theorem dX5_add_42 : decode cX5_add 42 = .ok (.iload_n 2, 1) := by decide +kernel
theorem dX5_add_43 : decode cX5_add 43 = .ok (.iload 6, 2) := by decide +kernel
theorem dX5_add_45 : decode cX5_add 45 = .ok (.invokestatic 34, 3) := by decide +kernel
theorem dX5_add_48 : decode cX5_add 48 = .ok (.istore 7, 2) := by decide +kernel
theorem dX5_add_50 : decode cX5_add 50 = .ok (.aload_n 0, 1) := by decide +kernel
theorem dX5_add_51 : decode cX5_add 51 = .ok (.getfield 24, 3) := by decide +kernel
theorem dX5_add_54 : decode cX5_add 54 = .ok (.aload_n 0, 1) := by decide +kernel
theorem dX5_add_55 : decode cX5_add 55 = .ok (.getfield 30, 3) := by decide +kernel
theorem dX5_add_58 : decode cX5_add 58 = .ok (.aaload, 1) := by decide +kernel
theorem dX5_add_59 : decode cX5_add 59 = .ok (.iload 6, 2) := by decide +kernel
theorem dX5_add_61 : decode cX5_add 61 = .ok (.iload 7, 2) := by decide +kernel
theorem dX5_add_63 : decode cX5_add 63 = .ok (.ifCond .eq 10, 3) := by decide +kernel
theorem dX5_add_66 : decode cX5_add 66 = .ok (.aload_n 3, 1) := by decide +kernel
theorem dX5_add_67 : decode cX5_add 67 = .ok (.iload 6, 2) := by decide +kernel
theorem dX5_add_69 : decode cX5_add 69 = .ok (.iaload, 1) := by decide +kernel
theorem dX5_add_70 : decode cX5_add 70 = .ok (.goto 5, 3) := by decide +kernel
theorem dX5_add_73 : decode cX5_add 73 = .ok (.ldc 38, 2) := by decide +kernel
theorem dX5_add_75 : decode cX5_add 75 = .ok (.iastore, 1) := by decide +kernel
theorem dX5_add_76 : decode cX5_add 76 = .ok (.aload_n 0, 1) := by decide +kernel
theorem dX5_add_77 : decode cX5_add 77 = .ok (.getfield 27, 3) := by decide +kernel
theorem dX5_add_80 : decode cX5_add 80 = .ok (.aload_n 0, 1) := by decide +kernel
theorem dX5_add_81 : decode cX5_add 81 = .ok (.getfield 30, 3) := by decide +kernel
theorem dX5_add_84 : decode cX5_add 84 = .ok (.aaload, 1) := by decide +kernel
theorem dX5_add_85 : decode cX5_add 85 = .ok (.iload 6, 2) := by decide +kernel
theorem dX5_add_87 : decode cX5_add 87 = .ok (.iload 7, 2) := by decide +kernel
theorem dX5_add_89 : decode cX5_add 89 = .ok (.ifCond .eq 15, 3) := by decide +kernel
theorem dX5_add_92 : decode cX5_add 92 = .ok (.aload 5, 2) := by decide +kernel
theorem dX5_add_94 : decode cX5_add 94 = .ok (.aload 4, 2) := by decide +kernel
theorem dX5_add_96 : decode cX5_add 96 = .ok (.iload 6, 2) := by decide +kernel
theorem dX5_add_98 : decode cX5_add 98 = .ok (.invokevirtual 39, 3) := by decide +kernel
theorem dX5_add_101 : decode cX5_add 101 = .ok (.goto 5, 3) := by decide +kernel
theorem dX5_add_104 : decode cX5_add 104 = .ok (.bipush (-9), 2) := by decide +kernel
theorem dX5_add_106 : decode cX5_add 106 = .ok (.iastore, 1) := by decide +kernel
theorem dX5_add_107 : decode cX5_add 107 = .ok (.iinc 6 1, 3) := by decide +kernel
theorem dX5_add_110 : decode cX5_add 110 = .ok (.goto (-75), 3) := by decide +kernel
theorem dX5_add_113 : decode cX5_add 113 = .ok (.aload_n 0, 1) := by decide +kernel
theorem dX5_add_114 : decode cX5_add 114 = .ok (.dup, 1) := by decide +kernel
theorem dX5_add_115 : decode cX5_add 115 = .ok (.getfield 30, 3) := by decide +kernel
theorem dX5_add_118 : decode cX5_add 118 = .ok (.iconst 1, 1) := by decide +kernel
theorem dX5_add_119 : decode cX5_add 119 = .ok (.iadd, 1) := by decide +kernel
theorem dX5_add_120 : decode cX5_add 120 = .ok (.putfield 30, 3) := by decide +kernel
theorem dX5_add_123 : decode cX5_add 123 = .ok (.aload_n 0, 1) := by decide +kernel
theorem dX5_add_124 : decode cX5_add 124 = .ok (.getfield 30, 3) := by decide +kernel
theorem dX5_add_127 : decode cX5_add 127 = .ok (.iconst 1, 1) := by decide +kernel
theorem dX5_add_128 : decode cX5_add 128 = .ok (.isub, 1) := by decide +kernel
theorem dX5_add_129 : decode cX5_add 129 = .ok (.ireturn, 1) := by decide +kernel
theorem dX5_unbrokenBits_0 : decode cX5_unbrokenBits 0 = .ok (.iconst 0, 1) := by decide +kernel
theorem dX5_unbrokenBits_1 : decode cX5_unbrokenBits 1 = .ok (.istore_n 2, 1) := by decide +kernel
theorem dX5_unbrokenBits_2 : decode cX5_unbrokenBits 2 = .ok (.iconst 0, 1) := by decide +kernel
theorem dX5_unbrokenBits_3 : decode cX5_unbrokenBits 3 = .ok (.istore_n 3, 1) := by decide +kernel
theorem dX5_unbrokenBits_4 : decode cX5_unbrokenBits 4 = .ok (.iload_n 3, 1) := by decide +kernel
theorem dX5_unbrokenBits_5 : decode cX5_unbrokenBits 5 = .ok (.aload_n 0, 1) := by decide +kernel
theorem dX5_unbrokenBits_6 : decode cX5_unbrokenBits 6 = .ok (.getfield 30, 3) := by decide +kernel
theorem dX5_unbrokenBits_9 : decode cX5_unbrokenBits 9 = .ok (.if_icmp .ge 37, 3) := by decide +kernel
theorem dX5_unbrokenBits_12 : decode cX5_unbrokenBits 12 = .ok (.aload_n 0, 1) := by decide +kernel
theorem dX5_unbrokenBits_13 : decode cX5_unbrokenBits 13 = .ok (.getfield 9, 3) := by decide +kernel
theorem dX5_unbrokenBits_16 : decode cX5_unbrokenBits 16 = .ok (.iload_n 3, 1) := by decide +kernel
theorem dX5_unbrokenBits_17 : decode cX5_unbrokenBits 17 = .ok (.iaload, 1) := by decide +kernel
theorem dX5_unbrokenBits_18 : decode cX5_unbrokenBits 18 = .ok (.iload_n 1, 1) := by decide +kernel
theorem dX5_unbrokenBits_19 : decode cX5_unbrokenBits 19 = .ok (.if_icmp .ne 21, 3) := by decide +kernel
theorem dX5_unbrokenBits_22 : decode cX5_unbrokenBits 22 = .ok (.aload_n 0, 1) := by decide +kernel
theorem dX5_unbrokenBits_23 : decode cX5_unbrokenBits 23 = .ok (.getfield 18, 3) := by decide +kernel
theorem dX5_unbrokenBits_26 : decode cX5_unbrokenBits 26 = .ok (.iload_n 3, 1) := by decide +kernel
theorem dX5_unbrokenBits_27 : decode cX5_unbrokenBits 27 = .ok (.baload, 1) := by decide +kernel
theorem dX5_unbrokenBits_28 : decode cX5_unbrokenBits 28 = .ok (.ifCond .ne 12, 3) := by decide +kernel
theorem dX5_unbrokenBits_31 : decode cX5_unbrokenBits 31 = .ok (.iload_n 2, 1) := by decide +kernel
theorem dX5_unbrokenBits_32 : decode cX5_unbrokenBits 32 = .ok (.aload_n 0, 1) := by decide +kernel
theorem dX5_unbrokenBits_33 : decode cX5_unbrokenBits 33 = .ok (.getfield 15, 3) := by decide +kernel
theorem dX5_unbrokenBits_36 : decode cX5_unbrokenBits 36 = .ok (.iload_n 3, 1) := by decide +kernel
theorem dX5_unbrokenBits_37 : decode cX5_unbrokenBits 37 = .ok (.iaload, 1) := by decide +kernel
theorem dX5_unbrokenBits_38 : decode cX5_unbrokenBits 38 = .ok (.ior, 1) := by decide +kernel
theorem dX5_unbrokenBits_39 : decode cX5_unbrokenBits 39 = .ok (.istore_n 2, 1) := by decide +kernel
theorem dX5_unbrokenBits_40 : decode cX5_unbrokenBits 40 = .ok (.iinc 3 1, 3) := by decide +kernel
theorem dX5_unbrokenBits_43 : decode cX5_unbrokenBits 43 = .ok (.goto (-39), 3) := by decide +kernel
theorem dX5_unbrokenBits_46 : decode cX5_unbrokenBits 46 = .ok (.iload_n 2, 1) := by decide +kernel
theorem dX5_unbrokenBits_47 : decode cX5_unbrokenBits 47 = .ok (.ireturn, 1) := by decide +kernel
theorem dX5_agrees_0 : decode cX5_agrees 0 = .ok (.iconst 0, 1) := by decide +kernel
theorem dX5_agrees_1 : decode cX5_agrees 1 = .ok (.istore 4, 2) := by decide +kernel
theorem dX5_agrees_3 : decode cX5_agrees 3 = .ok (.iload 4, 2) := by decide +kernel
theorem dX5_agrees_5 : decode cX5_agrees 5 = .ok (.aload_n 2, 1) := by decide +kernel
theorem dX5_agrees_6 : decode cX5_agrees 6 = .ok (.getfield 45, 3) := by decide +kernel
theorem dX5_agrees_9 : decode cX5_agrees 9 = .ok (.if_icmp .ge 44, 3) := by decide +kernel
theorem dX5_agrees_12 : decode cX5_agrees 12 = .ok (.aload_n 0, 1) := by decide +kernel
theorem dX5_agrees_13 : decode cX5_agrees 13 = .ok (.getfield 15, 3) := by decide +kernel
theorem dX5_agrees_16 : decode cX5_agrees 16 = .ok (.iload_n 1, 1) := by decide +kernel
theorem dX5_agrees_17 : decode cX5_agrees 17 = .ok (.iaload, 1) := by decide +kernel
theorem dX5_agrees_18 : decode cX5_agrees 18 = .ok (.iload 4, 2) := by decide +kernel
theorem dX5_agrees_20 : decode cX5_agrees 20 = .ok (.invokestatic 34, 3) := by decide +kernel
theorem dX5_agrees_23 : decode cX5_agrees 23 = .ok (.ifCond .eq 24, 3) := by decide +kernel
theorem dX5_agrees_26 : decode cX5_agrees 26 = .ok (.aload_n 3, 1) := by decide +kernel
theorem dX5_agrees_27 : decode cX5_agrees 27 = .ok (.aload_n 2, 1) := by decide +kernel
theorem dX5_agrees_28 : decode cX5_agrees 28 = .ok (.iload 4, 2) := by decide +kernel
theorem dX5_agrees_30 : decode cX5_agrees 30 = .ok (.invokevirtual 39, 3) := by decide +kernel
theorem dX5_agrees_33 : decode cX5_agrees 33 = .ok (.aload_n 0, 1) := by decide +kernel
theorem dX5_agrees_34 : decode cX5_agrees 34 = .ok (.getfield 27, 3) := by decide +kernel
theorem dX5_agrees_37 : decode cX5_agrees 37 = .ok (.iload_n 1, 1) := by decide +kernel
theorem dX5_agrees_38 : decode cX5_agrees 38 = .ok (.aaload, 1) := by decide +kernel
theorem dX5_agrees_39 : decode cX5_agrees 39 = .ok (.iload 4, 2) := by decide +kernel
theorem dX5_agrees_41 : decode cX5_agrees 41 = .ok (.iaload, 1) := by decide +kernel
theorem dX5_agrees_42 : decode cX5_agrees 42 = .ok (.if_icmp .eq 5, 3) := by decide +kernel
theorem dX5_agrees_45 : decode cX5_agrees 45 = .ok (.iconst 0, 1) := by decide +kernel
theorem dX5_agrees_46 : decode cX5_agrees 46 = .ok (.ireturn, 1) := by decide +kernel
theorem dX5_agrees_47 : decode cX5_agrees 47 = .ok (.iinc 4 1, 3) := by decide +kernel
theorem dX5_agrees_50 : decode cX5_agrees 50 = .ok (.goto (-47), 3) := by decide +kernel
theorem dX5_agrees_53 : decode cX5_agrees 53 = .ok (.iconst 1, 1) := by decide +kernel
theorem dX5_agrees_54 : decode cX5_agrees 54 = .ok (.ireturn, 1) := by decide +kernel
theorem dX6_init_0 : decode cX6_init 0 = .ok (.aload_n 0, 1) := by decide +kernel
theorem dX6_init_1 : decode cX6_init 1 = .ok (.invokespecial 3, 3) := by decide +kernel
theorem dX6_init_4 : decode cX6_init 4 = .ok (.aload_n 0, 1) := by decide +kernel
theorem dX6_init_5 : decode cX6_init 5 = .ok (.bipush 50, 2) := by decide +kernel
theorem dX6_init_7 : decode cX6_init 7 = .ok (.newarray .int, 2) := by decide +kernel
theorem dX6_init_9 : decode cX6_init 9 = .ok (.putfield 9, 3) := by decide +kernel
theorem dX6_init_12 : decode cX6_init 12 = .ok (.aload_n 0, 1) := by decide +kernel
theorem dX6_init_13 : decode cX6_init 13 = .ok (.bipush 12, 2) := by decide +kernel
theorem dX6_init_15 : decode cX6_init 15 = .ok (.newarray .boolean, 2) := by decide +kernel
theorem dX6_init_17 : decode cX6_init 17 = .ok (.putfield 15, 3) := by decide +kernel
theorem dX6_init_20 : decode cX6_init 20 = .ok (.aload_n 0, 1) := by decide +kernel
theorem dX6_init_21 : decode cX6_init 21 = .ok (.bipush 12, 2) := by decide +kernel
theorem dX6_init_23 : decode cX6_init 23 = .ok (.newarray .int, 2) := by decide +kernel
theorem dX6_init_25 : decode cX6_init 25 = .ok (.putfield 19, 3) := by decide +kernel
theorem dX6_init_28 : decode cX6_init 28 = .ok (.return_, 1) := by decide +kernel
theorem dX6_look_0 : decode cX6_look 0 = .ok (.iconst 0, 1) := by decide +kernel
theorem dX6_look_1 : decode cX6_look 1 = .ok (.istore_n 3, 1) := by decide +kernel
theorem dX6_look_2 : decode cX6_look 2 = .ok (.iload_n 3, 1) := by decide +kernel
theorem dX6_look_3 : decode cX6_look 3 = .ok (.aload_n 1, 1) := by decide +kernel
theorem dX6_look_4 : decode cX6_look 4 = .ok (.getfield 22, 3) := by decide +kernel
theorem dX6_look_7 : decode cX6_look 7 = .ok (.if_icmp .ge 21, 3) := by decide +kernel
theorem dX6_look_10 : decode cX6_look 10 = .ok (.aload_n 0, 1) := by decide +kernel
theorem dX6_look_11 : decode cX6_look 11 = .ok (.aload_n 1, 1) := by decide +kernel
theorem dX6_look_12 : decode cX6_look 12 = .ok (.aload_n 2, 1) := by decide +kernel
theorem dX6_look_13 : decode cX6_look 13 = .ok (.aload_n 1, 1) := by decide +kernel
theorem dX6_look_14 : decode cX6_look 14 = .ok (.getfield 28, 3) := by decide +kernel
theorem dX6_look_17 : decode cX6_look 17 = .ok (.iload_n 3, 1) := by decide +kernel
theorem dX6_look_18 : decode cX6_look 18 = .ok (.iaload, 1) := by decide +kernel
theorem dX6_look_19 : decode cX6_look 19 = .ok (.invokevirtual 31, 3) := by decide +kernel
theorem dX6_look_22 : decode cX6_look 22 = .ok (.iinc 3 1, 3) := by decide +kernel
theorem dX6_look_25 : decode cX6_look 25 = .ok (.goto (-23), 3) := by decide +kernel
theorem dX6_look_28 : decode cX6_look 28 = .ok (.return_, 1) := by decide +kernel
theorem dX6_lookAgain_0 : decode cX6_lookAgain 0 = .ok (.iconst 0, 1) := by decide +kernel
theorem dX6_lookAgain_1 : decode cX6_lookAgain 1 = .ok (.istore 4, 2) := by decide +kernel
theorem dX6_lookAgain_3 : decode cX6_lookAgain 3 = .ok (.iload 4, 2) := by decide +kernel
theorem dX6_lookAgain_5 : decode cX6_lookAgain 5 = .ok (.aload_n 1, 1) := by decide +kernel
theorem dX6_lookAgain_6 : decode cX6_lookAgain 6 = .ok (.getfield 22, 3) := by decide +kernel
theorem dX6_lookAgain_9 : decode cX6_lookAgain 9 = .ok (.if_icmp .ge 34, 3) := by decide +kernel
theorem dX6_lookAgain_12 : decode cX6_lookAgain 12 = .ok (.aload_n 1, 1) := by decide +kernel
theorem dX6_lookAgain_13 : decode cX6_lookAgain 13 = .ok (.getfield 35, 3) := by decide +kernel
theorem dX6_lookAgain_16 : decode cX6_lookAgain 16 = .ok (.iload 4, 2) := by decide +kernel
theorem dX6_lookAgain_18 : decode cX6_lookAgain 18 = .ok (.iaload, 1) := by decide +kernel
theorem dX6_lookAgain_19 : decode cX6_lookAgain 19 = .ok (.iload_n 3, 1) := by decide +kernel
theorem dX6_lookAgain_20 : decode cX6_lookAgain 20 = .ok (.iand, 1) := by decide +kernel
theorem dX6_lookAgain_21 : decode cX6_lookAgain 21 = .ok (.ifCond .eq 16, 3) := by decide +kernel
theorem dX6_lookAgain_24 : decode cX6_lookAgain 24 = .ok (.aload_n 0, 1) := by decide +kernel
theorem dX6_lookAgain_25 : decode cX6_lookAgain 25 = .ok (.aload_n 1, 1) := by decide +kernel
theorem dX6_lookAgain_26 : decode cX6_lookAgain 26 = .ok (.aload_n 2, 1) := by decide +kernel
theorem dX6_lookAgain_27 : decode cX6_lookAgain 27 = .ok (.aload_n 1, 1) := by decide +kernel
theorem dX6_lookAgain_28 : decode cX6_lookAgain 28 = .ok (.getfield 28, 3) := by decide +kernel
theorem dX6_lookAgain_31 : decode cX6_lookAgain 31 = .ok (.iload 4, 2) := by decide +kernel
theorem dX6_lookAgain_33 : decode cX6_lookAgain 33 = .ok (.iaload, 1) := by decide +kernel
theorem dX6_lookAgain_34 : decode cX6_lookAgain 34 = .ok (.invokevirtual 31, 3) := by decide +kernel
theorem dX6_lookAgain_37 : decode cX6_lookAgain 37 = .ok (.iinc 4 1, 3) := by decide +kernel
theorem dX6_lookAgain_40 : decode cX6_lookAgain 40 = .ok (.goto (-37), 3) := by decide +kernel
theorem dX6_lookAgain_43 : decode cX6_lookAgain 43 = .ok (.return_, 1) := by decide +kernel
theorem dX6_valueOf_0 : decode cX6_valueOf 0 = .ok (.iload_n 1, 1) := by decide +kernel
theorem dX6_valueOf_1 : decode cX6_valueOf 1 = .ok (.bipush (-9), 2) := by decide +kernel
theorem dX6_valueOf_3 : decode cX6_valueOf 3 = .ok (.if_icmp .ne 8, 3) := by decide +kernel
theorem dX6_valueOf_6 : decode cX6_valueOf 6 = .ok (.ldc 38, 2) := by decide +kernel
theorem dX6_valueOf_8 : decode cX6_valueOf 8 = .ok (.goto 9, 3) := by decide +kernel
theorem dX6_valueOf_11 : decode cX6_valueOf 11 = .ok (.aload_n 0, 1) := by decide +kernel
theorem dX6_valueOf_12 : decode cX6_valueOf 12 = .ok (.getfield 9, 3) := by decide +kernel
theorem dX6_valueOf_15 : decode cX6_valueOf 15 = .ok (.iload_n 1, 1) := by decide +kernel
theorem dX6_valueOf_16 : decode cX6_valueOf 16 = .ok (.iaload, 1) := by decide +kernel
theorem dX6_valueOf_17 : decode cX6_valueOf 17 = .ok (.ireturn, 1) := by decide +kernel
theorem dX6_statusOf_0 : decode cX6_statusOf 0 = .ok (.aload_n 0, 1) := by decide +kernel
theorem dX6_statusOf_1 : decode cX6_statusOf 1 = .ok (.getfield 15, 3) := by decide +kernel
theorem dX6_statusOf_4 : decode cX6_statusOf 4 = .ok (.iload_n 2, 1) := by decide +kernel
theorem dX6_statusOf_5 : decode cX6_statusOf 5 = .ok (.baload, 1) := by decide +kernel
theorem dX6_statusOf_6 : decode cX6_statusOf 6 = .ok (.ifCond .ne 5, 3) := by decide +kernel
theorem dX6_statusOf_9 : decode cX6_statusOf 9 = .ok (.iconst 0, 1) := by decide +kernel
theorem dX6_statusOf_10 : decode cX6_statusOf 10 = .ok (.ireturn, 1) := by decide +kernel
theorem dX6_statusOf_11 : decode cX6_statusOf 11 = .ok (.aload_n 0, 1) := by decide +kernel
theorem dX6_statusOf_12 : decode cX6_statusOf 12 = .ok (.getfield 19, 3) := by decide +kernel
theorem dX6_statusOf_15 : decode cX6_statusOf 15 = .ok (.iload_n 2, 1) := by decide +kernel
theorem dX6_statusOf_16 : decode cX6_statusOf 16 = .ok (.iaload, 1) := by decide +kernel
theorem dX6_statusOf_17 : decode cX6_statusOf 17 = .ok (.ldc 38, 2) := by decide +kernel
theorem dX6_statusOf_19 : decode cX6_statusOf 19 = .ok (.if_icmp .ne 27, 3) := by decide +kernel
theorem dX6_statusOf_22 : decode cX6_statusOf 22 = .ok (.aload_n 0, 1) := by decide +kernel
theorem dX6_statusOf_23 : decode cX6_statusOf 23 = .ok (.aload_n 1, 1) := by decide +kernel
theorem dX6_statusOf_24 : decode cX6_statusOf 24 = .ok (.getfield 39, 3) := by decide +kernel
theorem dX6_statusOf_27 : decode cX6_statusOf 27 = .ok (.iload_n 2, 1) := by decide +kernel
theorem dX6_statusOf_28 : decode cX6_statusOf 28 = .ok (.aaload, 1) := by decide +kernel
theorem dX6_statusOf_29 : decode cX6_statusOf 29 = .ok (.iconst 1, 1) := by decide +kernel
theorem dX6_statusOf_30 : decode cX6_statusOf 30 = .ok (.iaload, 1) := by decide +kernel
theorem dX6_statusOf_31 : decode cX6_statusOf 31 = .ok (.invokevirtual 45, 3) := by decide +kernel
theorem dX6_statusOf_34 : decode cX6_statusOf 34 = .ok (.invokestatic 49, 3) := by decide +kernel
theorem dX6_statusOf_37 : decode cX6_statusOf 37 = .ok (.ifCond .eq 7, 3) := by decide +kernel
theorem dX6_statusOf_40 : decode cX6_statusOf 40 = .ok (.iconst 2, 1) := by decide +kernel
theorem dX6_statusOf_41 : decode cX6_statusOf 41 = .ok (.goto 4, 3) := by decide +kernel
theorem dX6_statusOf_44 : decode cX6_statusOf 44 = .ok (.iconst 1, 1) := by decide +kernel
theorem dX6_statusOf_45 : decode cX6_statusOf 45 = .ok (.ireturn, 1) := by decide +kernel
theorem dX6_statusOf_46 : decode cX6_statusOf 46 = .ok (.aload_n 0, 1) := by decide +kernel
theorem dX6_statusOf_47 : decode cX6_statusOf 47 = .ok (.aload_n 1, 1) := by decide +kernel
theorem dX6_statusOf_48 : decode cX6_statusOf 48 = .ok (.getfield 39, 3) := by decide +kernel
theorem dX6_statusOf_51 : decode cX6_statusOf 51 = .ok (.iload_n 2, 1) := by decide +kernel
theorem dX6_statusOf_52 : decode cX6_statusOf 52 = .ok (.aaload, 1) := by decide +kernel
theorem dX6_statusOf_53 : decode cX6_statusOf 53 = .ok (.iconst 2, 1) := by decide +kernel
theorem dX6_statusOf_54 : decode cX6_statusOf 54 = .ok (.iaload, 1) := by decide +kernel
theorem dX6_statusOf_55 : decode cX6_statusOf 55 = .ok (.invokevirtual 45, 3) := by decide +kernel
theorem dX6_statusOf_58 : decode cX6_statusOf 58 = .ok (.ifCond .ne 7, 3) := by decide +kernel
theorem dX6_statusOf_61 : decode cX6_statusOf 61 = .ok (.iconst 4, 1) := by decide +kernel
theorem dX6_statusOf_62 : decode cX6_statusOf 62 = .ok (.goto 4, 3) := by decide +kernel
theorem dX6_statusOf_65 : decode cX6_statusOf 65 = .ok (.iconst 3, 1) := by decide +kernel
theorem dX6_statusOf_66 : decode cX6_statusOf 66 = .ok (.ireturn, 1) := by decide +kernel
theorem dX6_takeStep_0 : decode cX6_takeStep 0 = .ok (.iload_n 3, 1) := by decide +kernel
theorem dX6_takeStep_1 : decode cX6_takeStep 1 = .ok (.bipush 50, 2) := by decide +kernel
theorem dX6_takeStep_3 : decode cX6_takeStep 3 = .ok (.if_icmp .ge 21, 3) := by decide +kernel
theorem dX6_takeStep_6 : decode cX6_takeStep 6 = .ok (.aload_n 0, 1) := by decide +kernel
theorem dX6_takeStep_7 : decode cX6_takeStep 7 = .ok (.getfield 9, 3) := by decide +kernel
theorem dX6_takeStep_10 : decode cX6_takeStep 10 = .ok (.iload_n 3, 1) := by decide +kernel
theorem dX6_takeStep_11 : decode cX6_takeStep 11 = .ok (.aload_n 0, 1) := by decide +kernel
theorem dX6_takeStep_12 : decode cX6_takeStep 12 = .ok (.aload_n 1, 1) := by decide +kernel
theorem dX6_takeStep_13 : decode cX6_takeStep 13 = .ok (.getfield 53, 3) := by decide +kernel
theorem dX6_takeStep_16 : decode cX6_takeStep 16 = .ok (.iload_n 3, 1) := by decide +kernel
theorem dX6_takeStep_17 : decode cX6_takeStep 17 = .ok (.invokevirtual 57, 3) := by decide +kernel
theorem dX6_takeStep_20 : decode cX6_takeStep 20 = .ok (.iastore, 1) := by decide +kernel
theorem dX6_takeStep_21 : decode cX6_takeStep 21 = .ok (.goto 16, 3) := by decide +kernel
theorem dX6_takeStep_24 : decode cX6_takeStep 24 = .ok (.aload_n 0, 1) := by decide +kernel
theorem dX6_takeStep_25 : decode cX6_takeStep 25 = .ok (.aload_n 1, 1) := by decide +kernel
theorem dX6_takeStep_26 : decode cX6_takeStep 26 = .ok (.getfield 61, 3) := by decide +kernel
theorem dX6_takeStep_29 : decode cX6_takeStep 29 = .ok (.aload_n 2, 1) := by decide +kernel
theorem dX6_takeStep_30 : decode cX6_takeStep 30 = .ok (.iload_n 3, 1) := by decide +kernel
theorem dX6_takeStep_31 : decode cX6_takeStep 31 = .ok (.bipush 50, 2) := by decide +kernel
theorem dX6_takeStep_33 : decode cX6_takeStep 33 = .ok (.isub, 1) := by decide +kernel
theorem dX6_takeStep_34 : decode cX6_takeStep 34 = .ok (.invokevirtual 65, 3) := by decide +kernel
theorem dX6_takeStep_37 : decode cX6_takeStep 37 = .ok (.return_, 1) := by decide +kernel
theorem dX6_takeField_0 : decode cX6_takeField 0 = .ok (.aload_n 1, 1) := by decide +kernel
theorem dX6_takeField_1 : decode cX6_takeField 1 = .ok (.getfield 39, 3) := by decide +kernel
theorem dX6_takeField_4 : decode cX6_takeField 4 = .ok (.iload_n 3, 1) := by decide +kernel
theorem dX6_takeField_5 : decode cX6_takeField 5 = .ok (.aaload, 1) := by decide +kernel
theorem dX6_takeField_6 : decode cX6_takeField 6 = .ok (.iconst 0, 1) := by decide +kernel
theorem dX6_takeField_7 : decode cX6_takeField 7 = .ok (.iaload, 1) := by decide +kernel
theorem dX6_takeField_8 : decode cX6_takeField 8 = .ok (.istore 4, 2) := by decide +kernel
theorem dX6_takeField_10 : decode cX6_takeField 10 = .ok (.aload_n 0, 1) := by decide +kernel
theorem dX6_takeField_11 : decode cX6_takeField 11 = .ok (.getfield 15, 3) := by decide +kernel
theorem dX6_takeField_14 : decode cX6_takeField 14 = .ok (.iload_n 3, 1) := by decide +kernel
theorem dX6_takeField_15 : decode cX6_takeField 15 = .ok (.iload 4, 2) := by decide +kernel
theorem dX6_takeField_17 : decode cX6_takeField 17 = .ok (.bipush (-9), 2) := by decide +kernel
theorem dX6_takeField_19 : decode cX6_takeField 19 = .ok (.if_icmp .eq 16, 3) := by decide +kernel
theorem dX6_takeField_22 : decode cX6_takeField 22 = .ok (.aload_n 0, 1) := by decide +kernel
theorem dX6_takeField_23 : decode cX6_takeField 23 = .ok (.getfield 9, 3) := by decide +kernel
theorem dX6_takeField_26 : decode cX6_takeField 26 = .ok (.iload 4, 2) := by decide +kernel
theorem dX6_takeField_28 : decode cX6_takeField 28 = .ok (.iaload, 1) := by decide +kernel
theorem dX6_takeField_29 : decode cX6_takeField 29 = .ok (.invokestatic 49, 3) := by decide +kernel
theorem dX6_takeField_32 : decode cX6_takeField 32 = .ok (.ifCond .eq 7, 3) := by decide +kernel
theorem dX6_takeField_35 : decode cX6_takeField 35 = .ok (.iconst 1, 1) := by decide +kernel
theorem dX6_takeField_36 : decode cX6_takeField 36 = .ok (.goto 4, 3) := by decide +kernel
theorem dX6_takeField_39 : decode cX6_takeField 39 = .ok (.iconst 0, 1) := by decide +kernel
theorem dX6_takeField_40 : decode cX6_takeField 40 = .ok (.bastore, 1) := by decide +kernel
theorem dX6_takeField_41 : decode cX6_takeField 41 = .ok (.aload_n 1, 1) := by decide +kernel
theorem dX6_takeField_42 : decode cX6_takeField 42 = .ok (.getfield 69, 3) := by decide +kernel
theorem dX6_takeField_45 : decode cX6_takeField 45 = .ok (.iload_n 3, 1) := by decide +kernel
theorem dX6_takeField_46 : decode cX6_takeField 46 = .ok (.baload, 1) := by decide +kernel
theorem dX6_takeField_47 : decode cX6_takeField 47 = .ok (.ifCond .eq 18, 3) := by decide +kernel
theorem dX6_takeField_50 : decode cX6_takeField 50 = .ok (.aload_n 0, 1) := by decide +kernel
theorem dX6_takeField_51 : decode cX6_takeField 51 = .ok (.aload_n 1, 1) := by decide +kernel
theorem dX6_takeField_52 : decode cX6_takeField 52 = .ok (.getfield 39, 3) := by decide +kernel
theorem dX6_takeField_55 : decode cX6_takeField 55 = .ok (.iload_n 3, 1) := by decide +kernel
theorem dX6_takeField_56 : decode cX6_takeField 56 = .ok (.aaload, 1) := by decide +kernel
theorem dX6_takeField_57 : decode cX6_takeField 57 = .ok (.iconst 3, 1) := by decide +kernel
theorem dX6_takeField_58 : decode cX6_takeField 58 = .ok (.iaload, 1) := by decide +kernel
theorem dX6_takeField_59 : decode cX6_takeField 59 = .ok (.invokevirtual 45, 3) := by decide +kernel
theorem dX6_takeField_62 : decode cX6_takeField 62 = .ok (.goto 6, 3) := by decide +kernel
theorem dX6_takeField_65 : decode cX6_takeField 65 = .ok (.aload_n 2, 1) := by decide +kernel
theorem dX6_takeField_66 : decode cX6_takeField 66 = .ok (.iload_n 3, 1) := by decide +kernel
theorem dX6_takeField_67 : decode cX6_takeField 67 = .ok (.iaload, 1) := by decide +kernel
theorem dX6_takeField_68 : decode cX6_takeField 68 = .ok (.istore 5, 2) := by decide +kernel
theorem dX6_takeField_70 : decode cX6_takeField 70 = .ok (.aload_n 0, 1) := by decide +kernel
theorem dX6_takeField_71 : decode cX6_takeField 71 = .ok (.getfield 19, 3) := by decide +kernel
theorem dX6_takeField_74 : decode cX6_takeField 74 = .ok (.iload_n 3, 1) := by decide +kernel
theorem dX6_takeField_75 : decode cX6_takeField 75 = .ok (.aload_n 0, 1) := by decide +kernel
theorem dX6_takeField_76 : decode cX6_takeField 76 = .ok (.getfield 15, 3) := by decide +kernel
theorem dX6_takeField_79 : decode cX6_takeField 79 = .ok (.iload_n 3, 1) := by decide +kernel
theorem dX6_takeField_80 : decode cX6_takeField 80 = .ok (.baload, 1) := by decide +kernel
theorem dX6_takeField_81 : decode cX6_takeField 81 = .ok (.ifCond .eq 18, 3) := by decide +kernel
theorem dX6_takeField_84 : decode cX6_takeField 84 = .ok (.aload_n 1, 1) := by decide +kernel
theorem dX6_takeField_85 : decode cX6_takeField 85 = .ok (.iload_n 3, 1) := by decide +kernel
theorem dX6_takeField_86 : decode cX6_takeField 86 = .ok (.iload 5, 2) := by decide +kernel
theorem dX6_takeField_88 : decode cX6_takeField 88 = .ok (.invokevirtual 72, 3) := by decide +kernel
theorem dX6_takeField_91 : decode cX6_takeField 91 = .ok (.ifCond .eq 8, 3) := by decide +kernel
theorem dX6_takeField_94 : decode cX6_takeField 94 = .ok (.iload 5, 2) := by decide +kernel
theorem dX6_takeField_96 : decode cX6_takeField 96 = .ok (.goto 5, 3) := by decide +kernel
theorem dX6_takeField_99 : decode cX6_takeField 99 = .ok (.ldc 38, 2) := by decide +kernel
theorem dX6_takeField_101 : decode cX6_takeField 101 = .ok (.iastore, 1) := by decide +kernel
theorem dX6_takeField_102 : decode cX6_takeField 102 = .ok (.return_, 1) := by decide +kernel
theorem dX6_workOut_0 : decode cX6_workOut 0 = .ok (.aload_n 1, 1) := by decide +kernel
theorem dX6_workOut_1 : decode cX6_workOut 1 = .ok (.getfield 76, 3) := by decide +kernel
theorem dX6_workOut_4 : decode cX6_workOut 4 = .ok (.iload_n 2, 1) := by decide +kernel
theorem dX6_workOut_5 : decode cX6_workOut 5 = .ok (.iaload, 1) := by decide +kernel
theorem dX6_workOut_6 : decode cX6_workOut 6 = .ok (.istore_n 3, 1) := by decide +kernel
theorem dX6_workOut_7 : decode cX6_workOut 7 = .ok (.aload_n 1, 1) := by decide +kernel
theorem dX6_workOut_8 : decode cX6_workOut 8 = .ok (.getfield 81, 3) := by decide +kernel
theorem dX6_workOut_11 : decode cX6_workOut 11 = .ok (.iload_n 2, 1) := by decide +kernel
theorem dX6_workOut_12 : decode cX6_workOut 12 = .ok (.iaload, 1) := by decide +kernel
theorem dX6_workOut_13 : decode cX6_workOut 13 = .ok (.tableswitch 172 0 11 #[63, 65, 172, 172, 172, 172, 172, 172, 172, 92, 72, 126], 63) := by decide +kernel
theorem dX6_workOut_76 : decode cX6_workOut 76 = .ok (.iload_n 3, 1) := by decide +kernel
theorem dX6_workOut_77 : decode cX6_workOut 77 = .ok (.ireturn, 1) := by decide +kernel
theorem dX6_workOut_78 : decode cX6_workOut 78 = .ok (.aload_n 0, 1) := by decide +kernel
theorem dX6_workOut_79 : decode cX6_workOut 79 = .ok (.getfield 19, 3) := by decide +kernel
theorem dX6_workOut_82 : decode cX6_workOut 82 = .ok (.iload_n 3, 1) := by decide +kernel
theorem dX6_workOut_83 : decode cX6_workOut 83 = .ok (.iaload, 1) := by decide +kernel
theorem dX6_workOut_84 : decode cX6_workOut 84 = .ok (.ireturn, 1) := by decide +kernel
theorem dX6_workOut_85 : decode cX6_workOut 85 = .ok (.aload_n 0, 1) := by decide +kernel
theorem dX6_workOut_86 : decode cX6_workOut 86 = .ok (.getfield 19, 3) := by decide +kernel
theorem dX6_workOut_89 : decode cX6_workOut 89 = .ok (.iload_n 3, 1) := by decide +kernel
theorem dX6_workOut_90 : decode cX6_workOut 90 = .ok (.iaload, 1) := by decide +kernel
theorem dX6_workOut_91 : decode cX6_workOut 91 = .ok (.ldc 38, 2) := by decide +kernel
theorem dX6_workOut_93 : decode cX6_workOut 93 = .ok (.if_icmp .eq 7, 3) := by decide +kernel
theorem dX6_workOut_96 : decode cX6_workOut 96 = .ok (.iconst 1, 1) := by decide +kernel
theorem dX6_workOut_97 : decode cX6_workOut 97 = .ok (.goto 4, 3) := by decide +kernel
theorem dX6_workOut_100 : decode cX6_workOut 100 = .ok (.iconst 0, 1) := by decide +kernel
theorem dX6_workOut_101 : decode cX6_workOut 101 = .ok (.invokestatic 84, 3) := by decide +kernel
theorem dX6_workOut_104 : decode cX6_workOut 104 = .ok (.ireturn, 1) := by decide +kernel
theorem dX6_workOut_105 : decode cX6_workOut 105 = .ok (.aload_n 0, 1) := by decide +kernel
theorem dX6_workOut_106 : decode cX6_workOut 106 = .ok (.getfield 9, 3) := by decide +kernel
theorem dX6_workOut_109 : decode cX6_workOut 109 = .ok (.iload_n 3, 1) := by decide +kernel
theorem dX6_workOut_110 : decode cX6_workOut 110 = .ok (.iaload, 1) := by decide +kernel
theorem dX6_workOut_111 : decode cX6_workOut 111 = .ok (.ldc 38, 2) := by decide +kernel
theorem dX6_workOut_113 : decode cX6_workOut 113 = .ok (.if_icmp .ne 8, 3) := by decide +kernel
theorem dX6_workOut_116 : decode cX6_workOut 116 = .ok (.ldc 38, 2) := by decide +kernel
theorem dX6_workOut_118 : decode cX6_workOut 118 = .ok (.goto 20, 3) := by decide +kernel
theorem dX6_workOut_121 : decode cX6_workOut 121 = .ok (.aload_n 0, 1) := by decide +kernel
theorem dX6_workOut_122 : decode cX6_workOut 122 = .ok (.getfield 9, 3) := by decide +kernel
theorem dX6_workOut_125 : decode cX6_workOut 125 = .ok (.iload_n 3, 1) := by decide +kernel
theorem dX6_workOut_126 : decode cX6_workOut 126 = .ok (.iaload, 1) := by decide +kernel
theorem dX6_workOut_127 : decode cX6_workOut 127 = .ok (.ifCond .ne 7, 3) := by decide +kernel
theorem dX6_workOut_130 : decode cX6_workOut 130 = .ok (.iconst 1, 1) := by decide +kernel
theorem dX6_workOut_131 : decode cX6_workOut 131 = .ok (.goto 4, 3) := by decide +kernel
theorem dX6_workOut_134 : decode cX6_workOut 134 = .ok (.iconst 0, 1) := by decide +kernel
theorem dX6_workOut_135 : decode cX6_workOut 135 = .ok (.invokestatic 84, 3) := by decide +kernel
theorem dX6_workOut_138 : decode cX6_workOut 138 = .ok (.ireturn, 1) := by decide +kernel
theorem dX6_workOut_139 : decode cX6_workOut 139 = .ok (.aload_n 0, 1) := by decide +kernel
theorem dX6_workOut_140 : decode cX6_workOut 140 = .ok (.getfield 9, 3) := by decide +kernel
theorem dX6_workOut_143 : decode cX6_workOut 143 = .ok (.iload_n 3, 1) := by decide +kernel
theorem dX6_workOut_144 : decode cX6_workOut 144 = .ok (.iaload, 1) := by decide +kernel
theorem dX6_workOut_145 : decode cX6_workOut 145 = .ok (.ldc 38, 2) := by decide +kernel
theorem dX6_workOut_147 : decode cX6_workOut 147 = .ok (.if_icmp .ne 8, 3) := by decide +kernel
theorem dX6_workOut_150 : decode cX6_workOut 150 = .ok (.ldc 38, 2) := by decide +kernel
theorem dX6_workOut_152 : decode cX6_workOut 152 = .ok (.goto 32, 3) := by decide +kernel
theorem dX6_workOut_155 : decode cX6_workOut 155 = .ok (.aload_n 0, 1) := by decide +kernel
theorem dX6_workOut_156 : decode cX6_workOut 156 = .ok (.getfield 9, 3) := by decide +kernel
theorem dX6_workOut_159 : decode cX6_workOut 159 = .ok (.aload_n 0, 1) := by decide +kernel
theorem dX6_workOut_160 : decode cX6_workOut 160 = .ok (.getfield 9, 3) := by decide +kernel
theorem dX6_workOut_163 : decode cX6_workOut 163 = .ok (.iload_n 3, 1) := by decide +kernel
theorem dX6_workOut_164 : decode cX6_workOut 164 = .ok (.iaload, 1) := by decide +kernel
theorem dX6_workOut_165 : decode cX6_workOut 165 = .ok (.ifCond .eq 12, 3) := by decide +kernel
theorem dX6_workOut_168 : decode cX6_workOut 168 = .ok (.aload_n 1, 1) := by decide +kernel
theorem dX6_workOut_169 : decode cX6_workOut 169 = .ok (.getfield 88, 3) := by decide +kernel
theorem dX6_workOut_172 : decode cX6_workOut 172 = .ok (.iload_n 2, 1) := by decide +kernel
theorem dX6_workOut_173 : decode cX6_workOut 173 = .ok (.iaload, 1) := by decide +kernel
theorem dX6_workOut_174 : decode cX6_workOut 174 = .ok (.goto 9, 3) := by decide +kernel
theorem dX6_workOut_177 : decode cX6_workOut 177 = .ok (.aload_n 1, 1) := by decide +kernel
theorem dX6_workOut_178 : decode cX6_workOut 178 = .ok (.getfield 91, 3) := by decide +kernel
theorem dX6_workOut_181 : decode cX6_workOut 181 = .ok (.iload_n 2, 1) := by decide +kernel
theorem dX6_workOut_182 : decode cX6_workOut 182 = .ok (.iaload, 1) := by decide +kernel
theorem dX6_workOut_183 : decode cX6_workOut 183 = .ok (.iaload, 1) := by decide +kernel
theorem dX6_workOut_184 : decode cX6_workOut 184 = .ok (.ireturn, 1) := by decide +kernel
theorem dX6_workOut_185 : decode cX6_workOut 185 = .ok (.aload_n 1, 1) := by decide +kernel
theorem dX6_workOut_186 : decode cX6_workOut 186 = .ok (.getfield 81, 3) := by decide +kernel
theorem dX6_workOut_189 : decode cX6_workOut 189 = .ok (.iload_n 2, 1) := by decide +kernel
theorem dX6_workOut_190 : decode cX6_workOut 190 = .ok (.iaload, 1) := by decide +kernel
theorem dX6_workOut_191 : decode cX6_workOut 191 = .ok (.aload_n 0, 1) := by decide +kernel
theorem dX6_workOut_192 : decode cX6_workOut 192 = .ok (.getfield 9, 3) := by decide +kernel
theorem dX6_workOut_195 : decode cX6_workOut 195 = .ok (.iload_n 3, 1) := by decide +kernel
theorem dX6_workOut_196 : decode cX6_workOut 196 = .ok (.iaload, 1) := by decide +kernel
theorem dX6_workOut_197 : decode cX6_workOut 197 = .ok (.aload_n 0, 1) := by decide +kernel
theorem dX6_workOut_198 : decode cX6_workOut 198 = .ok (.getfield 9, 3) := by decide +kernel
theorem dX6_workOut_201 : decode cX6_workOut 201 = .ok (.aload_n 1, 1) := by decide +kernel
theorem dX6_workOut_202 : decode cX6_workOut 202 = .ok (.getfield 88, 3) := by decide +kernel
theorem dX6_workOut_205 : decode cX6_workOut 205 = .ok (.iload_n 2, 1) := by decide +kernel
theorem dX6_workOut_206 : decode cX6_workOut 206 = .ok (.iaload, 1) := by decide +kernel
theorem dX6_workOut_207 : decode cX6_workOut 207 = .ok (.iaload, 1) := by decide +kernel
theorem dX6_workOut_208 : decode cX6_workOut 208 = .ok (.invokestatic 94, 3) := by decide +kernel
theorem dX6_workOut_211 : decode cX6_workOut 211 = .ok (.ireturn, 1) := by decide +kernel
theorem dX6_workOutPair_0 : decode cX6_workOutPair 0 = .ok (.iload_n 0, 1) := by decide +kernel
theorem dX6_workOutPair_1 : decode cX6_workOutPair 1 = .ok (.bipush 7, 2) := by decide +kernel
theorem dX6_workOutPair_3 : decode cX6_workOutPair 3 = .ok (.if_icmp .ne 13, 3) := by decide +kernel
theorem dX6_workOutPair_6 : decode cX6_workOutPair 6 = .ok (.iload_n 1, 1) := by decide +kernel
theorem dX6_workOutPair_7 : decode cX6_workOutPair 7 = .ok (.ifCond .eq 7, 3) := by decide +kernel
theorem dX6_workOutPair_10 : decode cX6_workOutPair 10 = .ok (.iload_n 2, 1) := by decide +kernel
theorem dX6_workOutPair_11 : decode cX6_workOutPair 11 = .ok (.ifCond .ne 5, 3) := by decide +kernel
theorem dX6_workOutPair_14 : decode cX6_workOutPair 14 = .ok (.iconst 0, 1) := by decide +kernel
theorem dX6_workOutPair_15 : decode cX6_workOutPair 15 = .ok (.ireturn, 1) := by decide +kernel
theorem dX6_workOutPair_16 : decode cX6_workOutPair 16 = .ok (.iload_n 0, 1) := by decide +kernel
theorem dX6_workOutPair_17 : decode cX6_workOutPair 17 = .ok (.bipush 8, 2) := by decide +kernel
theorem dX6_workOutPair_19 : decode cX6_workOutPair 19 = .ok (.if_icmp .ne 19, 3) := by decide +kernel
theorem dX6_workOutPair_22 : decode cX6_workOutPair 22 = .ok (.iload_n 1, 1) := by decide +kernel
theorem dX6_workOutPair_23 : decode cX6_workOutPair 23 = .ok (.invokestatic 49, 3) := by decide +kernel
theorem dX6_workOutPair_26 : decode cX6_workOutPair 26 = .ok (.ifCond .ne 10, 3) := by decide +kernel
theorem dX6_workOutPair_29 : decode cX6_workOutPair 29 = .ok (.iload_n 2, 1) := by decide +kernel
theorem dX6_workOutPair_30 : decode cX6_workOutPair 30 = .ok (.invokestatic 49, 3) := by decide +kernel
theorem dX6_workOutPair_33 : decode cX6_workOutPair 33 = .ok (.ifCond .eq 5, 3) := by decide +kernel
theorem dX6_workOutPair_36 : decode cX6_workOutPair 36 = .ok (.iconst 1, 1) := by decide +kernel
theorem dX6_workOutPair_37 : decode cX6_workOutPair 37 = .ok (.ireturn, 1) := by decide +kernel
theorem dX6_workOutPair_38 : decode cX6_workOutPair 38 = .ok (.iload_n 1, 1) := by decide +kernel
theorem dX6_workOutPair_39 : decode cX6_workOutPair 39 = .ok (.ldc 38, 2) := by decide +kernel
theorem dX6_workOutPair_41 : decode cX6_workOutPair 41 = .ok (.if_icmp .eq 9, 3) := by decide +kernel
theorem dX6_workOutPair_44 : decode cX6_workOutPair 44 = .ok (.iload_n 2, 1) := by decide +kernel
theorem dX6_workOutPair_45 : decode cX6_workOutPair 45 = .ok (.ldc 38, 2) := by decide +kernel
theorem dX6_workOutPair_47 : decode cX6_workOutPair 47 = .ok (.if_icmp .ne 6, 3) := by decide +kernel
theorem dX6_workOutPair_50 : decode cX6_workOutPair 50 = .ok (.ldc 38, 2) := by decide +kernel
theorem dX6_workOutPair_52 : decode cX6_workOutPair 52 = .ok (.ireturn, 1) := by decide +kernel
theorem dX6_workOutPair_53 : decode cX6_workOutPair 53 = .ok (.iload_n 0, 1) := by decide +kernel
theorem dX6_workOutPair_54 : decode cX6_workOutPair 54 = .ok (.tableswitch 89 2 6 #[34, 43, 52, 61, 75], 34) := by decide +kernel
theorem dX6_workOutPair_88 : decode cX6_workOutPair 88 = .ok (.iload_n 1, 1) := by decide +kernel
theorem dX6_workOutPair_89 : decode cX6_workOutPair 89 = .ok (.i2l, 1) := by decide +kernel
theorem dX6_workOutPair_90 : decode cX6_workOutPair 90 = .ok (.iload_n 2, 1) := by decide +kernel
theorem dX6_workOutPair_91 : decode cX6_workOutPair 91 = .ok (.i2l, 1) := by decide +kernel
theorem dX6_workOutPair_92 : decode cX6_workOutPair 92 = .ok (.ladd, 1) := by decide +kernel
theorem dX6_workOutPair_93 : decode cX6_workOutPair 93 = .ok (.invokestatic 98, 3) := by decide +kernel
theorem dX6_workOutPair_96 : decode cX6_workOutPair 96 = .ok (.ireturn, 1) := by decide +kernel
theorem dX6_workOutPair_97 : decode cX6_workOutPair 97 = .ok (.iload_n 1, 1) := by decide +kernel
theorem dX6_workOutPair_98 : decode cX6_workOutPair 98 = .ok (.i2l, 1) := by decide +kernel
theorem dX6_workOutPair_99 : decode cX6_workOutPair 99 = .ok (.iload_n 2, 1) := by decide +kernel
theorem dX6_workOutPair_100 : decode cX6_workOutPair 100 = .ok (.i2l, 1) := by decide +kernel
theorem dX6_workOutPair_101 : decode cX6_workOutPair 101 = .ok (.lsub, 1) := by decide +kernel
theorem dX6_workOutPair_102 : decode cX6_workOutPair 102 = .ok (.invokestatic 98, 3) := by decide +kernel
theorem dX6_workOutPair_105 : decode cX6_workOutPair 105 = .ok (.ireturn, 1) := by decide +kernel
theorem dX6_workOutPair_106 : decode cX6_workOutPair 106 = .ok (.iload_n 1, 1) := by decide +kernel
theorem dX6_workOutPair_107 : decode cX6_workOutPair 107 = .ok (.i2l, 1) := by decide +kernel
theorem dX6_workOutPair_108 : decode cX6_workOutPair 108 = .ok (.iload_n 2, 1) := by decide +kernel
theorem dX6_workOutPair_109 : decode cX6_workOutPair 109 = .ok (.i2l, 1) := by decide +kernel
theorem dX6_workOutPair_110 : decode cX6_workOutPair 110 = .ok (.lmul, 1) := by decide +kernel
theorem dX6_workOutPair_111 : decode cX6_workOutPair 111 = .ok (.invokestatic 98, 3) := by decide +kernel
theorem dX6_workOutPair_114 : decode cX6_workOutPair 114 = .ok (.ireturn, 1) := by decide +kernel
theorem dX6_workOutPair_115 : decode cX6_workOutPair 115 = .ok (.iload_n 1, 1) := by decide +kernel
theorem dX6_workOutPair_116 : decode cX6_workOutPair 116 = .ok (.iload_n 2, 1) := by decide +kernel
theorem dX6_workOutPair_117 : decode cX6_workOutPair 117 = .ok (.if_icmp .ne 7, 3) := by decide +kernel
theorem dX6_workOutPair_120 : decode cX6_workOutPair 120 = .ok (.iconst 1, 1) := by decide +kernel
theorem dX6_workOutPair_121 : decode cX6_workOutPair 121 = .ok (.goto 4, 3) := by decide +kernel
theorem dX6_workOutPair_124 : decode cX6_workOutPair 124 = .ok (.iconst 0, 1) := by decide +kernel
theorem dX6_workOutPair_125 : decode cX6_workOutPair 125 = .ok (.invokestatic 84, 3) := by decide +kernel
theorem dX6_workOutPair_128 : decode cX6_workOutPair 128 = .ok (.ireturn, 1) := by decide +kernel
theorem dX6_workOutPair_129 : decode cX6_workOutPair 129 = .ok (.iload_n 1, 1) := by decide +kernel
theorem dX6_workOutPair_130 : decode cX6_workOutPair 130 = .ok (.iload_n 2, 1) := by decide +kernel
theorem dX6_workOutPair_131 : decode cX6_workOutPair 131 = .ok (.if_icmp .ge 7, 3) := by decide +kernel
theorem dX6_workOutPair_134 : decode cX6_workOutPair 134 = .ok (.iconst 1, 1) := by decide +kernel
theorem dX6_workOutPair_135 : decode cX6_workOutPair 135 = .ok (.goto 4, 3) := by decide +kernel
theorem dX6_workOutPair_138 : decode cX6_workOutPair 138 = .ok (.iconst 0, 1) := by decide +kernel
theorem dX6_workOutPair_139 : decode cX6_workOutPair 139 = .ok (.invokestatic 84, 3) := by decide +kernel
theorem dX6_workOutPair_142 : decode cX6_workOutPair 142 = .ok (.ireturn, 1) := by decide +kernel
theorem dX6_workOutPair_143 : decode cX6_workOutPair 143 = .ok (.iload_n 0, 1) := by decide +kernel
theorem dX6_workOutPair_144 : decode cX6_workOutPair 144 = .ok (.bipush 7, 2) := by decide +kernel
theorem dX6_workOutPair_146 : decode cX6_workOutPair 146 = .ok (.if_icmp .ne 7, 3) := by decide +kernel
theorem dX6_workOutPair_149 : decode cX6_workOutPair 149 = .ok (.iconst 1, 1) := by decide +kernel
theorem dX6_workOutPair_150 : decode cX6_workOutPair 150 = .ok (.goto 4, 3) := by decide +kernel
theorem dX6_workOutPair_153 : decode cX6_workOutPair 153 = .ok (.iconst 0, 1) := by decide +kernel
theorem dX6_workOutPair_154 : decode cX6_workOutPair 154 = .ok (.invokestatic 84, 3) := by decide +kernel
theorem dX6_workOutPair_157 : decode cX6_workOutPair 157 = .ok (.ireturn, 1) := by decide +kernel
theorem dX6_cut_0 : decode cX6_cut 0 = .ok (.lload_n 0, 1) := by decide +kernel
theorem dX6_cut_1 : decode cX6_cut 1 = .ok (.ldc2_w 102, 3) := by decide +kernel
theorem dX6_cut_4 : decode cX6_cut 4 = .ok (.lcmp, 1) := by decide +kernel
theorem dX6_cut_5 : decode cX6_cut 5 = .ok (.ifCond .le 6, 3) := by decide +kernel
theorem dX6_cut_8 : decode cX6_cut 8 = .ok (.ldc 104, 2) := by decide +kernel
theorem dX6_cut_10 : decode cX6_cut 10 = .ok (.ireturn, 1) := by decide +kernel
theorem dX6_cut_11 : decode cX6_cut 11 = .ok (.lload_n 0, 1) := by decide +kernel
theorem dX6_cut_12 : decode cX6_cut 12 = .ok (.ldc2_w 105, 3) := by decide +kernel
theorem dX6_cut_15 : decode cX6_cut 15 = .ok (.lcmp, 1) := by decide +kernel
theorem dX6_cut_16 : decode cX6_cut 16 = .ok (.ifCond .ge 8, 3) := by decide +kernel
theorem dX6_cut_19 : decode cX6_cut 19 = .ok (.ldc 107, 2) := by decide +kernel
theorem dX6_cut_21 : decode cX6_cut 21 = .ok (.goto 5, 3) := by decide +kernel
theorem dX6_cut_24 : decode cX6_cut 24 = .ok (.lload_n 0, 1) := by decide +kernel
theorem dX6_cut_25 : decode cX6_cut 25 = .ok (.l2i, 1) := by decide +kernel
theorem dX6_cut_26 : decode cX6_cut 26 = .ok (.ireturn, 1) := by decide +kernel
theorem dJ6_bitCount_0f7a4_0 : decode cJ6_bitCount_0f7a4 0 = .ok (.iload_n 0, 1) := by decide +kernel
theorem dJ6_bitCount_0f7a4_1 : decode cJ6_bitCount_0f7a4 1 = .ok (.iload_n 0, 1) := by decide +kernel
theorem dJ6_bitCount_0f7a4_2 : decode cJ6_bitCount_0f7a4 2 = .ok (.iconst 1, 1) := by decide +kernel
theorem dJ6_bitCount_0f7a4_3 : decode cJ6_bitCount_0f7a4 3 = .ok (.iushr, 1) := by decide +kernel
theorem dJ6_bitCount_0f7a4_4 : decode cJ6_bitCount_0f7a4 4 = .ok (.ldc_w 265, 3) := by decide +kernel
theorem dJ6_bitCount_0f7a4_7 : decode cJ6_bitCount_0f7a4 7 = .ok (.iand, 1) := by decide +kernel
theorem dJ6_bitCount_0f7a4_8 : decode cJ6_bitCount_0f7a4 8 = .ok (.isub, 1) := by decide +kernel
theorem dJ6_bitCount_0f7a4_9 : decode cJ6_bitCount_0f7a4 9 = .ok (.istore_n 0, 1) := by decide +kernel
theorem dJ6_bitCount_0f7a4_10 : decode cJ6_bitCount_0f7a4 10 = .ok (.iload_n 0, 1) := by decide +kernel
theorem dJ6_bitCount_0f7a4_11 : decode cJ6_bitCount_0f7a4 11 = .ok (.ldc_w 266, 3) := by decide +kernel
theorem dJ6_bitCount_0f7a4_14 : decode cJ6_bitCount_0f7a4 14 = .ok (.iand, 1) := by decide +kernel
theorem dJ6_bitCount_0f7a4_15 : decode cJ6_bitCount_0f7a4 15 = .ok (.iload_n 0, 1) := by decide +kernel
theorem dJ6_bitCount_0f7a4_16 : decode cJ6_bitCount_0f7a4 16 = .ok (.iconst 2, 1) := by decide +kernel
theorem dJ6_bitCount_0f7a4_17 : decode cJ6_bitCount_0f7a4 17 = .ok (.iushr, 1) := by decide +kernel
theorem dJ6_bitCount_0f7a4_18 : decode cJ6_bitCount_0f7a4 18 = .ok (.ldc_w 266, 3) := by decide +kernel
theorem dJ6_bitCount_0f7a4_21 : decode cJ6_bitCount_0f7a4 21 = .ok (.iand, 1) := by decide +kernel
theorem dJ6_bitCount_0f7a4_22 : decode cJ6_bitCount_0f7a4 22 = .ok (.iadd, 1) := by decide +kernel
theorem dJ6_bitCount_0f7a4_23 : decode cJ6_bitCount_0f7a4 23 = .ok (.istore_n 0, 1) := by decide +kernel
theorem dJ6_bitCount_0f7a4_24 : decode cJ6_bitCount_0f7a4 24 = .ok (.iload_n 0, 1) := by decide +kernel
theorem dJ6_bitCount_0f7a4_25 : decode cJ6_bitCount_0f7a4 25 = .ok (.iload_n 0, 1) := by decide +kernel
theorem dJ6_bitCount_0f7a4_26 : decode cJ6_bitCount_0f7a4 26 = .ok (.iconst 4, 1) := by decide +kernel
theorem dJ6_bitCount_0f7a4_27 : decode cJ6_bitCount_0f7a4 27 = .ok (.iushr, 1) := by decide +kernel
theorem dJ6_bitCount_0f7a4_28 : decode cJ6_bitCount_0f7a4 28 = .ok (.iadd, 1) := by decide +kernel
theorem dJ6_bitCount_0f7a4_29 : decode cJ6_bitCount_0f7a4 29 = .ok (.ldc_w 267, 3) := by decide +kernel
theorem dJ6_bitCount_0f7a4_32 : decode cJ6_bitCount_0f7a4 32 = .ok (.iand, 1) := by decide +kernel
theorem dJ6_bitCount_0f7a4_33 : decode cJ6_bitCount_0f7a4 33 = .ok (.istore_n 0, 1) := by decide +kernel
theorem dJ6_bitCount_0f7a4_34 : decode cJ6_bitCount_0f7a4 34 = .ok (.iload_n 0, 1) := by decide +kernel
theorem dJ6_bitCount_0f7a4_35 : decode cJ6_bitCount_0f7a4 35 = .ok (.iload_n 0, 1) := by decide +kernel
theorem dJ6_bitCount_0f7a4_36 : decode cJ6_bitCount_0f7a4 36 = .ok (.bipush 8, 2) := by decide +kernel
theorem dJ6_bitCount_0f7a4_38 : decode cJ6_bitCount_0f7a4 38 = .ok (.iushr, 1) := by decide +kernel
theorem dJ6_bitCount_0f7a4_39 : decode cJ6_bitCount_0f7a4 39 = .ok (.iadd, 1) := by decide +kernel
theorem dJ6_bitCount_0f7a4_40 : decode cJ6_bitCount_0f7a4 40 = .ok (.istore_n 0, 1) := by decide +kernel
theorem dJ6_bitCount_0f7a4_41 : decode cJ6_bitCount_0f7a4 41 = .ok (.iload_n 0, 1) := by decide +kernel
theorem dJ6_bitCount_0f7a4_42 : decode cJ6_bitCount_0f7a4 42 = .ok (.iload_n 0, 1) := by decide +kernel
theorem dJ6_bitCount_0f7a4_43 : decode cJ6_bitCount_0f7a4 43 = .ok (.bipush 16, 2) := by decide +kernel
theorem dJ6_bitCount_0f7a4_45 : decode cJ6_bitCount_0f7a4 45 = .ok (.iushr, 1) := by decide +kernel
theorem dJ6_bitCount_0f7a4_46 : decode cJ6_bitCount_0f7a4 46 = .ok (.iadd, 1) := by decide +kernel
theorem dJ6_bitCount_0f7a4_47 : decode cJ6_bitCount_0f7a4 47 = .ok (.istore_n 0, 1) := by decide +kernel
theorem dJ6_bitCount_0f7a4_48 : decode cJ6_bitCount_0f7a4 48 = .ok (.iload_n 0, 1) := by decide +kernel
theorem dJ6_bitCount_0f7a4_49 : decode cJ6_bitCount_0f7a4 49 = .ok (.bipush 63, 2) := by decide +kernel
theorem dJ6_bitCount_0f7a4_51 : decode cJ6_bitCount_0f7a4 51 = .ok (.iand, 1) := by decide +kernel
theorem dJ6_bitCount_0f7a4_52 : decode cJ6_bitCount_0f7a4 52 = .ok (.ireturn, 1) := by decide +kernel
theorem dJ7_fill_53178_0 : decode cJ7_fill_53178 0 = .ok (.iconst 0, 1) := by decide +kernel
theorem dJ7_fill_53178_1 : decode cJ7_fill_53178 1 = .ok (.istore_n 2, 1) := by decide +kernel
theorem dJ7_fill_53178_2 : decode cJ7_fill_53178 2 = .ok (.aload_n 0, 1) := by decide +kernel
theorem dJ7_fill_53178_3 : decode cJ7_fill_53178 3 = .ok (.arraylength, 1) := by decide +kernel
theorem dJ7_fill_53178_4 : decode cJ7_fill_53178 4 = .ok (.istore_n 3, 1) := by decide +kernel
theorem dJ7_fill_53178_5 : decode cJ7_fill_53178 5 = .ok (.iload_n 2, 1) := by decide +kernel
theorem dJ7_fill_53178_6 : decode cJ7_fill_53178 6 = .ok (.iload_n 3, 1) := by decide +kernel
theorem dJ7_fill_53178_7 : decode cJ7_fill_53178 7 = .ok (.if_icmp .ge 13, 3) := by decide +kernel
theorem dJ7_fill_53178_10 : decode cJ7_fill_53178 10 = .ok (.aload_n 0, 1) := by decide +kernel
theorem dJ7_fill_53178_11 : decode cJ7_fill_53178 11 = .ok (.iload_n 2, 1) := by decide +kernel
theorem dJ7_fill_53178_12 : decode cJ7_fill_53178 12 = .ok (.iload_n 1, 1) := by decide +kernel
theorem dJ7_fill_53178_13 : decode cJ7_fill_53178 13 = .ok (.iastore, 1) := by decide +kernel
theorem dJ7_fill_53178_14 : decode cJ7_fill_53178 14 = .ok (.iinc 2 1, 3) := by decide +kernel
theorem dJ7_fill_53178_17 : decode cJ7_fill_53178 17 = .ok (.goto (-12), 3) := by decide +kernel
theorem dJ7_fill_53178_20 : decode cJ7_fill_53178 20 = .ok (.return_, 1) := by decide +kernel
