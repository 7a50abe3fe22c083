theorem dX8_nextPlace_10 : decode cX8_nextPlace 10 = .ok (.iload_n 1, 1) := by decide +kernel
theorem dX8_nextPlace_11 : decode cX8_nextPlace 11 = .ok (.iconst 1, 1) := by decide +kernel
theorem dX8_nextPlace_12 : decode cX8_nextPlace 12 = .ok (.iadd, 1) := by decide +kernel
theorem dX8_nextPlace_13 : decode cX8_nextPlace 13 = .ok (.goto 4, 3) := by decide +kernel
theorem dX8_nextPlace_16 : decode cX8_nextPlace 16 = .ok (.iconst 0, 1) := by decide +kernel
theorem dX8_nextPlace_17 : decode cX8_nextPlace 17 = .ok (.ireturn, 1) := by decide +kernel
theorem dX8_letterAt_0 : decode cX8_letterAt 0 = .ok (.iload_n 1, 1) := by decide +kernel
theorem dX8_letterAt_1 : decode cX8_letterAt 1 = .ok (.iconst 2, 1) := by decide +kernel
theorem dX8_letterAt_2 : decode cX8_letterAt 2 = .ok (.aload_n 0, 1) := by decide +kernel
theorem dX8_letterAt_3 : decode cX8_letterAt 3 = .ok (.getfield 9, 3) := by decide +kernel
theorem dX8_letterAt_6 : decode cX8_letterAt 6 = .ok (.iconst 1, 1) := by decide +kernel
theorem dX8_letterAt_7 : decode cX8_letterAt 7 = .ok (.isub, 1) := by decide +kernel
theorem dX8_letterAt_8 : decode cX8_letterAt 8 = .ok (.iload_n 2, 1) := by decide +kernel
theorem dX8_letterAt_9 : decode cX8_letterAt 9 = .ok (.isub, 1) := by decide +kernel
theorem dX8_letterAt_10 : decode cX8_letterAt 10 = .ok (.imul, 1) := by decide +kernel
theorem dX8_letterAt_11 : decode cX8_letterAt 11 = .ok (.ishr, 1) := by decide +kernel
theorem dX8_letterAt_12 : decode cX8_letterAt 12 = .ok (.iconst 3, 1) := by decide +kernel
theorem dX8_letterAt_13 : decode cX8_letterAt 13 = .ok (.iand, 1) := by decide +kernel
theorem dX8_letterAt_14 : decode cX8_letterAt 14 = .ok (.ireturn, 1) := by decide +kernel
theorem dX8_withLetter_0 : decode cX8_withLetter 0 = .ok (.iconst 2, 1) := by decide +kernel
theorem dX8_withLetter_1 : decode cX8_withLetter 1 = .ok (.aload_n 0, 1) := by decide +kernel
theorem dX8_withLetter_2 : decode cX8_withLetter 2 = .ok (.getfield 9, 3) := by decide +kernel
theorem dX8_withLetter_5 : decode cX8_withLetter 5 = .ok (.iconst 1, 1) := by decide +kernel
theorem dX8_withLetter_6 : decode cX8_withLetter 6 = .ok (.isub, 1) := by decide +kernel
theorem dX8_withLetter_7 : decode cX8_withLetter 7 = .ok (.iload_n 2, 1) := by decide +kernel
theorem dX8_withLetter_8 : decode cX8_withLetter 8 = .ok (.isub, 1) := by decide +kernel
theorem dX8_withLetter_9 : decode cX8_withLetter 9 = .ok (.imul, 1) := by decide +kernel
theorem dX8_withLetter_10 : decode cX8_withLetter 10 = .ok (.istore 4, 2) := by decide +kernel
theorem dX8_withLetter_12 : decode cX8_withLetter 12 = .ok (.iload_n 1, 1) := by decide +kernel
theorem dX8_withLetter_13 : decode cX8_withLetter 13 = .ok (.iconst 3, 1) := by decide +kernel
theorem dX8_withLetter_14 : decode cX8_withLetter 14 = .ok (.iload 4, 2) := by decide +kernel
theorem dX8_withLetter_16 : decode cX8_withLetter 16 = .ok (.ishl, 1) := by decide +kernel
theorem dX8_withLetter_17 : decode cX8_withLetter 17 = .ok (.iconst (-1), 1) := by decide +kernel
theorem dX8_withLetter_18 : decode cX8_withLetter 18 = .ok (.ixor, 1) := by decide +kernel
theorem dX8_withLetter_19 : decode cX8_withLetter 19 = .ok (.iand, 1) := by decide +kernel
theorem dX8_withLetter_20 : decode cX8_withLetter 20 = .ok (.iload_n 3, 1) := by decide +kernel
theorem dX8_withLetter_21 : decode cX8_withLetter 21 = .ok (.iconst 3, 1) := by decide +kernel
theorem dX8_withLetter_22 : decode cX8_withLetter 22 = .ok (.iand, 1) := by decide +kernel
theorem dX8_withLetter_23 : decode cX8_withLetter 23 = .ok (.iload 4, 2) := by decide +kernel
theorem dX8_withLetter_25 : decode cX8_withLetter 25 = .ok (.ishl, 1) := by decide +kernel
theorem dX8_withLetter_26 : decode cX8_withLetter 26 = .ok (.ior, 1) := by decide +kernel
theorem dX8_withLetter_27 : decode cX8_withLetter 27 = .ok (.ireturn, 1) := by decide +kernel
theorem dX8_noticed_0 : decode cX8_noticed 0 = .ok (.aload_n 0, 1) := by decide +kernel
theorem dX8_noticed_1 : decode cX8_noticed 1 = .ok (.iload_n 3, 1) := by decide +kernel
theorem dX8_noticed_2 : decode cX8_noticed 2 = .ok (.invokevirtual 15, 3) := by decide +kernel
theorem dX8_noticed_5 : decode cX8_noticed 5 = .ok (.istore 5, 2) := by decide +kernel
theorem dX8_noticed_7 : decode cX8_noticed 7 = .ok (.aload_n 0, 1) := by decide +kernel
theorem dX8_noticed_8 : decode cX8_noticed 8 = .ok (.iload_n 2, 1) := by decide +kernel
theorem dX8_noticed_9 : decode cX8_noticed 9 = .ok (.iload_n 3, 1) := by decide +kernel
theorem dX8_noticed_10 : decode cX8_noticed 10 = .ok (.iload 4, 2) := by decide +kernel
theorem dX8_noticed_12 : decode cX8_noticed 12 = .ok (.invokevirtual 19, 3) := by decide +kernel
theorem dX8_noticed_15 : decode cX8_noticed 15 = .ok (.istore 6, 2) := by decide +kernel
theorem dX8_noticed_17 : decode cX8_noticed 17 = .ok (.iload_n 1, 1) := by decide +kernel
theorem dX8_noticed_18 : decode cX8_noticed 18 = .ok (.tableswitch 81 1 3 #[26, 45, 57], 26) := by decide +kernel
theorem dX8_noticed_44 : decode cX8_noticed 44 = .ok (.aload_n 0, 1) := by decide +kernel
theorem dX8_noticed_45 : decode cX8_noticed 45 = .ok (.iload 6, 2) := by decide +kernel
theorem dX8_noticed_47 : decode cX8_noticed 47 = .ok (.iload 5, 2) := by decide +kernel
theorem dX8_noticed_49 : decode cX8_noticed 49 = .ok (.aload_n 0, 1) := by decide +kernel
theorem dX8_noticed_50 : decode cX8_noticed 50 = .ok (.iload 6, 2) := by decide +kernel
theorem dX8_noticed_52 : decode cX8_noticed 52 = .ok (.iload 5, 2) := by decide +kernel
theorem dX8_noticed_54 : decode cX8_noticed 54 = .ok (.invokevirtual 23, 3) := by decide +kernel
theorem dX8_noticed_57 : decode cX8_noticed 57 = .ok (.iconst 1, 1) := by decide +kernel
theorem dX8_noticed_58 : decode cX8_noticed 58 = .ok (.iadd, 1) := by decide +kernel
theorem dX8_noticed_59 : decode cX8_noticed 59 = .ok (.invokevirtual 19, 3) := by decide +kernel
theorem dX8_noticed_62 : decode cX8_noticed 62 = .ok (.ireturn, 1) := by decide +kernel
theorem dX8_noticed_63 : decode cX8_noticed 63 = .ok (.aload_n 0, 1) := by decide +kernel
theorem dX8_noticed_64 : decode cX8_noticed 64 = .ok (.iload 6, 2) := by decide +kernel
theorem dX8_noticed_66 : decode cX8_noticed 66 = .ok (.iload_n 3, 1) := by decide +kernel
theorem dX8_noticed_67 : decode cX8_noticed 67 = .ok (.iload 4, 2) := by decide +kernel
theorem dX8_noticed_69 : decode cX8_noticed 69 = .ok (.iconst 1, 1) := by decide +kernel
theorem dX8_noticed_70 : decode cX8_noticed 70 = .ok (.iadd, 1) := by decide +kernel
theorem dX8_noticed_71 : decode cX8_noticed 71 = .ok (.invokevirtual 19, 3) := by decide +kernel
theorem dX8_noticed_74 : decode cX8_noticed 74 = .ok (.ireturn, 1) := by decide +kernel
theorem dX8_noticed_75 : decode cX8_noticed 75 = .ok (.aload_n 0, 1) := by decide +kernel
theorem dX8_noticed_76 : decode cX8_noticed 76 = .ok (.aload_n 0, 1) := by decide +kernel
theorem dX8_noticed_77 : decode cX8_noticed 77 = .ok (.iload 6, 2) := by decide +kernel
theorem dX8_noticed_79 : decode cX8_noticed 79 = .ok (.iload_n 3, 1) := by decide +kernel
theorem dX8_noticed_80 : decode cX8_noticed 80 = .ok (.aload_n 0, 1) := by decide +kernel
theorem dX8_noticed_81 : decode cX8_noticed 81 = .ok (.iload 6, 2) := by decide +kernel
theorem dX8_noticed_83 : decode cX8_noticed 83 = .ok (.iload 5, 2) := by decide +kernel
theorem dX8_noticed_85 : decode cX8_noticed 85 = .ok (.invokevirtual 23, 3) := by decide +kernel
theorem dX8_noticed_88 : decode cX8_noticed 88 = .ok (.invokevirtual 19, 3) := by decide +kernel
theorem dX8_noticed_91 : decode cX8_noticed 91 = .ok (.iload 5, 2) := by decide +kernel
theorem dX8_noticed_93 : decode cX8_noticed 93 = .ok (.iload 4, 2) := by decide +kernel
theorem dX8_noticed_95 : decode cX8_noticed 95 = .ok (.invokevirtual 19, 3) := by decide +kernel
theorem dX8_noticed_98 : decode cX8_noticed 98 = .ok (.ireturn, 1) := by decide +kernel
theorem dX8_noticed_99 : decode cX8_noticed 99 = .ok (.iload 6, 2) := by decide +kernel
theorem dX8_noticed_101 : decode cX8_noticed 101 = .ok (.ireturn, 1) := by decide +kernel
theorem dX8_placesUnlike_0 : decode cX8_placesUnlike 0 = .ok (.iload_n 0, 1) := by decide +kernel
theorem dX8_placesUnlike_1 : decode cX8_placesUnlike 1 = .ok (.iload_n 0, 1) := by decide +kernel
theorem dX8_placesUnlike_2 : decode cX8_placesUnlike 2 = .ok (.iconst 1, 1) := by decide +kernel
theorem dX8_placesUnlike_3 : decode cX8_placesUnlike 3 = .ok (.ishr, 1) := by decide +kernel
theorem dX8_placesUnlike_4 : decode cX8_placesUnlike 4 = .ok (.ior, 1) := by decide +kernel
theorem dX8_placesUnlike_5 : decode cX8_placesUnlike 5 = .ok (.sipush 341, 3) := by decide +kernel
theorem dX8_placesUnlike_8 : decode cX8_placesUnlike 8 = .ok (.iand, 1) := by decide +kernel
theorem dX8_placesUnlike_9 : decode cX8_placesUnlike 9 = .ok (.invokestatic 27, 3) := by decide +kernel
theorem dX8_placesUnlike_12 : decode cX8_placesUnlike 12 = .ok (.ireturn, 1) := by decide +kernel
theorem dX8_placesAlike_0 : decode cX8_placesAlike 0 = .ok (.iconst 0, 1) := by decide +kernel
theorem dX8_placesAlike_1 : decode cX8_placesAlike 1 = .ok (.istore_n 2, 1) := by decide +kernel
theorem dX8_placesAlike_2 : decode cX8_placesAlike 2 = .ok (.iconst 0, 1) := by decide +kernel
theorem dX8_placesAlike_3 : decode cX8_placesAlike 3 = .ok (.istore_n 3, 1) := by decide +kernel
theorem dX8_placesAlike_4 : decode cX8_placesAlike 4 = .ok (.iload_n 3, 1) := by decide +kernel
theorem dX8_placesAlike_5 : decode cX8_placesAlike 5 = .ok (.aload_n 0, 1) := by decide +kernel
theorem dX8_placesAlike_6 : decode cX8_placesAlike 6 = .ok (.getfield 9, 3) := by decide +kernel
theorem dX8_placesAlike_9 : decode cX8_placesAlike 9 = .ok (.if_icmp .ge 24, 3) := by decide +kernel
theorem dX8_placesAlike_12 : decode cX8_placesAlike 12 = .ok (.aload_n 0, 1) := by decide +kernel
theorem dX8_placesAlike_13 : decode cX8_placesAlike 13 = .ok (.iload_n 1, 1) := by decide +kernel
theorem dX8_placesAlike_14 : decode cX8_placesAlike 14 = .ok (.iload_n 3, 1) := by decide +kernel
theorem dX8_placesAlike_15 : decode cX8_placesAlike 15 = .ok (.invokevirtual 23, 3) := by decide +kernel
theorem dX8_placesAlike_18 : decode cX8_placesAlike 18 = .ok (.ifCond .ne 9, 3) := by decide +kernel
theorem dX8_placesAlike_21 : decode cX8_placesAlike 21 = .ok (.iload_n 2, 1) := by decide +kernel
theorem dX8_placesAlike_22 : decode cX8_placesAlike 22 = .ok (.iconst 1, 1) := by decide +kernel
theorem dX8_placesAlike_23 : decode cX8_placesAlike 23 = .ok (.iload_n 3, 1) := by decide +kernel
theorem dX8_placesAlike_24 : decode cX8_placesAlike 24 = .ok (.ishl, 1) := by decide +kernel
theorem dX8_placesAlike_25 : decode cX8_placesAlike 25 = .ok (.ior, 1) := by decide +kernel
theorem dX8_placesAlike_26 : decode cX8_placesAlike 26 = .ok (.istore_n 2, 1) := by decide +kernel
theorem dX8_placesAlike_27 : decode cX8_placesAlike 27 = .ok (.iinc 3 1, 3) := by decide +kernel
theorem dX8_placesAlike_30 : decode cX8_placesAlike 30 = .ok (.goto (-26), 3) := by decide +kernel
theorem dX8_placesAlike_33 : decode cX8_placesAlike 33 = .ok (.iload_n 2, 1) := by decide +kernel
theorem dX8_placesAlike_34 : decode cX8_placesAlike 34 = .ok (.ireturn, 1) := by decide +kernel
theorem dX8_told_0 : decode cX8_told 0 = .ok (.iconst 0, 1) := by decide +kernel
theorem dX8_told_1 : decode cX8_told 1 = .ok (.istore_n 2, 1) := by decide +kernel
theorem dX8_told_2 : decode cX8_told 2 = .ok (.iconst 0, 1) := by decide +kernel
theorem dX8_told_3 : decode cX8_told 3 = .ok (.istore_n 3, 1) := by decide +kernel
theorem dX8_told_4 : decode cX8_told 4 = .ok (.iload_n 3, 1) := by decide +kernel
theorem dX8_told_5 : decode cX8_told 5 = .ok (.aload_n 0, 1) := by decide +kernel
theorem dX8_told_6 : decode cX8_told 6 = .ok (.getfield 9, 3) := by decide +kernel
theorem dX8_told_9 : decode cX8_told 9 = .ok (.if_icmp .ge 21, 3) := by decide +kernel
theorem dX8_told_12 : decode cX8_told 12 = .ok (.iload_n 2, 1) := by decide +kernel
theorem dX8_told_13 : decode cX8_told 13 = .ok (.bipush 10, 2) := by decide +kernel
theorem dX8_told_15 : decode cX8_told 15 = .ok (.imul, 1) := by decide +kernel
theorem dX8_told_16 : decode cX8_told 16 = .ok (.aload_n 0, 1) := by decide +kernel
theorem dX8_told_17 : decode cX8_told 17 = .ok (.iload_n 1, 1) := by decide +kernel
theorem dX8_told_18 : decode cX8_told 18 = .ok (.iload_n 3, 1) := by decide +kernel
theorem dX8_told_19 : decode cX8_told 19 = .ok (.invokevirtual 23, 3) := by decide +kernel
theorem dX8_told_22 : decode cX8_told 22 = .ok (.iadd, 1) := by decide +kernel
theorem dX8_told_23 : decode cX8_told 23 = .ok (.istore_n 2, 1) := by decide +kernel
theorem dX8_told_24 : decode cX8_told 24 = .ok (.iinc 3 1, 3) := by decide +kernel
theorem dX8_told_27 : decode cX8_told 27 = .ok (.goto (-23), 3) := by decide +kernel
theorem dX8_told_30 : decode cX8_told 30 = .ok (.iload_n 2, 1) := by decide +kernel
theorem dX8_told_31 : decode cX8_told 31 = .ok (.ireturn, 1) := by decide +kernel
theorem dX8_packed_0 : decode cX8_packed 0 = .ok (.iload_n 1, 1) := by decide +kernel
theorem dX8_packed_1 : decode cX8_packed 1 = .ok (.ifCond .ge 6, 3) := by decide +kernel
theorem dX8_packed_4 : decode cX8_packed 4 = .ok (.bipush (-9), 2) := by decide +kernel
theorem dX8_packed_6 : decode cX8_packed 6 = .ok (.ireturn, 1) := by decide +kernel
theorem dX8_packed_7 : decode cX8_packed 7 = .ok (.iconst 0, 1) := by decide +kernel
theorem dX8_packed_8 : decode cX8_packed 8 = .ok (.istore_n 2, 1) := by decide +kernel
theorem dX8_packed_9 : decode cX8_packed 9 = .ok (.iload_n 1, 1) := by decide +kernel
theorem dX8_packed_10 : decode cX8_packed 10 = .ok (.istore_n 3, 1) := by decide +kernel
theorem dX8_packed_11 : decode cX8_packed 11 = .ok (.aload_n 0, 1) := by decide +kernel
theorem dX8_packed_12 : decode cX8_packed 12 = .ok (.getfield 9, 3) := by decide +kernel
theorem dX8_packed_15 : decode cX8_packed 15 = .ok (.iconst 1, 1) := by decide +kernel
theorem dX8_packed_16 : decode cX8_packed 16 = .ok (.isub, 1) := by decide +kernel
theorem dX8_packed_17 : decode cX8_packed 17 = .ok (.istore 4, 2) := by decide +kernel
theorem dX8_packed_19 : decode cX8_packed 19 = .ok (.iload 4, 2) := by decide +kernel
theorem dX8_packed_21 : decode cX8_packed 21 = .ok (.ifCond .lt 37, 3) := by decide +kernel
theorem dX8_packed_24 : decode cX8_packed 24 = .ok (.iload_n 3, 1) := by decide +kernel
theorem dX8_packed_25 : decode cX8_packed 25 = .ok (.bipush 10, 2) := by decide +kernel
theorem dX8_packed_27 : decode cX8_packed 27 = .ok (.irem, 1) := by decide +kernel
theorem dX8_packed_28 : decode cX8_packed 28 = .ok (.iconst 3, 1) := by decide +kernel
theorem dX8_packed_29 : decode cX8_packed 29 = .ok (.if_icmp .le 6, 3) := by decide +kernel
theorem dX8_packed_32 : decode cX8_packed 32 = .ok (.bipush (-9), 2) := by decide +kernel
theorem dX8_packed_34 : decode cX8_packed 34 = .ok (.ireturn, 1) := by decide +kernel
theorem dX8_packed_35 : decode cX8_packed 35 = .ok (.aload_n 0, 1) := by decide +kernel
theorem dX8_packed_36 : decode cX8_packed 36 = .ok (.iload_n 2, 1) := by decide +kernel
theorem dX8_packed_37 : decode cX8_packed 37 = .ok (.iload 4, 2) := by decide +kernel
theorem dX8_packed_39 : decode cX8_packed 39 = .ok (.iload_n 3, 1) := by decide +kernel
theorem dX8_packed_40 : decode cX8_packed 40 = .ok (.bipush 10, 2) := by decide +kernel
theorem dX8_packed_42 : decode cX8_packed 42 = .ok (.irem, 1) := by decide +kernel
theorem dX8_packed_43 : decode cX8_packed 43 = .ok (.invokevirtual 19, 3) := by decide +kernel
theorem dX8_packed_46 : decode cX8_packed 46 = .ok (.istore_n 2, 1) := by decide +kernel
theorem dX8_packed_47 : decode cX8_packed 47 = .ok (.iload_n 3, 1) := by decide +kernel
theorem dX8_packed_48 : decode cX8_packed 48 = .ok (.bipush 10, 2) := by decide +kernel
theorem dX8_packed_50 : decode cX8_packed 50 = .ok (.idiv, 1) := by decide +kernel
theorem dX8_packed_51 : decode cX8_packed 51 = .ok (.istore_n 3, 1) := by decide +kernel
theorem dX8_packed_52 : decode cX8_packed 52 = .ok (.iinc 4 (-1), 3) := by decide +kernel
theorem dX8_packed_55 : decode cX8_packed 55 = .ok (.goto (-36), 3) := by decide +kernel
theorem dX8_packed_58 : decode cX8_packed 58 = .ok (.iload_n 3, 1) := by decide +kernel
theorem dX8_packed_59 : decode cX8_packed 59 = .ok (.ifCond .ne 7, 3) := by decide +kernel
theorem dX8_packed_62 : decode cX8_packed 62 = .ok (.iload_n 2, 1) := by decide +kernel
theorem dX8_packed_63 : decode cX8_packed 63 = .ok (.goto 5, 3) := by decide +kernel
theorem dX8_packed_66 : decode cX8_packed 66 = .ok (.bipush (-9), 2) := by decide +kernel
theorem dX8_packed_68 : decode cX8_packed 68 = .ok (.ireturn, 1) := by decide +kernel
theorem dX9_init_0 : decode cX9_init 0 = .ok (.aload_n 0, 1) := by decide +kernel
theorem dX9_init_1 : decode cX9_init 1 = .ok (.invokespecial 5, 3) := by decide +kernel
theorem dX9_init_4 : decode cX9_init 4 = .ok (.aload_n 0, 1) := by decide +kernel
theorem dX9_init_5 : decode cX9_init 5 = .ok (.bipush 9, 2) := by decide +kernel
theorem dX9_init_7 : decode cX9_init 7 = .ok (.newarray .int, 2) := by decide +kernel
theorem dX9_init_9 : decode cX9_init 9 = .ok (.putfield 11, 3) := by decide +kernel
theorem dX9_init_12 : decode cX9_init 12 = .ok (.return_, 1) := by decide +kernel
theorem dX9_said_0 : decode cX9_said 0 = .ok (.aload_n 0, 1) := by decide +kernel
theorem dX9_said_1 : decode cX9_said 1 = .ok (.getfield 11, 3) := by decide +kernel
theorem dX9_said_4 : decode cX9_said 4 = .ok (.iconst 0, 1) := by decide +kernel
theorem dX9_said_5 : decode cX9_said 5 = .ok (.iaload, 1) := by decide +kernel
theorem dX9_said_6 : decode cX9_said 6 = .ok (.ireturn, 1) := by decide +kernel
theorem dX9_day_0 : decode cX9_day 0 = .ok (.aload_n 0, 1) := by decide +kernel
theorem dX9_day_1 : decode cX9_day 1 = .ok (.getfield 11, 3) := by decide +kernel
theorem dX9_day_4 : decode cX9_day 4 = .ok (.iconst 1, 1) := by decide +kernel
theorem dX9_day_5 : decode cX9_day 5 = .ok (.iaload, 1) := by decide +kernel
theorem dX9_day_6 : decode cX9_day 6 = .ok (.ireturn, 1) := by decide +kernel
theorem dX9_kindOf_0 : decode cX9_kindOf 0 = .ok (.iload_n 1, 1) := by decide +kernel
theorem dX9_kindOf_1 : decode cX9_kindOf 1 = .ok (.ifCond .lt 19, 3) := by decide +kernel
theorem dX9_kindOf_4 : decode cX9_kindOf 4 = .ok (.iload_n 1, 1) := by decide +kernel
theorem dX9_kindOf_5 : decode cX9_kindOf 5 = .ok (.iconst 3, 1) := by decide +kernel
theorem dX9_kindOf_6 : decode cX9_kindOf 6 = .ok (.if_icmp .ge 14, 3) := by decide +kernel
theorem dX9_kindOf_9 : decode cX9_kindOf 9 = .ok (.aload_n 0, 1) := by decide +kernel
theorem dX9_kindOf_10 : decode cX9_kindOf 10 = .ok (.getfield 11, 3) := by decide +kernel
theorem dX9_kindOf_13 : decode cX9_kindOf 13 = .ok (.iconst 2, 1) := by decide +kernel
theorem dX9_kindOf_14 : decode cX9_kindOf 14 = .ok (.iload_n 1, 1) := by decide +kernel
theorem dX9_kindOf_15 : decode cX9_kindOf 15 = .ok (.iadd, 1) := by decide +kernel
theorem dX9_kindOf_16 : decode cX9_kindOf 16 = .ok (.iaload, 1) := by decide +kernel
theorem dX9_kindOf_17 : decode cX9_kindOf 17 = .ok (.goto 4, 3) := by decide +kernel
theorem dX9_kindOf_20 : decode cX9_kindOf 20 = .ok (.iconst 0, 1) := by decide +kernel
theorem dX9_kindOf_21 : decode cX9_kindOf 21 = .ok (.ireturn, 1) := by decide +kernel
theorem dX9_beliefOf_0 : decode cX9_beliefOf 0 = .ok (.iload_n 1, 1) := by decide +kernel
theorem dX9_beliefOf_1 : decode cX9_beliefOf 1 = .ok (.ifCond .lt 19, 3) := by decide +kernel
theorem dX9_beliefOf_4 : decode cX9_beliefOf 4 = .ok (.iload_n 1, 1) := by decide +kernel
theorem dX9_beliefOf_5 : decode cX9_beliefOf 5 = .ok (.iconst 4, 1) := by decide +kernel
theorem dX9_beliefOf_6 : decode cX9_beliefOf 6 = .ok (.if_icmp .ge 14, 3) := by decide +kernel
theorem dX9_beliefOf_9 : decode cX9_beliefOf 9 = .ok (.aload_n 0, 1) := by decide +kernel
theorem dX9_beliefOf_10 : decode cX9_beliefOf 10 = .ok (.getfield 11, 3) := by decide +kernel
theorem dX9_beliefOf_13 : decode cX9_beliefOf 13 = .ok (.iconst 5, 1) := by decide +kernel
theorem dX9_beliefOf_14 : decode cX9_beliefOf 14 = .ok (.iload_n 1, 1) := by decide +kernel
theorem dX9_beliefOf_15 : decode cX9_beliefOf 15 = .ok (.iadd, 1) := by decide +kernel
theorem dX9_beliefOf_16 : decode cX9_beliefOf 16 = .ok (.iaload, 1) := by decide +kernel
theorem dX9_beliefOf_17 : decode cX9_beliefOf 17 = .ok (.goto 5, 3) := by decide +kernel
theorem dX9_beliefOf_20 : decode cX9_beliefOf 20 = .ok (.bipush (-9), 2) := by decide +kernel
theorem dX9_beliefOf_22 : decode cX9_beliefOf 22 = .ok (.ireturn, 1) := by decide +kernel
theorem dX9_setSaid_0 : decode cX9_setSaid 0 = .ok (.aload_n 0, 1) := by decide +kernel
theorem dX9_setSaid_1 : decode cX9_setSaid 1 = .ok (.getfield 11, 3) := by decide +kernel
theorem dX9_setSaid_4 : decode cX9_setSaid 4 = .ok (.iconst 0, 1) := by decide +kernel
theorem dX9_setSaid_5 : decode cX9_setSaid 5 = .ok (.iload_n 1, 1) := by decide +kernel
theorem dX9_setSaid_6 : decode cX9_setSaid 6 = .ok (.iastore, 1) := by decide +kernel
theorem dX9_setSaid_7 : decode cX9_setSaid 7 = .ok (.return_, 1) := by decide +kernel
theorem dX9_startDays_0 : decode cX9_startDays 0 = .ok (.aload_n 0, 1) := by decide +kernel
theorem dX9_startDays_1 : decode cX9_startDays 1 = .ok (.getfield 11, 3) := by decide +kernel
theorem dX9_startDays_4 : decode cX9_startDays 4 = .ok (.iconst 1, 1) := by decide +kernel
theorem dX9_startDays_5 : decode cX9_startDays 5 = .ok (.iconst 0, 1) := by decide +kernel
theorem dX9_startDays_6 : decode cX9_startDays 6 = .ok (.iastore, 1) := by decide +kernel
theorem dX9_startDays_7 : decode cX9_startDays 7 = .ok (.return_, 1) := by decide +kernel
theorem dX9_nextDay_0 : decode cX9_nextDay 0 = .ok (.aload_n 0, 1) := by decide +kernel
theorem dX9_nextDay_1 : decode cX9_nextDay 1 = .ok (.getfield 11, 3) := by decide +kernel
theorem dX9_nextDay_4 : decode cX9_nextDay 4 = .ok (.iconst 1, 1) := by decide +kernel
theorem dX9_nextDay_5 : decode cX9_nextDay 5 = .ok (.dup2, 1) := by decide +kernel
theorem dX9_nextDay_6 : decode cX9_nextDay 6 = .ok (.iaload, 1) := by decide +kernel
theorem dX9_nextDay_7 : decode cX9_nextDay 7 = .ok (.iconst 1, 1) := by decide +kernel
theorem dX9_nextDay_8 : decode cX9_nextDay 8 = .ok (.iadd, 1) := by decide +kernel
theorem dX9_nextDay_9 : decode cX9_nextDay 9 = .ok (.iastore, 1) := by decide +kernel
theorem dX9_nextDay_10 : decode cX9_nextDay 10 = .ok (.return_, 1) := by decide +kernel
theorem dX9_setKind_0 : decode cX9_setKind 0 = .ok (.iload_n 1, 1) := by decide +kernel
theorem dX9_setKind_1 : decode cX9_setKind 1 = .ok (.ifCond .lt 17, 3) := by decide +kernel
theorem dX9_setKind_4 : decode cX9_setKind 4 = .ok (.iload_n 1, 1) := by decide +kernel
theorem dX9_setKind_5 : decode cX9_setKind 5 = .ok (.iconst 3, 1) := by decide +kernel
theorem dX9_setKind_6 : decode cX9_setKind 6 = .ok (.if_icmp .ge 12, 3) := by decide +kernel
theorem dX9_setKind_9 : decode cX9_setKind 9 = .ok (.aload_n 0, 1) := by decide +kernel
theorem dX9_setKind_10 : decode cX9_setKind 10 = .ok (.getfield 11, 3) := by decide +kernel
theorem dX9_setKind_13 : decode cX9_setKind 13 = .ok (.iconst 2, 1) := by decide +kernel
theorem dX9_setKind_14 : decode cX9_setKind 14 = .ok (.iload_n 1, 1) := by decide +kernel
theorem dX9_setKind_15 : decode cX9_setKind 15 = .ok (.iadd, 1) := by decide +kernel
theorem dX9_setKind_16 : decode cX9_setKind 16 = .ok (.iload_n 2, 1) := by decide +kernel
theorem dX9_setKind_17 : decode cX9_setKind 17 = .ok (.iastore, 1) := by decide +kernel
theorem dX9_setKind_18 : decode cX9_setKind 18 = .ok (.return_, 1) := by decide +kernel
theorem dX9_setBelief_0 : decode cX9_setBelief 0 = .ok (.iload_n 1, 1) := by decide +kernel
theorem dX9_setBelief_1 : decode cX9_setBelief 1 = .ok (.ifCond .lt 17, 3) := by decide +kernel
theorem dX9_setBelief_4 : decode cX9_setBelief 4 = .ok (.iload_n 1, 1) := by decide +kernel
theorem dX9_setBelief_5 : decode cX9_setBelief 5 = .ok (.iconst 4, 1) := by decide +kernel
theorem dX9_setBelief_6 : decode cX9_setBelief 6 = .ok (.if_icmp .ge 12, 3) := by decide +kernel
theorem dX9_setBelief_9 : decode cX9_setBelief 9 = .ok (.aload_n 0, 1) := by decide +kernel
theorem dX9_setBelief_10 : decode cX9_setBelief 10 = .ok (.getfield 11, 3) := by decide +kernel
theorem dX9_setBelief_13 : decode cX9_setBelief 13 = .ok (.iconst 5, 1) := by decide +kernel
theorem dX9_setBelief_14 : decode cX9_setBelief 14 = .ok (.iload_n 1, 1) := by decide +kernel
theorem dX9_setBelief_15 : decode cX9_setBelief 15 = .ok (.iadd, 1) := by decide +kernel
theorem dX9_setBelief_16 : decode cX9_setBelief 16 = .ok (.iload_n 2, 1) := by decide +kernel
theorem dX9_setBelief_17 : decode cX9_setBelief 17 = .ok (.iastore, 1) := by decide +kernel
theorem dX9_setBelief_18 : decode cX9_setBelief 18 = .ok (.return_, 1) := by decide +kernel
theorem dX10_init_0 : decode cX10_init 0 = .ok (.aload_n 0, 1) := by decide +kernel
theorem dX10_init_1 : decode cX10_init 1 = .ok (.invokespecial 3, 3) := by decide +kernel
theorem dX10_init_4 : decode cX10_init 4 = .ok (.aload_n 0, 1) := by decide +kernel
theorem dX10_init_5 : decode cX10_init 5 = .ok (.bipush 40, 2) := by decide +kernel
theorem dX10_init_7 : decode cX10_init 7 = .ok (.newarray .int, 2) := by decide +kernel
theorem dX10_init_9 : decode cX10_init 9 = .ok (.putfield 9, 3) := by decide +kernel
theorem dX10_init_12 : decode cX10_init 12 = .ok (.aload_n 0, 1) := by decide +kernel
theorem dX10_init_13 : decode cX10_init 13 = .ok (.iconst 3, 1) := by decide +kernel
theorem dX10_init_14 : decode cX10_init 14 = .ok (.newarray .int, 2) := by decide +kernel
theorem dX10_init_16 : decode cX10_init 16 = .ok (.putfield 15, 3) := by decide +kernel
theorem dX10_init_19 : decode cX10_init 19 = .ok (.aload_n 0, 1) := by decide +kernel
theorem dX10_init_20 : decode cX10_init 20 = .ok (.iconst 4, 1) := by decide +kernel
theorem dX10_init_21 : decode cX10_init 21 = .ok (.newarray .int, 2) := by decide +kernel
theorem dX10_init_23 : decode cX10_init 23 = .ok (.putfield 18, 3) := by decide +kernel
theorem dX10_init_26 : decode cX10_init 26 = .ok (.aload_n 0, 1) := by decide +kernel
theorem dX10_init_27 : decode cX10_init 27 = .ok (.iconst 4, 1) := by decide +kernel
theorem dX10_init_28 : decode cX10_init 28 = .ok (.newarray .int, 2) := by decide +kernel
theorem dX10_init_30 : decode cX10_init 30 = .ok (.putfield 21, 3) := by decide +kernel
theorem dX10_init_33 : decode cX10_init 33 = .ok (.aload_n 0, 1) := by decide +kernel
theorem dX10_init_34 : decode cX10_init 34 = .ok (.iconst 0, 1) := by decide +kernel
theorem dX10_init_35 : decode cX10_init 35 = .ok (.putfield 24, 3) := by decide +kernel
theorem dX10_init_38 : decode cX10_init 38 = .ok (.return_, 1) := by decide +kernel
theorem dX10_add_0 : decode cX10_add 0 = .ok (.aload_n 0, 1) := by decide +kernel
theorem dX10_add_1 : decode cX10_add 1 = .ok (.getfield 24, 3) := by decide +kernel
theorem dX10_add_4 : decode cX10_add 4 = .ok (.ifCond .lt 15, 3) := by decide +kernel
theorem dX10_add_7 : decode cX10_add 7 = .ok (.aload_n 0, 1) := by decide +kernel
theorem dX10_add_8 : decode cX10_add 8 = .ok (.getfield 24, 3) := by decide +kernel
theorem dX10_add_11 : decode cX10_add 11 = .ok (.aload_n 0, 1) := by decide +kernel
theorem dX10_add_12 : decode cX10_add 12 = .ok (.getfield 9, 3) := by decide +kernel
theorem dX10_add_15 : decode cX10_add 15 = .ok (.arraylength, 1) := by decide +kernel
theorem dX10_add_16 : decode cX10_add 16 = .ok (.if_icmp .lt 5, 3) := by decide +kernel
theorem dX10_add_19 : decode cX10_add 19 = .ok (.iconst 0, 1) := by decide +kernel
theorem dX10_add_20 : decode cX10_add 20 = .ok (.ireturn, 1) := by decide +kernel
theorem dX10_add_21 : decode cX10_add 21 = .ok (.aload_n 0, 1) := by decide +kernel
theorem dX10_add_22 : decode cX10_add 22 = .ok (.getfield 9, 3) := by decide +kernel
theorem dX10_add_25 : decode cX10_add 25 = .ok (.aload_n 0, 1) := by decide +kernel
theorem dX10_add_26 : decode cX10_add 26 = .ok (.getfield 24, 3) := by decide +kernel
theorem dX10_add_29 : decode cX10_add 29 = .ok (.iload_n 1, 1) := by decide +kernel
theorem dX10_add_30 : decode cX10_add 30 = .ok (.iastore, 1) := by decide +kernel
theorem dX10_add_31 : decode cX10_add 31 = .ok (.aload_n 0, 1) := by decide +kernel
theorem dX10_add_32 : decode cX10_add 32 = .ok (.dup, 1) := by decide +kernel
theorem dX10_add_33 : decode cX10_add 33 = .ok (.getfield 24, 3) := by decide +kernel
theorem dX10_add_36 : decode cX10_add 36 = .ok (.iconst 1, 1) := by decide +kernel
theorem dX10_add_37 : decode cX10_add 37 = .ok (.iadd, 1) := by decide +kernel
theorem dX10_add_38 : decode cX10_add 38 = .ok (.putfield 24, 3) := by decide +kernel
theorem dX10_add_41 : decode cX10_add 41 = .ok (.iconst 1, 1) := by decide +kernel
theorem dX10_add_42 : decode cX10_add 42 = .ok (.ireturn, 1) := by decide +kernel
theorem dX10_findFault_0 : decode cX10_findFault 0 = .ok (.aload_n 0, 1) := by decide +kernel
theorem dX10_findFault_1 : decode cX10_findFault 1 = .ok (.iconst 0, 1) := by decide +kernel
theorem dX10_findFault_2 : decode cX10_findFault 2 = .ok (.putfield 28, 3) := by decide +kernel
theorem dX10_findFault_5 : decode cX10_findFault 5 = .ok (.aload_n 0, 1) := by decide +kernel
theorem dX10_findFault_6 : decode cX10_findFault 6 = .ok (.iconst 0, 1) := by decide +kernel
theorem dX10_findFault_7 : decode cX10_findFault 7 = .ok (.putfield 31, 3) := by decide +kernel
theorem dX10_findFault_10 : decode cX10_findFault 10 = .ok (.aload_n 0, 1) := by decide +kernel
theorem dX10_findFault_11 : decode cX10_findFault 11 = .ok (.iconst 0, 1) := by decide +kernel
theorem dX10_findFault_12 : decode cX10_findFault 12 = .ok (.putfield 34, 3) := by decide +kernel
theorem dX10_findFault_15 : decode cX10_findFault 15 = .ok (.aload_n 0, 1) := by decide +kernel
theorem dX10_findFault_16 : decode cX10_findFault 16 = .ok (.iconst 0, 1) := by decide +kernel
theorem dX10_findFault_17 : decode cX10_findFault 17 = .ok (.putfield 37, 3) := by decide +kernel
theorem dX10_findFault_20 : decode cX10_findFault 20 = .ok (.aload_n 0, 1) := by decide +kernel
theorem dX10_findFault_21 : decode cX10_findFault 21 = .ok (.iconst 0, 1) := by decide +kernel
theorem dX10_findFault_22 : decode cX10_findFault 22 = .ok (.putfield 40, 3) := by decide +kernel
theorem dX10_findFault_25 : decode cX10_findFault 25 = .ok (.aload_n 0, 1) := by decide +kernel
theorem dX10_findFault_26 : decode cX10_findFault 26 = .ok (.iconst 0, 1) := by decide +kernel
theorem dX10_findFault_27 : decode cX10_findFault 27 = .ok (.putfield 43, 3) := by decide +kernel
theorem dX10_findFault_30 : decode cX10_findFault 30 = .ok (.aload_n 0, 1) := by decide +kernel
theorem dX10_findFault_31 : decode cX10_findFault 31 = .ok (.iconst 0, 1) := by decide +kernel
theorem dX10_findFault_32 : decode cX10_findFault 32 = .ok (.putfield 46, 3) := by decide +kernel
theorem dX10_findFault_35 : decode cX10_findFault 35 = .ok (.iconst 0, 1) := by decide +kernel
theorem dX10_findFault_36 : decode cX10_findFault 36 = .ok (.istore_n 1, 1) := by decide +kernel
theorem dX10_findFault_37 : decode cX10_findFault 37 = .ok (.iload_n 1, 1) := by decide +kernel
theorem dX10_findFault_38 : decode cX10_findFault 38 = .ok (.aload_n 0, 1) := by decide +kernel
theorem dX10_findFault_39 : decode cX10_findFault 39 = .ok (.getfield 24, 3) := by decide +kernel
theorem dX10_findFault_42 : decode cX10_findFault 42 = .ok (.if_icmp .ge 33, 3) := by decide +kernel
theorem dX10_findFault_45 : decode cX10_findFault 45 = .ok (.iload_n 1, 1) := by decide +kernel
theorem dX10_findFault_46 : decode cX10_findFault 46 = .ok (.aload_n 0, 1) := by decide +kernel
theorem dX10_findFault_47 : decode cX10_findFault 47 = .ok (.getfield 9, 3) := by decide +kernel
theorem dX10_findFault_50 : decode cX10_findFault 50 = .ok (.arraylength, 1) := by decide +kernel
theorem dX10_findFault_51 : decode cX10_findFault 51 = .ok (.if_icmp .ge 24, 3) := by decide +kernel
theorem dX10_findFault_54 : decode cX10_findFault 54 = .ok (.aload_n 0, 1) := by decide +kernel
theorem dX10_findFault_55 : decode cX10_findFault 55 = .ok (.aload_n 0, 1) := by decide +kernel
theorem dX10_findFault_56 : decode cX10_findFault 56 = .ok (.getfield 9, 3) := by decide +kernel
theorem dX10_findFault_59 : decode cX10_findFault 59 = .ok (.iload_n 1, 1) := by decide +kernel
theorem dX10_findFault_60 : decode cX10_findFault 60 = .ok (.iaload, 1) := by decide +kernel
theorem dX10_findFault_61 : decode cX10_findFault 61 = .ok (.invokevirtual 49, 3) := by decide +kernel
theorem dX10_findFault_64 : decode cX10_findFault 64 = .ok (.ifCond .ne 5, 3) := by decide +kernel
theorem dX10_findFault_67 : decode cX10_findFault 67 = .ok (.iload_n 1, 1) := by decide +kernel
theorem dX10_findFault_68 : decode cX10_findFault 68 = .ok (.ireturn, 1) := by decide +kernel
theorem dX10_findFault_69 : decode cX10_findFault 69 = .ok (.iinc 1 1, 3) := by decide +kernel
theorem dX10_findFault_72 : decode cX10_findFault 72 = .ok (.goto (-35), 3) := by decide +kernel
theorem dX10_findFault_75 : decode cX10_findFault 75 = .ok (.aload_n 0, 1) := by decide +kernel
theorem dX10_findFault_76 : decode cX10_findFault 76 = .ok (.getfield 46, 3) := by decide +kernel
theorem dX10_findFault_79 : decode cX10_findFault 79 = .ok (.iconst 3, 1) := by decide +kernel
theorem dX10_findFault_80 : decode cX10_findFault 80 = .ok (.if_icmp .ne 8, 3) := by decide +kernel
theorem dX10_findFault_83 : decode cX10_findFault 83 = .ok (.bipush (-9), 2) := by decide +kernel
theorem dX10_findFault_85 : decode cX10_findFault 85 = .ok (.goto 7, 3) := by decide +kernel
theorem dX10_findFault_88 : decode cX10_findFault 88 = .ok (.aload_n 0, 1) := by decide +kernel
theorem dX10_findFault_89 : decode cX10_findFault 89 = .ok (.getfield 24, 3) := by decide +kernel
theorem dX10_findFault_92 : decode cX10_findFault 92 = .ok (.ireturn, 1) := by decide +kernel
theorem dX10_accepts_0 : decode cX10_accepts 0 = .ok (.aload_n 0, 1) := by decide +kernel
theorem dX10_accepts_1 : decode cX10_accepts 1 = .ok (.getfield 46, 3) := by decide +kernel
theorem dX10_accepts_4 : decode cX10_accepts 4 = .ok (.tableswitch 76 0 5 #[40, 46, 52, 58, 64, 70], 40) := by decide +kernel
theorem dX10_accepts_44 : decode cX10_accepts 44 = .ok (.aload_n 0, 1) := by decide +kernel
theorem dX10_accepts_45 : decode cX10_accepts 45 = .ok (.iload_n 1, 1) := by decide +kernel
theorem dX10_accepts_46 : decode cX10_accepts 46 = .ok (.invokevirtual 53, 3) := by decide +kernel
theorem dX10_accepts_49 : decode cX10_accepts 49 = .ok (.ireturn, 1) := by decide +kernel
theorem dX10_accepts_50 : decode cX10_accepts 50 = .ok (.aload_n 0, 1) := by decide +kernel
theorem dX10_accepts_51 : decode cX10_accepts 51 = .ok (.iload_n 1, 1) := by decide +kernel
theorem dX10_accepts_52 : decode cX10_accepts 52 = .ok (.invokevirtual 56, 3) := by decide +kernel
theorem dX10_accepts_55 : decode cX10_accepts 55 = .ok (.ireturn, 1) := by decide +kernel
theorem dX10_accepts_56 : decode cX10_accepts 56 = .ok (.aload_n 0, 1) := by decide +kernel
theorem dX10_accepts_57 : decode cX10_accepts 57 = .ok (.iload_n 1, 1) := by decide +kernel
theorem dX10_accepts_58 : decode cX10_accepts 58 = .ok (.invokevirtual 59, 3) := by decide +kernel
theorem dX10_accepts_61 : decode cX10_accepts 61 = .ok (.ireturn, 1) := by decide +kernel
theorem dX10_accepts_62 : decode cX10_accepts 62 = .ok (.aload_n 0, 1) := by decide +kernel
theorem dX10_accepts_63 : decode cX10_accepts 63 = .ok (.iload_n 1, 1) := by decide +kernel
theorem dX10_accepts_64 : decode cX10_accepts 64 = .ok (.invokevirtual 62, 3) := by decide +kernel
theorem dX10_accepts_67 : decode cX10_accepts 67 = .ok (.ireturn, 1) := by decide +kernel
theorem dX10_accepts_68 : decode cX10_accepts 68 = .ok (.aload_n 0, 1) := by decide +kernel
theorem dX10_accepts_69 : decode cX10_accepts 69 = .ok (.iload_n 1, 1) := by decide +kernel
theorem dX10_accepts_70 : decode cX10_accepts 70 = .ok (.invokevirtual 65, 3) := by decide +kernel
theorem dX10_accepts_73 : decode cX10_accepts 73 = .ok (.ireturn, 1) := by decide +kernel
theorem dX10_accepts_74 : decode cX10_accepts 74 = .ok (.aload_n 0, 1) := by decide +kernel
theorem dX10_accepts_75 : decode cX10_accepts 75 = .ok (.iload_n 1, 1) := by decide +kernel
theorem dX10_accepts_76 : decode cX10_accepts 76 = .ok (.invokevirtual 68, 3) := by decide +kernel
theorem dX10_accepts_79 : decode cX10_accepts 79 = .ok (.ireturn, 1) := by decide +kernel
theorem dX10_accepts_80 : decode cX10_accepts 80 = .ok (.aload_n 0, 1) := by decide +kernel
theorem dX10_accepts_81 : decode cX10_accepts 81 = .ok (.iload_n 1, 1) := by decide +kernel
theorem dX10_accepts_82 : decode cX10_accepts 82 = .ok (.invokevirtual 71, 3) := by decide +kernel
theorem dX10_accepts_85 : decode cX10_accepts 85 = .ok (.ireturn, 1) := by decide +kernel
theorem dX10_acceptsE_0 : decode cX10_acceptsE 0 = .ok (.aload_n 0, 1) := by decide +kernel
theorem dX10_acceptsE_1 : decode cX10_acceptsE 1 = .ok (.iconst 1, 1) := by decide +kernel
theorem dX10_acceptsE_2 : decode cX10_acceptsE 2 = .ok (.putfield 46, 3) := by decide +kernel
theorem dX10_acceptsE_5 : decode cX10_acceptsE 5 = .ok (.iload_n 1, 1) := by decide +kernel
theorem dX10_acceptsE_6 : decode cX10_acceptsE 6 = .ok (.bipush 69, 2) := by decide +kernel
theorem dX10_acceptsE_8 : decode cX10_acceptsE 8 = .ok (.if_icmp .ne 7, 3) := by decide +kernel
theorem dX10_acceptsE_11 : decode cX10_acceptsE 11 = .ok (.iconst 1, 1) := by decide +kernel
theorem dX10_acceptsE_12 : decode cX10_acceptsE 12 = .ok (.goto 4, 3) := by decide +kernel
theorem dX10_acceptsE_15 : decode cX10_acceptsE 15 = .ok (.iconst 0, 1) := by decide +kernel
theorem dX10_acceptsE_16 : decode cX10_acceptsE 16 = .ok (.ireturn, 1) := by decide +kernel
theorem dX10_acceptsTruth_0 : decode cX10_acceptsTruth 0 = .ok (.iload_n 1, 1) := by decide +kernel
theorem dX10_acceptsTruth_1 : decode cX10_acceptsTruth 1 = .ok (.bipush 47, 2) := by decide +kernel
theorem dX10_acceptsTruth_3 : decode cX10_acceptsTruth 3 = .ok (.if_icmp .ne 21, 3) := by decide +kernel
theorem dX10_acceptsTruth_6 : decode cX10_acceptsTruth 6 = .ok (.aload_n 0, 1) := by decide +kernel
theorem dX10_acceptsTruth_7 : decode cX10_acceptsTruth 7 = .ok (.iconst 2, 1) := by decide +kernel
theorem dX10_acceptsTruth_8 : decode cX10_acceptsTruth 8 = .ok (.putfield 46, 3) := by decide +kernel
theorem dX10_acceptsTruth_11 : decode cX10_acceptsTruth 11 = .ok (.aload_n 0, 1) := by decide +kernel
theorem dX10_acceptsTruth_12 : decode cX10_acceptsTruth 12 = .ok (.getfield 34, 3) := by decide +kernel
theorem dX10_acceptsTruth_15 : decode cX10_acceptsTruth 15 = .ok (.ifCond .le 7, 3) := by decide +kernel
theorem dX10_acceptsTruth_18 : decode cX10_acceptsTruth 18 = .ok (.iconst 1, 1) := by decide +kernel
theorem dX10_acceptsTruth_19 : decode cX10_acceptsTruth 19 = .ok (.goto 4, 3) := by decide +kernel
theorem dX10_acceptsTruth_22 : decode cX10_acceptsTruth 22 = .ok (.iconst 0, 1) := by decide +kernel
theorem dX10_acceptsTruth_23 : decode cX10_acceptsTruth 23 = .ok (.ireturn, 1) := by decide +kernel
theorem dX10_acceptsTruth_24 : decode cX10_acceptsTruth 24 = .ok (.aload_n 0, 1) := by decide +kernel
theorem dX10_acceptsTruth_25 : decode cX10_acceptsTruth 25 = .ok (.aload_n 0, 1) := by decide +kernel
theorem dX10_acceptsTruth_26 : decode cX10_acceptsTruth 26 = .ok (.getfield 40, 3) := by decide +kernel
theorem dX10_acceptsTruth_29 : decode cX10_acceptsTruth 29 = .ok (.iconst 4, 1) := by decide +kernel
theorem dX10_acceptsTruth_30 : decode cX10_acceptsTruth 30 = .ok (.imul, 1) := by decide +kernel
theorem dX10_acceptsTruth_31 : decode cX10_acceptsTruth 31 = .ok (.iload_n 1, 1) := by decide +kernel
theorem dX10_acceptsTruth_32 : decode cX10_acceptsTruth 32 = .ok (.bipush 97, 2) := by decide +kernel
theorem dX10_acceptsTruth_34 : decode cX10_acceptsTruth 34 = .ok (.isub, 1) := by decide +kernel
theorem dX10_acceptsTruth_35 : decode cX10_acceptsTruth 35 = .ok (.iadd, 1) := by decide +kernel
theorem dX10_acceptsTruth_36 : decode cX10_acceptsTruth 36 = .ok (.putfield 40, 3) := by decide +kernel
theorem dX10_acceptsTruth_39 : decode cX10_acceptsTruth 39 = .ok (.aload_n 0, 1) := by decide +kernel
theorem dX10_acceptsTruth_40 : decode cX10_acceptsTruth 40 = .ok (.dup, 1) := by decide +kernel
theorem dX10_acceptsTruth_41 : decode cX10_acceptsTruth 41 = .ok (.getfield 34, 3) := by decide +kernel
theorem dX10_acceptsTruth_44 : decode cX10_acceptsTruth 44 = .ok (.iconst 1, 1) := by decide +kernel
theorem dX10_acceptsTruth_45 : decode cX10_acceptsTruth 45 = .ok (.iadd, 1) := by decide +kernel
theorem dX10_acceptsTruth_46 : decode cX10_acceptsTruth 46 = .ok (.putfield 34, 3) := by decide +kernel
theorem dX10_acceptsTruth_49 : decode cX10_acceptsTruth 49 = .ok (.iload_n 1, 1) := by decide +kernel
theorem dX10_acceptsTruth_50 : decode cX10_acceptsTruth 50 = .ok (.invokestatic 74, 3) := by decide +kernel
theorem dX10_acceptsTruth_53 : decode cX10_acceptsTruth 53 = .ok (.ifCond .eq 15, 3) := by decide +kernel
theorem dX10_acceptsTruth_56 : decode cX10_acceptsTruth 56 = .ok (.aload_n 0, 1) := by decide +kernel
theorem dX10_acceptsTruth_57 : decode cX10_acceptsTruth 57 = .ok (.getfield 34, 3) := by decide +kernel
theorem dX10_acceptsTruth_60 : decode cX10_acceptsTruth 60 = .ok (.iconst 5, 1) := by decide +kernel
theorem dX10_acceptsTruth_61 : decode cX10_acceptsTruth 61 = .ok (.if_icmp .gt 7, 3) := by decide +kernel
theorem dX10_acceptsTruth_64 : decode cX10_acceptsTruth 64 = .ok (.iconst 1, 1) := by decide +kernel
theorem dX10_acceptsTruth_65 : decode cX10_acceptsTruth 65 = .ok (.goto 4, 3) := by decide +kernel
theorem dX10_acceptsTruth_68 : decode cX10_acceptsTruth 68 = .ok (.iconst 0, 1) := by decide +kernel
theorem dX10_acceptsTruth_69 : decode cX10_acceptsTruth 69 = .ok (.ireturn, 1) := by decide +kernel
theorem dX10_acceptsSaid_0 : decode cX10_acceptsSaid 0 = .ok (.aload_n 0, 1) := by decide +kernel
theorem dX10_acceptsSaid_1 : decode cX10_acceptsSaid 1 = .ok (.aload_n 0, 1) := by decide +kernel
theorem dX10_acceptsSaid_2 : decode cX10_acceptsSaid 2 = .ok (.getfield 43, 3) := by decide +kernel
theorem dX10_acceptsSaid_5 : decode cX10_acceptsSaid 5 = .ok (.iconst 4, 1) := by decide +kernel
theorem dX10_acceptsSaid_6 : decode cX10_acceptsSaid 6 = .ok (.imul, 1) := by decide +kernel
theorem dX10_acceptsSaid_7 : decode cX10_acceptsSaid 7 = .ok (.iload_n 1, 1) := by decide +kernel
theorem dX10_acceptsSaid_8 : decode cX10_acceptsSaid 8 = .ok (.bipush 97, 2) := by decide +kernel
theorem dX10_acceptsSaid_10 : decode cX10_acceptsSaid 10 = .ok (.isub, 1) := by decide +kernel
theorem dX10_acceptsSaid_11 : decode cX10_acceptsSaid 11 = .ok (.iadd, 1) := by decide +kernel
theorem dX10_acceptsSaid_12 : decode cX10_acceptsSaid 12 = .ok (.putfield 43, 3) := by decide +kernel
theorem dX10_acceptsSaid_15 : decode cX10_acceptsSaid 15 = .ok (.aload_n 0, 1) := by decide +kernel
theorem dX10_acceptsSaid_16 : decode cX10_acceptsSaid 16 = .ok (.dup, 1) := by decide +kernel
theorem dX10_acceptsSaid_17 : decode cX10_acceptsSaid 17 = .ok (.getfield 37, 3) := by decide +kernel
theorem dX10_acceptsSaid_20 : decode cX10_acceptsSaid 20 = .ok (.iconst 1, 1) := by decide +kernel
theorem dX10_acceptsSaid_21 : decode cX10_acceptsSaid 21 = .ok (.iadd, 1) := by decide +kernel
theorem dX10_acceptsSaid_22 : decode cX10_acceptsSaid 22 = .ok (.putfield 37, 3) := by decide +kernel
theorem dX10_acceptsSaid_25 : decode cX10_acceptsSaid 25 = .ok (.aload_n 0, 1) := by decide +kernel
theorem dX10_acceptsSaid_26 : decode cX10_acceptsSaid 26 = .ok (.getfield 37, 3) := by decide +kernel
theorem dX10_acceptsSaid_29 : decode cX10_acceptsSaid 29 = .ok (.aload_n 0, 1) := by decide +kernel
theorem dX10_acceptsSaid_30 : decode cX10_acceptsSaid 30 = .ok (.getfield 34, 3) := by decide +kernel
theorem dX10_acceptsSaid_33 : decode cX10_acceptsSaid 33 = .ok (.if_icmp .ne 8, 3) := by decide +kernel
theorem dX10_acceptsSaid_36 : decode cX10_acceptsSaid 36 = .ok (.aload_n 0, 1) := by decide +kernel
theorem dX10_acceptsSaid_37 : decode cX10_acceptsSaid 37 = .ok (.iconst 3, 1) := by decide +kernel
theorem dX10_acceptsSaid_38 : decode cX10_acceptsSaid 38 = .ok (.putfield 46, 3) := by decide +kernel
theorem dX10_acceptsSaid_41 : decode cX10_acceptsSaid 41 = .ok (.iload_n 1, 1) := by decide +kernel
theorem dX10_acceptsSaid_42 : decode cX10_acceptsSaid 42 = .ok (.invokestatic 74, 3) := by decide +kernel
theorem dX10_acceptsSaid_45 : decode cX10_acceptsSaid 45 = .ok (.ireturn, 1) := by decide +kernel
theorem dX10_acceptsPart_0 : decode cX10_acceptsPart 0 = .ok (.iload_n 1, 1) := by decide +kernel
theorem dX10_acceptsPart_1 : decode cX10_acceptsPart 1 = .ok (.bipush 67, 2) := by decide +kernel
theorem dX10_acceptsPart_3 : decode cX10_acceptsPart 3 = .ok (.if_icmp .ne 22, 3) := by decide +kernel
theorem dX10_acceptsPart_6 : decode cX10_acceptsPart 6 = .ok (.aload_n 0, 1) := by decide +kernel
theorem dX10_acceptsPart_7 : decode cX10_acceptsPart 7 = .ok (.iconst 4, 1) := by decide +kernel
theorem dX10_acceptsPart_8 : decode cX10_acceptsPart 8 = .ok (.putfield 46, 3) := by decide +kernel
theorem dX10_acceptsPart_11 : decode cX10_acceptsPart 11 = .ok (.aload_n 0, 1) := by decide +kernel
theorem dX10_acceptsPart_12 : decode cX10_acceptsPart 12 = .ok (.getfield 28, 3) := by decide +kernel
theorem dX10_acceptsPart_15 : decode cX10_acceptsPart 15 = .ok (.iconst 3, 1) := by decide +kernel
theorem dX10_acceptsPart_16 : decode cX10_acceptsPart 16 = .ok (.if_icmp .ge 7, 3) := by decide +kernel
theorem dX10_acceptsPart_19 : decode cX10_acceptsPart 19 = .ok (.iconst 1, 1) := by decide +kernel
theorem dX10_acceptsPart_20 : decode cX10_acceptsPart 20 = .ok (.goto 4, 3) := by decide +kernel
theorem dX10_acceptsPart_23 : decode cX10_acceptsPart 23 = .ok (.iconst 0, 1) := by decide +kernel
theorem dX10_acceptsPart_24 : decode cX10_acceptsPart 24 = .ok (.ireturn, 1) := by decide +kernel
theorem dX10_acceptsPart_25 : decode cX10_acceptsPart 25 = .ok (.aload_n 0, 1) := by decide +kernel
theorem dX10_acceptsPart_26 : decode cX10_acceptsPart 26 = .ok (.iconst 5, 1) := by decide +kernel
theorem dX10_acceptsPart_27 : decode cX10_acceptsPart 27 = .ok (.putfield 46, 3) := by decide +kernel
theorem dX10_acceptsPart_30 : decode cX10_acceptsPart 30 = .ok (.iload_n 1, 1) := by decide +kernel
theorem dX10_acceptsPart_31 : decode cX10_acceptsPart 31 = .ok (.bipush 82, 2) := by decide +kernel
theorem dX10_acceptsPart_33 : decode cX10_acceptsPart 33 = .ok (.if_icmp .ne 15, 3) := by decide +kernel
theorem dX10_acceptsPart_36 : decode cX10_acceptsPart 36 = .ok (.aload_n 0, 1) := by decide +kernel
theorem dX10_acceptsPart_37 : decode cX10_acceptsPart 37 = .ok (.getfield 31, 3) := by decide +kernel
theorem dX10_acceptsPart_40 : decode cX10_acceptsPart 40 = .ok (.iconst 4, 1) := by decide +kernel
theorem dX10_acceptsPart_41 : decode cX10_acceptsPart 41 = .ok (.if_icmp .ge 7, 3) := by decide +kernel
theorem dX10_acceptsPart_44 : decode cX10_acceptsPart 44 = .ok (.iconst 1, 1) := by decide +kernel
theorem dX10_acceptsPart_45 : decode cX10_acceptsPart 45 = .ok (.goto 4, 3) := by decide +kernel
theorem dX10_acceptsPart_48 : decode cX10_acceptsPart 48 = .ok (.iconst 0, 1) := by decide +kernel
theorem dX10_acceptsPart_49 : decode cX10_acceptsPart 49 = .ok (.ireturn, 1) := by decide +kernel
theorem dX10_acceptsKind_0 : decode cX10_acceptsKind 0 = .ok (.iload_n 1, 1) := by decide +kernel
theorem dX10_acceptsKind_1 : decode cX10_acceptsKind 1 = .ok (.bipush 48, 2) := by decide +kernel
theorem dX10_acceptsKind_3 : decode cX10_acceptsKind 3 = .ok (.isub, 1) := by decide +kernel
theorem dX10_acceptsKind_4 : decode cX10_acceptsKind 4 = .ok (.istore_n 2, 1) := by decide +kernel
theorem dX10_acceptsKind_5 : decode cX10_acceptsKind 5 = .ok (.iload_n 2, 1) := by decide +kernel
theorem dX10_acceptsKind_6 : decode cX10_acceptsKind 6 = .ok (.ifCond .lt 27, 3) := by decide +kernel
theorem dX10_acceptsKind_9 : decode cX10_acceptsKind 9 = .ok (.iload_n 2, 1) := by decide +kernel
theorem dX10_acceptsKind_10 : decode cX10_acceptsKind 10 = .ok (.iconst 4, 1) := by decide +kernel
theorem dX10_acceptsKind_11 : decode cX10_acceptsKind 11 = .ok (.if_icmp .ge 22, 3) := by decide +kernel
theorem dX10_acceptsKind_14 : decode cX10_acceptsKind 14 = .ok (.aload_n 0, 1) := by decide +kernel
theorem dX10_acceptsKind_15 : decode cX10_acceptsKind 15 = .ok (.getfield 28, 3) := by decide +kernel
theorem dX10_acceptsKind_18 : decode cX10_acceptsKind 18 = .ok (.ifCond .lt 15, 3) := by decide +kernel
theorem dX10_acceptsKind_21 : decode cX10_acceptsKind 21 = .ok (.aload_n 0, 1) := by decide +kernel
theorem dX10_acceptsKind_22 : decode cX10_acceptsKind 22 = .ok (.getfield 28, 3) := by decide +kernel
theorem dX10_acceptsKind_25 : decode cX10_acceptsKind 25 = .ok (.aload_n 0, 1) := by decide +kernel
theorem dX10_acceptsKind_26 : decode cX10_acceptsKind 26 = .ok (.getfield 15, 3) := by decide +kernel
theorem dX10_acceptsKind_29 : decode cX10_acceptsKind 29 = .ok (.arraylength, 1) := by decide +kernel
theorem dX10_acceptsKind_30 : decode cX10_acceptsKind 30 = .ok (.if_icmp .lt 5, 3) := by decide +kernel
theorem dX10_acceptsKind_33 : decode cX10_acceptsKind 33 = .ok (.iconst 0, 1) := by decide +kernel
theorem dX10_acceptsKind_34 : decode cX10_acceptsKind 34 = .ok (.ireturn, 1) := by decide +kernel
theorem dX10_acceptsKind_35 : decode cX10_acceptsKind 35 = .ok (.aload_n 0, 1) := by decide +kernel
theorem dX10_acceptsKind_36 : decode cX10_acceptsKind 36 = .ok (.getfield 15, 3) := by decide +kernel
theorem dX10_acceptsKind_39 : decode cX10_acceptsKind 39 = .ok (.aload_n 0, 1) := by decide +kernel
theorem dX10_acceptsKind_40 : decode cX10_acceptsKind 40 = .ok (.getfield 28, 3) := by decide +kernel
theorem dX10_acceptsKind_43 : decode cX10_acceptsKind 43 = .ok (.iload_n 2, 1) := by decide +kernel
theorem dX10_acceptsKind_44 : decode cX10_acceptsKind 44 = .ok (.iastore, 1) := by decide +kernel
theorem dX10_acceptsKind_45 : decode cX10_acceptsKind 45 = .ok (.aload_n 0, 1) := by decide +kernel
theorem dX10_acceptsKind_46 : decode cX10_acceptsKind 46 = .ok (.dup, 1) := by decide +kernel
theorem dX10_acceptsKind_47 : decode cX10_acceptsKind 47 = .ok (.getfield 28, 3) := by decide +kernel
theorem dX10_acceptsKind_50 : decode cX10_acceptsKind 50 = .ok (.iconst 1, 1) := by decide +kernel
theorem dX10_acceptsKind_51 : decode cX10_acceptsKind 51 = .ok (.iadd, 1) := by decide +kernel
theorem dX10_acceptsKind_52 : decode cX10_acceptsKind 52 = .ok (.putfield 28, 3) := by decide +kernel
theorem dX10_acceptsKind_55 : decode cX10_acceptsKind 55 = .ok (.aload_n 0, 1) := by decide +kernel
theorem dX10_acceptsKind_56 : decode cX10_acceptsKind 56 = .ok (.iconst 3, 1) := by decide +kernel
theorem dX10_acceptsKind_57 : decode cX10_acceptsKind 57 = .ok (.putfield 46, 3) := by decide +kernel
theorem dX10_acceptsKind_60 : decode cX10_acceptsKind 60 = .ok (.iconst 1, 1) := by decide +kernel
theorem dX10_acceptsKind_61 : decode cX10_acceptsKind 61 = .ok (.ireturn, 1) := by decide +kernel
theorem dX10_acceptsPeriod_0 : decode cX10_acceptsPeriod 0 = .ok (.iload_n 1, 1) := by decide +kernel
theorem dX10_acceptsPeriod_1 : decode cX10_acceptsPeriod 1 = .ok (.bipush 48, 2) := by decide +kernel
theorem dX10_acceptsPeriod_3 : decode cX10_acceptsPeriod 3 = .ok (.isub, 1) := by decide +kernel
theorem dX10_acceptsPeriod_4 : decode cX10_acceptsPeriod 4 = .ok (.istore_n 2, 1) := by decide +kernel
theorem dX10_acceptsPeriod_5 : decode cX10_acceptsPeriod 5 = .ok (.iload_n 2, 1) := by decide +kernel
theorem dX10_acceptsPeriod_6 : decode cX10_acceptsPeriod 6 = .ok (.iconst 1, 1) := by decide +kernel
theorem dX10_acceptsPeriod_7 : decode cX10_acceptsPeriod 7 = .ok (.if_icmp .lt 27, 3) := by decide +kernel
theorem dX10_acceptsPeriod_10 : decode cX10_acceptsPeriod 10 = .ok (.iload_n 2, 1) := by decide +kernel
theorem dX10_acceptsPeriod_11 : decode cX10_acceptsPeriod 11 = .ok (.iconst 4, 1) := by decide +kernel
theorem dX10_acceptsPeriod_12 : decode cX10_acceptsPeriod 12 = .ok (.if_icmp .gt 22, 3) := by decide +kernel
theorem dX10_acceptsPeriod_15 : decode cX10_acceptsPeriod 15 = .ok (.aload_n 0, 1) := by decide +kernel
theorem dX10_acceptsPeriod_16 : decode cX10_acceptsPeriod 16 = .ok (.getfield 31, 3) := by decide +kernel
theorem dX10_acceptsPeriod_19 : decode cX10_acceptsPeriod 19 = .ok (.ifCond .lt 15, 3) := by decide +kernel
theorem dX10_acceptsPeriod_22 : decode cX10_acceptsPeriod 22 = .ok (.aload_n 0, 1) := by decide +kernel
theorem dX10_acceptsPeriod_23 : decode cX10_acceptsPeriod 23 = .ok (.getfield 31, 3) := by decide +kernel
theorem dX10_acceptsPeriod_26 : decode cX10_acceptsPeriod 26 = .ok (.aload_n 0, 1) := by decide +kernel
theorem dX10_acceptsPeriod_27 : decode cX10_acceptsPeriod 27 = .ok (.getfield 18, 3) := by decide +kernel
theorem dX10_acceptsPeriod_30 : decode cX10_acceptsPeriod 30 = .ok (.arraylength, 1) := by decide +kernel
theorem dX10_acceptsPeriod_31 : decode cX10_acceptsPeriod 31 = .ok (.if_icmp .lt 5, 3) := by decide +kernel
theorem dX10_acceptsPeriod_34 : decode cX10_acceptsPeriod 34 = .ok (.iconst 0, 1) := by decide +kernel
theorem dX10_acceptsPeriod_35 : decode cX10_acceptsPeriod 35 = .ok (.ireturn, 1) := by decide +kernel
theorem dX10_acceptsPeriod_36 : decode cX10_acceptsPeriod 36 = .ok (.aload_n 0, 1) := by decide +kernel
theorem dX10_acceptsPeriod_37 : decode cX10_acceptsPeriod 37 = .ok (.getfield 18, 3) := by decide +kernel
theorem dX10_acceptsPeriod_40 : decode cX10_acceptsPeriod 40 = .ok (.aload_n 0, 1) := by decide +kernel
theorem dX10_acceptsPeriod_41 : decode cX10_acceptsPeriod 41 = .ok (.getfield 31, 3) := by decide +kernel
theorem dX10_acceptsPeriod_44 : decode cX10_acceptsPeriod 44 = .ok (.iload_n 2, 1) := by decide +kernel
theorem dX10_acceptsPeriod_45 : decode cX10_acceptsPeriod 45 = .ok (.iastore, 1) := by decide +kernel
theorem dX10_acceptsPeriod_46 : decode cX10_acceptsPeriod 46 = .ok (.aload_n 0, 1) := by decide +kernel
theorem dX10_acceptsPeriod_47 : decode cX10_acceptsPeriod 47 = .ok (.bipush 6, 2) := by decide +kernel
theorem dX10_acceptsPeriod_49 : decode cX10_acceptsPeriod 49 = .ok (.putfield 46, 3) := by decide +kernel
theorem dX10_acceptsPeriod_52 : decode cX10_acceptsPeriod 52 = .ok (.iconst 1, 1) := by decide +kernel
theorem dX10_acceptsPeriod_53 : decode cX10_acceptsPeriod 53 = .ok (.ireturn, 1) := by decide +kernel
theorem dX10_acceptsLeft_0 : decode cX10_acceptsLeft 0 = .ok (.iload_n 1, 1) := by decide +kernel
theorem dX10_acceptsLeft_1 : decode cX10_acceptsLeft 1 = .ok (.bipush 48, 2) := by decide +kernel
theorem dX10_acceptsLeft_3 : decode cX10_acceptsLeft 3 = .ok (.isub, 1) := by decide +kernel
theorem dX10_acceptsLeft_4 : decode cX10_acceptsLeft 4 = .ok (.istore_n 2, 1) := by decide +kernel
theorem dX10_acceptsLeft_5 : decode cX10_acceptsLeft 5 = .ok (.aload_n 0, 1) := by decide +kernel
theorem dX10_acceptsLeft_6 : decode cX10_acceptsLeft 6 = .ok (.getfield 31, 3) := by decide +kernel
theorem dX10_acceptsLeft_9 : decode cX10_acceptsLeft 9 = .ok (.ifCond .lt 27, 3) := by decide +kernel
theorem dX10_acceptsLeft_12 : decode cX10_acceptsLeft 12 = .ok (.aload_n 0, 1) := by decide +kernel
theorem dX10_acceptsLeft_13 : decode cX10_acceptsLeft 13 = .ok (.getfield 31, 3) := by decide +kernel
theorem dX10_acceptsLeft_16 : decode cX10_acceptsLeft 16 = .ok (.aload_n 0, 1) := by decide +kernel
theorem dX10_acceptsLeft_17 : decode cX10_acceptsLeft 17 = .ok (.getfield 18, 3) := by decide +kernel
theorem dX10_acceptsLeft_20 : decode cX10_acceptsLeft 20 = .ok (.arraylength, 1) := by decide +kernel
theorem dX10_acceptsLeft_21 : decode cX10_acceptsLeft 21 = .ok (.if_icmp .ge 15, 3) := by decide +kernel
theorem dX10_acceptsLeft_24 : decode cX10_acceptsLeft 24 = .ok (.aload_n 0, 1) := by decide +kernel
theorem dX10_acceptsLeft_25 : decode cX10_acceptsLeft 25 = .ok (.getfield 31, 3) := by decide +kernel
theorem dX10_acceptsLeft_28 : decode cX10_acceptsLeft 28 = .ok (.aload_n 0, 1) := by decide +kernel
theorem dX10_acceptsLeft_29 : decode cX10_acceptsLeft 29 = .ok (.getfield 21, 3) := by decide +kernel
theorem dX10_acceptsLeft_32 : decode cX10_acceptsLeft 32 = .ok (.arraylength, 1) := by decide +kernel
theorem dX10_acceptsLeft_33 : decode cX10_acceptsLeft 33 = .ok (.if_icmp .lt 5, 3) := by decide +kernel
theorem dX10_acceptsLeft_36 : decode cX10_acceptsLeft 36 = .ok (.iconst 0, 1) := by decide +kernel
theorem dX10_acceptsLeft_37 : decode cX10_acceptsLeft 37 = .ok (.ireturn, 1) := by decide +kernel
theorem dX10_acceptsLeft_38 : decode cX10_acceptsLeft 38 = .ok (.iload_n 2, 1) := by decide +kernel
theorem dX10_acceptsLeft_39 : decode cX10_acceptsLeft 39 = .ok (.ifCond .lt 16, 3) := by decide +kernel
theorem dX10_acceptsLeft_42 : decode cX10_acceptsLeft 42 = .ok (.iload_n 2, 1) := by decide +kernel
theorem dX10_acceptsLeft_43 : decode cX10_acceptsLeft 43 = .ok (.aload_n 0, 1) := by decide +kernel
theorem dX10_acceptsLeft_44 : decode cX10_acceptsLeft 44 = .ok (.getfield 18, 3) := by decide +kernel
theorem dX10_acceptsLeft_47 : decode cX10_acceptsLeft 47 = .ok (.aload_n 0, 1) := by decide +kernel
theorem dX10_acceptsLeft_48 : decode cX10_acceptsLeft 48 = .ok (.getfield 31, 3) := by decide +kernel
theorem dX10_acceptsLeft_51 : decode cX10_acceptsLeft 51 = .ok (.iaload, 1) := by decide +kernel
theorem dX10_acceptsLeft_52 : decode cX10_acceptsLeft 52 = .ok (.if_icmp .lt 5, 3) := by decide +kernel
theorem dX10_acceptsLeft_55 : decode cX10_acceptsLeft 55 = .ok (.iconst 0, 1) := by decide +kernel
theorem dX10_acceptsLeft_56 : decode cX10_acceptsLeft 56 = .ok (.ireturn, 1) := by decide +kernel
theorem dX10_acceptsLeft_57 : decode cX10_acceptsLeft 57 = .ok (.aload_n 0, 1) := by decide +kernel
theorem dX10_acceptsLeft_58 : decode cX10_acceptsLeft 58 = .ok (.getfield 21, 3) := by decide +kernel
theorem dX10_acceptsLeft_61 : decode cX10_acceptsLeft 61 = .ok (.aload_n 0, 1) := by decide +kernel
theorem dX10_acceptsLeft_62 : decode cX10_acceptsLeft 62 = .ok (.getfield 31, 3) := by decide +kernel
theorem dX10_acceptsLeft_65 : decode cX10_acceptsLeft 65 = .ok (.iload_n 2, 1) := by decide +kernel
theorem dX10_acceptsLeft_66 : decode cX10_acceptsLeft 66 = .ok (.iastore, 1) := by decide +kernel
theorem dX10_acceptsLeft_67 : decode cX10_acceptsLeft 67 = .ok (.aload_n 0, 1) := by decide +kernel
theorem dX10_acceptsLeft_68 : decode cX10_acceptsLeft 68 = .ok (.dup, 1) := by decide +kernel
theorem dX10_acceptsLeft_69 : decode cX10_acceptsLeft 69 = .ok (.getfield 31, 3) := by decide +kernel
theorem dX10_acceptsLeft_72 : decode cX10_acceptsLeft 72 = .ok (.iconst 1, 1) := by decide +kernel
theorem dX10_acceptsLeft_73 : decode cX10_acceptsLeft 73 = .ok (.iadd, 1) := by decide +kernel
theorem dX10_acceptsLeft_74 : decode cX10_acceptsLeft 74 = .ok (.putfield 31, 3) := by decide +kernel
theorem dX10_acceptsLeft_77 : decode cX10_acceptsLeft 77 = .ok (.aload_n 0, 1) := by decide +kernel
theorem dX10_acceptsLeft_78 : decode cX10_acceptsLeft 78 = .ok (.iconst 3, 1) := by decide +kernel
theorem dX10_acceptsLeft_79 : decode cX10_acceptsLeft 79 = .ok (.putfield 46, 3) := by decide +kernel
theorem dX10_acceptsLeft_82 : decode cX10_acceptsLeft 82 = .ok (.iconst 1, 1) := by decide +kernel
theorem dX10_acceptsLeft_83 : decode cX10_acceptsLeft 83 = .ok (.ireturn, 1) := by decide +kernel
theorem dX10_isLetter_0 : decode cX10_isLetter 0 = .ok (.iload_n 0, 1) := by decide +kernel
theorem dX10_isLetter_1 : decode cX10_isLetter 1 = .ok (.bipush 97, 2) := by decide +kernel
theorem dX10_isLetter_3 : decode cX10_isLetter 3 = .ok (.if_icmp .lt 13, 3) := by decide +kernel
theorem dX10_isLetter_6 : decode cX10_isLetter 6 = .ok (.iload_n 0, 1) := by decide +kernel
theorem dX10_isLetter_7 : decode cX10_isLetter 7 = .ok (.bipush 100, 2) := by decide +kernel
theorem dX10_isLetter_9 : decode cX10_isLetter 9 = .ok (.if_icmp .gt 7, 3) := by decide +kernel
theorem dX10_isLetter_12 : decode cX10_isLetter 12 = .ok (.iconst 1, 1) := by decide +kernel
theorem dX10_isLetter_13 : decode cX10_isLetter 13 = .ok (.goto 4, 3) := by decide +kernel
theorem dX10_isLetter_16 : decode cX10_isLetter 16 = .ok (.iconst 0, 1) := by decide +kernel
theorem dX10_isLetter_17 : decode cX10_isLetter 17 = .ok (.ireturn, 1) := by decide +kernel
theorem dX11_init_0 : decode cX11_init 0 = .ok (.aload_n 0, 1) := by decide +kernel
theorem dX11_init_1 : decode cX11_init 1 = .ok (.invokespecial 3, 3) := by decide +kernel
theorem dX11_init_4 : decode cX11_init 4 = .ok (.aload_n 0, 1) := by decide +kernel
theorem dX11_init_5 : decode cX11_init 5 = .ok (.new 9, 3) := by decide +kernel
theorem dX11_init_8 : decode cX11_init 8 = .ok (.dup, 1) := by decide +kernel
theorem dX11_init_9 : decode cX11_init 9 = .ok (.invokespecial 11, 3) := by decide +kernel
theorem dX11_init_12 : decode cX11_init 12 = .ok (.putfield 12, 3) := by decide +kernel
theorem dX11_init_15 : decode cX11_init 15 = .ok (.aload_n 0, 1) := by decide +kernel
theorem dX11_init_16 : decode cX11_init 16 = .ok (.new 16, 3) := by decide +kernel
theorem dX11_init_19 : decode cX11_init 19 = .ok (.dup, 1) := by decide +kernel
theorem dX11_init_20 : decode cX11_init 20 = .ok (.invokespecial 18, 3) := by decide +kernel
theorem dX11_init_23 : decode cX11_init 23 = .ok (.putfield 19, 3) := by decide +kernel
theorem dX11_init_26 : decode cX11_init 26 = .ok (.aload_n 0, 1) := by decide +kernel
theorem dX11_init_27 : decode cX11_init 27 = .ok (.new 23, 3) := by decide +kernel
theorem dX11_init_30 : decode cX11_init 30 = .ok (.dup, 1) := by decide +kernel
theorem dX11_init_31 : decode cX11_init 31 = .ok (.invokespecial 25, 3) := by decide +kernel
theorem dX11_init_34 : decode cX11_init 34 = .ok (.putfield 26, 3) := by decide +kernel
theorem dX11_init_37 : decode cX11_init 37 = .ok (.aload_n 0, 1) := by decide +kernel
theorem dX11_init_38 : decode cX11_init 38 = .ok (.new 30, 3) := by decide +kernel
theorem dX11_init_41 : decode cX11_init 41 = .ok (.dup, 1) := by decide +kernel
theorem dX11_init_42 : decode cX11_init 42 = .ok (.iconst 2, 1) := by decide +kernel
theorem dX11_init_43 : decode cX11_init 43 = .ok (.invokespecial 32, 3) := by decide +kernel
theorem dX11_init_46 : decode cX11_init 46 = .ok (.putfield 35, 3) := by decide +kernel
theorem dX11_init_49 : decode cX11_init 49 = .ok (.aload_n 0, 1) := by decide +kernel
theorem dX11_init_50 : decode cX11_init 50 = .ok (.new 39, 3) := by decide +kernel
theorem dX11_init_53 : decode cX11_init 53 = .ok (.dup, 1) := by decide +kernel
theorem dX11_init_54 : decode cX11_init 54 = .ok (.invokespecial 41, 3) := by decide +kernel
theorem dX11_init_57 : decode cX11_init 57 = .ok (.putfield 42, 3) := by decide +kernel
theorem dX11_init_60 : decode cX11_init 60 = .ok (.aload_n 0, 1) := by decide +kernel
theorem dX11_init_61 : decode cX11_init 61 = .ok (.new 46, 3) := by decide +kernel
theorem dX11_init_64 : decode cX11_init 64 = .ok (.dup, 1) := by decide +kernel
theorem dX11_init_65 : decode cX11_init 65 = .ok (.invokespecial 48, 3) := by decide +kernel
theorem dX11_init_68 : decode cX11_init 68 = .ok (.putfield 49, 3) := by decide +kernel
theorem dX11_init_71 : decode cX11_init 71 = .ok (.aload_n 0, 1) := by decide +kernel
theorem dX11_init_72 : decode cX11_init 72 = .ok (.new 53, 3) := by decide +kernel
theorem dX11_init_75 : decode cX11_init 75 = .ok (.dup, 1) := by decide +kernel
theorem dX11_init_76 : decode cX11_init 76 = .ok (.invokespecial 55, 3) := by decide +kernel
theorem dX11_init_79 : decode cX11_init 79 = .ok (.putfield 56, 3) := by decide +kernel
theorem dX11_init_82 : decode cX11_init 82 = .ok (.aload_n 0, 1) := by decide +kernel
theorem dX11_init_83 : decode cX11_init 83 = .ok (.new 60, 3) := by decide +kernel
theorem dX11_init_86 : decode cX11_init 86 = .ok (.dup, 1) := by decide +kernel
theorem dX11_init_87 : decode cX11_init 87 = .ok (.invokespecial 62, 3) := by decide +kernel
theorem dX11_init_90 : decode cX11_init 90 = .ok (.putfield 63, 3) := by decide +kernel
theorem dX11_init_93 : decode cX11_init 93 = .ok (.aload_n 0, 1) := by decide +kernel
theorem dX11_init_94 : decode cX11_init 94 = .ok (.new 67, 3) := by decide +kernel
theorem dX11_init_97 : decode cX11_init 97 = .ok (.dup, 1) := by decide +kernel
theorem dX11_init_98 : decode cX11_init 98 = .ok (.invokespecial 69, 3) := by decide +kernel
theorem dX11_init_101 : decode cX11_init 101 = .ok (.putfield 70, 3) := by decide +kernel
theorem dX11_init_104 : decode cX11_init 104 = .ok (.aload_n 0, 1) := by decide +kernel
theorem dX11_init_105 : decode cX11_init 105 = .ok (.iconst 0, 1) := by decide +kernel
theorem dX11_init_106 : decode cX11_init 106 = .ok (.putfield 74, 3) := by decide +kernel
theorem dX11_init_109 : decode cX11_init 109 = .ok (.aload_n 0, 1) := by decide +kernel
theorem dX11_init_110 : decode cX11_init 110 = .ok (.lconst 0, 1) := by decide +kernel
theorem dX11_init_111 : decode cX11_init 111 = .ok (.putfield 78, 3) := by decide +kernel
theorem dX11_init_114 : decode cX11_init 114 = .ok (.return_, 1) := by decide +kernel
theorem dX11_write_0 : decode cX11_write 0 = .ok (.iload_n 1, 1) := by decide +kernel
theorem dX11_write_1 : decode cX11_write 1 = .ok (.ifCond .lt 10, 3) := by decide +kernel
theorem dX11_write_4 : decode cX11_write 4 = .ok (.iload_n 1, 1) := by decide +kernel
theorem dX11_write_5 : decode cX11_write 5 = .ok (.sipush 255, 3) := by decide +kernel
theorem dX11_write_8 : decode cX11_write 8 = .ok (.if_icmp .le 6, 3) := by decide +kernel
theorem dX11_write_11 : decode cX11_write 11 = .ok (.bipush (-2), 2) := by decide +kernel
theorem dX11_write_13 : decode cX11_write 13 = .ok (.ireturn, 1) := by decide +kernel
theorem dX11_write_14 : decode cX11_write 14 = .ok (.aload_n 0, 1) := by decide +kernel
theorem dX11_write_15 : decode cX11_write 15 = .ok (.getfield 12, 3) := by decide +kernel
theorem dX11_write_18 : decode cX11_write 18 = .ok (.iload_n 1, 1) := by decide +kernel
theorem dX11_write_19 : decode cX11_write 19 = .ok (.invokevirtual 82, 3) := by decide +kernel
theorem dX11_write_22 : decode cX11_write 22 = .ok (.ifCond .eq 13, 3) := by decide +kernel
theorem dX11_write_25 : decode cX11_write 25 = .ok (.aload_n 0, 1) := by decide +kernel
theorem dX11_write_26 : decode cX11_write 26 = .ok (.getfield 12, 3) := by decide +kernel
theorem dX11_write_29 : decode cX11_write 29 = .ok (.getfield 86, 3) := by decide +kernel
theorem dX11_write_32 : decode cX11_write 32 = .ok (.goto 5, 3) := by decide +kernel
theorem dX11_write_35 : decode cX11_write 35 = .ok (.bipush (-4), 2) := by decide +kernel
theorem dX11_write_37 : decode cX11_write 37 = .ok (.ireturn, 1) := by decide +kernel
theorem dX11_wipe_0 : decode cX11_wipe 0 = .ok (.aload_n 0, 1) := by decide +kernel
theorem dX11_wipe_1 : decode cX11_wipe 1 = .ok (.getfield 12, 3) := by decide +kernel
theorem dX11_wipe_4 : decode cX11_wipe 4 = .ok (.getfield 86, 3) := by decide +kernel
theorem dX11_wipe_7 : decode cX11_wipe 7 = .ok (.istore_n 1, 1) := by decide +kernel
theorem dX11_wipe_8 : decode cX11_wipe 8 = .ok (.aload_n 0, 1) := by decide +kernel
theorem dX11_wipe_9 : decode cX11_wipe 9 = .ok (.getfield 12, 3) := by decide +kernel
theorem dX11_wipe_12 : decode cX11_wipe 12 = .ok (.iconst 0, 1) := by decide +kernel
theorem dX11_wipe_13 : decode cX11_wipe 13 = .ok (.putfield 86, 3) := by decide +kernel
theorem dX11_wipe_16 : decode cX11_wipe 16 = .ok (.iload_n 1, 1) := by decide +kernel
theorem dX11_wipe_17 : decode cX11_wipe 17 = .ok (.ireturn, 1) := by decide +kernel
theorem dX11_fault_0 : decode cX11_fault 0 = .ok (.aload_n 0, 1) := by decide +kernel
theorem dX11_fault_1 : decode cX11_fault 1 = .ok (.getfield 12, 3) := by decide +kernel
theorem dX11_fault_4 : decode cX11_fault 4 = .ok (.invokevirtual 89, 3) := by decide +kernel
theorem dX11_fault_7 : decode cX11_fault 7 = .ok (.ireturn, 1) := by decide +kernel
theorem dX11_paper_0 : decode cX11_paper 0 = .ok (.aload_n 0, 1) := by decide +kernel
theorem dX11_paper_1 : decode cX11_paper 1 = .ok (.getfield 12, 3) := by decide +kernel
theorem dX11_paper_4 : decode cX11_paper 4 = .ok (.invokevirtual 89, 3) := by decide +kernel
theorem dX11_paper_7 : decode cX11_paper 7 = .ok (.bipush (-9), 2) := by decide +kernel
theorem dX11_paper_9 : decode cX11_paper 9 = .ok (.if_icmp .eq 6, 3) := by decide +kernel
theorem dX11_paper_12 : decode cX11_paper 12 = .ok (.bipush (-3), 2) := by decide +kernel
theorem dX11_paper_14 : decode cX11_paper 14 = .ok (.ireturn, 1) := by decide +kernel
theorem dX11_paper_15 : decode cX11_paper 15 = .ok (.aload_n 0, 1) := by decide +kernel
theorem dX11_paper_16 : decode cX11_paper 16 = .ok (.getfield 19, 3) := by decide +kernel
theorem dX11_paper_19 : decode cX11_paper 19 = .ok (.aload_n 0, 1) := by decide +kernel
theorem dX11_paper_20 : decode cX11_paper 20 = .ok (.getfield 12, 3) := by decide +kernel
theorem dX11_paper_23 : decode cX11_paper 23 = .ok (.invokevirtual 93, 3) := by decide +kernel
theorem dX11_paper_26 : decode cX11_paper 26 = .ok (.aload_n 0, 1) := by decide +kernel
theorem dX11_paper_27 : decode cX11_paper 27 = .ok (.getfield 26, 3) := by decide +kernel
theorem dX11_paper_30 : decode cX11_paper 30 = .ok (.invokevirtual 97, 3) := by decide +kernel
theorem dX11_paper_33 : decode cX11_paper 33 = .ok (.aload_n 0, 1) := by decide +kernel
theorem dX11_paper_34 : decode cX11_paper 34 = .ok (.iconst 0, 1) := by decide +kernel
theorem dX11_paper_35 : decode cX11_paper 35 = .ok (.putfield 74, 3) := by decide +kernel
theorem dX11_paper_38 : decode cX11_paper 38 = .ok (.bipush 10, 2) := by decide +kernel
theorem dX11_paper_40 : decode cX11_paper 40 = .ok (.aload_n 0, 1) := by decide +kernel
theorem dX11_paper_41 : decode cX11_paper 41 = .ok (.getfield 19, 3) := by decide +kernel
theorem dX11_paper_44 : decode cX11_paper 44 = .ok (.getfield 100, 3) := by decide +kernel
theorem dX11_paper_47 : decode cX11_paper 47 = .ok (.imul, 1) := by decide +kernel
theorem dX11_paper_48 : decode cX11_paper 48 = .ok (.aload_n 0, 1) := by decide +kernel
theorem dX11_paper_49 : decode cX11_paper 49 = .ok (.getfield 19, 3) := by decide +kernel
theorem dX11_paper_52 : decode cX11_paper 52 = .ok (.getfield 103, 3) := by decide +kernel
theorem dX11_paper_55 : decode cX11_paper 55 = .ok (.iadd, 1) := by decide +kernel
theorem dX11_paper_56 : decode cX11_paper 56 = .ok (.ireturn, 1) := by decide +kernel
theorem dX11_about_0 : decode cX11_about 0 = .ok (.aload_n 0, 1) := by decide +kernel
theorem dX11_about_1 : decode cX11_about 1 = .ok (.getfield 19, 3) := by decide +kernel
theorem dX11_about_4 : decode cX11_about 4 = .ok (.getfield 106, 3) := by decide +kernel
theorem dX11_about_7 : decode cX11_about 7 = .ok (.astore_n 2, 1) := by decide +kernel
theorem dX11_about_8 : decode cX11_about 8 = .ok (.iload_n 1, 1) := by decide +kernel
theorem dX11_about_9 : decode cX11_about 9 = .ok (.tableswitch 168 0 10 #[59, 67, 75, 86, 104, 119, 131, 136, 144, 152, 160], 59) := by decide +kernel
theorem dX11_about_68 : decode cX11_about 68 = .ok (.aload_n 0, 1) := by decide +kernel
theorem dX11_about_69 : decode cX11_about 69 = .ok (.getfield 19, 3) := by decide +kernel
theorem dX11_about_72 : decode cX11_about 72 = .ok (.getfield 100, 3) := by decide +kernel
theorem dX11_about_75 : decode cX11_about 75 = .ok (.ireturn, 1) := by decide +kernel
theorem dX11_about_76 : decode cX11_about 76 = .ok (.aload_n 0, 1) := by decide +kernel
theorem dX11_about_77 : decode cX11_about 77 = .ok (.getfield 19, 3) := by decide +kernel
theorem dX11_about_80 : decode cX11_about 80 = .ok (.getfield 103, 3) := by decide +kernel
theorem dX11_about_83 : decode cX11_about 83 = .ok (.ireturn, 1) := by decide +kernel
theorem dX11_about_84 : decode cX11_about 84 = .ok (.aload_n 0, 1) := by decide +kernel
theorem dX11_about_85 : decode cX11_about 85 = .ok (.getfield 19, 3) := by decide +kernel
theorem dX11_about_88 : decode cX11_about 88 = .ok (.getfield 110, 3) := by decide +kernel
theorem dX11_about_91 : decode cX11_about 91 = .ok (.getfield 114, 3) := by decide +kernel
theorem dX11_about_94 : decode cX11_about 94 = .ok (.ireturn, 1) := by decide +kernel
theorem dX11_about_95 : decode cX11_about 95 = .ok (.aload_n 0, 1) := by decide +kernel
theorem dX11_about_96 : decode cX11_about 96 = .ok (.getfield 19, 3) := by decide +kernel
theorem dX11_about_99 : decode cX11_about 99 = .ok (.getfield 110, 3) := by decide +kernel
theorem dX11_about_102 : decode cX11_about 102 = .ok (.aload_n 0, 1) := by decide +kernel
theorem dX11_about_103 : decode cX11_about 103 = .ok (.getfield 19, 3) := by decide +kernel
theorem dX11_about_106 : decode cX11_about 106 = .ok (.getfield 119, 3) := by decide +kernel
theorem dX11_about_109 : decode cX11_about 109 = .ok (.invokevirtual 122, 3) := by decide +kernel
theorem dX11_about_112 : decode cX11_about 112 = .ok (.ireturn, 1) := by decide +kernel
theorem dX11_about_113 : decode cX11_about 113 = .ok (.aload_n 0, 1) := by decide +kernel
theorem dX11_about_114 : decode cX11_about 114 = .ok (.getfield 19, 3) := by decide +kernel
theorem dX11_about_117 : decode cX11_about 117 = .ok (.getfield 110, 3) := by decide +kernel
theorem dX11_about_120 : decode cX11_about 120 = .ok (.aload_n 2, 1) := by decide +kernel
theorem dX11_about_121 : decode cX11_about 121 = .ok (.invokevirtual 126, 3) := by decide +kernel
theorem dX11_about_124 : decode cX11_about 124 = .ok (.invokevirtual 122, 3) := by decide +kernel
theorem dX11_about_127 : decode cX11_about 127 = .ok (.ireturn, 1) := by decide +kernel
theorem dX11_about_128 : decode cX11_about 128 = .ok (.aload_n 0, 1) := by decide +kernel
theorem dX11_about_129 : decode cX11_about 129 = .ok (.getfield 19, 3) := by decide +kernel
theorem dX11_about_132 : decode cX11_about 132 = .ok (.aload_n 2, 1) := by decide +kernel
theorem dX11_about_133 : decode cX11_about 133 = .ok (.invokevirtual 126, 3) := by decide +kernel
theorem dX11_about_136 : decode cX11_about 136 = .ok (.invokevirtual 131, 3) := by decide +kernel
theorem dX11_about_139 : decode cX11_about 139 = .ok (.ireturn, 1) := by decide +kernel
theorem dX11_about_140 : decode cX11_about 140 = .ok (.aload_n 2, 1) := by decide +kernel
theorem dX11_about_141 : decode cX11_about 141 = .ok (.invokevirtual 134, 3) := by decide +kernel
theorem dX11_about_144 : decode cX11_about 144 = .ok (.ireturn, 1) := by decide +kernel
theorem dX11_about_145 : decode cX11_about 145 = .ok (.aload_n 0, 1) := by decide +kernel
theorem dX11_about_146 : decode cX11_about 146 = .ok (.getfield 19, 3) := by decide +kernel
theorem dX11_about_149 : decode cX11_about 149 = .ok (.invokevirtual 137, 3) := by decide +kernel
theorem dX11_about_152 : decode cX11_about 152 = .ok (.ireturn, 1) := by decide +kernel
theorem dX11_about_153 : decode cX11_about 153 = .ok (.aload_n 0, 1) := by decide +kernel
theorem dX11_about_154 : decode cX11_about 154 = .ok (.getfield 19, 3) := by decide +kernel
theorem dX11_about_157 : decode cX11_about 157 = .ok (.invokevirtual 140, 3) := by decide +kernel
theorem dX11_about_160 : decode cX11_about 160 = .ok (.ireturn, 1) := by decide +kernel
theorem dX11_about_161 : decode cX11_about 161 = .ok (.aload_n 0, 1) := by decide +kernel
theorem dX11_about_162 : decode cX11_about 162 = .ok (.getfield 26, 3) := by decide +kernel
theorem dX11_about_165 : decode cX11_about 165 = .ok (.getfield 143, 3) := by decide +kernel
theorem dX11_about_168 : decode cX11_about 168 = .ok (.ireturn, 1) := by decide +kernel
theorem dX11_about_169 : decode cX11_about 169 = .ok (.aload_n 0, 1) := by decide +kernel
theorem dX11_about_170 : decode cX11_about 170 = .ok (.getfield 12, 3) := by decide +kernel
theorem dX11_about_173 : decode cX11_about 173 = .ok (.getfield 86, 3) := by decide +kernel
theorem dX11_about_176 : decode cX11_about 176 = .ok (.ireturn, 1) := by decide +kernel
theorem dX11_about_177 : decode cX11_about 177 = .ok (.bipush (-2), 2) := by decide +kernel
theorem dX11_about_179 : decode cX11_about 179 = .ok (.ireturn, 1) := by decide +kernel
theorem dX11_kind_0 : decode cX11_kind 0 = .ok (.aload_n 0, 1) := by decide +kernel
theorem dX11_kind_1 : decode cX11_kind 1 = .ok (.getfield 19, 3) := by decide +kernel
theorem dX11_kind_4 : decode cX11_kind 4 = .ok (.iload_n 1, 1) := by decide +kernel
theorem dX11_kind_5 : decode cX11_kind 5 = .ok (.invokevirtual 146, 3) := by decide +kernel
theorem dX11_kind_8 : decode cX11_kind 8 = .ok (.ifCond .eq 17, 3) := by decide +kernel
theorem dX11_kind_11 : decode cX11_kind 11 = .ok (.aload_n 0, 1) := by decide +kernel
theorem dX11_kind_12 : decode cX11_kind 12 = .ok (.getfield 19, 3) := by decide +kernel
theorem dX11_kind_15 : decode cX11_kind 15 = .ok (.getfield 106, 3) := by decide +kernel
theorem dX11_kind_18 : decode cX11_kind 18 = .ok (.iload_n 1, 1) := by decide +kernel
theorem dX11_kind_19 : decode cX11_kind 19 = .ok (.invokevirtual 149, 3) := by decide +kernel
theorem dX11_kind_22 : decode cX11_kind 22 = .ok (.goto 4, 3) := by decide +kernel
theorem dX11_kind_25 : decode cX11_kind 25 = .ok (.iconst (-1), 1) := by decide +kernel
theorem dX11_kind_26 : decode cX11_kind 26 = .ok (.ireturn, 1) := by decide +kernel
theorem dX11_reader_0 : decode cX11_reader 0 = .ok (.aload_n 0, 1) := by decide +kernel
theorem dX11_reader_1 : decode cX11_reader 1 = .ok (.getfield 19, 3) := by decide +kernel
theorem dX11_reader_4 : decode cX11_reader 4 = .ok (.iload_n 1, 1) := by decide +kernel
theorem dX11_reader_5 : decode cX11_reader 5 = .ok (.invokevirtual 152, 3) := by decide +kernel
theorem dX11_reader_8 : decode cX11_reader 8 = .ok (.ifCond .ne 5, 3) := by decide +kernel
theorem dX11_reader_11 : decode cX11_reader 11 = .ok (.iconst (-1), 1) := by decide +kernel
theorem dX11_reader_12 : decode cX11_reader 12 = .ok (.ireturn, 1) := by decide +kernel
theorem dX11_reader_13 : decode cX11_reader 13 = .ok (.iload_n 2, 1) := by decide +kernel
theorem dX11_reader_14 : decode cX11_reader 14 = .ok (.tableswitch 89 0 3 #[30, 39, 48, 70], 30) := by decide +kernel
theorem dX11_reader_44 : decode cX11_reader 44 = .ok (.aload_n 0, 1) := by decide +kernel
theorem dX11_reader_45 : decode cX11_reader 45 = .ok (.getfield 19, 3) := by decide +kernel
theorem dX11_reader_48 : decode cX11_reader 48 = .ok (.iload_n 1, 1) := by decide +kernel
theorem dX11_reader_49 : decode cX11_reader 49 = .ok (.invokevirtual 155, 3) := by decide +kernel
theorem dX11_reader_52 : decode cX11_reader 52 = .ok (.ireturn, 1) := by decide +kernel
theorem dX11_reader_53 : decode cX11_reader 53 = .ok (.aload_n 0, 1) := by decide +kernel
theorem dX11_reader_54 : decode cX11_reader 54 = .ok (.getfield 19, 3) := by decide +kernel
theorem dX11_reader_57 : decode cX11_reader 57 = .ok (.iload_n 1, 1) := by decide +kernel
theorem dX11_reader_58 : decode cX11_reader 58 = .ok (.invokevirtual 158, 3) := by decide +kernel
theorem dX11_reader_61 : decode cX11_reader 61 = .ok (.ireturn, 1) := by decide +kernel
theorem dX11_reader_62 : decode cX11_reader 62 = .ok (.aload_n 0, 1) := by decide +kernel
theorem dX11_reader_63 : decode cX11_reader 63 = .ok (.getfield 19, 3) := by decide +kernel
theorem dX11_reader_66 : decode cX11_reader 66 = .ok (.getfield 110, 3) := by decide +kernel
theorem dX11_reader_69 : decode cX11_reader 69 = .ok (.aload_n 0, 1) := by decide +kernel
theorem dX11_reader_70 : decode cX11_reader 70 = .ok (.getfield 19, 3) := by decide +kernel
theorem dX11_reader_73 : decode cX11_reader 73 = .ok (.getfield 106, 3) := by decide +kernel
theorem dX11_reader_76 : decode cX11_reader 76 = .ok (.iload_n 1, 1) := by decide +kernel
theorem dX11_reader_77 : decode cX11_reader 77 = .ok (.invokevirtual 161, 3) := by decide +kernel
theorem dX11_reader_80 : decode cX11_reader 80 = .ok (.invokevirtual 122, 3) := by decide +kernel
theorem dX11_reader_83 : decode cX11_reader 83 = .ok (.ireturn, 1) := by decide +kernel
theorem dX11_reader_84 : decode cX11_reader 84 = .ok (.aload_n 0, 1) := by decide +kernel
theorem dX11_reader_85 : decode cX11_reader 85 = .ok (.getfield 19, 3) := by decide +kernel
theorem dX11_reader_88 : decode cX11_reader 88 = .ok (.aload_n 0, 1) := by decide +kernel
theorem dX11_reader_89 : decode cX11_reader 89 = .ok (.getfield 19, 3) := by decide +kernel
theorem dX11_reader_92 : decode cX11_reader 92 = .ok (.getfield 106, 3) := by decide +kernel
theorem dX11_reader_95 : decode cX11_reader 95 = .ok (.iload_n 1, 1) := by decide +kernel
theorem dX11_reader_96 : decode cX11_reader 96 = .ok (.invokevirtual 161, 3) := by decide +kernel
theorem dX11_reader_99 : decode cX11_reader 99 = .ok (.invokevirtual 131, 3) := by decide +kernel
theorem dX11_reader_102 : decode cX11_reader 102 = .ok (.ireturn, 1) := by decide +kernel
theorem dX11_reader_103 : decode cX11_reader 103 = .ok (.bipush (-2), 2) := by decide +kernel
theorem dX11_reader_105 : decode cX11_reader 105 = .ok (.ireturn, 1) := by decide +kernel
theorem dX11_print_0 : decode cX11_print 0 = .ok (.aload_n 0, 1) := by decide +kernel
theorem dX11_print_1 : decode cX11_print 1 = .ok (.getfield 19, 3) := by decide +kernel
theorem dX11_print_4 : decode cX11_print 4 = .ok (.iload_n 1, 1) := by decide +kernel
theorem dX11_print_5 : decode cX11_print 5 = .ok (.invokevirtual 146, 3) := by decide +kernel
theorem dX11_print_8 : decode cX11_print 8 = .ok (.ifCond .ne 5, 3) := by decide +kernel
theorem dX11_print_11 : decode cX11_print 11 = .ok (.iconst (-1), 1) := by decide +kernel
theorem dX11_print_12 : decode cX11_print 12 = .ok (.ireturn, 1) := by decide +kernel
theorem dX11_print_13 : decode cX11_print 13 = .ok (.aload_n 0, 1) := by decide +kernel
theorem dX11_print_14 : decode cX11_print 14 = .ok (.getfield 19, 3) := by decide +kernel
theorem dX11_print_17 : decode cX11_print 17 = .ok (.iload_n 2, 1) := by decide +kernel
theorem dX11_print_18 : decode cX11_print 18 = .ok (.iload_n 3, 1) := by decide +kernel
theorem dX11_print_19 : decode cX11_print 19 = .ok (.invokevirtual 164, 3) := by decide +kernel
theorem dX11_print_22 : decode cX11_print 22 = .ok (.ifCond .ne 6, 3) := by decide +kernel
theorem dX11_print_25 : decode cX11_print 25 = .ok (.bipush (-2), 2) := by decide +kernel
theorem dX11_print_27 : decode cX11_print 27 = .ok (.ireturn, 1) := by decide +kernel
theorem dX11_print_28 : decode cX11_print 28 = .ok (.aload_n 0, 1) := by decide +kernel
theorem dX11_print_29 : decode cX11_print 29 = .ok (.getfield 26, 3) := by decide +kernel
theorem dX11_print_32 : decode cX11_print 32 = .ok (.aload_n 0, 1) := by decide +kernel
theorem dX11_print_33 : decode cX11_print 33 = .ok (.getfield 19, 3) := by decide +kernel
theorem dX11_print_36 : decode cX11_print 36 = .ok (.getfield 106, 3) := by decide +kernel
theorem dX11_print_39 : decode cX11_print 39 = .ok (.invokevirtual 168, 3) := by decide +kernel
theorem dX11_print_42 : decode cX11_print 42 = .ok (.aload_n 0, 1) := by decide +kernel
theorem dX11_print_43 : decode cX11_print 43 = .ok (.getfield 19, 3) := by decide +kernel
theorem dX11_print_46 : decode cX11_print 46 = .ok (.iload_n 1, 1) := by decide +kernel
theorem dX11_print_47 : decode cX11_print 47 = .ok (.iload_n 2, 1) := by decide +kernel
theorem dX11_print_48 : decode cX11_print 48 = .ok (.iload_n 3, 1) := by decide +kernel
theorem dX11_print_49 : decode cX11_print 49 = .ok (.invokevirtual 172, 3) := by decide +kernel
theorem dX11_print_52 : decode cX11_print 52 = .ok (.aload_n 0, 1) := by decide +kernel
theorem dX11_print_53 : decode cX11_print 53 = .ok (.getfield 19, 3) := by decide +kernel
theorem dX11_print_56 : decode cX11_print 56 = .ok (.getfield 110, 3) := by decide +kernel
theorem dX11_print_59 : decode cX11_print 59 = .ok (.aload_n 0, 1) := by decide +kernel
theorem dX11_print_60 : decode cX11_print 60 = .ok (.getfield 19, 3) := by decide +kernel
theorem dX11_print_63 : decode cX11_print 63 = .ok (.getfield 106, 3) := by decide +kernel
theorem dX11_print_66 : decode cX11_print 66 = .ok (.invokevirtual 126, 3) := by decide +kernel
theorem dX11_print_69 : decode cX11_print 69 = .ok (.invokevirtual 122, 3) := by decide +kernel
theorem dX11_print_72 : decode cX11_print 72 = .ok (.ireturn, 1) := by decide +kernel
theorem dX11_quiet_0 : decode cX11_quiet 0 = .ok (.aload_n 0, 1) := by decide +kernel
theorem dX11_quiet_1 : decode cX11_quiet 1 = .ok (.getfield 26, 3) := by decide +kernel
theorem dX11_quiet_4 : decode cX11_quiet 4 = .ok (.aload_n 0, 1) := by decide +kernel
theorem dX11_quiet_5 : decode cX11_quiet 5 = .ok (.getfield 19, 3) := by decide +kernel
theorem dX11_quiet_8 : decode cX11_quiet 8 = .ok (.getfield 106, 3) := by decide +kernel
theorem dX11_quiet_11 : decode cX11_quiet 11 = .ok (.invokevirtual 168, 3) := by decide +kernel
theorem dX11_quiet_14 : decode cX11_quiet 14 = .ok (.aload_n 0, 1) := by decide +kernel
theorem dX11_quiet_15 : decode cX11_quiet 15 = .ok (.getfield 19, 3) := by decide +kernel
theorem dX11_quiet_18 : decode cX11_quiet 18 = .ok (.getfield 106, 3) := by decide +kernel
theorem dX11_quiet_21 : decode cX11_quiet 21 = .ok (.invokevirtual 176, 3) := by decide +kernel
theorem dX11_quiet_24 : decode cX11_quiet 24 = .ok (.aload_n 0, 1) := by decide +kernel
theorem dX11_quiet_25 : decode cX11_quiet 25 = .ok (.getfield 19, 3) := by decide +kernel
theorem dX11_quiet_28 : decode cX11_quiet 28 = .ok (.getfield 106, 3) := by decide +kernel
theorem dX11_quiet_31 : decode cX11_quiet 31 = .ok (.invokevirtual 134, 3) := by decide +kernel
theorem dX11_quiet_34 : decode cX11_quiet 34 = .ok (.ireturn, 1) := by decide +kernel
theorem dX11_tell_0 : decode cX11_tell 0 = .ok (.aload_n 0, 1) := by decide +kernel
theorem dX11_tell_1 : decode cX11_tell 1 = .ok (.getfield 19, 3) := by decide +kernel
theorem dX11_tell_4 : decode cX11_tell 4 = .ok (.iload_n 1, 1) := by decide +kernel
theorem dX11_tell_5 : decode cX11_tell 5 = .ok (.invokevirtual 152, 3) := by decide +kernel
theorem dX11_tell_8 : decode cX11_tell 8 = .ok (.ifCond .eq 14, 3) := by decide +kernel
theorem dX11_tell_11 : decode cX11_tell 11 = .ok (.aload_n 0, 1) := by decide +kernel
theorem dX11_tell_12 : decode cX11_tell 12 = .ok (.getfield 19, 3) := by decide +kernel
theorem dX11_tell_15 : decode cX11_tell 15 = .ok (.iload_n 2, 1) := by decide +kernel
theorem dX11_tell_16 : decode cX11_tell 16 = .ok (.invokevirtual 152, 3) := by decide +kernel
theorem dX11_tell_19 : decode cX11_tell 19 = .ok (.ifCond .ne 5, 3) := by decide +kernel
theorem dX11_tell_22 : decode cX11_tell 22 = .ok (.iconst (-1), 1) := by decide +kernel
theorem dX11_tell_23 : decode cX11_tell 23 = .ok (.ireturn, 1) := by decide +kernel
theorem dX11_tell_24 : decode cX11_tell 24 = .ok (.iload_n 1, 1) := by decide +kernel
theorem dX11_tell_25 : decode cX11_tell 25 = .ok (.iload_n 2, 1) := by decide +kernel
theorem dX11_tell_26 : decode cX11_tell 26 = .ok (.if_icmp .ne 6, 3) := by decide +kernel
theorem dX11_tell_29 : decode cX11_tell 29 = .ok (.bipush (-2), 2) := by decide +kernel
theorem dX11_tell_31 : decode cX11_tell 31 = .ok (.ireturn, 1) := by decide +kernel
theorem dX11_tell_32 : decode cX11_tell 32 = .ok (.aload_n 0, 1) := by decide +kernel
theorem dX11_tell_33 : decode cX11_tell 33 = .ok (.getfield 19, 3) := by decide +kernel
theorem dX11_tell_36 : decode cX11_tell 36 = .ok (.getfield 106, 3) := by decide +kernel
theorem dX11_tell_39 : decode cX11_tell 39 = .ok (.iload_n 2, 1) := by decide +kernel
theorem dX11_tell_40 : decode cX11_tell 40 = .ok (.invokevirtual 161, 3) := by decide +kernel
theorem dX11_tell_43 : decode cX11_tell 43 = .ok (.istore_n 3, 1) := by decide +kernel
theorem dX11_tell_44 : decode cX11_tell 44 = .ok (.aload_n 0, 1) := by decide +kernel
theorem dX11_tell_45 : decode cX11_tell 45 = .ok (.getfield 19, 3) := by decide +kernel
theorem dX11_tell_48 : decode cX11_tell 48 = .ok (.getfield 106, 3) := by decide +kernel
theorem dX11_tell_51 : decode cX11_tell 51 = .ok (.iload_n 1, 1) := by decide +kernel
theorem dX11_tell_52 : decode cX11_tell 52 = .ok (.invokevirtual 161, 3) := by decide +kernel
theorem dX11_tell_55 : decode cX11_tell 55 = .ok (.iload_n 3, 1) := by decide +kernel
theorem dX11_tell_56 : decode cX11_tell 56 = .ok (.if_icmp .ne 6, 3) := by decide +kernel
theorem dX11_tell_59 : decode cX11_tell 59 = .ok (.bipush (-3), 2) := by decide +kernel
theorem dX11_tell_61 : decode cX11_tell 61 = .ok (.ireturn, 1) := by decide +kernel
theorem dX11_tell_62 : decode cX11_tell 62 = .ok (.aload_n 0, 1) := by decide +kernel
theorem dX11_tell_63 : decode cX11_tell 63 = .ok (.getfield 26, 3) := by decide +kernel
theorem dX11_tell_66 : decode cX11_tell 66 = .ok (.aload_n 0, 1) := by decide +kernel
theorem dX11_tell_67 : decode cX11_tell 67 = .ok (.getfield 19, 3) := by decide +kernel
theorem dX11_tell_70 : decode cX11_tell 70 = .ok (.getfield 106, 3) := by decide +kernel
theorem dX11_tell_73 : decode cX11_tell 73 = .ok (.invokevirtual 168, 3) := by decide +kernel
theorem dX11_tell_76 : decode cX11_tell 76 = .ok (.aload_n 0, 1) := by decide +kernel
theorem dX11_tell_77 : decode cX11_tell 77 = .ok (.getfield 19, 3) := by decide +kernel
theorem dX11_tell_80 : decode cX11_tell 80 = .ok (.getfield 106, 3) := by decide +kernel
theorem dX11_tell_83 : decode cX11_tell 83 = .ok (.iload_n 1, 1) := by decide +kernel
theorem dX11_tell_84 : decode cX11_tell 84 = .ok (.iload_n 3, 1) := by decide +kernel
theorem dX11_tell_85 : decode cX11_tell 85 = .ok (.invokevirtual 179, 3) := by decide +kernel
theorem dX11_tell_88 : decode cX11_tell 88 = .ok (.aload_n 0, 1) := by decide +kernel
theorem dX11_tell_89 : decode cX11_tell 89 = .ok (.getfield 19, 3) := by decide +kernel
theorem dX11_tell_92 : decode cX11_tell 92 = .ok (.getfield 110, 3) := by decide +kernel
theorem dX11_tell_95 : decode cX11_tell 95 = .ok (.iload_n 3, 1) := by decide +kernel
theorem dX11_tell_96 : decode cX11_tell 96 = .ok (.invokevirtual 122, 3) := by decide +kernel
theorem dX11_tell_99 : decode cX11_tell 99 = .ok (.ireturn, 1) := by decide +kernel
theorem dX11_learn_0 : decode cX11_learn 0 = .ok (.aload_n 0, 1) := by decide +kernel
theorem dX11_learn_1 : decode cX11_learn 1 = .ok (.getfield 19, 3) := by decide +kernel
theorem dX11_learn_4 : decode cX11_learn 4 = .ok (.iload_n 1, 1) := by decide +kernel
theorem dX11_learn_5 : decode cX11_learn 5 = .ok (.invokevirtual 146, 3) := by decide +kernel
theorem dX11_learn_8 : decode cX11_learn 8 = .ok (.ifCond .ne 5, 3) := by decide +kernel
theorem dX11_learn_11 : decode cX11_learn 11 = .ok (.iconst (-1), 1) := by decide +kernel
theorem dX11_learn_12 : decode cX11_learn 12 = .ok (.ireturn, 1) := by decide +kernel
theorem dX11_learn_13 : decode cX11_learn 13 = .ok (.iload_n 2, 1) := by decide +kernel
theorem dX11_learn_14 : decode cX11_learn 14 = .ok (.ifCond .lt 8, 3) := by decide +kernel
theorem dX11_learn_17 : decode cX11_learn 17 = .ok (.iload_n 2, 1) := by decide +kernel
theorem dX11_learn_18 : decode cX11_learn 18 = .ok (.iconst 4, 1) := by decide +kernel
theorem dX11_learn_19 : decode cX11_learn 19 = .ok (.if_icmp .lt 6, 3) := by decide +kernel
theorem dX11_learn_22 : decode cX11_learn 22 = .ok (.bipush (-2), 2) := by decide +kernel
theorem dX11_learn_24 : decode cX11_learn 24 = .ok (.ireturn, 1) := by decide +kernel
theorem dX11_learn_25 : decode cX11_learn 25 = .ok (.aload_n 0, 1) := by decide +kernel
theorem dX11_learn_26 : decode cX11_learn 26 = .ok (.getfield 19, 3) := by decide +kernel
theorem dX11_learn_29 : decode cX11_learn 29 = .ok (.getfield 106, 3) := by decide +kernel
theorem dX11_learn_32 : decode cX11_learn 32 = .ok (.iload_n 1, 1) := by decide +kernel
theorem dX11_learn_33 : decode cX11_learn 33 = .ok (.invokevirtual 149, 3) := by decide +kernel
theorem dX11_learn_36 : decode cX11_learn 36 = .ok (.istore_n 3, 1) := by decide +kernel
theorem dX11_learn_37 : decode cX11_learn 37 = .ok (.iload_n 3, 1) := by decide +kernel
theorem dX11_learn_38 : decode cX11_learn 38 = .ok (.iload_n 2, 1) := by decide +kernel
theorem dX11_learn_39 : decode cX11_learn 39 = .ok (.if_icmp .ne 6, 3) := by decide +kernel
theorem dX11_learn_42 : decode cX11_learn 42 = .ok (.bipush (-3), 2) := by decide +kernel
theorem dX11_learn_44 : decode cX11_learn 44 = .ok (.ireturn, 1) := by decide +kernel
theorem dX11_learn_45 : decode cX11_learn 45 = .ok (.aload_n 0, 1) := by decide +kernel
theorem dX11_learn_46 : decode cX11_learn 46 = .ok (.getfield 26, 3) := by decide +kernel
theorem dX11_learn_49 : decode cX11_learn 49 = .ok (.aload_n 0, 1) := by decide +kernel
theorem dX11_learn_50 : decode cX11_learn 50 = .ok (.getfield 19, 3) := by decide +kernel
theorem dX11_learn_53 : decode cX11_learn 53 = .ok (.getfield 106, 3) := by decide +kernel
theorem dX11_learn_56 : decode cX11_learn 56 = .ok (.invokevirtual 168, 3) := by decide +kernel
theorem dX11_learn_59 : decode cX11_learn 59 = .ok (.aload_n 0, 1) := by decide +kernel
theorem dX11_learn_60 : decode cX11_learn 60 = .ok (.getfield 19, 3) := by decide +kernel
theorem dX11_learn_63 : decode cX11_learn 63 = .ok (.getfield 106, 3) := by decide +kernel
theorem dX11_learn_66 : decode cX11_learn 66 = .ok (.iload_n 1, 1) := by decide +kernel
theorem dX11_learn_67 : decode cX11_learn 67 = .ok (.iload_n 2, 1) := by decide +kernel
theorem dX11_learn_68 : decode cX11_learn 68 = .ok (.invokevirtual 183, 3) := by decide +kernel
theorem dX11_learn_71 : decode cX11_learn 71 = .ok (.iload_n 3, 1) := by decide +kernel
theorem dX11_learn_72 : decode cX11_learn 72 = .ok (.ireturn, 1) := by decide +kernel
theorem dX11_undo_0 : decode cX11_undo 0 = .ok (.aload_n 0, 1) := by decide +kernel
theorem dX11_undo_1 : decode cX11_undo 1 = .ok (.getfield 26, 3) := by decide +kernel
theorem dX11_undo_4 : decode cX11_undo 4 = .ok (.aload_n 0, 1) := by decide +kernel
theorem dX11_undo_5 : decode cX11_undo 5 = .ok (.getfield 19, 3) := by decide +kernel
theorem dX11_undo_8 : decode cX11_undo 8 = .ok (.getfield 106, 3) := by decide +kernel
theorem dX11_undo_11 : decode cX11_undo 11 = .ok (.invokevirtual 186, 3) := by decide +kernel
theorem dX11_undo_14 : decode cX11_undo 14 = .ok (.ifCond .eq 13, 3) := by decide +kernel
theorem dX11_undo_17 : decode cX11_undo 17 = .ok (.aload_n 0, 1) := by decide +kernel
theorem dX11_undo_18 : decode cX11_undo 18 = .ok (.getfield 26, 3) := by decide +kernel
theorem dX11_undo_21 : decode cX11_undo 21 = .ok (.getfield 143, 3) := by decide +kernel
theorem dX11_undo_24 : decode cX11_undo 24 = .ok (.goto 5, 3) := by decide +kernel
theorem dX11_undo_27 : decode cX11_undo 27 = .ok (.bipush (-3), 2) := by decide +kernel
theorem dX11_undo_29 : decode cX11_undo 29 = .ok (.ireturn, 1) := by decide +kernel
theorem dX11_after_0 : decode cX11_after 0 = .ok (.aload_n 0, 1) := by decide +kernel
theorem dX11_after_1 : decode cX11_after 1 = .ok (.getfield 19, 3) := by decide +kernel
theorem dX11_after_4 : decode cX11_after 4 = .ok (.getfield 110, 3) := by decide +kernel
theorem dX11_after_7 : decode cX11_after 7 = .ok (.iload_n 1, 1) := by decide +kernel
theorem dX11_after_8 : decode cX11_after 8 = .ok (.invokevirtual 190, 3) := by decide +kernel
theorem dX11_after_11 : decode cX11_after 11 = .ok (.istore 5, 2) := by decide +kernel
theorem dX11_after_13 : decode cX11_after 13 = .ok (.iload 5, 2) := by decide +kernel
theorem dX11_after_15 : decode cX11_after 15 = .ok (.bipush (-9), 2) := by decide +kernel
theorem dX11_after_17 : decode cX11_after 17 = .ok (.if_icmp .eq 20, 3) := by decide +kernel
theorem dX11_after_20 : decode cX11_after 20 = .ok (.aload_n 0, 1) := by decide +kernel
theorem dX11_after_21 : decode cX11_after 21 = .ok (.getfield 42, 3) := by decide +kernel
theorem dX11_after_24 : decode cX11_after 24 = .ok (.aload_n 0, 1) := by decide +kernel
theorem dX11_after_25 : decode cX11_after 25 = .ok (.getfield 19, 3) := by decide +kernel
theorem dX11_after_28 : decode cX11_after 28 = .ok (.iload_n 2, 1) := by decide +kernel
theorem dX11_after_29 : decode cX11_after 29 = .ok (.iconst 4, 1) := by decide +kernel
theorem dX11_after_30 : decode cX11_after 30 = .ok (.lload_n 3, 1) := by decide +kernel
theorem dX11_after_31 : decode cX11_after 31 = .ok (.invokevirtual 193, 3) := by decide +kernel
theorem dX11_after_34 : decode cX11_after 34 = .ok (.ifCond .ne 6, 3) := by decide +kernel
theorem dX11_after_37 : decode cX11_after 37 = .ok (.bipush (-2), 2) := by decide +kernel
theorem dX11_after_39 : decode cX11_after 39 = .ok (.ireturn, 1) := by decide +kernel
theorem dX11_after_40 : decode cX11_after 40 = .ok (.aload_n 0, 1) := by decide +kernel
theorem dX11_after_41 : decode cX11_after 41 = .ok (.getfield 19, 3) := by decide +kernel
theorem dX11_after_44 : decode cX11_after 44 = .ok (.getfield 110, 3) := by decide +kernel
theorem dX11_after_47 : decode cX11_after 47 = .ok (.aload_n 0, 1) := by decide +kernel
theorem dX11_after_48 : decode cX11_after 48 = .ok (.getfield 42, 3) := by decide +kernel
theorem dX11_after_51 : decode cX11_after 51 = .ok (.aload_n 0, 1) := by decide +kernel
theorem dX11_after_52 : decode cX11_after 52 = .ok (.getfield 19, 3) := by decide +kernel
theorem dX11_after_55 : decode cX11_after 55 = .ok (.iload 5, 2) := by decide +kernel
theorem dX11_after_57 : decode cX11_after 57 = .ok (.invokevirtual 197, 3) := by decide +kernel
theorem dX11_after_60 : decode cX11_after 60 = .ok (.invokevirtual 122, 3) := by decide +kernel
theorem dX11_after_63 : decode cX11_after 63 = .ok (.ireturn, 1) := by decide +kernel
theorem dX11_righted_0 : decode cX11_righted 0 = .ok (.iload_n 1, 1) := by decide +kernel
theorem dX11_righted_1 : decode cX11_righted 1 = .ok (.ifCond .lt 8, 3) := by decide +kernel
theorem dX11_righted_4 : decode cX11_righted 4 = .ok (.iload_n 1, 1) := by decide +kernel
theorem dX11_righted_5 : decode cX11_righted 5 = .ok (.iconst 1, 1) := by decide +kernel
theorem dX11_righted_6 : decode cX11_righted 6 = .ok (.if_icmp .le 6, 3) := by decide +kernel
theorem dX11_righted_9 : decode cX11_righted 9 = .ok (.bipush (-2), 2) := by decide +kernel
theorem dX11_righted_11 : decode cX11_righted 11 = .ok (.ireturn, 1) := by decide +kernel
theorem dX11_righted_12 : decode cX11_righted 12 = .ok (.aload_n 0, 1) := by decide +kernel
theorem dX11_righted_13 : decode cX11_righted 13 = .ok (.getfield 49, 3) := by decide +kernel
theorem dX11_righted_16 : decode cX11_righted 16 = .ok (.aload_n 0, 1) := by decide +kernel
theorem dX11_righted_17 : decode cX11_righted 17 = .ok (.getfield 19, 3) := by decide +kernel
theorem dX11_righted_20 : decode cX11_righted 20 = .ok (.iconst 0, 1) := by decide +kernel
theorem dX11_righted_21 : decode cX11_righted 21 = .ok (.invokevirtual 201, 3) := by decide +kernel
theorem dX11_righted_24 : decode cX11_righted 24 = .ok (.iload_n 1, 1) := by decide +kernel
theorem dX11_righted_25 : decode cX11_righted 25 = .ok (.ifCond .ne 13, 3) := by decide +kernel
theorem dX11_righted_28 : decode cX11_righted 28 = .ok (.aload_n 0, 1) := by decide +kernel
theorem dX11_righted_29 : decode cX11_righted 29 = .ok (.getfield 49, 3) := by decide +kernel
theorem dX11_righted_32 : decode cX11_righted 32 = .ok (.getfield 205, 3) := by decide +kernel
theorem dX11_righted_35 : decode cX11_righted 35 = .ok (.goto 10, 3) := by decide +kernel
theorem dX11_righted_38 : decode cX11_righted 38 = .ok (.aload_n 0, 1) := by decide +kernel
theorem dX11_righted_39 : decode cX11_righted 39 = .ok (.getfield 49, 3) := by decide +kernel
theorem dX11_righted_42 : decode cX11_righted 42 = .ok (.getfield 208, 3) := by decide +kernel
theorem dX11_righted_45 : decode cX11_righted 45 = .ok (.ireturn, 1) := by decide +kernel
theorem dX11_allRighted_0 : decode cX11_allRighted 0 = .ok (.iload_n 1, 1) := by decide +kernel
theorem dX11_allRighted_1 : decode cX11_allRighted 1 = .ok (.ifCond .lt 8, 3) := by decide +kernel
theorem dX11_allRighted_4 : decode cX11_allRighted 4 = .ok (.iload_n 1, 1) := by decide +kernel
theorem dX11_allRighted_5 : decode cX11_allRighted 5 = .ok (.iconst 1, 1) := by decide +kernel
theorem dX11_allRighted_6 : decode cX11_allRighted 6 = .ok (.if_icmp .le 6, 3) := by decide +kernel
theorem dX11_allRighted_9 : decode cX11_allRighted 9 = .ok (.bipush (-2), 2) := by decide +kernel
theorem dX11_allRighted_11 : decode cX11_allRighted 11 = .ok (.ireturn, 1) := by decide +kernel
theorem dX11_allRighted_12 : decode cX11_allRighted 12 = .ok (.aload_n 0, 1) := by decide +kernel
theorem dX11_allRighted_13 : decode cX11_allRighted 13 = .ok (.getfield 49, 3) := by decide +kernel
theorem dX11_allRighted_16 : decode cX11_allRighted 16 = .ok (.aload_n 0, 1) := by decide +kernel
theorem dX11_allRighted_17 : decode cX11_allRighted 17 = .ok (.getfield 19, 3) := by decide +kernel
theorem dX11_allRighted_20 : decode cX11_allRighted 20 = .ok (.aload_n 0, 1) := by decide +kernel
theorem dX11_allRighted_21 : decode cX11_allRighted 21 = .ok (.getfield 19, 3) := by decide +kernel
theorem dX11_allRighted_24 : decode cX11_allRighted 24 = .ok (.getfield 103, 3) := by decide +kernel
theorem dX11_allRighted_27 : decode cX11_allRighted 27 = .ok (.invokevirtual 201, 3) := by decide +kernel
theorem dX11_allRighted_30 : decode cX11_allRighted 30 = .ok (.iload_n 1, 1) := by decide +kernel
theorem dX11_allRighted_31 : decode cX11_allRighted 31 = .ok (.ifCond .ne 13, 3) := by decide +kernel
theorem dX11_allRighted_34 : decode cX11_allRighted 34 = .ok (.aload_n 0, 1) := by decide +kernel
theorem dX11_allRighted_35 : decode cX11_allRighted 35 = .ok (.getfield 49, 3) := by decide +kernel
theorem dX11_allRighted_38 : decode cX11_allRighted 38 = .ok (.getfield 205, 3) := by decide +kernel
theorem dX11_allRighted_41 : decode cX11_allRighted 41 = .ok (.goto 10, 3) := by decide +kernel
theorem dX11_allRighted_44 : decode cX11_allRighted 44 = .ok (.aload_n 0, 1) := by decide +kernel
theorem dX11_allRighted_45 : decode cX11_allRighted 45 = .ok (.getfield 49, 3) := by decide +kernel
theorem dX11_allRighted_48 : decode cX11_allRighted 48 = .ok (.getfield 208, 3) := by decide +kernel
theorem dX11_allRighted_51 : decode cX11_allRighted 51 = .ok (.ireturn, 1) := by decide +kernel
theorem dX11_ring_0 : decode cX11_ring 0 = .ok (.aload_n 0, 1) := by decide +kernel
theorem dX11_ring_1 : decode cX11_ring 1 = .ok (.getfield 42, 3) := by decide +kernel
theorem dX11_ring_4 : decode cX11_ring 4 = .ok (.aload_n 0, 1) := by decide +kernel
theorem dX11_ring_5 : decode cX11_ring 5 = .ok (.getfield 19, 3) := by decide +kernel
theorem dX11_ring_8 : decode cX11_ring 8 = .ok (.iload_n 1, 1) := by decide +kernel
theorem dX11_ring_9 : decode cX11_ring 9 = .ok (.iconst 3, 1) := by decide +kernel
theorem dX11_ring_10 : decode cX11_ring 10 = .ok (.lload_n 2, 1) := by decide +kernel
theorem dX11_ring_11 : decode cX11_ring 11 = .ok (.invokevirtual 193, 3) := by decide +kernel
theorem dX11_ring_14 : decode cX11_ring 14 = .ok (.ifCond .eq 14, 3) := by decide +kernel
theorem dX11_ring_17 : decode cX11_ring 17 = .ok (.iload 4, 2) := by decide +kernel
theorem dX11_ring_19 : decode cX11_ring 19 = .ok (.ifCond .lt 9, 3) := by decide +kernel
theorem dX11_ring_22 : decode cX11_ring 22 = .ok (.iload 4, 2) := by decide +kernel
theorem dX11_ring_24 : decode cX11_ring 24 = .ok (.iconst 1, 1) := by decide +kernel
theorem dX11_ring_25 : decode cX11_ring 25 = .ok (.if_icmp .le 6, 3) := by decide +kernel
theorem dX11_ring_28 : decode cX11_ring 28 = .ok (.bipush (-2), 2) := by decide +kernel
theorem dX11_ring_30 : decode cX11_ring 30 = .ok (.ireturn, 1) := by decide +kernel
theorem dX11_ring_31 : decode cX11_ring 31 = .ok (.aload_n 0, 1) := by decide +kernel
theorem dX11_ring_32 : decode cX11_ring 32 = .ok (.getfield 42, 3) := by decide +kernel
theorem dX11_ring_35 : decode cX11_ring 35 = .ok (.aload_n 0, 1) := by decide +kernel
theorem dX11_ring_36 : decode cX11_ring 36 = .ok (.getfield 19, 3) := by decide +kernel
theorem dX11_ring_39 : decode cX11_ring 39 = .ok (.invokevirtual 211, 3) := by decide +kernel
theorem dX11_ring_42 : decode cX11_ring 42 = .ok (.istore 5, 2) := by decide +kernel
theorem dX11_ring_44 : decode cX11_ring 44 = .ok (.iload 4, 2) := by decide +kernel
theorem dX11_ring_46 : decode cX11_ring 46 = .ok (.ifCond .ne 19, 3) := by decide +kernel
theorem dX11_ring_49 : decode cX11_ring 49 = .ok (.aload_n 0, 1) := by decide +kernel
theorem dX11_ring_50 : decode cX11_ring 50 = .ok (.getfield 42, 3) := by decide +kernel
theorem dX11_ring_53 : decode cX11_ring 53 = .ok (.aload_n 0, 1) := by decide +kernel
theorem dX11_ring_54 : decode cX11_ring 54 = .ok (.getfield 19, 3) := by decide +kernel
theorem dX11_ring_57 : decode cX11_ring 57 = .ok (.iload 5, 2) := by decide +kernel
theorem dX11_ring_59 : decode cX11_ring 59 = .ok (.invokevirtual 215, 3) := by decide +kernel
theorem dX11_ring_62 : decode cX11_ring 62 = .ok (.goto 16, 3) := by decide +kernel
theorem dX11_ring_65 : decode cX11_ring 65 = .ok (.aload_n 0, 1) := by decide +kernel
theorem dX11_ring_66 : decode cX11_ring 66 = .ok (.getfield 42, 3) := by decide +kernel
theorem dX11_ring_69 : decode cX11_ring 69 = .ok (.aload_n 0, 1) := by decide +kernel
theorem dX11_ring_70 : decode cX11_ring 70 = .ok (.getfield 19, 3) := by decide +kernel
theorem dX11_ring_73 : decode cX11_ring 73 = .ok (.iload 5, 2) := by decide +kernel
theorem dX11_ring_75 : decode cX11_ring 75 = .ok (.invokevirtual 218, 3) := by decide +kernel
theorem dX11_ring_78 : decode cX11_ring 78 = .ok (.ireturn, 1) := by decide +kernel
theorem dX11_first_0 : decode cX11_first 0 = .ok (.aload_n 0, 1) := by decide +kernel
theorem dX11_first_1 : decode cX11_first 1 = .ok (.getfield 42, 3) := by decide +kernel
theorem dX11_first_4 : decode cX11_first 4 = .ok (.aload_n 0, 1) := by decide +kernel
theorem dX11_first_5 : decode cX11_first 5 = .ok (.getfield 19, 3) := by decide +kernel
theorem dX11_first_8 : decode cX11_first 8 = .ok (.iload_n 1, 1) := by decide +kernel
theorem dX11_first_9 : decode cX11_first 9 = .ok (.iconst 3, 1) := by decide +kernel
theorem dX11_first_10 : decode cX11_first 10 = .ok (.lload_n 2, 1) := by decide +kernel
theorem dX11_first_11 : decode cX11_first 11 = .ok (.invokevirtual 193, 3) := by decide +kernel
theorem dX11_first_14 : decode cX11_first 14 = .ok (.ifCond .eq 14, 3) := by decide +kernel
theorem dX11_first_17 : decode cX11_first 17 = .ok (.iload 4, 2) := by decide +kernel
theorem dX11_first_19 : decode cX11_first 19 = .ok (.ifCond .lt 9, 3) := by decide +kernel
theorem dX11_first_22 : decode cX11_first 22 = .ok (.iload 4, 2) := by decide +kernel
theorem dX11_first_24 : decode cX11_first 24 = .ok (.iconst 2, 1) := by decide +kernel
theorem dX11_first_25 : decode cX11_first 25 = .ok (.if_icmp .le 6, 3) := by decide +kernel
theorem dX11_first_28 : decode cX11_first 28 = .ok (.bipush (-2), 2) := by decide +kernel
theorem dX11_first_30 : decode cX11_first 30 = .ok (.ireturn, 1) := by decide +kernel
theorem dX11_first_31 : decode cX11_first 31 = .ok (.iconst 0, 1) := by decide +kernel
theorem dX11_first_32 : decode cX11_first 32 = .ok (.istore 5, 2) := by decide +kernel
theorem dX11_first_34 : decode cX11_first 34 = .ok (.bipush (-9), 2) := by decide +kernel
theorem dX11_first_36 : decode cX11_first 36 = .ok (.istore 6, 2) := by decide +kernel
theorem dX11_first_38 : decode cX11_first 38 = .ok (.iconst 0, 1) := by decide +kernel
theorem dX11_first_39 : decode cX11_first 39 = .ok (.istore 7, 2) := by decide +kernel
theorem dX11_first_41 : decode cX11_first 41 = .ok (.iconst 0, 1) := by decide +kernel
theorem dX11_first_42 : decode cX11_first 42 = .ok (.istore 8, 2) := by decide +kernel
theorem dX11_first_44 : decode cX11_first 44 = .ok (.iload 8, 2) := by decide +kernel
theorem dX11_first_46 : decode cX11_first 46 = .ok (.aload_n 0, 1) := by decide +kernel
theorem dX11_first_47 : decode cX11_first 47 = .ok (.getfield 19, 3) := by decide +kernel
theorem dX11_first_50 : decode cX11_first 50 = .ok (.getfield 110, 3) := by decide +kernel
theorem dX11_first_53 : decode cX11_first 53 = .ok (.invokevirtual 221, 3) := by decide +kernel
theorem dX11_first_56 : decode cX11_first 56 = .ok (.if_icmp .ge 62, 3) := by decide +kernel
theorem dX11_first_59 : decode cX11_first 59 = .ok (.aload_n 0, 1) := by decide +kernel
theorem dX11_first_60 : decode cX11_first 60 = .ok (.getfield 42, 3) := by decide +kernel
theorem dX11_first_63 : decode cX11_first 63 = .ok (.aload_n 0, 1) := by decide +kernel
theorem dX11_first_64 : decode cX11_first 64 = .ok (.getfield 19, 3) := by decide +kernel
theorem dX11_first_67 : decode cX11_first 67 = .ok (.iload 8, 2) := by decide +kernel
theorem dX11_first_69 : decode cX11_first 69 = .ok (.invokevirtual 197, 3) := by decide +kernel
theorem dX11_first_72 : decode cX11_first 72 = .ok (.aload_n 0, 1) := by decide +kernel
theorem dX11_first_73 : decode cX11_first 73 = .ok (.getfield 19, 3) := by decide +kernel
theorem dX11_first_76 : decode cX11_first 76 = .ok (.getfield 106, 3) := by decide +kernel
theorem dX11_first_79 : decode cX11_first 79 = .ok (.invokevirtual 126, 3) := by decide +kernel
theorem dX11_first_82 : decode cX11_first 82 = .ok (.if_icmp .ne 30, 3) := by decide +kernel
theorem dX11_first_85 : decode cX11_first 85 = .ok (.iload 5, 2) := by decide +kernel
theorem dX11_first_87 : decode cX11_first 87 = .ok (.ifCond .ne 8, 3) := by decide +kernel
theorem dX11_first_90 : decode cX11_first 90 = .ok (.iload 8, 2) := by decide +kernel
theorem dX11_first_92 : decode cX11_first 92 = .ok (.goto 5, 3) := by decide +kernel
theorem dX11_first_95 : decode cX11_first 95 = .ok (.iload 6, 2) := by decide +kernel
theorem dX11_first_97 : decode cX11_first 97 = .ok (.istore 6, 2) := by decide +kernel
theorem dX11_first_99 : decode cX11_first 99 = .ok (.iload 7, 2) := by decide +kernel
theorem dX11_first_101 : decode cX11_first 101 = .ok (.iload 8, 2) := by decide +kernel
theorem dX11_first_103 : decode cX11_first 103 = .ok (.iload 6, 2) := by decide +kernel
theorem dX11_first_105 : decode cX11_first 105 = .ok (.ixor, 1) := by decide +kernel
theorem dX11_first_106 : decode cX11_first 106 = .ok (.ior, 1) := by decide +kernel
theorem dX11_first_107 : decode cX11_first 107 = .ok (.istore 7, 2) := by decide +kernel
theorem dX11_first_109 : decode cX11_first 109 = .ok (.iinc 5 1, 3) := by decide +kernel
theorem dX11_first_112 : decode cX11_first 112 = .ok (.iinc 8 1, 3) := by decide +kernel
theorem dX11_first_115 : decode cX11_first 115 = .ok (.goto (-71), 3) := by decide +kernel
theorem dX11_first_118 : decode cX11_first 118 = .ok (.iload 4, 2) := by decide +kernel
theorem dX11_first_120 : decode cX11_first 120 = .ok (.ifCond .ne 6, 3) := by decide +kernel
theorem dX11_first_123 : decode cX11_first 123 = .ok (.iload 5, 2) := by decide +kernel
theorem dX11_first_125 : decode cX11_first 125 = .ok (.ireturn, 1) := by decide +kernel
theorem dX11_first_126 : decode cX11_first 126 = .ok (.iload 5, 2) := by decide +kernel
theorem dX11_first_128 : decode cX11_first 128 = .ok (.ifCond .ne 6, 3) := by decide +kernel
theorem dX11_first_131 : decode cX11_first 131 = .ok (.bipush (-9), 2) := by decide +kernel
theorem dX11_first_133 : decode cX11_first 133 = .ok (.ireturn, 1) := by decide +kernel
theorem dX11_first_134 : decode cX11_first 134 = .ok (.iload 4, 2) := by decide +kernel
theorem dX11_first_136 : decode cX11_first 136 = .ok (.iconst 1, 1) := by decide +kernel
theorem dX11_first_137 : decode cX11_first 137 = .ok (.if_icmp .ne 18, 3) := by decide +kernel
theorem dX11_first_140 : decode cX11_first 140 = .ok (.aload_n 0, 1) := by decide +kernel
theorem dX11_first_141 : decode cX11_first 141 = .ok (.getfield 19, 3) := by decide +kernel
theorem dX11_first_144 : decode cX11_first 144 = .ok (.getfield 110, 3) := by decide +kernel
theorem dX11_first_147 : decode cX11_first 147 = .ok (.iload 6, 2) := by decide +kernel
theorem dX11_first_149 : decode cX11_first 149 = .ok (.invokevirtual 122, 3) := by decide +kernel
theorem dX11_first_152 : decode cX11_first 152 = .ok (.goto 15, 3) := by decide +kernel
theorem dX11_first_155 : decode cX11_first 155 = .ok (.aload_n 0, 1) := by decide +kernel
theorem dX11_first_156 : decode cX11_first 156 = .ok (.getfield 19, 3) := by decide +kernel
theorem dX11_first_159 : decode cX11_first 159 = .ok (.getfield 110, 3) := by decide +kernel
theorem dX11_first_162 : decode cX11_first 162 = .ok (.iload 7, 2) := by decide +kernel
theorem dX11_first_164 : decode cX11_first 164 = .ok (.invokevirtual 224, 3) := by decide +kernel
theorem dX11_first_167 : decode cX11_first 167 = .ok (.ireturn, 1) := by decide +kernel
theorem dX11_who_0 : decode cX11_who 0 = .ok (.aload_n 0, 1) := by decide +kernel
theorem dX11_who_1 : decode cX11_who 1 = .ok (.getfield 19, 3) := by decide +kernel
theorem dX11_who_4 : decode cX11_who 4 = .ok (.getfield 110, 3) := by decide +kernel
theorem dX11_who_7 : decode cX11_who 7 = .ok (.iload_n 1, 1) := by decide +kernel
theorem dX11_who_8 : decode cX11_who 8 = .ok (.invokevirtual 190, 3) := by decide +kernel
theorem dX11_who_11 : decode cX11_who 11 = .ok (.istore 5, 2) := by decide +kernel
theorem dX11_who_13 : decode cX11_who 13 = .ok (.aload_n 0, 1) := by decide +kernel
theorem dX11_who_14 : decode cX11_who 14 = .ok (.getfield 19, 3) := by decide +kernel
theorem dX11_who_17 : decode cX11_who 17 = .ok (.getfield 110, 3) := by decide +kernel
theorem dX11_who_20 : decode cX11_who 20 = .ok (.iload_n 2, 1) := by decide +kernel
theorem dX11_who_21 : decode cX11_who 21 = .ok (.invokevirtual 190, 3) := by decide +kernel
theorem dX11_who_24 : decode cX11_who 24 = .ok (.istore 6, 2) := by decide +kernel
theorem dX11_who_26 : decode cX11_who 26 = .ok (.iload 5, 2) := by decide +kernel
theorem dX11_who_28 : decode cX11_who 28 = .ok (.bipush (-9), 2) := by decide +kernel
theorem dX11_who_30 : decode cX11_who 30 = .ok (.if_icmp .eq 23, 3) := by decide +kernel
theorem dX11_who_33 : decode cX11_who 33 = .ok (.iload 6, 2) := by decide +kernel
theorem dX11_who_35 : decode cX11_who 35 = .ok (.bipush (-9), 2) := by decide +kernel
theorem dX11_who_37 : decode cX11_who 37 = .ok (.if_icmp .eq 16, 3) := by decide +kernel
theorem dX11_who_40 : decode cX11_who 40 = .ok (.aload_n 0, 1) := by decide +kernel
theorem dX11_who_41 : decode cX11_who 41 = .ok (.getfield 19, 3) := by decide +kernel
theorem dX11_who_44 : decode cX11_who 44 = .ok (.iload_n 3, 1) := by decide +kernel
theorem dX11_who_45 : decode cX11_who 45 = .ok (.iload 4, 2) := by decide +kernel
theorem dX11_who_47 : decode cX11_who 47 = .ok (.invokevirtual 164, 3) := by decide +kernel
theorem dX11_who_50 : decode cX11_who 50 = .ok (.ifCond .ne 6, 3) := by decide +kernel
theorem dX11_who_53 : decode cX11_who 53 = .ok (.bipush (-2), 2) := by decide +kernel
theorem dX11_who_55 : decode cX11_who 55 = .ok (.ireturn, 1) := by decide +kernel
theorem dX11_who_56 : decode cX11_who 56 = .ok (.iconst 0, 1) := by decide +kernel
theorem dX11_who_57 : decode cX11_who 57 = .ok (.istore 7, 2) := by decide +kernel
theorem dX11_who_59 : decode cX11_who 59 = .ok (.iconst 0, 1) := by decide +kernel
theorem dX11_who_60 : decode cX11_who 60 = .ok (.istore 8, 2) := by decide +kernel
theorem dX11_who_62 : decode cX11_who 62 = .ok (.iload 8, 2) := by decide +kernel
theorem dX11_who_64 : decode cX11_who 64 = .ok (.aload_n 0, 1) := by decide +kernel
theorem dX11_who_65 : decode cX11_who 65 = .ok (.getfield 19, 3) := by decide +kernel
theorem dX11_who_68 : decode cX11_who 68 = .ok (.getfield 100, 3) := by decide +kernel
theorem dX11_who_71 : decode cX11_who 71 = .ok (.if_icmp .ge 37, 3) := by decide +kernel
theorem dX11_who_74 : decode cX11_who 74 = .ok (.aload_n 0, 1) := by decide +kernel
theorem dX11_who_75 : decode cX11_who 75 = .ok (.getfield 19, 3) := by decide +kernel
theorem dX11_who_78 : decode cX11_who 78 = .ok (.iload 8, 2) := by decide +kernel
theorem dX11_who_80 : decode cX11_who 80 = .ok (.iload 5, 2) := by decide +kernel
theorem dX11_who_82 : decode cX11_who 82 = .ok (.iload_n 3, 1) := by decide +kernel
theorem dX11_who_83 : decode cX11_who 83 = .ok (.iload 4, 2) := by decide +kernel
theorem dX11_who_85 : decode cX11_who 85 = .ok (.invokevirtual 227, 3) := by decide +kernel
theorem dX11_who_88 : decode cX11_who 88 = .ok (.iload 6, 2) := by decide +kernel
theorem dX11_who_90 : decode cX11_who 90 = .ok (.if_icmp .ne 12, 3) := by decide +kernel
theorem dX11_who_93 : decode cX11_who 93 = .ok (.iload 7, 2) := by decide +kernel
theorem dX11_who_95 : decode cX11_who 95 = .ok (.iconst 1, 1) := by decide +kernel
theorem dX11_who_96 : decode cX11_who 96 = .ok (.iload 8, 2) := by decide +kernel
theorem dX11_who_98 : decode cX11_who 98 = .ok (.ishl, 1) := by decide +kernel
theorem dX11_who_99 : decode cX11_who 99 = .ok (.ior, 1) := by decide +kernel
theorem dX11_who_100 : decode cX11_who 100 = .ok (.istore 7, 2) := by decide +kernel
theorem dX11_who_102 : decode cX11_who 102 = .ok (.iinc 8 1, 3) := by decide +kernel
theorem dX11_who_105 : decode cX11_who 105 = .ok (.goto (-43), 3) := by decide +kernel
theorem dX11_who_108 : decode cX11_who 108 = .ok (.iload 7, 2) := by decide +kernel
theorem dX11_who_110 : decode cX11_who 110 = .ok (.ireturn, 1) := by decide +kernel
theorem dX11_code_0 : decode cX11_code 0 = .ok (.iload_n 1, 1) := by decide +kernel
theorem dX11_code_1 : decode cX11_code 1 = .ok (.iconst 1, 1) := by decide +kernel
theorem dX11_code_2 : decode cX11_code 2 = .ok (.if_icmp .lt 8, 3) := by decide +kernel
theorem dX11_code_5 : decode cX11_code 5 = .ok (.iload_n 1, 1) := by decide +kernel
theorem dX11_code_6 : decode cX11_code 6 = .ok (.iconst 5, 1) := by decide +kernel
theorem dX11_code_7 : decode cX11_code 7 = .ok (.if_icmp .le 6, 3) := by decide +kernel
theorem dX11_code_10 : decode cX11_code 10 = .ok (.bipush (-2), 2) := by decide +kernel
theorem dX11_code_12 : decode cX11_code 12 = .ok (.ireturn, 1) := by decide +kernel
theorem dX11_code_13 : decode cX11_code 13 = .ok (.aload_n 0, 1) := by decide +kernel
theorem dX11_code_14 : decode cX11_code 14 = .ok (.getfield 56, 3) := by decide +kernel
theorem dX11_code_17 : decode cX11_code 17 = .ok (.aload_n 0, 1) := by decide +kernel
theorem dX11_code_18 : decode cX11_code 18 = .ok (.getfield 19, 3) := by decide +kernel
theorem dX11_code_21 : decode cX11_code 21 = .ok (.getfield 110, 3) := by decide +kernel
theorem dX11_code_24 : decode cX11_code 24 = .ok (.iload_n 1, 1) := by decide +kernel
theorem dX11_code_25 : decode cX11_code 25 = .ok (.iconst 0, 1) := by decide +kernel
theorem dX11_code_26 : decode cX11_code 26 = .ok (.invokevirtual 231, 3) := by decide +kernel
theorem dX11_code_29 : decode cX11_code 29 = .ok (.aload_n 0, 1) := by decide +kernel
theorem dX11_code_30 : decode cX11_code 30 = .ok (.getfield 56, 3) := by decide +kernel
theorem dX11_code_33 : decode cX11_code 33 = .ok (.getfield 235, 3) := by decide +kernel
theorem dX11_code_36 : decode cX11_code 36 = .ok (.ireturn, 1) := by decide +kernel
theorem dX11_codeName_0 : decode cX11_codeName 0 = .ok (.iload_n 1, 1) := by decide +kernel
theorem dX11_codeName_1 : decode cX11_codeName 1 = .ok (.iconst 1, 1) := by decide +kernel
theorem dX11_codeName_2 : decode cX11_codeName 2 = .ok (.if_icmp .lt 8, 3) := by decide +kernel
theorem dX11_codeName_5 : decode cX11_codeName 5 = .ok (.iload_n 1, 1) := by decide +kernel
theorem dX11_codeName_6 : decode cX11_codeName 6 = .ok (.iconst 5, 1) := by decide +kernel
theorem dX11_codeName_7 : decode cX11_codeName 7 = .ok (.if_icmp .le 6, 3) := by decide +kernel
theorem dX11_codeName_10 : decode cX11_codeName 10 = .ok (.bipush (-2), 2) := by decide +kernel
theorem dX11_codeName_12 : decode cX11_codeName 12 = .ok (.ireturn, 1) := by decide +kernel
theorem dX11_codeName_13 : decode cX11_codeName 13 = .ok (.aload_n 0, 1) := by decide +kernel
theorem dX11_codeName_14 : decode cX11_codeName 14 = .ok (.getfield 56, 3) := by decide +kernel
theorem dX11_codeName_17 : decode cX11_codeName 17 = .ok (.aload_n 0, 1) := by decide +kernel
theorem dX11_codeName_18 : decode cX11_codeName 18 = .ok (.getfield 19, 3) := by decide +kernel
theorem dX11_codeName_21 : decode cX11_codeName 21 = .ok (.getfield 110, 3) := by decide +kernel
theorem dX11_codeName_24 : decode cX11_codeName 24 = .ok (.iload_n 1, 1) := by decide +kernel
theorem dX11_codeName_25 : decode cX11_codeName 25 = .ok (.iload_n 2, 1) := by decide +kernel
theorem dX11_codeName_26 : decode cX11_codeName 26 = .ok (.invokevirtual 231, 3) := by decide +kernel
theorem dX11_codeName_29 : decode cX11_codeName 29 = .ok (.aload_n 0, 1) := by decide +kernel
theorem dX11_codeName_30 : decode cX11_codeName 30 = .ok (.getfield 56, 3) := by decide +kernel
theorem dX11_codeName_33 : decode cX11_codeName 33 = .ok (.getfield 236, 3) := by decide +kernel
theorem dX11_codeName_36 : decode cX11_codeName 36 = .ok (.bipush (-9), 2) := by decide +kernel
theorem dX11_codeName_38 : decode cX11_codeName 38 = .ok (.if_icmp .ne 8, 3) := by decide +kernel
theorem dX11_codeName_41 : decode cX11_codeName 41 = .ok (.bipush (-3), 2) := by decide +kernel
theorem dX11_codeName_43 : decode cX11_codeName 43 = .ok (.goto 20, 3) := by decide +kernel
theorem dX11_codeName_46 : decode cX11_codeName 46 = .ok (.aload_n 0, 1) := by decide +kernel
theorem dX11_codeName_47 : decode cX11_codeName 47 = .ok (.getfield 19, 3) := by decide +kernel
theorem dX11_codeName_50 : decode cX11_codeName 50 = .ok (.getfield 110, 3) := by decide +kernel
theorem dX11_codeName_53 : decode cX11_codeName 53 = .ok (.aload_n 0, 1) := by decide +kernel
theorem dX11_codeName_54 : decode cX11_codeName 54 = .ok (.getfield 56, 3) := by decide +kernel
theorem dX11_codeName_57 : decode cX11_codeName 57 = .ok (.getfield 236, 3) := by decide +kernel
theorem dX11_codeName_60 : decode cX11_codeName 60 = .ok (.invokevirtual 122, 3) := by decide +kernel
theorem dX11_codeName_63 : decode cX11_codeName 63 = .ok (.ireturn, 1) := by decide +kernel
theorem dX11_rests_0 : decode cX11_rests 0 = .ok (.aload_n 0, 1) := by decide +kernel
theorem dX11_rests_1 : decode cX11_rests 1 = .ok (.getfield 19, 3) := by decide +kernel
theorem dX11_rests_4 : decode cX11_rests 4 = .ok (.iload_n 1, 1) := by decide +kernel
theorem dX11_rests_5 : decode cX11_rests 5 = .ok (.iload_n 2, 1) := by decide +kernel
theorem dX11_rests_6 : decode cX11_rests 6 = .ok (.invokevirtual 164, 3) := by decide +kernel
theorem dX11_rests_9 : decode cX11_rests 9 = .ok (.ifCond .eq 27, 3) := by decide +kernel
theorem dX11_rests_12 : decode cX11_rests 12 = .ok (.aload_n 0, 1) := by decide +kernel
theorem dX11_rests_13 : decode cX11_rests 13 = .ok (.getfield 19, 3) := by decide +kernel
theorem dX11_rests_16 : decode cX11_rests 16 = .ok (.iload_n 3, 1) := by decide +kernel
theorem dX11_rests_17 : decode cX11_rests 17 = .ok (.iload 4, 2) := by decide +kernel
theorem dX11_rests_19 : decode cX11_rests 19 = .ok (.invokevirtual 164, 3) := by decide +kernel
theorem dX11_rests_22 : decode cX11_rests 22 = .ok (.ifCond .eq 14, 3) := by decide +kernel
theorem dX11_rests_25 : decode cX11_rests 25 = .ok (.iload 5, 2) := by decide +kernel
theorem dX11_rests_27 : decode cX11_rests 27 = .ok (.ifCond .lt 9, 3) := by decide +kernel
theorem dX11_rests_30 : decode cX11_rests 30 = .ok (.iload 5, 2) := by decide +kernel
theorem dX11_rests_32 : decode cX11_rests 32 = .ok (.iconst 1, 1) := by decide +kernel
theorem dX11_rests_33 : decode cX11_rests 33 = .ok (.if_icmp .le 6, 3) := by decide +kernel
theorem dX11_rests_36 : decode cX11_rests 36 = .ok (.bipush (-2), 2) := by decide +kernel
theorem dX11_rests_38 : decode cX11_rests 38 = .ok (.ireturn, 1) := by decide +kernel
theorem dX11_rests_39 : decode cX11_rests 39 = .ok (.aload_n 0, 1) := by decide +kernel
theorem dX11_rests_40 : decode cX11_rests 40 = .ok (.getfield 63, 3) := by decide +kernel
theorem dX11_rests_43 : decode cX11_rests 43 = .ok (.aload_n 0, 1) := by decide +kernel
theorem dX11_rests_44 : decode cX11_rests 44 = .ok (.getfield 19, 3) := by decide +kernel
theorem dX11_rests_47 : decode cX11_rests 47 = .ok (.iload_n 1, 1) := by decide +kernel
theorem dX11_rests_48 : decode cX11_rests 48 = .ok (.iload_n 2, 1) := by decide +kernel
theorem dX11_rests_49 : decode cX11_rests 49 = .ok (.iload_n 3, 1) := by decide +kernel
theorem dX11_rests_50 : decode cX11_rests 50 = .ok (.iload 4, 2) := by decide +kernel
theorem dX11_rests_52 : decode cX11_rests 52 = .ok (.invokevirtual 239, 3) := by decide +kernel
theorem dX11_rests_55 : decode cX11_rests 55 = .ok (.iload 5, 2) := by decide +kernel
theorem dX11_rests_57 : decode cX11_rests 57 = .ok (.ifCond .ne 13, 3) := by decide +kernel
theorem dX11_rests_60 : decode cX11_rests 60 = .ok (.aload_n 0, 1) := by decide +kernel
theorem dX11_rests_61 : decode cX11_rests 61 = .ok (.getfield 63, 3) := by decide +kernel
theorem dX11_rests_64 : decode cX11_rests 64 = .ok (.invokevirtual 243, 3) := by decide +kernel
theorem dX11_rests_67 : decode cX11_rests 67 = .ok (.goto 10, 3) := by decide +kernel
theorem dX11_rests_70 : decode cX11_rests 70 = .ok (.aload_n 0, 1) := by decide +kernel
theorem dX11_rests_71 : decode cX11_rests 71 = .ok (.getfield 63, 3) := by decide +kernel
theorem dX11_rests_74 : decode cX11_rests 74 = .ok (.invokevirtual 246, 3) := by decide +kernel
theorem dX11_rests_77 : decode cX11_rests 77 = .ok (.ireturn, 1) := by decide +kernel
theorem dX11_chance_0 : decode cX11_chance 0 = .ok (.aload_n 0, 1) := by decide +kernel
theorem dX11_chance_1 : decode cX11_chance 1 = .ok (.getfield 19, 3) := by decide +kernel
theorem dX11_chance_4 : decode cX11_chance 4 = .ok (.iload_n 1, 1) := by decide +kernel
theorem dX11_chance_5 : decode cX11_chance 5 = .ok (.invokevirtual 146, 3) := by decide +kernel
theorem dX11_chance_8 : decode cX11_chance 8 = .ok (.ifCond .ne 5, 3) := by decide +kernel
theorem dX11_chance_11 : decode cX11_chance 11 = .ok (.iconst (-1), 1) := by decide +kernel
theorem dX11_chance_12 : decode cX11_chance 12 = .ok (.ireturn, 1) := by decide +kernel
theorem dX11_chance_13 : decode cX11_chance 13 = .ok (.iload_n 2, 1) := by decide +kernel
theorem dX11_chance_14 : decode cX11_chance 14 = .ok (.iconst 1, 1) := by decide +kernel
theorem dX11_chance_15 : decode cX11_chance 15 = .ok (.if_icmp .lt 18, 3) := by decide +kernel
theorem dX11_chance_18 : decode cX11_chance 18 = .ok (.iload_n 2, 1) := by decide +kernel
theorem dX11_chance_19 : decode cX11_chance 19 = .ok (.iconst 4, 1) := by decide +kernel
theorem dX11_chance_20 : decode cX11_chance 20 = .ok (.if_icmp .gt 13, 3) := by decide +kernel
theorem dX11_chance_23 : decode cX11_chance 23 = .ok (.iload_n 3, 1) := by decide +kernel
theorem dX11_chance_24 : decode cX11_chance 24 = .ok (.ifCond .lt 9, 3) := by decide +kernel
theorem dX11_chance_27 : decode cX11_chance 27 = .ok (.iload_n 3, 1) := by decide +kernel
theorem dX11_chance_28 : decode cX11_chance 28 = .ok (.bipush 10, 2) := by decide +kernel
theorem dX11_chance_30 : decode cX11_chance 30 = .ok (.if_icmp .le 6, 3) := by decide +kernel
theorem dX11_chance_33 : decode cX11_chance 33 = .ok (.bipush (-2), 2) := by decide +kernel
theorem dX11_chance_35 : decode cX11_chance 35 = .ok (.ireturn, 1) := by decide +kernel
theorem dX11_chance_36 : decode cX11_chance 36 = .ok (.aload_n 0, 1) := by decide +kernel
theorem dX11_chance_37 : decode cX11_chance 37 = .ok (.getfield 70, 3) := by decide +kernel
theorem dX11_chance_40 : decode cX11_chance 40 = .ok (.aload_n 0, 1) := by decide +kernel
theorem dX11_chance_41 : decode cX11_chance 41 = .ok (.getfield 19, 3) := by decide +kernel
theorem dX11_chance_44 : decode cX11_chance 44 = .ok (.iload_n 1, 1) := by decide +kernel
theorem dX11_chance_45 : decode cX11_chance 45 = .ok (.iload_n 2, 1) := by decide +kernel
theorem dX11_chance_46 : decode cX11_chance 46 = .ok (.iload_n 3, 1) := by decide +kernel
theorem dX11_chance_47 : decode cX11_chance 47 = .ok (.invokevirtual 249, 3) := by decide +kernel
theorem dX11_chance_50 : decode cX11_chance 50 = .ok (.iload_n 2, 1) := by decide +kernel
theorem dX11_chance_51 : decode cX11_chance 51 = .ok (.invokestatic 253, 3) := by decide +kernel
theorem dX11_chance_54 : decode cX11_chance 54 = .ok (.iload 4, 2) := by decide +kernel
theorem dX11_chance_56 : decode cX11_chance 56 = .ok (.invokestatic 256, 3) := by decide +kernel
theorem dX11_chance_59 : decode cX11_chance 59 = .ok (.ireturn, 1) := by decide +kernel
theorem dX11_share_0 : decode cX11_share 0 = .ok (.aload_n 0, 1) := by decide +kernel
theorem dX11_share_1 : decode cX11_share 1 = .ok (.getfield 19, 3) := by decide +kernel
theorem dX11_share_4 : decode cX11_share 4 = .ok (.iload_n 1, 1) := by decide +kernel
theorem dX11_share_5 : decode cX11_share 5 = .ok (.invokevirtual 146, 3) := by decide +kernel
theorem dX11_share_8 : decode cX11_share 8 = .ok (.ifCond .ne 5, 3) := by decide +kernel
theorem dX11_share_11 : decode cX11_share 11 = .ok (.iconst (-1), 1) := by decide +kernel
theorem dX11_share_12 : decode cX11_share 12 = .ok (.ireturn, 1) := by decide +kernel
theorem dX11_share_13 : decode cX11_share 13 = .ok (.aload_n 0, 1) := by decide +kernel
theorem dX11_share_14 : decode cX11_share 14 = .ok (.getfield 70, 3) := by decide +kernel
theorem dX11_share_17 : decode cX11_share 17 = .ok (.aload_n 0, 1) := by decide +kernel
theorem dX11_share_18 : decode cX11_share 18 = .ok (.getfield 19, 3) := by decide +kernel
theorem dX11_share_21 : decode cX11_share 21 = .ok (.invokevirtual 260, 3) := by decide +kernel
theorem dX11_share_24 : decode cX11_share 24 = .ok (.aload_n 0, 1) := by decide +kernel
theorem dX11_share_25 : decode cX11_share 25 = .ok (.getfield 70, 3) := by decide +kernel
theorem dX11_share_28 : decode cX11_share 28 = .ok (.iload_n 1, 1) := by decide +kernel
theorem dX11_share_29 : decode cX11_share 29 = .ok (.invokevirtual 264, 3) := by decide +kernel
theorem dX11_share_32 : decode cX11_share 32 = .ok (.aload_n 0, 1) := by decide +kernel
theorem dX11_share_33 : decode cX11_share 33 = .ok (.getfield 70, 3) := by decide +kernel
theorem dX11_share_36 : decode cX11_share 36 = .ok (.invokevirtual 267, 3) := by decide +kernel
theorem dX11_share_39 : decode cX11_share 39 = .ok (.iload_n 2, 1) := by decide +kernel
theorem dX11_share_40 : decode cX11_share 40 = .ok (.invokestatic 256, 3) := by decide +kernel
theorem dX11_share_43 : decode cX11_share 43 = .ok (.ireturn, 1) := by decide +kernel
theorem dX11_seed_0 : decode cX11_seed 0 = .ok (.aload_n 0, 1) := by decide +kernel
theorem dX11_seed_1 : decode cX11_seed 1 = .ok (.getfield 78, 3) := by decide +kernel
theorem dX11_seed_4 : decode cX11_seed 4 = .ok (.lstore_n 3, 1) := by decide +kernel
theorem dX11_seed_5 : decode cX11_seed 5 = .ok (.aload_n 0, 1) := by decide +kernel
theorem dX11_seed_6 : decode cX11_seed 6 = .ok (.lload_n 1, 1) := by decide +kernel
theorem dX11_seed_7 : decode cX11_seed 7 = .ok (.putfield 78, 3) := by decide +kernel
theorem dX11_seed_10 : decode cX11_seed 10 = .ok (.lload_n 3, 1) := by decide +kernel
theorem dX11_seed_11 : decode cX11_seed 11 = .ok (.lreturn, 1) := by decide +kernel
theorem dX11_years_0 : decode cX11_years 0 = .ok (.iload_n 1, 1) := by decide +kernel
theorem dX11_years_1 : decode cX11_years 1 = .ok (.iconst 1, 1) := by decide +kernel
theorem dX11_years_2 : decode cX11_years 2 = .ok (.if_icmp .lt 9, 3) := by decide +kernel
theorem dX11_years_5 : decode cX11_years 5 = .ok (.iload_n 1, 1) := by decide +kernel
theorem dX11_years_6 : decode cX11_years 6 = .ok (.bipush 30, 2) := by decide +kernel
theorem dX11_years_8 : decode cX11_years 8 = .ok (.if_icmp .le 6, 3) := by decide +kernel
theorem dX11_years_11 : decode cX11_years 11 = .ok (.bipush (-2), 2) := by decide +kernel
theorem dX11_years_13 : decode cX11_years 13 = .ok (.ireturn, 1) := by decide +kernel
theorem dX11_years_14 : decode cX11_years 14 = .ok (.aload_n 0, 1) := by decide +kernel
theorem dX11_years_15 : decode cX11_years 15 = .ok (.getfield 19, 3) := by decide +kernel
theorem dX11_years_18 : decode cX11_years 18 = .ok (.getfield 106, 3) := by decide +kernel
theorem dX11_years_21 : decode cX11_years 21 = .ok (.invokevirtual 126, 3) := by decide +kernel
theorem dX11_years_24 : decode cX11_years 24 = .ok (.istore_n 2, 1) := by decide +kernel
theorem dX11_years_25 : decode cX11_years 25 = .ok (.iconst 0, 1) := by decide +kernel
theorem dX11_years_26 : decode cX11_years 26 = .ok (.istore_n 3, 1) := by decide +kernel
theorem dX11_years_27 : decode cX11_years 27 = .ok (.iconst 0, 1) := by decide +kernel
theorem dX11_years_28 : decode cX11_years 28 = .ok (.istore 4, 2) := by decide +kernel
theorem dX11_years_30 : decode cX11_years 30 = .ok (.iload 4, 2) := by decide +kernel
theorem dX11_years_32 : decode cX11_years 32 = .ok (.iload_n 1, 1) := by decide +kernel
theorem dX11_years_33 : decode cX11_years 33 = .ok (.if_icmp .ge 110, 3) := by decide +kernel
theorem dX11_years_36 : decode cX11_years 36 = .ok (.aload_n 0, 1) := by decide +kernel
theorem dX11_years_37 : decode cX11_years 37 = .ok (.aload_n 0, 1) := by decide +kernel
theorem dX11_years_38 : decode cX11_years 38 = .ok (.getfield 78, 3) := by decide +kernel
theorem dX11_years_41 : decode cX11_years 41 = .ok (.ldc2_w 270, 3) := by decide +kernel
theorem dX11_years_44 : decode cX11_years 44 = .ok (.lmul, 1) := by decide +kernel
theorem dX11_years_45 : decode cX11_years 45 = .ok (.ldc2_w 272, 3) := by decide +kernel
theorem dX11_years_48 : decode cX11_years 48 = .ok (.ladd, 1) := by decide +kernel
theorem dX11_years_49 : decode cX11_years 49 = .ok (.putfield 78, 3) := by decide +kernel
theorem dX11_years_52 : decode cX11_years 52 = .ok (.aload_n 0, 1) := by decide +kernel
theorem dX11_years_53 : decode cX11_years 53 = .ok (.getfield 78, 3) := by decide +kernel
theorem dX11_years_56 : decode cX11_years 56 = .ok (.bipush 33, 2) := by decide +kernel
theorem dX11_years_58 : decode cX11_years 58 = .ok (.lushr, 1) := by decide +kernel
theorem dX11_years_59 : decode cX11_years 59 = .ok (.ldc2_w 274, 3) := by decide +kernel
theorem dX11_years_62 : decode cX11_years 62 = .ok (.lrem, 1) := by decide +kernel
theorem dX11_years_63 : decode cX11_years 63 = .ok (.l2i, 1) := by decide +kernel
theorem dX11_years_64 : decode cX11_years 64 = .ok (.istore 5, 2) := by decide +kernel
theorem dX11_years_66 : decode cX11_years 66 = .ok (.iload 5, 2) := by decide +kernel
theorem dX11_years_68 : decode cX11_years 68 = .ok (.bipush 20, 2) := by decide +kernel
theorem dX11_years_70 : decode cX11_years 70 = .ok (.idiv, 1) := by decide +kernel
theorem dX11_years_71 : decode cX11_years 71 = .ok (.istore 6, 2) := by decide +kernel
theorem dX11_years_73 : decode cX11_years 73 = .ok (.iload 5, 2) := by decide +kernel
theorem dX11_years_75 : decode cX11_years 75 = .ok (.bipush 20, 2) := by decide +kernel
theorem dX11_years_77 : decode cX11_years 77 = .ok (.irem, 1) := by decide +kernel
theorem dX11_years_78 : decode cX11_years 78 = .ok (.iconst 4, 1) := by decide +kernel
theorem dX11_years_79 : decode cX11_years 79 = .ok (.idiv, 1) := by decide +kernel
theorem dX11_years_80 : decode cX11_years 80 = .ok (.istore 7, 2) := by decide +kernel
theorem dX11_years_82 : decode cX11_years 82 = .ok (.aload_n 0, 1) := by decide +kernel
theorem dX11_years_83 : decode cX11_years 83 = .ok (.getfield 19, 3) := by decide +kernel
theorem dX11_years_86 : decode cX11_years 86 = .ok (.iload 6, 2) := by decide +kernel
theorem dX11_years_88 : decode cX11_years 88 = .ok (.invokevirtual 146, 3) := by decide +kernel
theorem dX11_years_91 : decode cX11_years 91 = .ok (.ifCond .eq 35, 3) := by decide +kernel
theorem dX11_years_94 : decode cX11_years 94 = .ok (.aload_n 0, 1) := by decide +kernel
theorem dX11_years_95 : decode cX11_years 95 = .ok (.getfield 19, 3) := by decide +kernel
theorem dX11_years_98 : decode cX11_years 98 = .ok (.getfield 110, 3) := by decide +kernel
theorem dX11_years_101 : decode cX11_years 101 = .ok (.iload 7, 2) := by decide +kernel
theorem dX11_years_103 : decode cX11_years 103 = .ok (.invokevirtual 276, 3) := by decide +kernel
theorem dX11_years_106 : decode cX11_years 106 = .ok (.ifCond .eq 20, 3) := by decide +kernel
theorem dX11_years_109 : decode cX11_years 109 = .ok (.aload_n 0, 1) := by decide +kernel
theorem dX11_years_110 : decode cX11_years 110 = .ok (.getfield 19, 3) := by decide +kernel
theorem dX11_years_113 : decode cX11_years 113 = .ok (.iload 6, 2) := by decide +kernel
theorem dX11_years_115 : decode cX11_years 115 = .ok (.iload_n 2, 1) := by decide +kernel
theorem dX11_years_116 : decode cX11_years 116 = .ok (.iload 7, 2) := by decide +kernel
theorem dX11_years_118 : decode cX11_years 118 = .ok (.iload 5, 2) := by decide +kernel
theorem dX11_years_120 : decode cX11_years 120 = .ok (.iconst 4, 1) := by decide +kernel
theorem dX11_years_121 : decode cX11_years 121 = .ok (.irem, 1) := by decide +kernel
theorem dX11_years_122 : decode cX11_years 122 = .ok (.invokevirtual 227, 3) := by decide +kernel
theorem dX11_years_125 : decode cX11_years 125 = .ok (.istore_n 2, 1) := by decide +kernel
theorem dX11_years_126 : decode cX11_years 126 = .ok (.iload_n 3, 1) := by decide +kernel
theorem dX11_years_127 : decode cX11_years 127 = .ok (.aload_n 0, 1) := by decide +kernel
theorem dX11_years_128 : decode cX11_years 128 = .ok (.getfield 19, 3) := by decide +kernel
theorem dX11_years_131 : decode cX11_years 131 = .ok (.iload_n 2, 1) := by decide +kernel
theorem dX11_years_132 : decode cX11_years 132 = .ok (.invokevirtual 131, 3) := by decide +kernel
theorem dX11_years_135 : decode cX11_years 135 = .ok (.iadd, 1) := by decide +kernel
theorem dX11_years_136 : decode cX11_years 136 = .ok (.istore_n 3, 1) := by decide +kernel
theorem dX11_years_137 : decode cX11_years 137 = .ok (.iinc 4 1, 3) := by decide +kernel
theorem dX11_years_140 : decode cX11_years 140 = .ok (.goto (-110), 3) := by decide +kernel
theorem dX11_years_143 : decode cX11_years 143 = .ok (.iload_n 3, 1) := by decide +kernel
theorem dX11_years_144 : decode cX11_years 144 = .ok (.ireturn, 1) := by decide +kernel
theorem dX11_keep_0 : decode cX11_keep 0 = .ok (.iload_n 1, 1) := by decide +kernel
theorem dX11_keep_1 : decode cX11_keep 1 = .ok (.ifCond .lt 8, 3) := by decide +kernel
theorem dX11_keep_4 : decode cX11_keep 4 = .ok (.iload_n 1, 1) := by decide +kernel
theorem dX11_keep_5 : decode cX11_keep 5 = .ok (.iconst 2, 1) := by decide +kernel
theorem dX11_keep_6 : decode cX11_keep 6 = .ok (.if_icmp .lt 5, 3) := by decide +kernel
theorem dX11_keep_9 : decode cX11_keep 9 = .ok (.iconst (-1), 1) := by decide +kernel
theorem dX11_keep_10 : decode cX11_keep 10 = .ok (.ireturn, 1) := by decide +kernel
theorem dX11_keep_11 : decode cX11_keep 11 = .ok (.aload_n 0, 1) := by decide +kernel
theorem dX11_keep_12 : decode cX11_keep 12 = .ok (.getfield 35, 3) := by decide +kernel
theorem dX11_keep_15 : decode cX11_keep 15 = .ok (.iload_n 1, 1) := by decide +kernel
theorem dX11_keep_16 : decode cX11_keep 16 = .ok (.aload_n 0, 1) := by decide +kernel
theorem dX11_keep_17 : decode cX11_keep 17 = .ok (.getfield 19, 3) := by decide +kernel
theorem dX11_keep_20 : decode cX11_keep 20 = .ok (.getfield 106, 3) := by decide +kernel
theorem dX11_keep_23 : decode cX11_keep 23 = .ok (.invokevirtual 279, 3) := by decide +kernel
theorem dX11_keep_26 : decode cX11_keep 26 = .ok (.aload_n 0, 1) := by decide +kernel
theorem dX11_keep_27 : decode cX11_keep 27 = .ok (.dup, 1) := by decide +kernel
theorem dX11_keep_28 : decode cX11_keep 28 = .ok (.getfield 74, 3) := by decide +kernel
theorem dX11_keep_31 : decode cX11_keep 31 = .ok (.iconst 1, 1) := by decide +kernel
theorem dX11_keep_32 : decode cX11_keep 32 = .ok (.iload_n 1, 1) := by decide +kernel
theorem dX11_keep_33 : decode cX11_keep 33 = .ok (.ishl, 1) := by decide +kernel
theorem dX11_keep_34 : decode cX11_keep 34 = .ok (.ior, 1) := by decide +kernel
theorem dX11_keep_35 : decode cX11_keep 35 = .ok (.putfield 74, 3) := by decide +kernel
theorem dX11_keep_38 : decode cX11_keep 38 = .ok (.aload_n 0, 1) := by decide +kernel
theorem dX11_keep_39 : decode cX11_keep 39 = .ok (.getfield 19, 3) := by decide +kernel
theorem dX11_keep_42 : decode cX11_keep 42 = .ok (.getfield 106, 3) := by decide +kernel
theorem dX11_keep_45 : decode cX11_keep 45 = .ok (.invokevirtual 134, 3) := by decide +kernel
theorem dX11_keep_48 : decode cX11_keep 48 = .ok (.ireturn, 1) := by decide +kernel
theorem dX11_again_0 : decode cX11_again 0 = .ok (.iload_n 1, 1) := by decide +kernel
theorem dX11_again_1 : decode cX11_again 1 = .ok (.ifCond .lt 8, 3) := by decide +kernel
theorem dX11_again_4 : decode cX11_again 4 = .ok (.iload_n 1, 1) := by decide +kernel
theorem dX11_again_5 : decode cX11_again 5 = .ok (.iconst 2, 1) := by decide +kernel
theorem dX11_again_6 : decode cX11_again 6 = .ok (.if_icmp .lt 5, 3) := by decide +kernel
theorem dX11_again_9 : decode cX11_again 9 = .ok (.iconst (-1), 1) := by decide +kernel
theorem dX11_again_10 : decode cX11_again 10 = .ok (.ireturn, 1) := by decide +kernel
theorem dX11_again_11 : decode cX11_again 11 = .ok (.aload_n 0, 1) := by decide +kernel
theorem dX11_again_12 : decode cX11_again 12 = .ok (.getfield 74, 3) := by decide +kernel
theorem dX11_again_15 : decode cX11_again 15 = .ok (.iload_n 1, 1) := by decide +kernel
theorem dX11_again_16 : decode cX11_again 16 = .ok (.ishr, 1) := by decide +kernel
theorem dX11_again_17 : decode cX11_again 17 = .ok (.iconst 1, 1) := by decide +kernel
theorem dX11_again_18 : decode cX11_again 18 = .ok (.iand, 1) := by decide +kernel
theorem dX11_again_19 : decode cX11_again 19 = .ok (.ifCond .ne 6, 3) := by decide +kernel
theorem dX11_again_22 : decode cX11_again 22 = .ok (.bipush (-3), 2) := by decide +kernel
theorem dX11_again_24 : decode cX11_again 24 = .ok (.ireturn, 1) := by decide +kernel
theorem dX11_again_25 : decode cX11_again 25 = .ok (.aload_n 0, 1) := by decide +kernel
theorem dX11_again_26 : decode cX11_again 26 = .ok (.getfield 35, 3) := by decide +kernel
theorem dX11_again_29 : decode cX11_again 29 = .ok (.iload_n 1, 1) := by decide +kernel
theorem dX11_again_30 : decode cX11_again 30 = .ok (.aload_n 0, 1) := by decide +kernel
theorem dX11_again_31 : decode cX11_again 31 = .ok (.getfield 19, 3) := by decide +kernel
theorem dX11_again_34 : decode cX11_again 34 = .ok (.getfield 106, 3) := by decide +kernel
theorem dX11_again_37 : decode cX11_again 37 = .ok (.invokevirtual 283, 3) := by decide +kernel
theorem dX11_again_40 : decode cX11_again 40 = .ok (.aload_n 0, 1) := by decide +kernel
theorem dX11_again_41 : decode cX11_again 41 = .ok (.getfield 26, 3) := by decide +kernel
theorem dX11_again_44 : decode cX11_again 44 = .ok (.invokevirtual 97, 3) := by decide +kernel
theorem dX11_again_47 : decode cX11_again 47 = .ok (.aload_n 0, 1) := by decide +kernel
theorem dX11_again_48 : decode cX11_again 48 = .ok (.getfield 19, 3) := by decide +kernel
theorem dX11_again_51 : decode cX11_again 51 = .ok (.getfield 106, 3) := by decide +kernel
theorem dX11_again_54 : decode cX11_again 54 = .ok (.invokevirtual 134, 3) := by decide +kernel
theorem dX11_again_57 : decode cX11_again 57 = .ok (.ireturn, 1) := by decide +kernel
theorem dJ6_bitCount_0f7a4_0 : decode cJ6_bitCount_0f7a4 0 = .ok (.iload_n 0, 1) := by decide +kernel
theorem dJ6_bitCount_0f7a4_1 : decode cJ6_bitCount_0f7a4 1 = .ok (.iload_n 0, 1) := by decide +kernel
theorem dJ6_bitCount_0f7a4_2 : decode cJ6_bitCount_0f7a4 2 = .ok (.iconst 1, 1) := by decide +kernel
theorem dJ6_bitCount_0f7a4_3 : decode cJ6_bitCount_0f7a4 3 = .ok (.iushr, 1) := by decide +kernel
theorem dJ6_bitCount_0f7a4_4 : decode cJ6_bitCount_0f7a4 4 = .ok (.ldc_w 265, 3) := by decide +kernel
theorem dJ6_bitCount_0f7a4_7 : decode cJ6_bitCount_0f7a4 7 = .ok (.iand, 1) := by decide +kernel
theorem dJ6_bitCount_0f7a4_8 : decode cJ6_bitCount_0f7a4 8 = .ok (.isub, 1) := by decide +kernel
theorem dJ6_bitCount_0f7a4_9 : decode cJ6_bitCount_0f7a4 9 = .ok (.istore_n 0, 1) := by decide +kernel
theorem dJ6_bitCount_0f7a4_10 : decode cJ6_bitCount_0f7a4 10 = .ok (.iload_n 0, 1) := by decide +kernel
theorem dJ6_bitCount_0f7a4_11 : decode cJ6_bitCount_0f7a4 11 = .ok (.ldc_w 266, 3) := by decide +kernel
theorem dJ6_bitCount_0f7a4_14 : decode cJ6_bitCount_0f7a4 14 = .ok (.iand, 1) := by decide +kernel
theorem dJ6_bitCount_0f7a4_15 : decode cJ6_bitCount_0f7a4 15 = .ok (.iload_n 0, 1) := by decide +kernel
theorem dJ6_bitCount_0f7a4_16 : decode cJ6_bitCount_0f7a4 16 = .ok (.iconst 2, 1) := by decide +kernel
theorem dJ6_bitCount_0f7a4_17 : decode cJ6_bitCount_0f7a4 17 = .ok (.iushr, 1) := by decide +kernel
theorem dJ6_bitCount_0f7a4_18 : decode cJ6_bitCount_0f7a4 18 = .ok (.ldc_w 266, 3) := by decide +kernel
theorem dJ6_bitCount_0f7a4_21 : decode cJ6_bitCount_0f7a4 21 = .ok (.iand, 1) := by decide +kernel
theorem dJ6_bitCount_0f7a4_22 : decode cJ6_bitCount_0f7a4 22 = .ok (.iadd, 1) := by decide +kernel
theorem dJ6_bitCount_0f7a4_23 : decode cJ6_bitCount_0f7a4 23 = .ok (.istore_n 0, 1) := by decide +kernel
theorem dJ6_bitCount_0f7a4_24 : decode cJ6_bitCount_0f7a4 24 = .ok (.iload_n 0, 1) := by decide +kernel
theorem dJ6_bitCount_0f7a4_25 : decode cJ6_bitCount_0f7a4 25 = .ok (.iload_n 0, 1) := by decide +kernel
theorem dJ6_bitCount_0f7a4_26 : decode cJ6_bitCount_0f7a4 26 = .ok (.iconst 4, 1) := by decide +kernel
theorem dJ6_bitCount_0f7a4_27 : decode cJ6_bitCount_0f7a4 27 = .ok (.iushr, 1) := by decide +kernel
theorem dJ6_bitCount_0f7a4_28 : decode cJ6_bitCount_0f7a4 28 = .ok (.iadd, 1) := by decide +kernel
theorem dJ6_bitCount_0f7a4_29 : decode cJ6_bitCount_0f7a4 29 = .ok (.ldc_w 267, 3) := by decide +kernel
theorem dJ6_bitCount_0f7a4_32 : decode cJ6_bitCount_0f7a4 32 = .ok (.iand, 1) := by decide +kernel
theorem dJ6_bitCount_0f7a4_33 : decode cJ6_bitCount_0f7a4 33 = .ok (.istore_n 0, 1) := by decide +kernel
theorem dJ6_bitCount_0f7a4_34 : decode cJ6_bitCount_0f7a4 34 = .ok (.iload_n 0, 1) := by decide +kernel
theorem dJ6_bitCount_0f7a4_35 : decode cJ6_bitCount_0f7a4 35 = .ok (.iload_n 0, 1) := by decide +kernel
theorem dJ6_bitCount_0f7a4_36 : decode cJ6_bitCount_0f7a4 36 = .ok (.bipush 8, 2) := by decide +kernel
theorem dJ6_bitCount_0f7a4_38 : decode cJ6_bitCount_0f7a4 38 = .ok (.iushr, 1) := by decide +kernel
theorem dJ6_bitCount_0f7a4_39 : decode cJ6_bitCount_0f7a4 39 = .ok (.iadd, 1) := by decide +kernel
theorem dJ6_bitCount_0f7a4_40 : decode cJ6_bitCount_0f7a4 40 = .ok (.istore_n 0, 1) := by decide +kernel
theorem dJ6_bitCount_0f7a4_41 : decode cJ6_bitCount_0f7a4 41 = .ok (.iload_n 0, 1) := by decide +kernel
theorem dJ6_bitCount_0f7a4_42 : decode cJ6_bitCount_0f7a4 42 = .ok (.iload_n 0, 1) := by decide +kernel
theorem dJ6_bitCount_0f7a4_43 : decode cJ6_bitCount_0f7a4 43 = .ok (.bipush 16, 2) := by decide +kernel
theorem dJ6_bitCount_0f7a4_45 : decode cJ6_bitCount_0f7a4 45 = .ok (.iushr, 1) := by decide +kernel
theorem dJ6_bitCount_0f7a4_46 : decode cJ6_bitCount_0f7a4 46 = .ok (.iadd, 1) := by decide +kernel
theorem dJ6_bitCount_0f7a4_47 : decode cJ6_bitCount_0f7a4 47 = .ok (.istore_n 0, 1) := by decide +kernel
theorem dJ6_bitCount_0f7a4_48 : decode cJ6_bitCount_0f7a4 48 = .ok (.iload_n 0, 1) := by decide +kernel
theorem dJ6_bitCount_0f7a4_49 : decode cJ6_bitCount_0f7a4 49 = .ok (.bipush 63, 2) := by decide +kernel
theorem dJ6_bitCount_0f7a4_51 : decode cJ6_bitCount_0f7a4 51 = .ok (.iand, 1) := by decide +kernel
theorem dJ6_bitCount_0f7a4_52 : decode cJ6_bitCount_0f7a4 52 = .ok (.ireturn, 1) := by decide +kernel
theorem dJ9_max_7cf53_0 : decode cJ9_max_7cf53 0 = .ok (.iload_n 0, 1) := by decide +kernel
theorem dJ9_max_7cf53_1 : decode cJ9_max_7cf53 1 = .ok (.iload_n 1, 1) := by decide +kernel
theorem dJ9_max_7cf53_2 : decode cJ9_max_7cf53 2 = .ok (.if_icmp .lt 7, 3) := by decide +kernel
theorem dJ9_max_7cf53_5 : decode cJ9_max_7cf53 5 = .ok (.iload_n 0, 1) := by decide +kernel
theorem dJ9_max_7cf53_6 : decode cJ9_max_7cf53 6 = .ok (.goto 4, 3) := by decide +kernel
theorem dJ9_max_7cf53_9 : decode cJ9_max_7cf53 9 = .ok (.iload_n 1, 1) := by decide +kernel
theorem dJ9_max_7cf53_10 : decode cJ9_max_7cf53 10 = .ok (.ireturn, 1) := by decide +kernel
theorem dJ9_min_7cf53_0 : decode cJ9_min_7cf53 0 = .ok (.iload_n 0, 1) := by decide +kernel
theorem dJ9_min_7cf53_1 : decode cJ9_min_7cf53 1 = .ok (.iload_n 1, 1) := by decide +kernel
theorem dJ9_min_7cf53_2 : decode cJ9_min_7cf53 2 = .ok (.if_icmp .gt 7, 3) := by decide +kernel
theorem dJ9_min_7cf53_5 : decode cJ9_min_7cf53 5 = .ok (.iload_n 0, 1) := by decide +kernel
theorem dJ9_min_7cf53_6 : decode cJ9_min_7cf53 6 = .ok (.goto 4, 3) := by decide +kernel
theorem dJ9_min_7cf53_9 : decode cJ9_min_7cf53 9 = .ok (.iload_n 1, 1) := by decide +kernel
theorem dJ9_min_7cf53_10 : decode cJ9_min_7cf53 10 = .ok (.ireturn, 1) := by decide +kernel
