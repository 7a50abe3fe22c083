theorem dX0_init_0 : decode cX0_init 0 = .ok (.aload_n 0, 1) := by decide +kernel
theorem dX0_init_1 : decode cX0_init 1 = .ok (.invokespecial 3, 3) := by decide +kernel
theorem dX0_init_4 : decode cX0_init 4 = .ok (.aload_n 0, 1) := by decide +kernel
theorem dX0_init_5 : decode cX0_init 5 = .ok (.sipush 1024, 3) := by decide +kernel
theorem dX0_init_8 : decode cX0_init 8 = .ok (.newarray .boolean, 2) := by decide +kernel
theorem dX0_init_10 : decode cX0_init 10 = .ok (.putfield 9, 3) := by decide +kernel
theorem dX0_init_13 : decode cX0_init 13 = .ok (.aload_n 0, 1) := by decide +kernel
theorem dX0_init_14 : decode cX0_init 14 = .ok (.sipush 1024, 3) := by decide +kernel
theorem dX0_init_17 : decode cX0_init 17 = .ok (.newarray .int, 2) := by decide +kernel
theorem dX0_init_19 : decode cX0_init 19 = .ok (.putfield 15, 3) := by decide +kernel
theorem dX0_init_22 : decode cX0_init 22 = .ok (.return_, 1) := by decide +kernel
theorem dX0_take_0 : decode cX0_take 0 = .ok (.aload_n 0, 1) := by decide +kernel
theorem dX0_take_1 : decode cX0_take 1 = .ok (.aload_n 1, 1) := by decide +kernel
theorem dX0_take_2 : decode cX0_take 2 = .ok (.iload_n 2, 1) := by decide +kernel
theorem dX0_take_3 : decode cX0_take 3 = .ok (.invokevirtual 19, 3) := by decide +kernel
theorem dX0_take_6 : decode cX0_take 6 = .ok (.aload_n 0, 1) := by decide +kernel
theorem dX0_take_7 : decode cX0_take 7 = .ok (.invokevirtual 23, 3) := by decide +kernel
theorem dX0_take_10 : decode cX0_take 10 = .ok (.aload_n 0, 1) := by decide +kernel
theorem dX0_take_11 : decode cX0_take 11 = .ok (.iconst 0, 1) := by decide +kernel
theorem dX0_take_12 : decode cX0_take 12 = .ok (.putfield 26, 3) := by decide +kernel
theorem dX0_take_15 : decode cX0_take 15 = .ok (.aload_n 0, 1) := by decide +kernel
theorem dX0_take_16 : decode cX0_take 16 = .ok (.bipush (-9), 2) := by decide +kernel
theorem dX0_take_18 : decode cX0_take 18 = .ok (.putfield 30, 3) := by decide +kernel
theorem dX0_take_21 : decode cX0_take 21 = .ok (.iconst 0, 1) := by decide +kernel
theorem dX0_take_22 : decode cX0_take 22 = .ok (.istore 4, 2) := by decide +kernel
theorem dX0_take_24 : decode cX0_take 24 = .ok (.iload 4, 2) := by decide +kernel
theorem dX0_take_26 : decode cX0_take 26 = .ok (.aload_n 1, 1) := by decide +kernel
theorem dX0_take_27 : decode cX0_take 27 = .ok (.invokevirtual 33, 3) := by decide +kernel
theorem dX0_take_30 : decode cX0_take 30 = .ok (.if_icmp .ge 66, 3) := by decide +kernel
theorem dX0_take_33 : decode cX0_take 33 = .ok (.iload 4, 2) := by decide +kernel
theorem dX0_take_35 : decode cX0_take 35 = .ok (.aload_n 0, 1) := by decide +kernel
theorem dX0_take_36 : decode cX0_take 36 = .ok (.getfield 9, 3) := by decide +kernel
theorem dX0_take_39 : decode cX0_take 39 = .ok (.arraylength, 1) := by decide +kernel
theorem dX0_take_40 : decode cX0_take 40 = .ok (.if_icmp .ge 56, 3) := by decide +kernel
theorem dX0_take_43 : decode cX0_take 43 = .ok (.aload_n 0, 1) := by decide +kernel
theorem dX0_take_44 : decode cX0_take 44 = .ok (.getfield 9, 3) := by decide +kernel
theorem dX0_take_47 : decode cX0_take 47 = .ok (.iload 4, 2) := by decide +kernel
theorem dX0_take_49 : decode cX0_take 49 = .ok (.baload, 1) := by decide +kernel
theorem dX0_take_50 : decode cX0_take 50 = .ok (.ifCond .ne 40, 3) := by decide +kernel
theorem dX0_take_53 : decode cX0_take 53 = .ok (.aload_n 0, 1) := by decide +kernel
theorem dX0_take_54 : decode cX0_take 54 = .ok (.aload_n 0, 1) := by decide +kernel
theorem dX0_take_55 : decode cX0_take 55 = .ok (.getfield 26, 3) := by decide +kernel
theorem dX0_take_58 : decode cX0_take 58 = .ok (.iload_n 3, 1) := by decide +kernel
theorem dX0_take_59 : decode cX0_take 59 = .ok (.if_icmp .ne 8, 3) := by decide +kernel
theorem dX0_take_62 : decode cX0_take 62 = .ok (.iload 4, 2) := by decide +kernel
theorem dX0_take_64 : decode cX0_take 64 = .ok (.goto 7, 3) := by decide +kernel
theorem dX0_take_67 : decode cX0_take 67 = .ok (.aload_n 0, 1) := by decide +kernel
theorem dX0_take_68 : decode cX0_take 68 = .ok (.getfield 30, 3) := by decide +kernel
theorem dX0_take_71 : decode cX0_take 71 = .ok (.putfield 30, 3) := by decide +kernel
theorem dX0_take_74 : decode cX0_take 74 = .ok (.aload_n 0, 1) := by decide +kernel
theorem dX0_take_75 : decode cX0_take 75 = .ok (.dup, 1) := by decide +kernel
theorem dX0_take_76 : decode cX0_take 76 = .ok (.getfield 26, 3) := by decide +kernel
theorem dX0_take_79 : decode cX0_take 79 = .ok (.iconst 1, 1) := by decide +kernel
theorem dX0_take_80 : decode cX0_take 80 = .ok (.iadd, 1) := by decide +kernel
theorem dX0_take_81 : decode cX0_take 81 = .ok (.putfield 26, 3) := by decide +kernel
theorem dX0_take_84 : decode cX0_take 84 = .ok (.aload_n 0, 1) := by decide +kernel
theorem dX0_take_85 : decode cX0_take 85 = .ok (.iload 4, 2) := by decide +kernel
theorem dX0_take_87 : decode cX0_take 87 = .ok (.invokevirtual 39, 3) := by decide +kernel
theorem dX0_take_90 : decode cX0_take 90 = .ok (.iinc 4 1, 3) := by decide +kernel
theorem dX0_take_93 : decode cX0_take 93 = .ok (.goto (-69), 3) := by decide +kernel
theorem dX0_take_96 : decode cX0_take 96 = .ok (.return_, 1) := by decide +kernel
theorem dX0_clearNear_0 : decode cX0_clearNear 0 = .ok (.iconst 0, 1) := by decide +kernel
theorem dX0_clearNear_1 : decode cX0_clearNear 1 = .ok (.istore_n 1, 1) := by decide +kernel
theorem dX0_clearNear_2 : decode cX0_clearNear 2 = .ok (.iload_n 1, 1) := by decide +kernel
theorem dX0_clearNear_3 : decode cX0_clearNear 3 = .ok (.aload_n 0, 1) := by decide +kernel
theorem dX0_clearNear_4 : decode cX0_clearNear 4 = .ok (.getfield 9, 3) := by decide +kernel
theorem dX0_clearNear_7 : decode cX0_clearNear 7 = .ok (.arraylength, 1) := by decide +kernel
theorem dX0_clearNear_8 : decode cX0_clearNear 8 = .ok (.if_icmp .ge 16, 3) := by decide +kernel
theorem dX0_clearNear_11 : decode cX0_clearNear 11 = .ok (.aload_n 0, 1) := by decide +kernel
theorem dX0_clearNear_12 : decode cX0_clearNear 12 = .ok (.getfield 9, 3) := by decide +kernel
theorem dX0_clearNear_15 : decode cX0_clearNear 15 = .ok (.iload_n 1, 1) := by decide +kernel
theorem dX0_clearNear_16 : decode cX0_clearNear 16 = .ok (.iconst 0, 1) := by decide +kernel
theorem dX0_clearNear_17 : decode cX0_clearNear 17 = .ok (.bastore, 1) := by decide +kernel
theorem dX0_clearNear_18 : decode cX0_clearNear 18 = .ok (.iinc 1 1, 3) := by decide +kernel
theorem dX0_clearNear_21 : decode cX0_clearNear 21 = .ok (.goto (-19), 3) := by decide +kernel
theorem dX0_clearNear_24 : decode cX0_clearNear 24 = .ok (.return_, 1) := by decide +kernel
theorem dX0_findSlips_0 : decode cX0_findSlips 0 = .ok (.aload_n 0, 1) := by decide +kernel
theorem dX0_findSlips_1 : decode cX0_findSlips 1 = .ok (.iconst 0, 1) := by decide +kernel
theorem dX0_findSlips_2 : decode cX0_findSlips 2 = .ok (.putfield 43, 3) := by decide +kernel
theorem dX0_findSlips_5 : decode cX0_findSlips 5 = .ok (.iconst 0, 1) := by decide +kernel
theorem dX0_findSlips_6 : decode cX0_findSlips 6 = .ok (.istore_n 3, 1) := by decide +kernel
theorem dX0_findSlips_7 : decode cX0_findSlips 7 = .ok (.iload_n 3, 1) := by decide +kernel
theorem dX0_findSlips_8 : decode cX0_findSlips 8 = .ok (.aload_n 1, 1) := by decide +kernel
theorem dX0_findSlips_9 : decode cX0_findSlips 9 = .ok (.invokevirtual 33, 3) := by decide +kernel
theorem dX0_findSlips_12 : decode cX0_findSlips 12 = .ok (.if_icmp .ge 49, 3) := by decide +kernel
theorem dX0_findSlips_15 : decode cX0_findSlips 15 = .ok (.aload_n 0, 1) := by decide +kernel
theorem dX0_findSlips_16 : decode cX0_findSlips 16 = .ok (.getfield 43, 3) := by decide +kernel
theorem dX0_findSlips_19 : decode cX0_findSlips 19 = .ok (.aload_n 0, 1) := by decide +kernel
theorem dX0_findSlips_20 : decode cX0_findSlips 20 = .ok (.getfield 15, 3) := by decide +kernel
theorem dX0_findSlips_23 : decode cX0_findSlips 23 = .ok (.arraylength, 1) := by decide +kernel
theorem dX0_findSlips_24 : decode cX0_findSlips 24 = .ok (.if_icmp .ge 37, 3) := by decide +kernel
theorem dX0_findSlips_27 : decode cX0_findSlips 27 = .ok (.iload_n 3, 1) := by decide +kernel
theorem dX0_findSlips_28 : decode cX0_findSlips 28 = .ok (.invokestatic 46, 3) := by decide +kernel
theorem dX0_findSlips_31 : decode cX0_findSlips 31 = .ok (.iload_n 2, 1) := by decide +kernel
theorem dX0_findSlips_32 : decode cX0_findSlips 32 = .ok (.if_icmp .ge 23, 3) := by decide +kernel
theorem dX0_findSlips_35 : decode cX0_findSlips 35 = .ok (.aload_n 0, 1) := by decide +kernel
theorem dX0_findSlips_36 : decode cX0_findSlips 36 = .ok (.getfield 15, 3) := by decide +kernel
theorem dX0_findSlips_39 : decode cX0_findSlips 39 = .ok (.aload_n 0, 1) := by decide +kernel
theorem dX0_findSlips_40 : decode cX0_findSlips 40 = .ok (.getfield 43, 3) := by decide +kernel
theorem dX0_findSlips_43 : decode cX0_findSlips 43 = .ok (.iload_n 3, 1) := by decide +kernel
theorem dX0_findSlips_44 : decode cX0_findSlips 44 = .ok (.iastore, 1) := by decide +kernel
theorem dX0_findSlips_45 : decode cX0_findSlips 45 = .ok (.aload_n 0, 1) := by decide +kernel
theorem dX0_findSlips_46 : decode cX0_findSlips 46 = .ok (.dup, 1) := by decide +kernel
theorem dX0_findSlips_47 : decode cX0_findSlips 47 = .ok (.getfield 43, 3) := by decide +kernel
theorem dX0_findSlips_50 : decode cX0_findSlips 50 = .ok (.iconst 1, 1) := by decide +kernel
theorem dX0_findSlips_51 : decode cX0_findSlips 51 = .ok (.iadd, 1) := by decide +kernel
theorem dX0_findSlips_52 : decode cX0_findSlips 52 = .ok (.putfield 43, 3) := by decide +kernel
theorem dX0_findSlips_55 : decode cX0_findSlips 55 = .ok (.iinc 3 1, 3) := by decide +kernel
theorem dX0_findSlips_58 : decode cX0_findSlips 58 = .ok (.goto (-51), 3) := by decide +kernel
theorem dX0_findSlips_61 : decode cX0_findSlips 61 = .ok (.return_, 1) := by decide +kernel
theorem dX0_barAround_0 : decode cX0_barAround 0 = .ok (.iconst 0, 1) := by decide +kernel
theorem dX0_barAround_1 : decode cX0_barAround 1 = .ok (.istore_n 2, 1) := by decide +kernel
theorem dX0_barAround_2 : decode cX0_barAround 2 = .ok (.iload_n 2, 1) := by decide +kernel
theorem dX0_barAround_3 : decode cX0_barAround 3 = .ok (.aload_n 0, 1) := by decide +kernel
theorem dX0_barAround_4 : decode cX0_barAround 4 = .ok (.getfield 43, 3) := by decide +kernel
theorem dX0_barAround_7 : decode cX0_barAround 7 = .ok (.if_icmp .ge 47, 3) := by decide +kernel
theorem dX0_barAround_10 : decode cX0_barAround 10 = .ok (.iload_n 2, 1) := by decide +kernel
theorem dX0_barAround_11 : decode cX0_barAround 11 = .ok (.aload_n 0, 1) := by decide +kernel
theorem dX0_barAround_12 : decode cX0_barAround 12 = .ok (.getfield 15, 3) := by decide +kernel
theorem dX0_barAround_15 : decode cX0_barAround 15 = .ok (.arraylength, 1) := by decide +kernel
theorem dX0_barAround_16 : decode cX0_barAround 16 = .ok (.if_icmp .ge 38, 3) := by decide +kernel
theorem dX0_barAround_19 : decode cX0_barAround 19 = .ok (.iload_n 1, 1) := by decide +kernel
theorem dX0_barAround_20 : decode cX0_barAround 20 = .ok (.aload_n 0, 1) := by decide +kernel
theorem dX0_barAround_21 : decode cX0_barAround 21 = .ok (.getfield 15, 3) := by decide +kernel
theorem dX0_barAround_24 : decode cX0_barAround 24 = .ok (.iload_n 2, 1) := by decide +kernel
theorem dX0_barAround_25 : decode cX0_barAround 25 = .ok (.iaload, 1) := by decide +kernel
theorem dX0_barAround_26 : decode cX0_barAround 26 = .ok (.ixor, 1) := by decide +kernel
theorem dX0_barAround_27 : decode cX0_barAround 27 = .ok (.istore_n 3, 1) := by decide +kernel
theorem dX0_barAround_28 : decode cX0_barAround 28 = .ok (.iload_n 3, 1) := by decide +kernel
theorem dX0_barAround_29 : decode cX0_barAround 29 = .ok (.ifCond .lt 19, 3) := by decide +kernel
theorem dX0_barAround_32 : decode cX0_barAround 32 = .ok (.iload_n 3, 1) := by decide +kernel
theorem dX0_barAround_33 : decode cX0_barAround 33 = .ok (.aload_n 0, 1) := by decide +kernel
theorem dX0_barAround_34 : decode cX0_barAround 34 = .ok (.getfield 9, 3) := by decide +kernel
theorem dX0_barAround_37 : decode cX0_barAround 37 = .ok (.arraylength, 1) := by decide +kernel
theorem dX0_barAround_38 : decode cX0_barAround 38 = .ok (.if_icmp .ge 10, 3) := by decide +kernel
theorem dX0_barAround_41 : decode cX0_barAround 41 = .ok (.aload_n 0, 1) := by decide +kernel
theorem dX0_barAround_42 : decode cX0_barAround 42 = .ok (.getfield 9, 3) := by decide +kernel
theorem dX0_barAround_45 : decode cX0_barAround 45 = .ok (.iload_n 3, 1) := by decide +kernel
theorem dX0_barAround_46 : decode cX0_barAround 46 = .ok (.iconst 1, 1) := by decide +kernel
theorem dX0_barAround_47 : decode cX0_barAround 47 = .ok (.bastore, 1) := by decide +kernel
theorem dX0_barAround_48 : decode cX0_barAround 48 = .ok (.iinc 2 1, 3) := by decide +kernel
theorem dX0_barAround_51 : decode cX0_barAround 51 = .ok (.goto (-49), 3) := by decide +kernel
theorem dX0_barAround_54 : decode cX0_barAround 54 = .ok (.return_, 1) := by decide +kernel
theorem dX1_init_0 : decode cX1_init 0 = .ok (.aload_n 0, 1) := by decide +kernel
theorem dX1_init_1 : decode cX1_init 1 = .ok (.invokespecial 3, 3) := by decide +kernel
theorem dX1_init_4 : decode cX1_init 4 = .ok (.aload_n 0, 1) := by decide +kernel
theorem dX1_init_5 : decode cX1_init 5 = .ok (.bipush 9, 2) := by decide +kernel
theorem dX1_init_7 : decode cX1_init 7 = .ok (.newarray .int, 2) := by decide +kernel
theorem dX1_init_9 : decode cX1_init 9 = .ok (.putfield 9, 3) := by decide +kernel
theorem dX1_init_12 : decode cX1_init 12 = .ok (.return_, 1) := by decide +kernel
theorem dX1_look_0 : decode cX1_look 0 = .ok (.aload_n 0, 1) := by decide +kernel
theorem dX1_look_1 : decode cX1_look 1 = .ok (.aload_n 1, 1) := by decide +kernel
theorem dX1_look_2 : decode cX1_look 2 = .ok (.getfield 15, 3) := by decide +kernel
theorem dX1_look_5 : decode cX1_look 5 = .ok (.iconst 3, 1) := by decide +kernel
theorem dX1_look_6 : decode cX1_look 6 = .ok (.invokestatic 21, 3) := by decide +kernel
theorem dX1_look_9 : decode cX1_look 9 = .ok (.putfield 27, 3) := by decide +kernel
theorem dX1_look_12 : decode cX1_look 12 = .ok (.iconst 0, 1) := by decide +kernel
theorem dX1_look_13 : decode cX1_look 13 = .ok (.istore 6, 2) := by decide +kernel
theorem dX1_look_15 : decode cX1_look 15 = .ok (.iload 6, 2) := by decide +kernel
theorem dX1_look_17 : decode cX1_look 17 = .ok (.aload_n 0, 1) := by decide +kernel
theorem dX1_look_18 : decode cX1_look 18 = .ok (.getfield 27, 3) := by decide +kernel
theorem dX1_look_21 : decode cX1_look 21 = .ok (.if_icmp .ge 86, 3) := by decide +kernel
theorem dX1_look_24 : decode cX1_look 24 = .ok (.aload_n 1, 1) := by decide +kernel
theorem dX1_look_25 : decode cX1_look 25 = .ok (.iload 6, 2) := by decide +kernel
theorem dX1_look_27 : decode cX1_look 27 = .ok (.aload_n 1, 1) := by decide +kernel
theorem dX1_look_28 : decode cX1_look 28 = .ok (.getfield 30, 3) := by decide +kernel
theorem dX1_look_31 : decode cX1_look 31 = .ok (.invokevirtual 34, 3) := by decide +kernel
theorem dX1_look_34 : decode cX1_look 34 = .ok (.iload_n 2, 1) := by decide +kernel
theorem dX1_look_35 : decode cX1_look 35 = .ok (.iload_n 3, 1) := by decide +kernel
theorem dX1_look_36 : decode cX1_look 36 = .ok (.invokevirtual 40, 3) := by decide +kernel
theorem dX1_look_39 : decode cX1_look 39 = .ok (.istore 7, 2) := by decide +kernel
theorem dX1_look_41 : decode cX1_look 41 = .ok (.iconst 0, 1) := by decide +kernel
theorem dX1_look_42 : decode cX1_look 42 = .ok (.istore 8, 2) := by decide +kernel
theorem dX1_look_44 : decode cX1_look 44 = .ok (.iload 8, 2) := by decide +kernel
theorem dX1_look_46 : decode cX1_look 46 = .ok (.aload_n 0, 1) := by decide +kernel
theorem dX1_look_47 : decode cX1_look 47 = .ok (.getfield 27, 3) := by decide +kernel
theorem dX1_look_50 : decode cX1_look 50 = .ok (.if_icmp .ge 51, 3) := by decide +kernel
theorem dX1_look_53 : decode cX1_look 53 = .ok (.iload 6, 2) := by decide +kernel
theorem dX1_look_55 : decode cX1_look 55 = .ok (.iconst 3, 1) := by decide +kernel
theorem dX1_look_56 : decode cX1_look 56 = .ok (.imul, 1) := by decide +kernel
theorem dX1_look_57 : decode cX1_look 57 = .ok (.iload 8, 2) := by decide +kernel
theorem dX1_look_59 : decode cX1_look 59 = .ok (.iadd, 1) := by decide +kernel
theorem dX1_look_60 : decode cX1_look 60 = .ok (.istore 9, 2) := by decide +kernel
theorem dX1_look_62 : decode cX1_look 62 = .ok (.iload 9, 2) := by decide +kernel
theorem dX1_look_64 : decode cX1_look 64 = .ok (.aload_n 0, 1) := by decide +kernel
theorem dX1_look_65 : decode cX1_look 65 = .ok (.getfield 9, 3) := by decide +kernel
theorem dX1_look_68 : decode cX1_look 68 = .ok (.arraylength, 1) := by decide +kernel
theorem dX1_look_69 : decode cX1_look 69 = .ok (.if_icmp .ge 26, 3) := by decide +kernel
theorem dX1_look_72 : decode cX1_look 72 = .ok (.aload_n 0, 1) := by decide +kernel
theorem dX1_look_73 : decode cX1_look 73 = .ok (.getfield 9, 3) := by decide +kernel
theorem dX1_look_76 : decode cX1_look 76 = .ok (.iload 9, 2) := by decide +kernel
theorem dX1_look_78 : decode cX1_look 78 = .ok (.aload_n 1, 1) := by decide +kernel
theorem dX1_look_79 : decode cX1_look 79 = .ok (.aload_n 1, 1) := by decide +kernel
theorem dX1_look_80 : decode cX1_look 80 = .ok (.iload 8, 2) := by decide +kernel
theorem dX1_look_82 : decode cX1_look 82 = .ok (.iload 7, 2) := by decide +kernel
theorem dX1_look_84 : decode cX1_look 84 = .ok (.iload 4, 2) := by decide +kernel
theorem dX1_look_86 : decode cX1_look 86 = .ok (.iload 5, 2) := by decide +kernel
theorem dX1_look_88 : decode cX1_look 88 = .ok (.invokevirtual 40, 3) := by decide +kernel
theorem dX1_look_91 : decode cX1_look 91 = .ok (.invokevirtual 44, 3) := by decide +kernel
theorem dX1_look_94 : decode cX1_look 94 = .ok (.iastore, 1) := by decide +kernel
theorem dX1_look_95 : decode cX1_look 95 = .ok (.iinc 8 1, 3) := by decide +kernel
theorem dX1_look_98 : decode cX1_look 98 = .ok (.goto (-54), 3) := by decide +kernel
theorem dX1_look_101 : decode cX1_look 101 = .ok (.iinc 6 1, 3) := by decide +kernel
theorem dX1_look_104 : decode cX1_look 104 = .ok (.goto (-89), 3) := by decide +kernel
theorem dX1_look_107 : decode cX1_look 107 = .ok (.return_, 1) := by decide +kernel
theorem dX1_rightBy_0 : decode cX1_rightBy 0 = .ok (.iload_n 1, 1) := by decide +kernel
theorem dX1_rightBy_1 : decode cX1_rightBy 1 = .ok (.iconst 3, 1) := by decide +kernel
theorem dX1_rightBy_2 : decode cX1_rightBy 2 = .ok (.imul, 1) := by decide +kernel
theorem dX1_rightBy_3 : decode cX1_rightBy 3 = .ok (.iload_n 2, 1) := by decide +kernel
theorem dX1_rightBy_4 : decode cX1_rightBy 4 = .ok (.iadd, 1) := by decide +kernel
theorem dX1_rightBy_5 : decode cX1_rightBy 5 = .ok (.istore_n 3, 1) := by decide +kernel
theorem dX1_rightBy_6 : decode cX1_rightBy 6 = .ok (.iload_n 3, 1) := by decide +kernel
theorem dX1_rightBy_7 : decode cX1_rightBy 7 = .ok (.ifCond .lt 21, 3) := by decide +kernel
theorem dX1_rightBy_10 : decode cX1_rightBy 10 = .ok (.iload_n 3, 1) := by decide +kernel
theorem dX1_rightBy_11 : decode cX1_rightBy 11 = .ok (.aload_n 0, 1) := by decide +kernel
theorem dX1_rightBy_12 : decode cX1_rightBy 12 = .ok (.getfield 9, 3) := by decide +kernel
theorem dX1_rightBy_15 : decode cX1_rightBy 15 = .ok (.arraylength, 1) := by decide +kernel
theorem dX1_rightBy_16 : decode cX1_rightBy 16 = .ok (.if_icmp .ge 12, 3) := by decide +kernel
theorem dX1_rightBy_19 : decode cX1_rightBy 19 = .ok (.aload_n 0, 1) := by decide +kernel
theorem dX1_rightBy_20 : decode cX1_rightBy 20 = .ok (.getfield 9, 3) := by decide +kernel
theorem dX1_rightBy_23 : decode cX1_rightBy 23 = .ok (.iload_n 3, 1) := by decide +kernel
theorem dX1_rightBy_24 : decode cX1_rightBy 24 = .ok (.iaload, 1) := by decide +kernel
theorem dX1_rightBy_25 : decode cX1_rightBy 25 = .ok (.goto 4, 3) := by decide +kernel
theorem dX1_rightBy_28 : decode cX1_rightBy 28 = .ok (.iconst 0, 1) := by decide +kernel
theorem dX1_rightBy_29 : decode cX1_rightBy 29 = .ok (.ireturn, 1) := by decide +kernel
theorem dX1_isAtRest_0 : decode cX1_isAtRest 0 = .ok (.aload_n 0, 1) := by decide +kernel
theorem dX1_isAtRest_1 : decode cX1_isAtRest 1 = .ok (.iload_n 1, 1) := by decide +kernel
theorem dX1_isAtRest_2 : decode cX1_isAtRest 2 = .ok (.iload_n 2, 1) := by decide +kernel
theorem dX1_isAtRest_3 : decode cX1_isAtRest 3 = .ok (.invokevirtual 48, 3) := by decide +kernel
theorem dX1_isAtRest_6 : decode cX1_isAtRest 6 = .ok (.istore_n 3, 1) := by decide +kernel
theorem dX1_isAtRest_7 : decode cX1_isAtRest 7 = .ok (.iconst 0, 1) := by decide +kernel
theorem dX1_isAtRest_8 : decode cX1_isAtRest 8 = .ok (.istore 4, 2) := by decide +kernel
theorem dX1_isAtRest_10 : decode cX1_isAtRest 10 = .ok (.iload 4, 2) := by decide +kernel
theorem dX1_isAtRest_12 : decode cX1_isAtRest 12 = .ok (.aload_n 0, 1) := by decide +kernel
theorem dX1_isAtRest_13 : decode cX1_isAtRest 13 = .ok (.getfield 27, 3) := by decide +kernel
theorem dX1_isAtRest_16 : decode cX1_isAtRest 16 = .ok (.if_icmp .ge 33, 3) := by decide +kernel
theorem dX1_isAtRest_19 : decode cX1_isAtRest 19 = .ok (.aload_n 0, 1) := by decide +kernel
theorem dX1_isAtRest_20 : decode cX1_isAtRest 20 = .ok (.iload 4, 2) := by decide +kernel
theorem dX1_isAtRest_22 : decode cX1_isAtRest 22 = .ok (.iload_n 2, 1) := by decide +kernel
theorem dX1_isAtRest_23 : decode cX1_isAtRest 23 = .ok (.invokevirtual 48, 3) := by decide +kernel
theorem dX1_isAtRest_26 : decode cX1_isAtRest 26 = .ok (.iload_n 3, 1) := by decide +kernel
theorem dX1_isAtRest_27 : decode cX1_isAtRest 27 = .ok (.if_icmp .gt 14, 3) := by decide +kernel
theorem dX1_isAtRest_30 : decode cX1_isAtRest 30 = .ok (.aload_n 0, 1) := by decide +kernel
theorem dX1_isAtRest_31 : decode cX1_isAtRest 31 = .ok (.iload_n 1, 1) := by decide +kernel
theorem dX1_isAtRest_32 : decode cX1_isAtRest 32 = .ok (.iload 4, 2) := by decide +kernel
theorem dX1_isAtRest_34 : decode cX1_isAtRest 34 = .ok (.invokevirtual 48, 3) := by decide +kernel
theorem dX1_isAtRest_37 : decode cX1_isAtRest 37 = .ok (.iload_n 3, 1) := by decide +kernel
theorem dX1_isAtRest_38 : decode cX1_isAtRest 38 = .ok (.if_icmp .ge 5, 3) := by decide +kernel
theorem dX1_isAtRest_41 : decode cX1_isAtRest 41 = .ok (.iconst 0, 1) := by decide +kernel
theorem dX1_isAtRest_42 : decode cX1_isAtRest 42 = .ok (.ireturn, 1) := by decide +kernel
theorem dX1_isAtRest_43 : decode cX1_isAtRest 43 = .ok (.iinc 4 1, 3) := by decide +kernel
theorem dX1_isAtRest_46 : decode cX1_isAtRest 46 = .ok (.goto (-36), 3) := by decide +kernel
theorem dX1_isAtRest_49 : decode cX1_isAtRest 49 = .ok (.iconst 1, 1) := by decide +kernel
theorem dX1_isAtRest_50 : decode cX1_isAtRest 50 = .ok (.ireturn, 1) := by decide +kernel
theorem dX1_restsInAll_0 : decode cX1_restsInAll 0 = .ok (.iconst 0, 1) := by decide +kernel
theorem dX1_restsInAll_1 : decode cX1_restsInAll 1 = .ok (.istore_n 1, 1) := by decide +kernel
theorem dX1_restsInAll_2 : decode cX1_restsInAll 2 = .ok (.iconst 0, 1) := by decide +kernel
theorem dX1_restsInAll_3 : decode cX1_restsInAll 3 = .ok (.istore_n 2, 1) := by decide +kernel
theorem dX1_restsInAll_4 : decode cX1_restsInAll 4 = .ok (.iload_n 2, 1) := by decide +kernel
theorem dX1_restsInAll_5 : decode cX1_restsInAll 5 = .ok (.aload_n 0, 1) := by decide +kernel
theorem dX1_restsInAll_6 : decode cX1_restsInAll 6 = .ok (.getfield 27, 3) := by decide +kernel
theorem dX1_restsInAll_9 : decode cX1_restsInAll 9 = .ok (.if_icmp .ge 42, 3) := by decide +kernel
theorem dX1_restsInAll_12 : decode cX1_restsInAll 12 = .ok (.iconst 0, 1) := by decide +kernel
theorem dX1_restsInAll_13 : decode cX1_restsInAll 13 = .ok (.istore_n 3, 1) := by decide +kernel
theorem dX1_restsInAll_14 : decode cX1_restsInAll 14 = .ok (.iload_n 3, 1) := by decide +kernel
theorem dX1_restsInAll_15 : decode cX1_restsInAll 15 = .ok (.aload_n 0, 1) := by decide +kernel
theorem dX1_restsInAll_16 : decode cX1_restsInAll 16 = .ok (.getfield 27, 3) := by decide +kernel
theorem dX1_restsInAll_19 : decode cX1_restsInAll 19 = .ok (.if_icmp .ge 26, 3) := by decide +kernel
theorem dX1_restsInAll_22 : decode cX1_restsInAll 22 = .ok (.iload_n 1, 1) := by decide +kernel
theorem dX1_restsInAll_23 : decode cX1_restsInAll 23 = .ok (.aload_n 0, 1) := by decide +kernel
theorem dX1_restsInAll_24 : decode cX1_restsInAll 24 = .ok (.iload_n 2, 1) := by decide +kernel
theorem dX1_restsInAll_25 : decode cX1_restsInAll 25 = .ok (.iload_n 3, 1) := by decide +kernel
theorem dX1_restsInAll_26 : decode cX1_restsInAll 26 = .ok (.invokevirtual 51, 3) := by decide +kernel
theorem dX1_restsInAll_29 : decode cX1_restsInAll 29 = .ok (.ifCond .eq 7, 3) := by decide +kernel
theorem dX1_restsInAll_32 : decode cX1_restsInAll 32 = .ok (.iconst 1, 1) := by decide +kernel
theorem dX1_restsInAll_33 : decode cX1_restsInAll 33 = .ok (.goto 4, 3) := by decide +kernel
theorem dX1_restsInAll_36 : decode cX1_restsInAll 36 = .ok (.iconst 0, 1) := by decide +kernel
theorem dX1_restsInAll_37 : decode cX1_restsInAll 37 = .ok (.iadd, 1) := by decide +kernel
theorem dX1_restsInAll_38 : decode cX1_restsInAll 38 = .ok (.istore_n 1, 1) := by decide +kernel
theorem dX1_restsInAll_39 : decode cX1_restsInAll 39 = .ok (.iinc 3 1, 3) := by decide +kernel
theorem dX1_restsInAll_42 : decode cX1_restsInAll 42 = .ok (.goto (-28), 3) := by decide +kernel
theorem dX1_restsInAll_45 : decode cX1_restsInAll 45 = .ok (.iinc 2 1, 3) := by decide +kernel
theorem dX1_restsInAll_48 : decode cX1_restsInAll 48 = .ok (.goto (-44), 3) := by decide +kernel
theorem dX1_restsInAll_51 : decode cX1_restsInAll 51 = .ok (.iload_n 1, 1) := by decide +kernel
theorem dX1_restsInAll_52 : decode cX1_restsInAll 52 = .ok (.ireturn, 1) := by decide +kernel
theorem dX1_leastRest_0 : decode cX1_leastRest 0 = .ok (.iconst 0, 1) := by decide +kernel
theorem dX1_leastRest_1 : decode cX1_leastRest 1 = .ok (.istore_n 1, 1) := by decide +kernel
theorem dX1_leastRest_2 : decode cX1_leastRest 2 = .ok (.iload_n 1, 1) := by decide +kernel
theorem dX1_leastRest_3 : decode cX1_leastRest 3 = .ok (.aload_n 0, 1) := by decide +kernel
theorem dX1_leastRest_4 : decode cX1_leastRest 4 = .ok (.getfield 27, 3) := by decide +kernel
theorem dX1_leastRest_7 : decode cX1_leastRest 7 = .ok (.if_icmp .ge 41, 3) := by decide +kernel
theorem dX1_leastRest_10 : decode cX1_leastRest 10 = .ok (.iconst 0, 1) := by decide +kernel
theorem dX1_leastRest_11 : decode cX1_leastRest 11 = .ok (.istore_n 2, 1) := by decide +kernel
theorem dX1_leastRest_12 : decode cX1_leastRest 12 = .ok (.iload_n 2, 1) := by decide +kernel
theorem dX1_leastRest_13 : decode cX1_leastRest 13 = .ok (.aload_n 0, 1) := by decide +kernel
theorem dX1_leastRest_14 : decode cX1_leastRest 14 = .ok (.getfield 27, 3) := by decide +kernel
theorem dX1_leastRest_17 : decode cX1_leastRest 17 = .ok (.if_icmp .ge 25, 3) := by decide +kernel
theorem dX1_leastRest_20 : decode cX1_leastRest 20 = .ok (.aload_n 0, 1) := by decide +kernel
theorem dX1_leastRest_21 : decode cX1_leastRest 21 = .ok (.iload_n 1, 1) := by decide +kernel
theorem dX1_leastRest_22 : decode cX1_leastRest 22 = .ok (.iload_n 2, 1) := by decide +kernel
theorem dX1_leastRest_23 : decode cX1_leastRest 23 = .ok (.invokevirtual 51, 3) := by decide +kernel
theorem dX1_leastRest_26 : decode cX1_leastRest 26 = .ok (.ifCond .eq 10, 3) := by decide +kernel
theorem dX1_leastRest_29 : decode cX1_leastRest 29 = .ok (.bipush 10, 2) := by decide +kernel
theorem dX1_leastRest_31 : decode cX1_leastRest 31 = .ok (.iload_n 1, 1) := by decide +kernel
theorem dX1_leastRest_32 : decode cX1_leastRest 32 = .ok (.imul, 1) := by decide +kernel
theorem dX1_leastRest_33 : decode cX1_leastRest 33 = .ok (.iload_n 2, 1) := by decide +kernel
theorem dX1_leastRest_34 : decode cX1_leastRest 34 = .ok (.iadd, 1) := by decide +kernel
theorem dX1_leastRest_35 : decode cX1_leastRest 35 = .ok (.ireturn, 1) := by decide +kernel
theorem dX1_leastRest_36 : decode cX1_leastRest 36 = .ok (.iinc 2 1, 3) := by decide +kernel
theorem dX1_leastRest_39 : decode cX1_leastRest 39 = .ok (.goto (-27), 3) := by decide +kernel
theorem dX1_leastRest_42 : decode cX1_leastRest 42 = .ok (.iinc 1 1, 3) := by decide +kernel
theorem dX1_leastRest_45 : decode cX1_leastRest 45 = .ok (.goto (-43), 3) := by decide +kernel
theorem dX1_leastRest_48 : decode cX1_leastRest 48 = .ok (.bipush (-9), 2) := by decide +kernel
theorem dX1_leastRest_50 : decode cX1_leastRest 50 = .ok (.ireturn, 1) := by decide +kernel
theorem dX2_init_0 : decode cX2_init 0 = .ok (.aload_n 0, 1) := by decide +kernel
theorem dX2_init_1 : decode cX2_init 1 = .ok (.invokespecial 3, 3) := by decide +kernel
theorem dX2_init_4 : decode cX2_init 4 = .ok (.aload_n 0, 1) := by decide +kernel
theorem dX2_init_5 : decode cX2_init 5 = .ok (.iconst 3, 1) := by decide +kernel
theorem dX2_init_6 : decode cX2_init 6 = .ok (.newarray .int, 2) := by decide +kernel
theorem dX2_init_8 : decode cX2_init 8 = .ok (.putfield 9, 3) := by decide +kernel
theorem dX2_init_11 : decode cX2_init 11 = .ok (.return_, 1) := by decide +kernel
theorem dX2_tenTo_0 : decode cX2_tenTo 0 = .ok (.iconst 1, 1) := by decide +kernel
theorem dX2_tenTo_1 : decode cX2_tenTo 1 = .ok (.istore_n 1, 1) := by decide +kernel
theorem dX2_tenTo_2 : decode cX2_tenTo 2 = .ok (.iconst 0, 1) := by decide +kernel
theorem dX2_tenTo_3 : decode cX2_tenTo 3 = .ok (.istore_n 2, 1) := by decide +kernel
theorem dX2_tenTo_4 : decode cX2_tenTo 4 = .ok (.iload_n 2, 1) := by decide +kernel
theorem dX2_tenTo_5 : decode cX2_tenTo 5 = .ok (.iload_n 0, 1) := by decide +kernel
theorem dX2_tenTo_6 : decode cX2_tenTo 6 = .ok (.if_icmp .ge 19, 3) := by decide +kernel
theorem dX2_tenTo_9 : decode cX2_tenTo 9 = .ok (.iload_n 2, 1) := by decide +kernel
theorem dX2_tenTo_10 : decode cX2_tenTo 10 = .ok (.iconst 4, 1) := by decide +kernel
theorem dX2_tenTo_11 : decode cX2_tenTo 11 = .ok (.if_icmp .ge 14, 3) := by decide +kernel
theorem dX2_tenTo_14 : decode cX2_tenTo 14 = .ok (.iload_n 1, 1) := by decide +kernel
theorem dX2_tenTo_15 : decode cX2_tenTo 15 = .ok (.bipush 10, 2) := by decide +kernel
theorem dX2_tenTo_17 : decode cX2_tenTo 17 = .ok (.imul, 1) := by decide +kernel
theorem dX2_tenTo_18 : decode cX2_tenTo 18 = .ok (.istore_n 1, 1) := by decide +kernel
theorem dX2_tenTo_19 : decode cX2_tenTo 19 = .ok (.iinc 2 1, 3) := by decide +kernel
theorem dX2_tenTo_22 : decode cX2_tenTo 22 = .ok (.goto (-18), 3) := by decide +kernel
theorem dX2_tenTo_25 : decode cX2_tenTo 25 = .ok (.iload_n 1, 1) := by decide +kernel
theorem dX2_tenTo_26 : decode cX2_tenTo 26 = .ok (.ireturn, 1) := by decide +kernel
theorem dX2_ofTruth_0 : decode cX2_ofTruth 0 = .ok (.aload_n 1, 1) := by decide +kernel
theorem dX2_ofTruth_1 : decode cX2_ofTruth 1 = .ok (.aload_n 1, 1) := by decide +kernel
theorem dX2_ofTruth_2 : decode cX2_ofTruth 2 = .ok (.getfield 15, 3) := by decide +kernel
theorem dX2_ofTruth_5 : decode cX2_ofTruth 5 = .ok (.invokevirtual 21, 3) := by decide +kernel
theorem dX2_ofTruth_8 : decode cX2_ofTruth 8 = .ok (.aload_n 1, 1) := by decide +kernel
theorem dX2_ofTruth_9 : decode cX2_ofTruth 9 = .ok (.getfield 15, 3) := by decide +kernel
theorem dX2_ofTruth_12 : decode cX2_ofTruth 12 = .ok (.iload_n 2, 1) := by decide +kernel
theorem dX2_ofTruth_13 : decode cX2_ofTruth 13 = .ok (.invokevirtual 27, 3) := by decide +kernel
theorem dX2_ofTruth_16 : decode cX2_ofTruth 16 = .ok (.iload_n 3, 1) := by decide +kernel
theorem dX2_ofTruth_17 : decode cX2_ofTruth 17 = .ok (.iload 4, 2) := by decide +kernel
theorem dX2_ofTruth_19 : decode cX2_ofTruth 19 = .ok (.invokestatic 31, 3) := by decide +kernel
theorem dX2_ofTruth_22 : decode cX2_ofTruth 22 = .ok (.ireturn, 1) := by decide +kernel
theorem dX2_waysToTruth_0 : decode cX2_waysToTruth 0 = .ok (.iload_n 1, 1) := by decide +kernel
theorem dX2_waysToTruth_1 : decode cX2_waysToTruth 1 = .ok (.aload_n 0, 1) := by decide +kernel
theorem dX2_waysToTruth_2 : decode cX2_waysToTruth 2 = .ok (.getfield 35, 3) := by decide +kernel
theorem dX2_waysToTruth_5 : decode cX2_waysToTruth 5 = .ok (.if_icmp .ne 8, 3) := by decide +kernel
theorem dX2_waysToTruth_8 : decode cX2_waysToTruth 8 = .ok (.iload_n 3, 1) := by decide +kernel
theorem dX2_waysToTruth_9 : decode cX2_waysToTruth 9 = .ok (.invokestatic 39, 3) := by decide +kernel
theorem dX2_waysToTruth_12 : decode cX2_waysToTruth 12 = .ok (.ireturn, 1) := by decide +kernel
theorem dX2_waysToTruth_13 : decode cX2_waysToTruth 13 = .ok (.iload_n 3, 1) := by decide +kernel
theorem dX2_waysToTruth_14 : decode cX2_waysToTruth 14 = .ok (.ifCond .gt 5, 3) := by decide +kernel
theorem dX2_waysToTruth_17 : decode cX2_waysToTruth 17 = .ok (.iconst 0, 1) := by decide +kernel
theorem dX2_waysToTruth_18 : decode cX2_waysToTruth 18 = .ok (.ireturn, 1) := by decide +kernel
theorem dX2_waysToTruth_19 : decode cX2_waysToTruth 19 = .ok (.aload_n 0, 1) := by decide +kernel
theorem dX2_waysToTruth_20 : decode cX2_waysToTruth 20 = .ok (.iload_n 1, 1) := by decide +kernel
theorem dX2_waysToTruth_21 : decode cX2_waysToTruth 21 = .ok (.invokestatic 42, 3) := by decide +kernel
theorem dX2_waysToTruth_24 : decode cX2_waysToTruth 24 = .ok (.istore 5, 2) := by decide +kernel
theorem dX2_waysToTruth_26 : decode cX2_waysToTruth 26 = .ok (.aload_n 0, 1) := by decide +kernel
theorem dX2_waysToTruth_27 : decode cX2_waysToTruth 27 = .ok (.getfield 46, 3) := by decide +kernel
theorem dX2_waysToTruth_30 : decode cX2_waysToTruth 30 = .ok (.aload_n 0, 1) := by decide +kernel
theorem dX2_waysToTruth_31 : decode cX2_waysToTruth 31 = .ok (.getfield 35, 3) := by decide +kernel
theorem dX2_waysToTruth_34 : decode cX2_waysToTruth 34 = .ok (.iload 5, 2) := by decide +kernel
theorem dX2_waysToTruth_36 : decode cX2_waysToTruth 36 = .ok (.invokevirtual 50, 3) := by decide +kernel
theorem dX2_waysToTruth_39 : decode cX2_waysToTruth 39 = .ok (.istore 6, 2) := by decide +kernel
theorem dX2_waysToTruth_41 : decode cX2_waysToTruth 41 = .ok (.aload_n 0, 1) := by decide +kernel
theorem dX2_waysToTruth_42 : decode cX2_waysToTruth 42 = .ok (.getfield 46, 3) := by decide +kernel
theorem dX2_waysToTruth_45 : decode cX2_waysToTruth 45 = .ok (.iload_n 2, 1) := by decide +kernel
theorem dX2_waysToTruth_46 : decode cX2_waysToTruth 46 = .ok (.iload_n 1, 1) := by decide +kernel
theorem dX2_waysToTruth_47 : decode cX2_waysToTruth 47 = .ok (.iload 5, 2) := by decide +kernel
theorem dX2_waysToTruth_49 : decode cX2_waysToTruth 49 = .ok (.iload 6, 2) := by decide +kernel
theorem dX2_waysToTruth_51 : decode cX2_waysToTruth 51 = .ok (.invokevirtual 56, 3) := by decide +kernel
theorem dX2_waysToTruth_54 : decode cX2_waysToTruth 54 = .ok (.istore 7, 2) := by decide +kernel
theorem dX2_waysToTruth_56 : decode cX2_waysToTruth 56 = .ok (.aload_n 0, 1) := by decide +kernel
theorem dX2_waysToTruth_57 : decode cX2_waysToTruth 57 = .ok (.getfield 46, 3) := by decide +kernel
theorem dX2_waysToTruth_60 : decode cX2_waysToTruth 60 = .ok (.iconst 0, 1) := by decide +kernel
theorem dX2_waysToTruth_61 : decode cX2_waysToTruth 61 = .ok (.iload_n 1, 1) := by decide +kernel
theorem dX2_waysToTruth_62 : decode cX2_waysToTruth 62 = .ok (.iload 5, 2) := by decide +kernel
theorem dX2_waysToTruth_64 : decode cX2_waysToTruth 64 = .ok (.iload 6, 2) := by decide +kernel
theorem dX2_waysToTruth_66 : decode cX2_waysToTruth 66 = .ok (.invokevirtual 56, 3) := by decide +kernel
theorem dX2_waysToTruth_69 : decode cX2_waysToTruth 69 = .ok (.istore 8, 2) := by decide +kernel
theorem dX2_waysToTruth_71 : decode cX2_waysToTruth 71 = .ok (.iload 4, 2) := by decide +kernel
theorem dX2_waysToTruth_73 : decode cX2_waysToTruth 73 = .ok (.aload_n 0, 1) := by decide +kernel
theorem dX2_waysToTruth_74 : decode cX2_waysToTruth 74 = .ok (.iload 7, 2) := by decide +kernel
theorem dX2_waysToTruth_76 : decode cX2_waysToTruth 76 = .ok (.iload_n 2, 1) := by decide +kernel
theorem dX2_waysToTruth_77 : decode cX2_waysToTruth 77 = .ok (.iload_n 3, 1) := by decide +kernel
theorem dX2_waysToTruth_78 : decode cX2_waysToTruth 78 = .ok (.iconst 1, 1) := by decide +kernel
theorem dX2_waysToTruth_79 : decode cX2_waysToTruth 79 = .ok (.isub, 1) := by decide +kernel
theorem dX2_waysToTruth_80 : decode cX2_waysToTruth 80 = .ok (.iload 4, 2) := by decide +kernel
theorem dX2_waysToTruth_82 : decode cX2_waysToTruth 82 = .ok (.invokestatic 31, 3) := by decide +kernel
theorem dX2_waysToTruth_85 : decode cX2_waysToTruth 85 = .ok (.imul, 1) := by decide +kernel
theorem dX2_waysToTruth_86 : decode cX2_waysToTruth 86 = .ok (.bipush 10, 2) := by decide +kernel
theorem dX2_waysToTruth_88 : decode cX2_waysToTruth 88 = .ok (.iload 4, 2) := by decide +kernel
theorem dX2_waysToTruth_90 : decode cX2_waysToTruth 90 = .ok (.isub, 1) := by decide +kernel
theorem dX2_waysToTruth_91 : decode cX2_waysToTruth 91 = .ok (.aload_n 0, 1) := by decide +kernel
theorem dX2_waysToTruth_92 : decode cX2_waysToTruth 92 = .ok (.iload 8, 2) := by decide +kernel
theorem dX2_waysToTruth_94 : decode cX2_waysToTruth 94 = .ok (.iload_n 2, 1) := by decide +kernel
theorem dX2_waysToTruth_95 : decode cX2_waysToTruth 95 = .ok (.iload_n 3, 1) := by decide +kernel
theorem dX2_waysToTruth_96 : decode cX2_waysToTruth 96 = .ok (.iconst 1, 1) := by decide +kernel
theorem dX2_waysToTruth_97 : decode cX2_waysToTruth 97 = .ok (.isub, 1) := by decide +kernel
theorem dX2_waysToTruth_98 : decode cX2_waysToTruth 98 = .ok (.iload 4, 2) := by decide +kernel
theorem dX2_waysToTruth_100 : decode cX2_waysToTruth 100 = .ok (.invokestatic 31, 3) := by decide +kernel
theorem dX2_waysToTruth_103 : decode cX2_waysToTruth 103 = .ok (.imul, 1) := by decide +kernel
theorem dX2_waysToTruth_104 : decode cX2_waysToTruth 104 = .ok (.iadd, 1) := by decide +kernel
theorem dX2_waysToTruth_105 : decode cX2_waysToTruth 105 = .ok (.ireturn, 1) := by decide +kernel
theorem dX2_leastWrong_0 : decode cX2_leastWrong 0 = .ok (.iconst 0, 1) := by decide +kernel
theorem dX2_leastWrong_1 : decode cX2_leastWrong 1 = .ok (.istore_n 2, 1) := by decide +kernel
theorem dX2_leastWrong_2 : decode cX2_leastWrong 2 = .ok (.iload_n 2, 1) := by decide +kernel
theorem dX2_leastWrong_3 : decode cX2_leastWrong 3 = .ok (.aload_n 0, 1) := by decide +kernel
theorem dX2_leastWrong_4 : decode cX2_leastWrong 4 = .ok (.getfield 46, 3) := by decide +kernel
theorem dX2_leastWrong_7 : decode cX2_leastWrong 7 = .ok (.getfield 60, 3) := by decide +kernel
theorem dX2_leastWrong_10 : decode cX2_leastWrong 10 = .ok (.iconst 1, 1) := by decide +kernel
theorem dX2_leastWrong_11 : decode cX2_leastWrong 11 = .ok (.isub, 1) := by decide +kernel
theorem dX2_leastWrong_12 : decode cX2_leastWrong 12 = .ok (.if_icmp .ge 33, 3) := by decide +kernel
theorem dX2_leastWrong_15 : decode cX2_leastWrong 15 = .ok (.aload_n 0, 1) := by decide +kernel
theorem dX2_leastWrong_16 : decode cX2_leastWrong 16 = .ok (.getfield 46, 3) := by decide +kernel
theorem dX2_leastWrong_19 : decode cX2_leastWrong 19 = .ok (.iload_n 1, 1) := by decide +kernel
theorem dX2_leastWrong_20 : decode cX2_leastWrong 20 = .ok (.iload_n 2, 1) := by decide +kernel
theorem dX2_leastWrong_21 : decode cX2_leastWrong 21 = .ok (.invokevirtual 50, 3) := by decide +kernel
theorem dX2_leastWrong_24 : decode cX2_leastWrong 24 = .ok (.aload_n 0, 1) := by decide +kernel
theorem dX2_leastWrong_25 : decode cX2_leastWrong 25 = .ok (.getfield 46, 3) := by decide +kernel
theorem dX2_leastWrong_28 : decode cX2_leastWrong 28 = .ok (.aload_n 0, 1) := by decide +kernel
theorem dX2_leastWrong_29 : decode cX2_leastWrong 29 = .ok (.getfield 35, 3) := by decide +kernel
theorem dX2_leastWrong_32 : decode cX2_leastWrong 32 = .ok (.iload_n 2, 1) := by decide +kernel
theorem dX2_leastWrong_33 : decode cX2_leastWrong 33 = .ok (.invokevirtual 50, 3) := by decide +kernel
theorem dX2_leastWrong_36 : decode cX2_leastWrong 36 = .ok (.if_icmp .ne 9, 3) := by decide +kernel
theorem dX2_leastWrong_39 : decode cX2_leastWrong 39 = .ok (.iinc 2 1, 3) := by decide +kernel
theorem dX2_leastWrong_42 : decode cX2_leastWrong 42 = .ok (.goto (-40), 3) := by decide +kernel
theorem dX2_leastWrong_45 : decode cX2_leastWrong 45 = .ok (.iload_n 2, 1) := by decide +kernel
theorem dX2_leastWrong_46 : decode cX2_leastWrong 46 = .ok (.ireturn, 1) := by decide +kernel
theorem dX2_weighCompositors_0 : decode cX2_weighCompositors 0 = .ok (.aload_n 0, 1) := by decide +kernel
theorem dX2_weighCompositors_1 : decode cX2_weighCompositors 1 = .ok (.aload_n 1, 1) := by decide +kernel
theorem dX2_weighCompositors_2 : decode cX2_weighCompositors 2 = .ok (.getfield 63, 3) := by decide +kernel
theorem dX2_weighCompositors_5 : decode cX2_weighCompositors 5 = .ok (.iconst 3, 1) := by decide +kernel
theorem dX2_weighCompositors_6 : decode cX2_weighCompositors 6 = .ok (.invokestatic 66, 3) := by decide +kernel
theorem dX2_weighCompositors_9 : decode cX2_weighCompositors 9 = .ok (.putfield 71, 3) := by decide +kernel
theorem dX2_weighCompositors_12 : decode cX2_weighCompositors 12 = .ok (.aload_n 0, 1) := by decide +kernel
theorem dX2_weighCompositors_13 : decode cX2_weighCompositors 13 = .ok (.aload_n 1, 1) := by decide +kernel
theorem dX2_weighCompositors_14 : decode cX2_weighCompositors 14 = .ok (.aload_n 1, 1) := by decide +kernel
theorem dX2_weighCompositors_15 : decode cX2_weighCompositors 15 = .ok (.getfield 15, 3) := by decide +kernel
theorem dX2_weighCompositors_18 : decode cX2_weighCompositors 18 = .ok (.invokevirtual 21, 3) := by decide +kernel
theorem dX2_weighCompositors_21 : decode cX2_weighCompositors 21 = .ok (.invokevirtual 72, 3) := by decide +kernel
theorem dX2_weighCompositors_24 : decode cX2_weighCompositors 24 = .ok (.putfield 75, 3) := by decide +kernel
theorem dX2_weighCompositors_27 : decode cX2_weighCompositors 27 = .ok (.iconst 0, 1) := by decide +kernel
theorem dX2_weighCompositors_28 : decode cX2_weighCompositors 28 = .ok (.istore_n 2, 1) := by decide +kernel
theorem dX2_weighCompositors_29 : decode cX2_weighCompositors 29 = .ok (.iload_n 2, 1) := by decide +kernel
theorem dX2_weighCompositors_30 : decode cX2_weighCompositors 30 = .ok (.aload_n 0, 1) := by decide +kernel
theorem dX2_weighCompositors_31 : decode cX2_weighCompositors 31 = .ok (.getfield 71, 3) := by decide +kernel
theorem dX2_weighCompositors_34 : decode cX2_weighCompositors 34 = .ok (.if_icmp .ge 29, 3) := by decide +kernel
theorem dX2_weighCompositors_37 : decode cX2_weighCompositors 37 = .ok (.iload_n 2, 1) := by decide +kernel
theorem dX2_weighCompositors_38 : decode cX2_weighCompositors 38 = .ok (.aload_n 0, 1) := by decide +kernel
theorem dX2_weighCompositors_39 : decode cX2_weighCompositors 39 = .ok (.getfield 9, 3) := by decide +kernel
theorem dX2_weighCompositors_42 : decode cX2_weighCompositors 42 = .ok (.arraylength, 1) := by decide +kernel
theorem dX2_weighCompositors_43 : decode cX2_weighCompositors 43 = .ok (.if_icmp .ge 20, 3) := by decide +kernel
theorem dX2_weighCompositors_46 : decode cX2_weighCompositors 46 = .ok (.aload_n 0, 1) := by decide +kernel
theorem dX2_weighCompositors_47 : decode cX2_weighCompositors 47 = .ok (.getfield 9, 3) := by decide +kernel
theorem dX2_weighCompositors_50 : decode cX2_weighCompositors 50 = .ok (.iload_n 2, 1) := by decide +kernel
theorem dX2_weighCompositors_51 : decode cX2_weighCompositors 51 = .ok (.aload_n 1, 1) := by decide +kernel
theorem dX2_weighCompositors_52 : decode cX2_weighCompositors 52 = .ok (.iload_n 2, 1) := by decide +kernel
theorem dX2_weighCompositors_53 : decode cX2_weighCompositors 53 = .ok (.invokestatic 78, 3) := by decide +kernel
theorem dX2_weighCompositors_56 : decode cX2_weighCompositors 56 = .ok (.iastore, 1) := by decide +kernel
theorem dX2_weighCompositors_57 : decode cX2_weighCompositors 57 = .ok (.iinc 2 1, 3) := by decide +kernel
theorem dX2_weighCompositors_60 : decode cX2_weighCompositors 60 = .ok (.goto (-31), 3) := by decide +kernel
theorem dX2_weighCompositors_63 : decode cX2_weighCompositors 63 = .ok (.return_, 1) := by decide +kernel
theorem dX2_mostRightBy_0 : decode cX2_mostRightBy 0 = .ok (.iconst 0, 1) := by decide +kernel
theorem dX2_mostRightBy_1 : decode cX2_mostRightBy 1 = .ok (.istore_n 2, 1) := by decide +kernel
theorem dX2_mostRightBy_2 : decode cX2_mostRightBy 2 = .ok (.iconst 0, 1) := by decide +kernel
theorem dX2_mostRightBy_3 : decode cX2_mostRightBy 3 = .ok (.istore_n 3, 1) := by decide +kernel
theorem dX2_mostRightBy_4 : decode cX2_mostRightBy 4 = .ok (.iload_n 3, 1) := by decide +kernel
theorem dX2_mostRightBy_5 : decode cX2_mostRightBy 5 = .ok (.aload_n 0, 1) := by decide +kernel
theorem dX2_mostRightBy_6 : decode cX2_mostRightBy 6 = .ok (.getfield 46, 3) := by decide +kernel
theorem dX2_mostRightBy_9 : decode cX2_mostRightBy 9 = .ok (.getfield 60, 3) := by decide +kernel
theorem dX2_mostRightBy_12 : decode cX2_mostRightBy 12 = .ok (.if_icmp .ge 48, 3) := by decide +kernel
theorem dX2_mostRightBy_15 : decode cX2_mostRightBy 15 = .ok (.iconst 0, 1) := by decide +kernel
theorem dX2_mostRightBy_16 : decode cX2_mostRightBy 16 = .ok (.istore 4, 2) := by decide +kernel
theorem dX2_mostRightBy_18 : decode cX2_mostRightBy 18 = .ok (.iload 4, 2) := by decide +kernel
theorem dX2_mostRightBy_20 : decode cX2_mostRightBy 20 = .ok (.iconst 4, 1) := by decide +kernel
theorem dX2_mostRightBy_21 : decode cX2_mostRightBy 21 = .ok (.if_icmp .ge 33, 3) := by decide +kernel
theorem dX2_mostRightBy_24 : decode cX2_mostRightBy 24 = .ok (.iload_n 2, 1) := by decide +kernel
theorem dX2_mostRightBy_25 : decode cX2_mostRightBy 25 = .ok (.aload_n 0, 1) := by decide +kernel
theorem dX2_mostRightBy_26 : decode cX2_mostRightBy 26 = .ok (.aload_n 0, 1) := by decide +kernel
theorem dX2_mostRightBy_27 : decode cX2_mostRightBy 27 = .ok (.iload_n 1, 1) := by decide +kernel
theorem dX2_mostRightBy_28 : decode cX2_mostRightBy 28 = .ok (.aload_n 0, 1) := by decide +kernel
theorem dX2_mostRightBy_29 : decode cX2_mostRightBy 29 = .ok (.getfield 15, 3) := by decide +kernel
theorem dX2_mostRightBy_32 : decode cX2_mostRightBy 32 = .ok (.invokevirtual 21, 3) := by decide +kernel
theorem dX2_mostRightBy_35 : decode cX2_mostRightBy 35 = .ok (.iload_n 3, 1) := by decide +kernel
theorem dX2_mostRightBy_36 : decode cX2_mostRightBy 36 = .ok (.iload 4, 2) := by decide +kernel
theorem dX2_mostRightBy_38 : decode cX2_mostRightBy 38 = .ok (.invokevirtual 81, 3) := by decide +kernel
theorem dX2_mostRightBy_41 : decode cX2_mostRightBy 41 = .ok (.invokevirtual 72, 3) := by decide +kernel
theorem dX2_mostRightBy_44 : decode cX2_mostRightBy 44 = .ok (.invokestatic 82, 3) := by decide +kernel
theorem dX2_mostRightBy_47 : decode cX2_mostRightBy 47 = .ok (.istore_n 2, 1) := by decide +kernel
theorem dX2_mostRightBy_48 : decode cX2_mostRightBy 48 = .ok (.iinc 4 1, 3) := by decide +kernel
theorem dX2_mostRightBy_51 : decode cX2_mostRightBy 51 = .ok (.goto (-33), 3) := by decide +kernel
theorem dX2_mostRightBy_54 : decode cX2_mostRightBy 54 = .ok (.iinc 3 1, 3) := by decide +kernel
theorem dX2_mostRightBy_57 : decode cX2_mostRightBy 57 = .ok (.goto (-53), 3) := by decide +kernel
theorem dX2_mostRightBy_60 : decode cX2_mostRightBy 60 = .ok (.iload_n 2, 1) := by decide +kernel
theorem dX2_mostRightBy_61 : decode cX2_mostRightBy 61 = .ok (.ireturn, 1) := by decide +kernel
theorem dX2_mostRightOf_0 : decode cX2_mostRightOf 0 = .ok (.aload_n 0, 1) := by decide +kernel
theorem dX2_mostRightOf_1 : decode cX2_mostRightOf 1 = .ok (.getfield 75, 3) := by decide +kernel
theorem dX2_mostRightOf_4 : decode cX2_mostRightOf 4 = .ok (.istore_n 2, 1) := by decide +kernel
theorem dX2_mostRightOf_5 : decode cX2_mostRightOf 5 = .ok (.iconst 0, 1) := by decide +kernel
theorem dX2_mostRightOf_6 : decode cX2_mostRightOf 6 = .ok (.istore_n 3, 1) := by decide +kernel
theorem dX2_mostRightOf_7 : decode cX2_mostRightOf 7 = .ok (.iload_n 3, 1) := by decide +kernel
theorem dX2_mostRightOf_8 : decode cX2_mostRightOf 8 = .ok (.aload_n 0, 1) := by decide +kernel
theorem dX2_mostRightOf_9 : decode cX2_mostRightOf 9 = .ok (.getfield 71, 3) := by decide +kernel
theorem dX2_mostRightOf_12 : decode cX2_mostRightOf 12 = .ok (.if_icmp .ge 38, 3) := by decide +kernel
theorem dX2_mostRightOf_15 : decode cX2_mostRightOf 15 = .ok (.iload_n 3, 1) := by decide +kernel
theorem dX2_mostRightOf_16 : decode cX2_mostRightOf 16 = .ok (.aload_n 0, 1) := by decide +kernel
theorem dX2_mostRightOf_17 : decode cX2_mostRightOf 17 = .ok (.getfield 9, 3) := by decide +kernel
theorem dX2_mostRightOf_20 : decode cX2_mostRightOf 20 = .ok (.arraylength, 1) := by decide +kernel
theorem dX2_mostRightOf_21 : decode cX2_mostRightOf 21 = .ok (.if_icmp .ge 29, 3) := by decide +kernel
theorem dX2_mostRightOf_24 : decode cX2_mostRightOf 24 = .ok (.iload_n 1, 1) := by decide +kernel
theorem dX2_mostRightOf_25 : decode cX2_mostRightOf 25 = .ok (.iload_n 3, 1) := by decide +kernel
theorem dX2_mostRightOf_26 : decode cX2_mostRightOf 26 = .ok (.ishr, 1) := by decide +kernel
theorem dX2_mostRightOf_27 : decode cX2_mostRightOf 27 = .ok (.iconst 1, 1) := by decide +kernel
theorem dX2_mostRightOf_28 : decode cX2_mostRightOf 28 = .ok (.iand, 1) := by decide +kernel
theorem dX2_mostRightOf_29 : decode cX2_mostRightOf 29 = .ok (.iconst 1, 1) := by decide +kernel
theorem dX2_mostRightOf_30 : decode cX2_mostRightOf 30 = .ok (.if_icmp .ne 14, 3) := by decide +kernel
theorem dX2_mostRightOf_33 : decode cX2_mostRightOf 33 = .ok (.iload_n 2, 1) := by decide +kernel
theorem dX2_mostRightOf_34 : decode cX2_mostRightOf 34 = .ok (.aload_n 0, 1) := by decide +kernel
theorem dX2_mostRightOf_35 : decode cX2_mostRightOf 35 = .ok (.getfield 9, 3) := by decide +kernel
theorem dX2_mostRightOf_38 : decode cX2_mostRightOf 38 = .ok (.iload_n 3, 1) := by decide +kernel
theorem dX2_mostRightOf_39 : decode cX2_mostRightOf 39 = .ok (.iaload, 1) := by decide +kernel
theorem dX2_mostRightOf_40 : decode cX2_mostRightOf 40 = .ok (.invokestatic 82, 3) := by decide +kernel
theorem dX2_mostRightOf_43 : decode cX2_mostRightOf 43 = .ok (.istore_n 2, 1) := by decide +kernel
theorem dX2_mostRightOf_44 : decode cX2_mostRightOf 44 = .ok (.iinc 3 1, 3) := by decide +kernel
theorem dX2_mostRightOf_47 : decode cX2_mostRightOf 47 = .ok (.goto (-40), 3) := by decide +kernel
theorem dX2_mostRightOf_50 : decode cX2_mostRightOf 50 = .ok (.iload_n 2, 1) := by decide +kernel
theorem dX2_mostRightOf_51 : decode cX2_mostRightOf 51 = .ok (.ireturn, 1) := by decide +kernel
theorem dX2_gainInOrders_0 : decode cX2_gainInOrders 0 = .ok (.iconst 0, 1) := by decide +kernel
theorem dX2_gainInOrders_1 : decode cX2_gainInOrders 1 = .ok (.istore_n 2, 1) := by decide +kernel
theorem dX2_gainInOrders_2 : decode cX2_gainInOrders 2 = .ok (.iconst 0, 1) := by decide +kernel
theorem dX2_gainInOrders_3 : decode cX2_gainInOrders 3 = .ok (.istore_n 3, 1) := by decide +kernel
theorem dX2_gainInOrders_4 : decode cX2_gainInOrders 4 = .ok (.iload_n 3, 1) := by decide +kernel
theorem dX2_gainInOrders_5 : decode cX2_gainInOrders 5 = .ok (.iconst 1, 1) := by decide +kernel
theorem dX2_gainInOrders_6 : decode cX2_gainInOrders 6 = .ok (.aload_n 0, 1) := by decide +kernel
theorem dX2_gainInOrders_7 : decode cX2_gainInOrders 7 = .ok (.getfield 71, 3) := by decide +kernel
theorem dX2_gainInOrders_10 : decode cX2_gainInOrders 10 = .ok (.ishl, 1) := by decide +kernel
theorem dX2_gainInOrders_11 : decode cX2_gainInOrders 11 = .ok (.if_icmp .ge 64, 3) := by decide +kernel
theorem dX2_gainInOrders_14 : decode cX2_gainInOrders 14 = .ok (.iload_n 3, 1) := by decide +kernel
theorem dX2_gainInOrders_15 : decode cX2_gainInOrders 15 = .ok (.iload_n 1, 1) := by decide +kernel
theorem dX2_gainInOrders_16 : decode cX2_gainInOrders 16 = .ok (.ishr, 1) := by decide +kernel
theorem dX2_gainInOrders_17 : decode cX2_gainInOrders 17 = .ok (.iconst 1, 1) := by decide +kernel
theorem dX2_gainInOrders_18 : decode cX2_gainInOrders 18 = .ok (.iand, 1) := by decide +kernel
theorem dX2_gainInOrders_19 : decode cX2_gainInOrders 19 = .ok (.ifCond .ne 50, 3) := by decide +kernel
theorem dX2_gainInOrders_22 : decode cX2_gainInOrders 22 = .ok (.iload_n 3, 1) := by decide +kernel
theorem dX2_gainInOrders_23 : decode cX2_gainInOrders 23 = .ok (.invokestatic 85, 3) := by decide +kernel
theorem dX2_gainInOrders_26 : decode cX2_gainInOrders 26 = .ok (.istore 4, 2) := by decide +kernel
theorem dX2_gainInOrders_28 : decode cX2_gainInOrders 28 = .ok (.iload 4, 2) := by decide +kernel
theorem dX2_gainInOrders_30 : decode cX2_gainInOrders 30 = .ok (.invokestatic 90, 3) := by decide +kernel
theorem dX2_gainInOrders_33 : decode cX2_gainInOrders 33 = .ok (.aload_n 0, 1) := by decide +kernel
theorem dX2_gainInOrders_34 : decode cX2_gainInOrders 34 = .ok (.getfield 71, 3) := by decide +kernel
theorem dX2_gainInOrders_37 : decode cX2_gainInOrders 37 = .ok (.iconst 1, 1) := by decide +kernel
theorem dX2_gainInOrders_38 : decode cX2_gainInOrders 38 = .ok (.isub, 1) := by decide +kernel
theorem dX2_gainInOrders_39 : decode cX2_gainInOrders 39 = .ok (.iload 4, 2) := by decide +kernel
theorem dX2_gainInOrders_41 : decode cX2_gainInOrders 41 = .ok (.isub, 1) := by decide +kernel
theorem dX2_gainInOrders_42 : decode cX2_gainInOrders 42 = .ok (.invokestatic 90, 3) := by decide +kernel
theorem dX2_gainInOrders_45 : decode cX2_gainInOrders 45 = .ok (.imul, 1) := by decide +kernel
theorem dX2_gainInOrders_46 : decode cX2_gainInOrders 46 = .ok (.istore 5, 2) := by decide +kernel
theorem dX2_gainInOrders_48 : decode cX2_gainInOrders 48 = .ok (.iload_n 2, 1) := by decide +kernel
theorem dX2_gainInOrders_49 : decode cX2_gainInOrders 49 = .ok (.iload 5, 2) := by decide +kernel
theorem dX2_gainInOrders_51 : decode cX2_gainInOrders 51 = .ok (.aload_n 0, 1) := by decide +kernel
theorem dX2_gainInOrders_52 : decode cX2_gainInOrders 52 = .ok (.iload_n 3, 1) := by decide +kernel
theorem dX2_gainInOrders_53 : decode cX2_gainInOrders 53 = .ok (.iconst 1, 1) := by decide +kernel
theorem dX2_gainInOrders_54 : decode cX2_gainInOrders 54 = .ok (.iload_n 1, 1) := by decide +kernel
theorem dX2_gainInOrders_55 : decode cX2_gainInOrders 55 = .ok (.ishl, 1) := by decide +kernel
theorem dX2_gainInOrders_56 : decode cX2_gainInOrders 56 = .ok (.ior, 1) := by decide +kernel
theorem dX2_gainInOrders_57 : decode cX2_gainInOrders 57 = .ok (.invokevirtual 93, 3) := by decide +kernel
theorem dX2_gainInOrders_60 : decode cX2_gainInOrders 60 = .ok (.aload_n 0, 1) := by decide +kernel
theorem dX2_gainInOrders_61 : decode cX2_gainInOrders 61 = .ok (.iload_n 3, 1) := by decide +kernel
theorem dX2_gainInOrders_62 : decode cX2_gainInOrders 62 = .ok (.invokevirtual 93, 3) := by decide +kernel
theorem dX2_gainInOrders_65 : decode cX2_gainInOrders 65 = .ok (.isub, 1) := by decide +kernel
theorem dX2_gainInOrders_66 : decode cX2_gainInOrders 66 = .ok (.imul, 1) := by decide +kernel
theorem dX2_gainInOrders_67 : decode cX2_gainInOrders 67 = .ok (.iadd, 1) := by decide +kernel
theorem dX2_gainInOrders_68 : decode cX2_gainInOrders 68 = .ok (.istore_n 2, 1) := by decide +kernel
theorem dX2_gainInOrders_69 : decode cX2_gainInOrders 69 = .ok (.iinc 3 1, 3) := by decide +kernel
theorem dX2_gainInOrders_72 : decode cX2_gainInOrders 72 = .ok (.goto (-68), 3) := by decide +kernel
theorem dX2_gainInOrders_75 : decode cX2_gainInOrders 75 = .ok (.iload_n 2, 1) := by decide +kernel
theorem dX2_gainInOrders_76 : decode cX2_gainInOrders 76 = .ok (.ireturn, 1) := by decide +kernel
theorem dX2_orders_0 : decode cX2_orders 0 = .ok (.aload_n 0, 1) := by decide +kernel
theorem dX2_orders_1 : decode cX2_orders 1 = .ok (.getfield 71, 3) := by decide +kernel
theorem dX2_orders_4 : decode cX2_orders 4 = .ok (.invokestatic 90, 3) := by decide +kernel
theorem dX2_orders_7 : decode cX2_orders 7 = .ok (.ireturn, 1) := by decide +kernel
theorem dX2_ordersOf_0 : decode cX2_ordersOf 0 = .ok (.iload_n 0, 1) := by decide +kernel
theorem dX2_ordersOf_1 : decode cX2_ordersOf 1 = .ok (.ifCond .lt 19, 3) := by decide +kernel
theorem dX2_ordersOf_4 : decode cX2_ordersOf 4 = .ok (.iload_n 0, 1) := by decide +kernel
theorem dX2_ordersOf_5 : decode cX2_ordersOf 5 = .ok (.getstatic 96, 3) := by decide +kernel
theorem dX2_ordersOf_8 : decode cX2_ordersOf 8 = .ok (.arraylength, 1) := by decide +kernel
theorem dX2_ordersOf_9 : decode cX2_ordersOf 9 = .ok (.if_icmp .ge 11, 3) := by decide +kernel
theorem dX2_ordersOf_12 : decode cX2_ordersOf 12 = .ok (.getstatic 96, 3) := by decide +kernel
theorem dX2_ordersOf_15 : decode cX2_ordersOf 15 = .ok (.iload_n 0, 1) := by decide +kernel
theorem dX2_ordersOf_16 : decode cX2_ordersOf 16 = .ok (.iaload, 1) := by decide +kernel
theorem dX2_ordersOf_17 : decode cX2_ordersOf 17 = .ok (.goto 4, 3) := by decide +kernel
theorem dX2_ordersOf_20 : decode cX2_ordersOf 20 = .ok (.iconst 1, 1) := by decide +kernel
theorem dX2_ordersOf_21 : decode cX2_ordersOf 21 = .ok (.ireturn, 1) := by decide +kernel
theorem dX2_inLeastTerms_0 : decode cX2_inLeastTerms 0 = .ok (.iload_n 0, 1) := by decide +kernel
theorem dX2_inLeastTerms_1 : decode cX2_inLeastTerms 1 = .ok (.istore_n 3, 1) := by decide +kernel
theorem dX2_inLeastTerms_2 : decode cX2_inLeastTerms 2 = .ok (.iload_n 1, 1) := by decide +kernel
theorem dX2_inLeastTerms_3 : decode cX2_inLeastTerms 3 = .ok (.istore 4, 2) := by decide +kernel
theorem dX2_inLeastTerms_5 : decode cX2_inLeastTerms 5 = .ok (.iconst 0, 1) := by decide +kernel
theorem dX2_inLeastTerms_6 : decode cX2_inLeastTerms 6 = .ok (.istore 5, 2) := by decide +kernel
theorem dX2_inLeastTerms_8 : decode cX2_inLeastTerms 8 = .ok (.iload 5, 2) := by decide +kernel
theorem dX2_inLeastTerms_10 : decode cX2_inLeastTerms 10 = .ok (.bipush 64, 2) := by decide +kernel
theorem dX2_inLeastTerms_12 : decode cX2_inLeastTerms 12 = .ok (.if_icmp .ge 27, 3) := by decide +kernel
theorem dX2_inLeastTerms_15 : decode cX2_inLeastTerms 15 = .ok (.iload 4, 2) := by decide +kernel
theorem dX2_inLeastTerms_17 : decode cX2_inLeastTerms 17 = .ok (.ifCond .eq 22, 3) := by decide +kernel
theorem dX2_inLeastTerms_20 : decode cX2_inLeastTerms 20 = .ok (.iload_n 3, 1) := by decide +kernel
theorem dX2_inLeastTerms_21 : decode cX2_inLeastTerms 21 = .ok (.iload 4, 2) := by decide +kernel
theorem dX2_inLeastTerms_23 : decode cX2_inLeastTerms 23 = .ok (.irem, 1) := by decide +kernel
theorem dX2_inLeastTerms_24 : decode cX2_inLeastTerms 24 = .ok (.istore 6, 2) := by decide +kernel
theorem dX2_inLeastTerms_26 : decode cX2_inLeastTerms 26 = .ok (.iload 4, 2) := by decide +kernel
theorem dX2_inLeastTerms_28 : decode cX2_inLeastTerms 28 = .ok (.istore_n 3, 1) := by decide +kernel
theorem dX2_inLeastTerms_29 : decode cX2_inLeastTerms 29 = .ok (.iload 6, 2) := by decide +kernel
theorem dX2_inLeastTerms_31 : decode cX2_inLeastTerms 31 = .ok (.istore 4, 2) := by decide +kernel
theorem dX2_inLeastTerms_33 : decode cX2_inLeastTerms 33 = .ok (.iinc 5 1, 3) := by decide +kernel
theorem dX2_inLeastTerms_36 : decode cX2_inLeastTerms 36 = .ok (.goto (-28), 3) := by decide +kernel
theorem dX2_inLeastTerms_39 : decode cX2_inLeastTerms 39 = .ok (.iload_n 2, 1) := by decide +kernel
theorem dX2_inLeastTerms_40 : decode cX2_inLeastTerms 40 = .ok (.ifCond .eq 7, 3) := by decide +kernel
theorem dX2_inLeastTerms_43 : decode cX2_inLeastTerms 43 = .ok (.iload_n 0, 1) := by decide +kernel
theorem dX2_inLeastTerms_44 : decode cX2_inLeastTerms 44 = .ok (.goto 4, 3) := by decide +kernel
theorem dX2_inLeastTerms_47 : decode cX2_inLeastTerms 47 = .ok (.iload_n 1, 1) := by decide +kernel
theorem dX2_inLeastTerms_48 : decode cX2_inLeastTerms 48 = .ok (.istore 5, 2) := by decide +kernel
theorem dX2_inLeastTerms_50 : decode cX2_inLeastTerms 50 = .ok (.iload_n 3, 1) := by decide +kernel
theorem dX2_inLeastTerms_51 : decode cX2_inLeastTerms 51 = .ok (.ifCond .eq 10, 3) := by decide +kernel
theorem dX2_inLeastTerms_54 : decode cX2_inLeastTerms 54 = .ok (.iload 5, 2) := by decide +kernel
theorem dX2_inLeastTerms_56 : decode cX2_inLeastTerms 56 = .ok (.iload_n 3, 1) := by decide +kernel
theorem dX2_inLeastTerms_57 : decode cX2_inLeastTerms 57 = .ok (.idiv, 1) := by decide +kernel
theorem dX2_inLeastTerms_58 : decode cX2_inLeastTerms 58 = .ok (.goto 5, 3) := by decide +kernel
theorem dX2_inLeastTerms_61 : decode cX2_inLeastTerms 61 = .ok (.iload 5, 2) := by decide +kernel
theorem dX2_inLeastTerms_63 : decode cX2_inLeastTerms 63 = .ok (.ireturn, 1) := by decide +kernel
theorem dX3_init_0 : decode cX3_init 0 = .ok (.aload_n 0, 1) := by decide +kernel
theorem dX3_init_1 : decode cX3_init 1 = .ok (.invokespecial 1, 3) := by decide +kernel
theorem dX3_init_4 : decode cX3_init 4 = .ok (.aload_n 0, 1) := by decide +kernel
theorem dX3_init_5 : decode cX3_init 5 = .ok (.new 7, 3) := by decide +kernel
theorem dX3_init_8 : decode cX3_init 8 = .ok (.dup, 1) := by decide +kernel
theorem dX3_init_9 : decode cX3_init 9 = .ok (.bipush 14, 2) := by decide +kernel
theorem dX3_init_11 : decode cX3_init 11 = .ok (.invokespecial 11, 3) := by decide +kernel
theorem dX3_init_14 : decode cX3_init 14 = .ok (.putfield 14, 3) := by decide +kernel
theorem dX3_init_17 : decode cX3_init 17 = .ok (.aload_n 0, 1) := by decide +kernel
theorem dX3_init_18 : decode cX3_init 18 = .ok (.iconst 0, 1) := by decide +kernel
theorem dX3_init_19 : decode cX3_init 19 = .ok (.putfield 18, 3) := by decide +kernel
theorem dX3_init_22 : decode cX3_init 22 = .ok (.aload_n 0, 1) := by decide +kernel
theorem dX3_init_23 : decode cX3_init 23 = .ok (.iconst 0, 1) := by decide +kernel
theorem dX3_init_24 : decode cX3_init 24 = .ok (.putfield 22, 3) := by decide +kernel
theorem dX3_init_27 : decode cX3_init 27 = .ok (.return_, 1) := by decide +kernel
theorem dX3_note_0 : decode cX3_note 0 = .ok (.aload_n 0, 1) := by decide +kernel
theorem dX3_note_1 : decode cX3_note 1 = .ok (.getfield 14, 3) := by decide +kernel
theorem dX3_note_4 : decode cX3_note 4 = .ok (.aload_n 0, 1) := by decide +kernel
theorem dX3_note_5 : decode cX3_note 5 = .ok (.getfield 18, 3) := by decide +kernel
theorem dX3_note_8 : decode cX3_note 8 = .ok (.bipush 14, 2) := by decide +kernel
theorem dX3_note_10 : decode cX3_note 10 = .ok (.irem, 1) := by decide +kernel
theorem dX3_note_11 : decode cX3_note 11 = .ok (.aload_n 1, 1) := by decide +kernel
theorem dX3_note_12 : decode cX3_note 12 = .ok (.invokevirtual 25, 3) := by decide +kernel
theorem dX3_note_15 : decode cX3_note 15 = .ok (.aload_n 0, 1) := by decide +kernel
theorem dX3_note_16 : decode cX3_note 16 = .ok (.dup, 1) := by decide +kernel
theorem dX3_note_17 : decode cX3_note 17 = .ok (.getfield 18, 3) := by decide +kernel
theorem dX3_note_20 : decode cX3_note 20 = .ok (.iconst 1, 1) := by decide +kernel
theorem dX3_note_21 : decode cX3_note 21 = .ok (.iadd, 1) := by decide +kernel
theorem dX3_note_22 : decode cX3_note 22 = .ok (.putfield 18, 3) := by decide +kernel
theorem dX3_note_25 : decode cX3_note 25 = .ok (.aload_n 0, 1) := by decide +kernel
theorem dX3_note_26 : decode cX3_note 26 = .ok (.aload_n 0, 1) := by decide +kernel
theorem dX3_note_27 : decode cX3_note 27 = .ok (.getfield 22, 3) := by decide +kernel
theorem dX3_note_30 : decode cX3_note 30 = .ok (.iconst 1, 1) := by decide +kernel
theorem dX3_note_31 : decode cX3_note 31 = .ok (.iadd, 1) := by decide +kernel
theorem dX3_note_32 : decode cX3_note 32 = .ok (.bipush 14, 2) := by decide +kernel
theorem dX3_note_34 : decode cX3_note 34 = .ok (.invokestatic 29, 3) := by decide +kernel
theorem dX3_note_37 : decode cX3_note 37 = .ok (.putfield 22, 3) := by decide +kernel
theorem dX3_note_40 : decode cX3_note 40 = .ok (.return_, 1) := by decide +kernel
theorem dX3_bringBack_0 : decode cX3_bringBack 0 = .ok (.aload_n 0, 1) := by decide +kernel
theorem dX3_bringBack_1 : decode cX3_bringBack 1 = .ok (.getfield 22, 3) := by decide +kernel
theorem dX3_bringBack_4 : decode cX3_bringBack 4 = .ok (.ifCond .le 10, 3) := by decide +kernel
theorem dX3_bringBack_7 : decode cX3_bringBack 7 = .ok (.aload_n 0, 1) := by decide +kernel
theorem dX3_bringBack_8 : decode cX3_bringBack 8 = .ok (.getfield 18, 3) := by decide +kernel
theorem dX3_bringBack_11 : decode cX3_bringBack 11 = .ok (.ifCond .gt 5, 3) := by decide +kernel
theorem dX3_bringBack_14 : decode cX3_bringBack 14 = .ok (.iconst 0, 1) := by decide +kernel
theorem dX3_bringBack_15 : decode cX3_bringBack 15 = .ok (.ireturn, 1) := by decide +kernel
theorem dX3_bringBack_16 : decode cX3_bringBack 16 = .ok (.aload_n 0, 1) := by decide +kernel
theorem dX3_bringBack_17 : decode cX3_bringBack 17 = .ok (.dup, 1) := by decide +kernel
theorem dX3_bringBack_18 : decode cX3_bringBack 18 = .ok (.getfield 18, 3) := by decide +kernel
theorem dX3_bringBack_21 : decode cX3_bringBack 21 = .ok (.iconst 1, 1) := by decide +kernel
theorem dX3_bringBack_22 : decode cX3_bringBack 22 = .ok (.isub, 1) := by decide +kernel
theorem dX3_bringBack_23 : decode cX3_bringBack 23 = .ok (.putfield 18, 3) := by decide +kernel
theorem dX3_bringBack_26 : decode cX3_bringBack 26 = .ok (.aload_n 0, 1) := by decide +kernel
theorem dX3_bringBack_27 : decode cX3_bringBack 27 = .ok (.dup, 1) := by decide +kernel
theorem dX3_bringBack_28 : decode cX3_bringBack 28 = .ok (.getfield 22, 3) := by decide +kernel
theorem dX3_bringBack_31 : decode cX3_bringBack 31 = .ok (.iconst 1, 1) := by decide +kernel
theorem dX3_bringBack_32 : decode cX3_bringBack 32 = .ok (.isub, 1) := by decide +kernel
theorem dX3_bringBack_33 : decode cX3_bringBack 33 = .ok (.putfield 22, 3) := by decide +kernel
theorem dX3_bringBack_36 : decode cX3_bringBack 36 = .ok (.aload_n 0, 1) := by decide +kernel
theorem dX3_bringBack_37 : decode cX3_bringBack 37 = .ok (.getfield 14, 3) := by decide +kernel
theorem dX3_bringBack_40 : decode cX3_bringBack 40 = .ok (.aload_n 0, 1) := by decide +kernel
theorem dX3_bringBack_41 : decode cX3_bringBack 41 = .ok (.getfield 18, 3) := by decide +kernel
theorem dX3_bringBack_44 : decode cX3_bringBack 44 = .ok (.bipush 14, 2) := by decide +kernel
theorem dX3_bringBack_46 : decode cX3_bringBack 46 = .ok (.irem, 1) := by decide +kernel
theorem dX3_bringBack_47 : decode cX3_bringBack 47 = .ok (.aload_n 1, 1) := by decide +kernel
theorem dX3_bringBack_48 : decode cX3_bringBack 48 = .ok (.invokevirtual 35, 3) := by decide +kernel
theorem dX3_bringBack_51 : decode cX3_bringBack 51 = .ok (.iconst 1, 1) := by decide +kernel
theorem dX3_bringBack_52 : decode cX3_bringBack 52 = .ok (.ireturn, 1) := by decide +kernel
theorem dX3_forget_0 : decode cX3_forget 0 = .ok (.aload_n 0, 1) := by decide +kernel
theorem dX3_forget_1 : decode cX3_forget 1 = .ok (.iconst 0, 1) := by decide +kernel
theorem dX3_forget_2 : decode cX3_forget 2 = .ok (.putfield 18, 3) := by decide +kernel
theorem dX3_forget_5 : decode cX3_forget 5 = .ok (.aload_n 0, 1) := by decide +kernel
theorem dX3_forget_6 : decode cX3_forget 6 = .ok (.iconst 0, 1) := by decide +kernel
theorem dX3_forget_7 : decode cX3_forget 7 = .ok (.putfield 22, 3) := by decide +kernel
theorem dX3_forget_10 : decode cX3_forget 10 = .ok (.return_, 1) := by decide +kernel
theorem dX4_init_0 : decode cX4_init 0 = .ok (.aload_n 0, 1) := by decide +kernel
theorem dX4_init_1 : decode cX4_init 1 = .ok (.invokespecial 3, 3) := by decide +kernel
theorem dX4_init_4 : decode cX4_init 4 = .ok (.aload_n 0, 1) := by decide +kernel
theorem dX4_init_5 : decode cX4_init 5 = .ok (.iconst 4, 1) := by decide +kernel
theorem dX4_init_6 : decode cX4_init 6 = .ok (.newarray .int, 2) := by decide +kernel
theorem dX4_init_8 : decode cX4_init 8 = .ok (.putfield 9, 3) := by decide +kernel
theorem dX4_init_11 : decode cX4_init 11 = .ok (.return_, 1) := by decide +kernel
theorem dX4_search_0 : decode cX4_search 0 = .ok (.aload_n 0, 1) := by decide +kernel
theorem dX4_search_1 : decode cX4_search 1 = .ok (.bipush (-9), 2) := by decide +kernel
theorem dX4_search_3 : decode cX4_search 3 = .ok (.putfield 15, 3) := by decide +kernel
theorem dX4_search_6 : decode cX4_search 6 = .ok (.aload_n 0, 1) := by decide +kernel
theorem dX4_search_7 : decode cX4_search 7 = .ok (.bipush (-9), 2) := by decide +kernel
theorem dX4_search_9 : decode cX4_search 9 = .ok (.putfield 19, 3) := by decide +kernel
theorem dX4_search_12 : decode cX4_search 12 = .ok (.aload_n 1, 1) := by decide +kernel
theorem dX4_search_13 : decode cX4_search 13 = .ok (.iload_n 2, 1) := by decide +kernel
theorem dX4_search_14 : decode cX4_search 14 = .ok (.invokestatic 22, 3) := by decide +kernel
theorem dX4_search_17 : decode cX4_search 17 = .ok (.ifCond .eq 14, 3) := by decide +kernel
theorem dX4_search_20 : decode cX4_search 20 = .ok (.aload_n 0, 1) := by decide +kernel
theorem dX4_search_21 : decode cX4_search 21 = .ok (.iconst 0, 1) := by decide +kernel
theorem dX4_search_22 : decode cX4_search 22 = .ok (.putfield 15, 3) := by decide +kernel
theorem dX4_search_25 : decode cX4_search 25 = .ok (.aload_n 0, 1) := by decide +kernel
theorem dX4_search_26 : decode cX4_search 26 = .ok (.iconst 0, 1) := by decide +kernel
theorem dX4_search_27 : decode cX4_search 27 = .ok (.putfield 19, 3) := by decide +kernel
theorem dX4_search_30 : decode cX4_search 30 = .ok (.return_, 1) := by decide +kernel
theorem dX4_search_31 : decode cX4_search 31 = .ok (.aload_n 0, 1) := by decide +kernel
theorem dX4_search_32 : decode cX4_search 32 = .ok (.aload_n 1, 1) := by decide +kernel
theorem dX4_search_33 : decode cX4_search 33 = .ok (.iload_n 2, 1) := by decide +kernel
theorem dX4_search_34 : decode cX4_search 34 = .ok (.invokevirtual 26, 3) := by decide +kernel
theorem dX4_search_37 : decode cX4_search 37 = .ok (.aload_n 0, 1) := by decide +kernel
theorem dX4_search_38 : decode cX4_search 38 = .ok (.aload_n 1, 1) := by decide +kernel
theorem dX4_search_39 : decode cX4_search 39 = .ok (.aload_n 1, 1) := by decide +kernel
theorem dX4_search_40 : decode cX4_search 40 = .ok (.getfield 30, 3) := by decide +kernel
theorem dX4_search_43 : decode cX4_search 43 = .ok (.invokevirtual 36, 3) := by decide +kernel
theorem dX4_search_46 : decode cX4_search 46 = .ok (.iload_n 2, 1) := by decide +kernel
theorem dX4_search_47 : decode cX4_search 47 = .ok (.aload_n 1, 1) := by decide +kernel
theorem dX4_search_48 : decode cX4_search 48 = .ok (.getfield 30, 3) := by decide +kernel
theorem dX4_search_51 : decode cX4_search 51 = .ok (.invokevirtual 42, 3) := by decide +kernel
theorem dX4_search_54 : decode cX4_search 54 = .ok (.invokevirtual 45, 3) := by decide +kernel
theorem dX4_search_57 : decode cX4_search 57 = .ok (.istore_n 3, 1) := by decide +kernel
theorem dX4_search_58 : decode cX4_search 58 = .ok (.iload_n 3, 1) := by decide +kernel
theorem dX4_search_59 : decode cX4_search 59 = .ok (.bipush (-9), 2) := by decide +kernel
theorem dX4_search_61 : decode cX4_search 61 = .ok (.if_icmp .eq 14, 3) := by decide +kernel
theorem dX4_search_64 : decode cX4_search 64 = .ok (.aload_n 0, 1) := by decide +kernel
theorem dX4_search_65 : decode cX4_search 65 = .ok (.iconst 1, 1) := by decide +kernel
theorem dX4_search_66 : decode cX4_search 66 = .ok (.putfield 15, 3) := by decide +kernel
theorem dX4_search_69 : decode cX4_search 69 = .ok (.aload_n 0, 1) := by decide +kernel
theorem dX4_search_70 : decode cX4_search 70 = .ok (.iload_n 3, 1) := by decide +kernel
theorem dX4_search_71 : decode cX4_search 71 = .ok (.putfield 19, 3) := by decide +kernel
theorem dX4_search_74 : decode cX4_search 74 = .ok (.return_, 1) := by decide +kernel
theorem dX4_search_75 : decode cX4_search 75 = .ok (.aload_n 0, 1) := by decide +kernel
theorem dX4_search_76 : decode cX4_search 76 = .ok (.aload_n 1, 1) := by decide +kernel
theorem dX4_search_77 : decode cX4_search 77 = .ok (.iload_n 2, 1) := by decide +kernel
theorem dX4_search_78 : decode cX4_search 78 = .ok (.invokevirtual 49, 3) := by decide +kernel
theorem dX4_search_81 : decode cX4_search 81 = .ok (.istore 4, 2) := by decide +kernel
theorem dX4_search_83 : decode cX4_search 83 = .ok (.iload 4, 2) := by decide +kernel
theorem dX4_search_85 : decode cX4_search 85 = .ok (.bipush (-9), 2) := by decide +kernel
theorem dX4_search_87 : decode cX4_search 87 = .ok (.if_icmp .eq 14, 3) := by decide +kernel
theorem dX4_search_90 : decode cX4_search 90 = .ok (.aload_n 0, 1) := by decide +kernel
theorem dX4_search_91 : decode cX4_search 91 = .ok (.iconst 2, 1) := by decide +kernel
theorem dX4_search_92 : decode cX4_search 92 = .ok (.putfield 15, 3) := by decide +kernel
theorem dX4_search_95 : decode cX4_search 95 = .ok (.aload_n 0, 1) := by decide +kernel
theorem dX4_search_96 : decode cX4_search 96 = .ok (.iload 4, 2) := by decide +kernel
theorem dX4_search_98 : decode cX4_search 98 = .ok (.putfield 19, 3) := by decide +kernel
theorem dX4_search_101 : decode cX4_search 101 = .ok (.return_, 1) := by decide +kernel
theorem dX4_isRighted_0 : decode cX4_isRighted 0 = .ok (.iconst 1, 1) := by decide +kernel
theorem dX4_isRighted_1 : decode cX4_isRighted 1 = .ok (.iload_n 1, 1) := by decide +kernel
theorem dX4_isRighted_2 : decode cX4_isRighted 2 = .ok (.ishl, 1) := by decide +kernel
theorem dX4_isRighted_3 : decode cX4_isRighted 3 = .ok (.iconst 1, 1) := by decide +kernel
theorem dX4_isRighted_4 : decode cX4_isRighted 4 = .ok (.isub, 1) := by decide +kernel
theorem dX4_isRighted_5 : decode cX4_isRighted 5 = .ok (.istore_n 2, 1) := by decide +kernel
theorem dX4_isRighted_6 : decode cX4_isRighted 6 = .ok (.aload_n 0, 1) := by decide +kernel
theorem dX4_isRighted_7 : decode cX4_isRighted 7 = .ok (.getfield 30, 3) := by decide +kernel
theorem dX4_isRighted_10 : decode cX4_isRighted 10 = .ok (.invokevirtual 36, 3) := by decide +kernel
theorem dX4_isRighted_13 : decode cX4_isRighted 13 = .ok (.aload_n 0, 1) := by decide +kernel
theorem dX4_isRighted_14 : decode cX4_isRighted 14 = .ok (.getfield 53, 3) := by decide +kernel
theorem dX4_isRighted_17 : decode cX4_isRighted 17 = .ok (.if_icmp .ne 17, 3) := by decide +kernel
theorem dX4_isRighted_20 : decode cX4_isRighted 20 = .ok (.aload_n 0, 1) := by decide +kernel
theorem dX4_isRighted_21 : decode cX4_isRighted 21 = .ok (.invokevirtual 56, 3) := by decide +kernel
theorem dX4_isRighted_24 : decode cX4_isRighted 24 = .ok (.iload_n 2, 1) := by decide +kernel
theorem dX4_isRighted_25 : decode cX4_isRighted 25 = .ok (.iand, 1) := by decide +kernel
theorem dX4_isRighted_26 : decode cX4_isRighted 26 = .ok (.iload_n 2, 1) := by decide +kernel
theorem dX4_isRighted_27 : decode cX4_isRighted 27 = .ok (.if_icmp .ne 7, 3) := by decide +kernel
theorem dX4_isRighted_30 : decode cX4_isRighted 30 = .ok (.iconst 1, 1) := by decide +kernel
theorem dX4_isRighted_31 : decode cX4_isRighted 31 = .ok (.goto 4, 3) := by decide +kernel
theorem dX4_isRighted_34 : decode cX4_isRighted 34 = .ok (.iconst 0, 1) := by decide +kernel
theorem dX4_isRighted_35 : decode cX4_isRighted 35 = .ok (.ireturn, 1) := by decide +kernel
theorem dX4_readBeliefs_0 : decode cX4_readBeliefs 0 = .ok (.iconst 0, 1) := by decide +kernel
theorem dX4_readBeliefs_1 : decode cX4_readBeliefs 1 = .ok (.istore_n 3, 1) := by decide +kernel
theorem dX4_readBeliefs_2 : decode cX4_readBeliefs 2 = .ok (.iload_n 3, 1) := by decide +kernel
theorem dX4_readBeliefs_3 : decode cX4_readBeliefs 3 = .ok (.iload_n 2, 1) := by decide +kernel
theorem dX4_readBeliefs_4 : decode cX4_readBeliefs 4 = .ok (.if_icmp .ge 32, 3) := by decide +kernel
theorem dX4_readBeliefs_7 : decode cX4_readBeliefs 7 = .ok (.iload_n 3, 1) := by decide +kernel
theorem dX4_readBeliefs_8 : decode cX4_readBeliefs 8 = .ok (.aload_n 0, 1) := by decide +kernel
theorem dX4_readBeliefs_9 : decode cX4_readBeliefs 9 = .ok (.getfield 9, 3) := by decide +kernel
theorem dX4_readBeliefs_12 : decode cX4_readBeliefs 12 = .ok (.arraylength, 1) := by decide +kernel
theorem dX4_readBeliefs_13 : decode cX4_readBeliefs 13 = .ok (.if_icmp .ge 23, 3) := by decide +kernel
theorem dX4_readBeliefs_16 : decode cX4_readBeliefs 16 = .ok (.aload_n 0, 1) := by decide +kernel
theorem dX4_readBeliefs_17 : decode cX4_readBeliefs 17 = .ok (.getfield 9, 3) := by decide +kernel
theorem dX4_readBeliefs_20 : decode cX4_readBeliefs 20 = .ok (.iload_n 3, 1) := by decide +kernel
theorem dX4_readBeliefs_21 : decode cX4_readBeliefs 21 = .ok (.aload_n 1, 1) := by decide +kernel
theorem dX4_readBeliefs_22 : decode cX4_readBeliefs 22 = .ok (.getfield 30, 3) := by decide +kernel
theorem dX4_readBeliefs_25 : decode cX4_readBeliefs 25 = .ok (.iload_n 3, 1) := by decide +kernel
theorem dX4_readBeliefs_26 : decode cX4_readBeliefs 26 = .ok (.invokevirtual 59, 3) := by decide +kernel
theorem dX4_readBeliefs_29 : decode cX4_readBeliefs 29 = .ok (.iastore, 1) := by decide +kernel
theorem dX4_readBeliefs_30 : decode cX4_readBeliefs 30 = .ok (.iinc 3 1, 3) := by decide +kernel
theorem dX4_readBeliefs_33 : decode cX4_readBeliefs 33 = .ok (.goto (-31), 3) := by decide +kernel
theorem dX4_readBeliefs_36 : decode cX4_readBeliefs 36 = .ok (.return_, 1) := by decide +kernel
theorem dX4_twoNotices_0 : decode cX4_twoNotices 0 = .ok (.aload_n 1, 1) := by decide +kernel
theorem dX4_twoNotices_1 : decode cX4_twoNotices 1 = .ok (.getfield 30, 3) := by decide +kernel
theorem dX4_twoNotices_4 : decode cX4_twoNotices 4 = .ok (.invokevirtual 42, 3) := by decide +kernel
theorem dX4_twoNotices_7 : decode cX4_twoNotices 7 = .ok (.istore_n 3, 1) := by decide +kernel
theorem dX4_twoNotices_8 : decode cX4_twoNotices 8 = .ok (.iconst 0, 1) := by decide +kernel
theorem dX4_twoNotices_9 : decode cX4_twoNotices 9 = .ok (.istore 4, 2) := by decide +kernel
theorem dX4_twoNotices_11 : decode cX4_twoNotices 11 = .ok (.iload 4, 2) := by decide +kernel
theorem dX4_twoNotices_13 : decode cX4_twoNotices 13 = .ok (.aload_n 1, 1) := by decide +kernel
theorem dX4_twoNotices_14 : decode cX4_twoNotices 14 = .ok (.getfield 63, 3) := by decide +kernel
theorem dX4_twoNotices_17 : decode cX4_twoNotices 17 = .ok (.if_icmp .ge 114, 3) := by decide +kernel
theorem dX4_twoNotices_20 : decode cX4_twoNotices 20 = .ok (.iconst 0, 1) := by decide +kernel
theorem dX4_twoNotices_21 : decode cX4_twoNotices 21 = .ok (.istore 5, 2) := by decide +kernel
theorem dX4_twoNotices_23 : decode cX4_twoNotices 23 = .ok (.iload 5, 2) := by decide +kernel
theorem dX4_twoNotices_25 : decode cX4_twoNotices 25 = .ok (.aload_n 1, 1) := by decide +kernel
theorem dX4_twoNotices_26 : decode cX4_twoNotices 26 = .ok (.getfield 66, 3) := by decide +kernel
theorem dX4_twoNotices_29 : decode cX4_twoNotices 29 = .ok (.getfield 70, 3) := by decide +kernel
theorem dX4_twoNotices_32 : decode cX4_twoNotices 32 = .ok (.if_icmp .ge 93, 3) := by decide +kernel
theorem dX4_twoNotices_35 : decode cX4_twoNotices 35 = .ok (.iconst 0, 1) := by decide +kernel
theorem dX4_twoNotices_36 : decode cX4_twoNotices 36 = .ok (.istore 6, 2) := by decide +kernel
theorem dX4_twoNotices_38 : decode cX4_twoNotices 38 = .ok (.iload 6, 2) := by decide +kernel
theorem dX4_twoNotices_40 : decode cX4_twoNotices 40 = .ok (.iconst 4, 1) := by decide +kernel
theorem dX4_twoNotices_41 : decode cX4_twoNotices 41 = .ok (.if_icmp .ge 78, 3) := by decide +kernel
theorem dX4_twoNotices_44 : decode cX4_twoNotices 44 = .ok (.aload_n 0, 1) := by decide +kernel
theorem dX4_twoNotices_45 : decode cX4_twoNotices 45 = .ok (.aload_n 1, 1) := by decide +kernel
theorem dX4_twoNotices_46 : decode cX4_twoNotices 46 = .ok (.iload_n 2, 1) := by decide +kernel
theorem dX4_twoNotices_47 : decode cX4_twoNotices 47 = .ok (.iload 4, 2) := by decide +kernel
theorem dX4_twoNotices_49 : decode cX4_twoNotices 49 = .ok (.iload 5, 2) := by decide +kernel
theorem dX4_twoNotices_51 : decode cX4_twoNotices 51 = .ok (.iload 6, 2) := by decide +kernel
theorem dX4_twoNotices_53 : decode cX4_twoNotices 53 = .ok (.invokevirtual 75, 3) := by decide +kernel
theorem dX4_twoNotices_56 : decode cX4_twoNotices 56 = .ok (.aload_n 0, 1) := by decide +kernel
theorem dX4_twoNotices_57 : decode cX4_twoNotices 57 = .ok (.aload_n 1, 1) := by decide +kernel
theorem dX4_twoNotices_58 : decode cX4_twoNotices 58 = .ok (.aload_n 1, 1) := by decide +kernel
theorem dX4_twoNotices_59 : decode cX4_twoNotices 59 = .ok (.iload 4, 2) := by decide +kernel
theorem dX4_twoNotices_61 : decode cX4_twoNotices 61 = .ok (.aload_n 1, 1) := by decide +kernel
theorem dX4_twoNotices_62 : decode cX4_twoNotices 62 = .ok (.getfield 30, 3) := by decide +kernel
theorem dX4_twoNotices_65 : decode cX4_twoNotices 65 = .ok (.invokevirtual 36, 3) := by decide +kernel
theorem dX4_twoNotices_68 : decode cX4_twoNotices 68 = .ok (.iload 5, 2) := by decide +kernel
theorem dX4_twoNotices_70 : decode cX4_twoNotices 70 = .ok (.iload 6, 2) := by decide +kernel
theorem dX4_twoNotices_72 : decode cX4_twoNotices 72 = .ok (.invokevirtual 79, 3) := by decide +kernel
theorem dX4_twoNotices_75 : decode cX4_twoNotices 75 = .ok (.iload_n 2, 1) := by decide +kernel
theorem dX4_twoNotices_76 : decode cX4_twoNotices 76 = .ok (.iload_n 3, 1) := by decide +kernel
theorem dX4_twoNotices_77 : decode cX4_twoNotices 77 = .ok (.iconst 1, 1) := by decide +kernel
theorem dX4_twoNotices_78 : decode cX4_twoNotices 78 = .ok (.iadd, 1) := by decide +kernel
theorem dX4_twoNotices_79 : decode cX4_twoNotices 79 = .ok (.invokevirtual 45, 3) := by decide +kernel
theorem dX4_twoNotices_82 : decode cX4_twoNotices 82 = .ok (.istore 7, 2) := by decide +kernel
theorem dX4_twoNotices_84 : decode cX4_twoNotices 84 = .ok (.iload 7, 2) := by decide +kernel
theorem dX4_twoNotices_86 : decode cX4_twoNotices 86 = .ok (.bipush (-9), 2) := by decide +kernel
theorem dX4_twoNotices_88 : decode cX4_twoNotices 88 = .ok (.if_icmp .eq 25, 3) := by decide +kernel
theorem dX4_twoNotices_91 : decode cX4_twoNotices 91 = .ok (.bipush 100, 2) := by decide +kernel
theorem dX4_twoNotices_93 : decode cX4_twoNotices 93 = .ok (.iload 4, 2) := by decide +kernel
theorem dX4_twoNotices_95 : decode cX4_twoNotices 95 = .ok (.imul, 1) := by decide +kernel
theorem dX4_twoNotices_96 : decode cX4_twoNotices 96 = .ok (.bipush 10, 2) := by decide +kernel
theorem dX4_twoNotices_98 : decode cX4_twoNotices 98 = .ok (.iload 5, 2) := by decide +kernel
theorem dX4_twoNotices_100 : decode cX4_twoNotices 100 = .ok (.imul, 1) := by decide +kernel
theorem dX4_twoNotices_101 : decode cX4_twoNotices 101 = .ok (.iadd, 1) := by decide +kernel
theorem dX4_twoNotices_102 : decode cX4_twoNotices 102 = .ok (.iload 6, 2) := by decide +kernel
theorem dX4_twoNotices_104 : decode cX4_twoNotices 104 = .ok (.iadd, 1) := by decide +kernel
theorem dX4_twoNotices_105 : decode cX4_twoNotices 105 = .ok (.sipush 1000, 3) := by decide +kernel
theorem dX4_twoNotices_108 : decode cX4_twoNotices 108 = .ok (.imul, 1) := by decide +kernel
theorem dX4_twoNotices_109 : decode cX4_twoNotices 109 = .ok (.iload 7, 2) := by decide +kernel
theorem dX4_twoNotices_111 : decode cX4_twoNotices 111 = .ok (.iadd, 1) := by decide +kernel
theorem dX4_twoNotices_112 : decode cX4_twoNotices 112 = .ok (.ireturn, 1) := by decide +kernel
theorem dX4_twoNotices_113 : decode cX4_twoNotices 113 = .ok (.iinc 6 1, 3) := by decide +kernel
theorem dX4_twoNotices_116 : decode cX4_twoNotices 116 = .ok (.goto (-78), 3) := by decide +kernel
theorem dX4_twoNotices_119 : decode cX4_twoNotices 119 = .ok (.iinc 5 1, 3) := by decide +kernel
theorem dX4_twoNotices_122 : decode cX4_twoNotices 122 = .ok (.goto (-99), 3) := by decide +kernel
theorem dX4_twoNotices_125 : decode cX4_twoNotices 125 = .ok (.iinc 4 1, 3) := by decide +kernel
theorem dX4_twoNotices_128 : decode cX4_twoNotices 128 = .ok (.goto (-117), 3) := by decide +kernel
theorem dX4_twoNotices_131 : decode cX4_twoNotices 131 = .ok (.bipush (-9), 2) := by decide +kernel
theorem dX4_twoNotices_133 : decode cX4_twoNotices 133 = .ok (.ireturn, 1) := by decide +kernel
theorem dX4_readAhead_0 : decode cX4_readAhead 0 = .ok (.iconst 0, 1) := by decide +kernel
theorem dX4_readAhead_1 : decode cX4_readAhead 1 = .ok (.istore 6, 2) := by decide +kernel
theorem dX4_readAhead_3 : decode cX4_readAhead 3 = .ok (.iload 6, 2) := by decide +kernel
theorem dX4_readAhead_5 : decode cX4_readAhead 5 = .ok (.iload_n 2, 1) := by decide +kernel
theorem dX4_readAhead_6 : decode cX4_readAhead 6 = .ok (.if_icmp .ge 69, 3) := by decide +kernel
theorem dX4_readAhead_9 : decode cX4_readAhead 9 = .ok (.iload 6, 2) := by decide +kernel
theorem dX4_readAhead_11 : decode cX4_readAhead 11 = .ok (.aload_n 0, 1) := by decide +kernel
theorem dX4_readAhead_12 : decode cX4_readAhead 12 = .ok (.getfield 9, 3) := by decide +kernel
theorem dX4_readAhead_15 : decode cX4_readAhead 15 = .ok (.arraylength, 1) := by decide +kernel
theorem dX4_readAhead_16 : decode cX4_readAhead 16 = .ok (.if_icmp .ge 59, 3) := by decide +kernel
theorem dX4_readAhead_19 : decode cX4_readAhead 19 = .ok (.aload_n 1, 1) := by decide +kernel
theorem dX4_readAhead_20 : decode cX4_readAhead 20 = .ok (.getfield 30, 3) := by decide +kernel
theorem dX4_readAhead_23 : decode cX4_readAhead 23 = .ok (.iload 6, 2) := by decide +kernel
theorem dX4_readAhead_25 : decode cX4_readAhead 25 = .ok (.invokevirtual 59, 3) := by decide +kernel
theorem dX4_readAhead_28 : decode cX4_readAhead 28 = .ok (.istore 7, 2) := by decide +kernel
theorem dX4_readAhead_30 : decode cX4_readAhead 30 = .ok (.aload_n 0, 1) := by decide +kernel
theorem dX4_readAhead_31 : decode cX4_readAhead 31 = .ok (.getfield 9, 3) := by decide +kernel
theorem dX4_readAhead_34 : decode cX4_readAhead 34 = .ok (.iload 6, 2) := by decide +kernel
theorem dX4_readAhead_36 : decode cX4_readAhead 36 = .ok (.aload_n 1, 1) := by decide +kernel
theorem dX4_readAhead_37 : decode cX4_readAhead 37 = .ok (.iload 6, 2) := by decide +kernel
theorem dX4_readAhead_39 : decode cX4_readAhead 39 = .ok (.aload_n 1, 1) := by decide +kernel
theorem dX4_readAhead_40 : decode cX4_readAhead 40 = .ok (.getfield 30, 3) := by decide +kernel
theorem dX4_readAhead_43 : decode cX4_readAhead 43 = .ok (.invokevirtual 42, 3) := by decide +kernel
theorem dX4_readAhead_46 : decode cX4_readAhead 46 = .ok (.invokevirtual 83, 3) := by decide +kernel
theorem dX4_readAhead_49 : decode cX4_readAhead 49 = .ok (.ifCond .eq 17, 3) := by decide +kernel
theorem dX4_readAhead_52 : decode cX4_readAhead 52 = .ok (.aload_n 1, 1) := by decide +kernel
theorem dX4_readAhead_53 : decode cX4_readAhead 53 = .ok (.iload_n 3, 1) := by decide +kernel
theorem dX4_readAhead_54 : decode cX4_readAhead 54 = .ok (.iload 7, 2) := by decide +kernel
theorem dX4_readAhead_56 : decode cX4_readAhead 56 = .ok (.iload 4, 2) := by decide +kernel
theorem dX4_readAhead_58 : decode cX4_readAhead 58 = .ok (.iload 5, 2) := by decide +kernel
theorem dX4_readAhead_60 : decode cX4_readAhead 60 = .ok (.invokevirtual 79, 3) := by decide +kernel
theorem dX4_readAhead_63 : decode cX4_readAhead 63 = .ok (.goto 5, 3) := by decide +kernel
theorem dX4_readAhead_66 : decode cX4_readAhead 66 = .ok (.iload 7, 2) := by decide +kernel
theorem dX4_readAhead_68 : decode cX4_readAhead 68 = .ok (.iastore, 1) := by decide +kernel
theorem dX4_readAhead_69 : decode cX4_readAhead 69 = .ok (.iinc 6 1, 3) := by decide +kernel
theorem dX4_readAhead_72 : decode cX4_readAhead 72 = .ok (.goto (-69), 3) := by decide +kernel
theorem dX4_readAhead_75 : decode cX4_readAhead 75 = .ok (.return_, 1) := by decide +kernel
theorem dX4_lastNotice_0 : decode cX4_lastNotice 0 = .ok (.iconst 0, 1) := by decide +kernel
theorem dX4_lastNotice_1 : decode cX4_lastNotice 1 = .ok (.istore 5, 2) := by decide +kernel
theorem dX4_lastNotice_3 : decode cX4_lastNotice 3 = .ok (.iload 5, 2) := by decide +kernel
theorem dX4_lastNotice_5 : decode cX4_lastNotice 5 = .ok (.aload_n 1, 1) := by decide +kernel
theorem dX4_lastNotice_6 : decode cX4_lastNotice 6 = .ok (.getfield 63, 3) := by decide +kernel
theorem dX4_lastNotice_9 : decode cX4_lastNotice 9 = .ok (.if_icmp .ge 109, 3) := by decide +kernel
theorem dX4_lastNotice_12 : decode cX4_lastNotice 12 = .ok (.aload_n 1, 1) := by decide +kernel
theorem dX4_lastNotice_13 : decode cX4_lastNotice 13 = .ok (.getfield 30, 3) := by decide +kernel
theorem dX4_lastNotice_16 : decode cX4_lastNotice 16 = .ok (.iload 5, 2) := by decide +kernel
theorem dX4_lastNotice_18 : decode cX4_lastNotice 18 = .ok (.invokevirtual 87, 3) := by decide +kernel
theorem dX4_lastNotice_21 : decode cX4_lastNotice 21 = .ok (.istore 6, 2) := by decide +kernel
theorem dX4_lastNotice_23 : decode cX4_lastNotice 23 = .ok (.iconst 0, 1) := by decide +kernel
theorem dX4_lastNotice_24 : decode cX4_lastNotice 24 = .ok (.istore 7, 2) := by decide +kernel
theorem dX4_lastNotice_26 : decode cX4_lastNotice 26 = .ok (.iload 7, 2) := by decide +kernel
theorem dX4_lastNotice_28 : decode cX4_lastNotice 28 = .ok (.aload_n 1, 1) := by decide +kernel
theorem dX4_lastNotice_29 : decode cX4_lastNotice 29 = .ok (.getfield 66, 3) := by decide +kernel
theorem dX4_lastNotice_32 : decode cX4_lastNotice 32 = .ok (.getfield 70, 3) := by decide +kernel
theorem dX4_lastNotice_35 : decode cX4_lastNotice 35 = .ok (.if_icmp .ge 77, 3) := by decide +kernel
theorem dX4_lastNotice_38 : decode cX4_lastNotice 38 = .ok (.iconst 0, 1) := by decide +kernel
theorem dX4_lastNotice_39 : decode cX4_lastNotice 39 = .ok (.istore 8, 2) := by decide +kernel
theorem dX4_lastNotice_41 : decode cX4_lastNotice 41 = .ok (.iload 8, 2) := by decide +kernel
theorem dX4_lastNotice_43 : decode cX4_lastNotice 43 = .ok (.iconst 4, 1) := by decide +kernel
theorem dX4_lastNotice_44 : decode cX4_lastNotice 44 = .ok (.if_icmp .ge 62, 3) := by decide +kernel
theorem dX4_lastNotice_47 : decode cX4_lastNotice 47 = .ok (.aload_n 1, 1) := by decide +kernel
theorem dX4_lastNotice_48 : decode cX4_lastNotice 48 = .ok (.getfield 66, 3) := by decide +kernel
theorem dX4_lastNotice_51 : decode cX4_lastNotice 51 = .ok (.iload 6, 2) := by decide +kernel
theorem dX4_lastNotice_53 : decode cX4_lastNotice 53 = .ok (.iload_n 2, 1) := by decide +kernel
theorem dX4_lastNotice_54 : decode cX4_lastNotice 54 = .ok (.iload 7, 2) := by decide +kernel
theorem dX4_lastNotice_56 : decode cX4_lastNotice 56 = .ok (.iload 8, 2) := by decide +kernel
theorem dX4_lastNotice_58 : decode cX4_lastNotice 58 = .ok (.invokevirtual 90, 3) := by decide +kernel
theorem dX4_lastNotice_61 : decode cX4_lastNotice 61 = .ok (.aload_n 1, 1) := by decide +kernel
theorem dX4_lastNotice_62 : decode cX4_lastNotice 62 = .ok (.getfield 53, 3) := by decide +kernel
theorem dX4_lastNotice_65 : decode cX4_lastNotice 65 = .ok (.if_icmp .ne 35, 3) := by decide +kernel
theorem dX4_lastNotice_68 : decode cX4_lastNotice 68 = .ok (.aload_n 0, 1) := by decide +kernel
theorem dX4_lastNotice_69 : decode cX4_lastNotice 69 = .ok (.aload_n 1, 1) := by decide +kernel
theorem dX4_lastNotice_70 : decode cX4_lastNotice 70 = .ok (.iload_n 3, 1) := by decide +kernel
theorem dX4_lastNotice_71 : decode cX4_lastNotice 71 = .ok (.iload 4, 2) := by decide +kernel
theorem dX4_lastNotice_73 : decode cX4_lastNotice 73 = .ok (.iload 6, 2) := by decide +kernel
theorem dX4_lastNotice_75 : decode cX4_lastNotice 75 = .ok (.iload 7, 2) := by decide +kernel
theorem dX4_lastNotice_77 : decode cX4_lastNotice 77 = .ok (.iload 8, 2) := by decide +kernel
theorem dX4_lastNotice_79 : decode cX4_lastNotice 79 = .ok (.invokevirtual 91, 3) := by decide +kernel
theorem dX4_lastNotice_82 : decode cX4_lastNotice 82 = .ok (.ifCond .eq 18, 3) := by decide +kernel
theorem dX4_lastNotice_85 : decode cX4_lastNotice 85 = .ok (.bipush 100, 2) := by decide +kernel
theorem dX4_lastNotice_87 : decode cX4_lastNotice 87 = .ok (.iload 5, 2) := by decide +kernel
theorem dX4_lastNotice_89 : decode cX4_lastNotice 89 = .ok (.imul, 1) := by decide +kernel
theorem dX4_lastNotice_90 : decode cX4_lastNotice 90 = .ok (.bipush 10, 2) := by decide +kernel
theorem dX4_lastNotice_92 : decode cX4_lastNotice 92 = .ok (.iload 7, 2) := by decide +kernel
theorem dX4_lastNotice_94 : decode cX4_lastNotice 94 = .ok (.imul, 1) := by decide +kernel
theorem dX4_lastNotice_95 : decode cX4_lastNotice 95 = .ok (.iadd, 1) := by decide +kernel
theorem dX4_lastNotice_96 : decode cX4_lastNotice 96 = .ok (.iload 8, 2) := by decide +kernel
theorem dX4_lastNotice_98 : decode cX4_lastNotice 98 = .ok (.iadd, 1) := by decide +kernel
theorem dX4_lastNotice_99 : decode cX4_lastNotice 99 = .ok (.ireturn, 1) := by decide +kernel
theorem dX4_lastNotice_100 : decode cX4_lastNotice 100 = .ok (.iinc 8 1, 3) := by decide +kernel
theorem dX4_lastNotice_103 : decode cX4_lastNotice 103 = .ok (.goto (-62), 3) := by decide +kernel
theorem dX4_lastNotice_106 : decode cX4_lastNotice 106 = .ok (.iinc 7 1, 3) := by decide +kernel
theorem dX4_lastNotice_109 : decode cX4_lastNotice 109 = .ok (.goto (-83), 3) := by decide +kernel
theorem dX4_lastNotice_112 : decode cX4_lastNotice 112 = .ok (.iinc 5 1, 3) := by decide +kernel
theorem dX4_lastNotice_115 : decode cX4_lastNotice 115 = .ok (.goto (-112), 3) := by decide +kernel
theorem dX4_lastNotice_118 : decode cX4_lastNotice 118 = .ok (.bipush (-9), 2) := by decide +kernel
theorem dX4_lastNotice_120 : decode cX4_lastNotice 120 = .ok (.ireturn, 1) := by decide +kernel
theorem dX4_rightsBeliefs_0 : decode cX4_rightsBeliefs 0 = .ok (.iconst 0, 1) := by decide +kernel
theorem dX4_rightsBeliefs_1 : decode cX4_rightsBeliefs 1 = .ok (.istore 7, 2) := by decide +kernel
theorem dX4_rightsBeliefs_3 : decode cX4_rightsBeliefs 3 = .ok (.iload 7, 2) := by decide +kernel
theorem dX4_rightsBeliefs_5 : decode cX4_rightsBeliefs 5 = .ok (.iload_n 2, 1) := by decide +kernel
theorem dX4_rightsBeliefs_6 : decode cX4_rightsBeliefs 6 = .ok (.if_icmp .ge 66, 3) := by decide +kernel
theorem dX4_rightsBeliefs_9 : decode cX4_rightsBeliefs 9 = .ok (.iload 7, 2) := by decide +kernel
theorem dX4_rightsBeliefs_11 : decode cX4_rightsBeliefs 11 = .ok (.aload_n 0, 1) := by decide +kernel
theorem dX4_rightsBeliefs_12 : decode cX4_rightsBeliefs 12 = .ok (.getfield 9, 3) := by decide +kernel
theorem dX4_rightsBeliefs_15 : decode cX4_rightsBeliefs 15 = .ok (.arraylength, 1) := by decide +kernel
theorem dX4_rightsBeliefs_16 : decode cX4_rightsBeliefs 16 = .ok (.if_icmp .ge 56, 3) := by decide +kernel
theorem dX4_rightsBeliefs_19 : decode cX4_rightsBeliefs 19 = .ok (.aload_n 0, 1) := by decide +kernel
theorem dX4_rightsBeliefs_20 : decode cX4_rightsBeliefs 20 = .ok (.getfield 9, 3) := by decide +kernel
theorem dX4_rightsBeliefs_23 : decode cX4_rightsBeliefs 23 = .ok (.iload 7, 2) := by decide +kernel
theorem dX4_rightsBeliefs_25 : decode cX4_rightsBeliefs 25 = .ok (.iaload, 1) := by decide +kernel
theorem dX4_rightsBeliefs_26 : decode cX4_rightsBeliefs 26 = .ok (.istore 8, 2) := by decide +kernel
theorem dX4_rightsBeliefs_28 : decode cX4_rightsBeliefs 28 = .ok (.aload_n 1, 1) := by decide +kernel
theorem dX4_rightsBeliefs_29 : decode cX4_rightsBeliefs 29 = .ok (.iload 7, 2) := by decide +kernel
theorem dX4_rightsBeliefs_31 : decode cX4_rightsBeliefs 31 = .ok (.iload_n 3, 1) := by decide +kernel
theorem dX4_rightsBeliefs_32 : decode cX4_rightsBeliefs 32 = .ok (.invokevirtual 83, 3) := by decide +kernel
theorem dX4_rightsBeliefs_35 : decode cX4_rightsBeliefs 35 = .ok (.ifCond .eq 20, 3) := by decide +kernel
theorem dX4_rightsBeliefs_38 : decode cX4_rightsBeliefs 38 = .ok (.aload_n 1, 1) := by decide +kernel
theorem dX4_rightsBeliefs_39 : decode cX4_rightsBeliefs 39 = .ok (.getfield 66, 3) := by decide +kernel
theorem dX4_rightsBeliefs_42 : decode cX4_rightsBeliefs 42 = .ok (.iload 4, 2) := by decide +kernel
theorem dX4_rightsBeliefs_44 : decode cX4_rightsBeliefs 44 = .ok (.iload 8, 2) := by decide +kernel
theorem dX4_rightsBeliefs_46 : decode cX4_rightsBeliefs 46 = .ok (.iload 5, 2) := by decide +kernel
theorem dX4_rightsBeliefs_48 : decode cX4_rightsBeliefs 48 = .ok (.iload 6, 2) := by decide +kernel
theorem dX4_rightsBeliefs_50 : decode cX4_rightsBeliefs 50 = .ok (.invokevirtual 90, 3) := by decide +kernel
theorem dX4_rightsBeliefs_53 : decode cX4_rightsBeliefs 53 = .ok (.istore 8, 2) := by decide +kernel
theorem dX4_rightsBeliefs_55 : decode cX4_rightsBeliefs 55 = .ok (.iload 8, 2) := by decide +kernel
theorem dX4_rightsBeliefs_57 : decode cX4_rightsBeliefs 57 = .ok (.aload_n 1, 1) := by decide +kernel
theorem dX4_rightsBeliefs_58 : decode cX4_rightsBeliefs 58 = .ok (.getfield 53, 3) := by decide +kernel
theorem dX4_rightsBeliefs_61 : decode cX4_rightsBeliefs 61 = .ok (.if_icmp .eq 5, 3) := by decide +kernel
theorem dX4_rightsBeliefs_64 : decode cX4_rightsBeliefs 64 = .ok (.iconst 0, 1) := by decide +kernel
theorem dX4_rightsBeliefs_65 : decode cX4_rightsBeliefs 65 = .ok (.ireturn, 1) := by decide +kernel
theorem dX4_rightsBeliefs_66 : decode cX4_rightsBeliefs 66 = .ok (.iinc 7 1, 3) := by decide +kernel
theorem dX4_rightsBeliefs_69 : decode cX4_rightsBeliefs 69 = .ok (.goto (-66), 3) := by decide +kernel
theorem dX4_rightsBeliefs_72 : decode cX4_rightsBeliefs 72 = .ok (.iconst 1, 1) := by decide +kernel
theorem dX4_rightsBeliefs_73 : decode cX4_rightsBeliefs 73 = .ok (.ireturn, 1) := by decide +kernel
theorem dX5_init_0 : decode cX5_init 0 = .ok (.aload_n 0, 1) := by decide +kernel
theorem dX5_init_1 : decode cX5_init 1 = .ok (.invokespecial 3, 3) := by decide +kernel
theorem dX5_init_4 : decode cX5_init 4 = .ok (.aload_n 0, 1) := by decide +kernel
theorem dX5_init_5 : decode cX5_init 5 = .ok (.iconst 4, 1) := by decide +kernel
theorem dX5_init_6 : decode cX5_init 6 = .ok (.newarray .int, 2) := by decide +kernel
theorem dX5_init_8 : decode cX5_init 8 = .ok (.putfield 9, 3) := by decide +kernel
theorem dX5_init_11 : decode cX5_init 11 = .ok (.aload_n 0, 1) := by decide +kernel
theorem dX5_init_12 : decode cX5_init 12 = .ok (.iconst 0, 1) := by decide +kernel
theorem dX5_init_13 : decode cX5_init 13 = .ok (.putfield 15, 3) := by decide +kernel
theorem dX5_init_16 : decode cX5_init 16 = .ok (.return_, 1) := by decide +kernel
theorem dX5_read_0 : decode cX5_read 0 = .ok (.iload_n 2, 1) := by decide +kernel
theorem dX5_read_1 : decode cX5_read 1 = .ok (.iconst 1, 1) := by decide +kernel
theorem dX5_read_2 : decode cX5_read 2 = .ok (.if_icmp .lt 24, 3) := by decide +kernel
theorem dX5_read_5 : decode cX5_read 5 = .ok (.iload_n 2, 1) := by decide +kernel
theorem dX5_read_6 : decode cX5_read 6 = .ok (.iload_n 3, 1) := by decide +kernel
theorem dX5_read_7 : decode cX5_read 7 = .ok (.if_icmp .gt 19, 3) := by decide +kernel
theorem dX5_read_10 : decode cX5_read 10 = .ok (.iload_n 2, 1) := by decide +kernel
theorem dX5_read_11 : decode cX5_read 11 = .ok (.aload_n 0, 1) := by decide +kernel
theorem dX5_read_12 : decode cX5_read 12 = .ok (.getfield 9, 3) := by decide +kernel
theorem dX5_read_15 : decode cX5_read 15 = .ok (.arraylength, 1) := by decide +kernel
theorem dX5_read_16 : decode cX5_read 16 = .ok (.if_icmp .gt 10, 3) := by decide +kernel
theorem dX5_read_19 : decode cX5_read 19 = .ok (.lload 4, 2) := by decide +kernel
theorem dX5_read_21 : decode cX5_read 21 = .ok (.lconst 0, 1) := by decide +kernel
theorem dX5_read_22 : decode cX5_read 22 = .ok (.lcmp, 1) := by decide +kernel
theorem dX5_read_23 : decode cX5_read 23 = .ok (.ifCond .ge 5, 3) := by decide +kernel
theorem dX5_read_26 : decode cX5_read 26 = .ok (.iconst 0, 1) := by decide +kernel
theorem dX5_read_27 : decode cX5_read 27 = .ok (.ireturn, 1) := by decide +kernel
theorem dX5_read_28 : decode cX5_read 28 = .ok (.lload 4, 2) := by decide +kernel
theorem dX5_read_30 : decode cX5_read 30 = .ok (.lstore 6, 2) := by decide +kernel
theorem dX5_read_32 : decode cX5_read 32 = .ok (.iload_n 2, 1) := by decide +kernel
theorem dX5_read_33 : decode cX5_read 33 = .ok (.iconst 1, 1) := by decide +kernel
theorem dX5_read_34 : decode cX5_read 34 = .ok (.isub, 1) := by decide +kernel
theorem dX5_read_35 : decode cX5_read 35 = .ok (.istore 8, 2) := by decide +kernel
theorem dX5_read_37 : decode cX5_read 37 = .ok (.iload 8, 2) := by decide +kernel
theorem dX5_read_39 : decode cX5_read 39 = .ok (.ifCond .lt 69, 3) := by decide +kernel
theorem dX5_read_42 : decode cX5_read 42 = .ok (.lload 6, 2) := by decide +kernel
theorem dX5_read_44 : decode cX5_read 44 = .ok (.ldc2_w 19, 3) := by decide +kernel
theorem dX5_read_47 : decode cX5_read 47 = .ok (.lrem, 1) := by decide +kernel
theorem dX5_read_48 : decode cX5_read 48 = .ok (.l2i, 1) := by decide +kernel
theorem dX5_read_49 : decode cX5_read 49 = .ok (.istore 9, 2) := by decide +kernel
theorem dX5_read_51 : decode cX5_read 51 = .ok (.aload_n 1, 1) := by decide +kernel
theorem dX5_read_52 : decode cX5_read 52 = .ok (.iload 9, 2) := by decide +kernel
theorem dX5_read_54 : decode cX5_read 54 = .ok (.bipush 100, 2) := by decide +kernel
theorem dX5_read_56 : decode cX5_read 56 = .ok (.idiv, 1) := by decide +kernel
theorem dX5_read_57 : decode cX5_read 57 = .ok (.invokevirtual 21, 3) := by decide +kernel
theorem dX5_read_60 : decode cX5_read 60 = .ok (.ifCond .eq 23, 3) := by decide +kernel
theorem dX5_read_63 : decode cX5_read 63 = .ok (.aload_n 1, 1) := by decide +kernel
theorem dX5_read_64 : decode cX5_read 64 = .ok (.iload 9, 2) := by decide +kernel
theorem dX5_read_66 : decode cX5_read 66 = .ok (.bipush 10, 2) := by decide +kernel
theorem dX5_read_68 : decode cX5_read 68 = .ok (.idiv, 1) := by decide +kernel
theorem dX5_read_69 : decode cX5_read 69 = .ok (.bipush 10, 2) := by decide +kernel
theorem dX5_read_71 : decode cX5_read 71 = .ok (.irem, 1) := by decide +kernel
theorem dX5_read_72 : decode cX5_read 72 = .ok (.iload 9, 2) := by decide +kernel
theorem dX5_read_74 : decode cX5_read 74 = .ok (.bipush 10, 2) := by decide +kernel
theorem dX5_read_76 : decode cX5_read 76 = .ok (.irem, 1) := by decide +kernel
theorem dX5_read_77 : decode cX5_read 77 = .ok (.invokevirtual 27, 3) := by decide +kernel
theorem dX5_read_80 : decode cX5_read 80 = .ok (.ifCond .ne 5, 3) := by decide +kernel
theorem dX5_read_83 : decode cX5_read 83 = .ok (.iconst 0, 1) := by decide +kernel
theorem dX5_read_84 : decode cX5_read 84 = .ok (.ireturn, 1) := by decide +kernel
theorem dX5_read_85 : decode cX5_read 85 = .ok (.aload_n 0, 1) := by decide +kernel
theorem dX5_read_86 : decode cX5_read 86 = .ok (.getfield 9, 3) := by decide +kernel
theorem dX5_read_89 : decode cX5_read 89 = .ok (.iload 8, 2) := by decide +kernel
theorem dX5_read_91 : decode cX5_read 91 = .ok (.iload 9, 2) := by decide +kernel
theorem dX5_read_93 : decode cX5_read 93 = .ok (.iastore, 1) := by decide +kernel
theorem dX5_read_94 : decode cX5_read 94 = .ok (.lload 6, 2) := by decide +kernel
theorem dX5_read_96 : decode cX5_read 96 = .ok (.ldc2_w 19, 3) := by decide +kernel
theorem dX5_read_99 : decode cX5_read 99 = .ok (.ldiv, 1) := by decide +kernel
theorem dX5_read_100 : decode cX5_read 100 = .ok (.lstore 6, 2) := by decide +kernel
theorem dX5_read_102 : decode cX5_read 102 = .ok (.iinc 8 (-1), 3) := by decide +kernel
theorem dX5_read_105 : decode cX5_read 105 = .ok (.goto (-68), 3) := by decide +kernel
theorem dX5_read_108 : decode cX5_read 108 = .ok (.aload_n 0, 1) := by decide +kernel
theorem dX5_read_109 : decode cX5_read 109 = .ok (.iload_n 2, 1) := by decide +kernel
theorem dX5_read_110 : decode cX5_read 110 = .ok (.putfield 15, 3) := by decide +kernel
theorem dX5_read_113 : decode cX5_read 113 = .ok (.lload 6, 2) := by decide +kernel
theorem dX5_read_115 : decode cX5_read 115 = .ok (.lconst 0, 1) := by decide +kernel
theorem dX5_read_116 : decode cX5_read 116 = .ok (.lcmp, 1) := by decide +kernel
theorem dX5_read_117 : decode cX5_read 117 = .ok (.ifCond .ne 7, 3) := by decide +kernel
theorem dX5_read_120 : decode cX5_read 120 = .ok (.iconst 1, 1) := by decide +kernel
theorem dX5_read_121 : decode cX5_read 121 = .ok (.goto 4, 3) := by decide +kernel
theorem dX5_read_124 : decode cX5_read 124 = .ok (.iconst 0, 1) := by decide +kernel
theorem dX5_read_125 : decode cX5_read 125 = .ok (.ireturn, 1) := by decide +kernel
theorem dX5_doneOn_0 : decode cX5_doneOn 0 = .ok (.iload_n 2, 1) := by decide +kernel
theorem dX5_doneOn_1 : decode cX5_doneOn 1 = .ok (.istore_n 3, 1) := by decide +kernel
theorem dX5_doneOn_2 : decode cX5_doneOn 2 = .ok (.iconst 0, 1) := by decide +kernel
theorem dX5_doneOn_3 : decode cX5_doneOn 3 = .ok (.istore 4, 2) := by decide +kernel
theorem dX5_doneOn_5 : decode cX5_doneOn 5 = .ok (.iload 4, 2) := by decide +kernel
theorem dX5_doneOn_7 : decode cX5_doneOn 7 = .ok (.aload_n 0, 1) := by decide +kernel
theorem dX5_doneOn_8 : decode cX5_doneOn 8 = .ok (.getfield 15, 3) := by decide +kernel
theorem dX5_doneOn_11 : decode cX5_doneOn 11 = .ok (.if_icmp .ge 52, 3) := by decide +kernel
theorem dX5_doneOn_14 : decode cX5_doneOn 14 = .ok (.iload 4, 2) := by decide +kernel
theorem dX5_doneOn_16 : decode cX5_doneOn 16 = .ok (.aload_n 0, 1) := by decide +kernel
theorem dX5_doneOn_17 : decode cX5_doneOn 17 = .ok (.getfield 9, 3) := by decide +kernel
theorem dX5_doneOn_20 : decode cX5_doneOn 20 = .ok (.arraylength, 1) := by decide +kernel
theorem dX5_doneOn_21 : decode cX5_doneOn 21 = .ok (.if_icmp .ge 42, 3) := by decide +kernel
theorem dX5_doneOn_24 : decode cX5_doneOn 24 = .ok (.aload_n 0, 1) := by decide +kernel
theorem dX5_doneOn_25 : decode cX5_doneOn 25 = .ok (.getfield 9, 3) := by decide +kernel
theorem dX5_doneOn_28 : decode cX5_doneOn 28 = .ok (.iload 4, 2) := by decide +kernel
theorem dX5_doneOn_30 : decode cX5_doneOn 30 = .ok (.iaload, 1) := by decide +kernel
theorem dX5_doneOn_31 : decode cX5_doneOn 31 = .ok (.istore 5, 2) := by decide +kernel
theorem dX5_doneOn_33 : decode cX5_doneOn 33 = .ok (.aload_n 1, 1) := by decide +kernel
theorem dX5_doneOn_34 : decode cX5_doneOn 34 = .ok (.iload 5, 2) := by decide +kernel
theorem dX5_doneOn_36 : decode cX5_doneOn 36 = .ok (.bipush 100, 2) := by decide +kernel
theorem dX5_doneOn_38 : decode cX5_doneOn 38 = .ok (.idiv, 1) := by decide +kernel
theorem dX5_doneOn_39 : decode cX5_doneOn 39 = .ok (.iload_n 3, 1) := by decide +kernel
theorem dX5_doneOn_40 : decode cX5_doneOn 40 = .ok (.iload 5, 2) := by decide +kernel
theorem dX5_doneOn_42 : decode cX5_doneOn 42 = .ok (.bipush 10, 2) := by decide +kernel
theorem dX5_doneOn_44 : decode cX5_doneOn 44 = .ok (.idiv, 1) := by decide +kernel
theorem dX5_doneOn_45 : decode cX5_doneOn 45 = .ok (.bipush 10, 2) := by decide +kernel
theorem dX5_doneOn_47 : decode cX5_doneOn 47 = .ok (.irem, 1) := by decide +kernel
theorem dX5_doneOn_48 : decode cX5_doneOn 48 = .ok (.iload 5, 2) := by decide +kernel
theorem dX5_doneOn_50 : decode cX5_doneOn 50 = .ok (.bipush 10, 2) := by decide +kernel
theorem dX5_doneOn_52 : decode cX5_doneOn 52 = .ok (.irem, 1) := by decide +kernel
theorem dX5_doneOn_53 : decode cX5_doneOn 53 = .ok (.invokevirtual 31, 3) := by decide +kernel
theorem dX5_doneOn_56 : decode cX5_doneOn 56 = .ok (.istore_n 3, 1) := by decide +kernel
theorem dX5_doneOn_57 : decode cX5_doneOn 57 = .ok (.iinc 4 1, 3) := by decide +kernel
theorem dX5_doneOn_60 : decode cX5_doneOn 60 = .ok (.goto (-55), 3) := by decide +kernel
theorem dX5_doneOn_63 : decode cX5_doneOn 63 = .ok (.iload_n 3, 1) := by decide +kernel
theorem dX5_doneOn_64 : decode cX5_doneOn 64 = .ok (.ireturn, 1) := by decide +kernel
theorem dX5_nameOnRing_0 : decode cX5_nameOnRing 0 = .ok (.aload_n 0, 1) := by decide +kernel
theorem dX5_nameOnRing_1 : decode cX5_nameOnRing 1 = .ok (.aload_n 1, 1) := by decide +kernel
theorem dX5_nameOnRing_2 : decode cX5_nameOnRing 2 = .ok (.aload_n 1, 1) := by decide +kernel
theorem dX5_nameOnRing_3 : decode cX5_nameOnRing 3 = .ok (.getfield 35, 3) := by decide +kernel
theorem dX5_nameOnRing_6 : decode cX5_nameOnRing 6 = .ok (.invokevirtual 39, 3) := by decide +kernel
theorem dX5_nameOnRing_9 : decode cX5_nameOnRing 9 = .ok (.invokevirtual 45, 3) := by decide +kernel
theorem dX5_nameOnRing_12 : decode cX5_nameOnRing 12 = .ok (.istore_n 2, 1) := by decide +kernel
theorem dX5_nameOnRing_13 : decode cX5_nameOnRing 13 = .ok (.aload_n 0, 1) := by decide +kernel
theorem dX5_nameOnRing_14 : decode cX5_nameOnRing 14 = .ok (.aload_n 1, 1) := by decide +kernel
theorem dX5_nameOnRing_15 : decode cX5_nameOnRing 15 = .ok (.iload_n 2, 1) := by decide +kernel
theorem dX5_nameOnRing_16 : decode cX5_nameOnRing 16 = .ok (.invokevirtual 45, 3) := by decide +kernel
theorem dX5_nameOnRing_19 : decode cX5_nameOnRing 19 = .ok (.istore_n 3, 1) := by decide +kernel
theorem dX5_nameOnRing_20 : decode cX5_nameOnRing 20 = .ok (.iconst 0, 1) := by decide +kernel
theorem dX5_nameOnRing_21 : decode cX5_nameOnRing 21 = .ok (.istore 4, 2) := by decide +kernel
theorem dX5_nameOnRing_23 : decode cX5_nameOnRing 23 = .ok (.iload 4, 2) := by decide +kernel
theorem dX5_nameOnRing_25 : decode cX5_nameOnRing 25 = .ok (.sipush 1024, 3) := by decide +kernel
theorem dX5_nameOnRing_28 : decode cX5_nameOnRing 28 = .ok (.if_icmp .ge 33, 3) := by decide +kernel
theorem dX5_nameOnRing_31 : decode cX5_nameOnRing 31 = .ok (.iload_n 2, 1) := by decide +kernel
theorem dX5_nameOnRing_32 : decode cX5_nameOnRing 32 = .ok (.iload_n 3, 1) := by decide +kernel
theorem dX5_nameOnRing_33 : decode cX5_nameOnRing 33 = .ok (.if_icmp .eq 28, 3) := by decide +kernel
theorem dX5_nameOnRing_36 : decode cX5_nameOnRing 36 = .ok (.aload_n 0, 1) := by decide +kernel
theorem dX5_nameOnRing_37 : decode cX5_nameOnRing 37 = .ok (.aload_n 1, 1) := by decide +kernel
theorem dX5_nameOnRing_38 : decode cX5_nameOnRing 38 = .ok (.iload_n 2, 1) := by decide +kernel
theorem dX5_nameOnRing_39 : decode cX5_nameOnRing 39 = .ok (.invokevirtual 45, 3) := by decide +kernel
theorem dX5_nameOnRing_42 : decode cX5_nameOnRing 42 = .ok (.istore_n 2, 1) := by decide +kernel
theorem dX5_nameOnRing_43 : decode cX5_nameOnRing 43 = .ok (.aload_n 0, 1) := by decide +kernel
theorem dX5_nameOnRing_44 : decode cX5_nameOnRing 44 = .ok (.aload_n 1, 1) := by decide +kernel
theorem dX5_nameOnRing_45 : decode cX5_nameOnRing 45 = .ok (.aload_n 0, 1) := by decide +kernel
theorem dX5_nameOnRing_46 : decode cX5_nameOnRing 46 = .ok (.aload_n 1, 1) := by decide +kernel
theorem dX5_nameOnRing_47 : decode cX5_nameOnRing 47 = .ok (.iload_n 3, 1) := by decide +kernel
theorem dX5_nameOnRing_48 : decode cX5_nameOnRing 48 = .ok (.invokevirtual 45, 3) := by decide +kernel
theorem dX5_nameOnRing_51 : decode cX5_nameOnRing 51 = .ok (.invokevirtual 45, 3) := by decide +kernel
theorem dX5_nameOnRing_54 : decode cX5_nameOnRing 54 = .ok (.istore_n 3, 1) := by decide +kernel
theorem dX5_nameOnRing_55 : decode cX5_nameOnRing 55 = .ok (.iinc 4 1, 3) := by decide +kernel
theorem dX5_nameOnRing_58 : decode cX5_nameOnRing 58 = .ok (.goto (-35), 3) := by decide +kernel
theorem dX5_nameOnRing_61 : decode cX5_nameOnRing 61 = .ok (.iload_n 2, 1) := by decide +kernel
theorem dX5_nameOnRing_62 : decode cX5_nameOnRing 62 = .ok (.ireturn, 1) := by decide +kernel
theorem dX5_roundsToRing_0 : decode cX5_roundsToRing 0 = .ok (.aload_n 1, 1) := by decide +kernel
theorem dX5_roundsToRing_1 : decode cX5_roundsToRing 1 = .ok (.getfield 35, 3) := by decide +kernel
theorem dX5_roundsToRing_4 : decode cX5_roundsToRing 4 = .ok (.invokevirtual 39, 3) := by decide +kernel
theorem dX5_roundsToRing_7 : decode cX5_roundsToRing 7 = .ok (.istore_n 3, 1) := by decide +kernel
theorem dX5_roundsToRing_8 : decode cX5_roundsToRing 8 = .ok (.iload_n 2, 1) := by decide +kernel
theorem dX5_roundsToRing_9 : decode cX5_roundsToRing 9 = .ok (.istore 4, 2) := by decide +kernel
theorem dX5_roundsToRing_11 : decode cX5_roundsToRing 11 = .ok (.iconst 0, 1) := by decide +kernel
theorem dX5_roundsToRing_12 : decode cX5_roundsToRing 12 = .ok (.istore 5, 2) := by decide +kernel
theorem dX5_roundsToRing_14 : decode cX5_roundsToRing 14 = .ok (.iload 5, 2) := by decide +kernel
theorem dX5_roundsToRing_16 : decode cX5_roundsToRing 16 = .ok (.sipush 1024, 3) := by decide +kernel
theorem dX5_roundsToRing_19 : decode cX5_roundsToRing 19 = .ok (.if_icmp .ge 31, 3) := by decide +kernel
theorem dX5_roundsToRing_22 : decode cX5_roundsToRing 22 = .ok (.iload_n 3, 1) := by decide +kernel
theorem dX5_roundsToRing_23 : decode cX5_roundsToRing 23 = .ok (.iload 4, 2) := by decide +kernel
theorem dX5_roundsToRing_25 : decode cX5_roundsToRing 25 = .ok (.if_icmp .eq 25, 3) := by decide +kernel
theorem dX5_roundsToRing_28 : decode cX5_roundsToRing 28 = .ok (.aload_n 0, 1) := by decide +kernel
theorem dX5_roundsToRing_29 : decode cX5_roundsToRing 29 = .ok (.aload_n 1, 1) := by decide +kernel
theorem dX5_roundsToRing_30 : decode cX5_roundsToRing 30 = .ok (.iload_n 3, 1) := by decide +kernel
theorem dX5_roundsToRing_31 : decode cX5_roundsToRing 31 = .ok (.invokevirtual 45, 3) := by decide +kernel
theorem dX5_roundsToRing_34 : decode cX5_roundsToRing 34 = .ok (.istore_n 3, 1) := by decide +kernel
theorem dX5_roundsToRing_35 : decode cX5_roundsToRing 35 = .ok (.aload_n 0, 1) := by decide +kernel
theorem dX5_roundsToRing_36 : decode cX5_roundsToRing 36 = .ok (.aload_n 1, 1) := by decide +kernel
theorem dX5_roundsToRing_37 : decode cX5_roundsToRing 37 = .ok (.iload 4, 2) := by decide +kernel
theorem dX5_roundsToRing_39 : decode cX5_roundsToRing 39 = .ok (.invokevirtual 45, 3) := by decide +kernel
theorem dX5_roundsToRing_42 : decode cX5_roundsToRing 42 = .ok (.istore 4, 2) := by decide +kernel
theorem dX5_roundsToRing_44 : decode cX5_roundsToRing 44 = .ok (.iinc 5 1, 3) := by decide +kernel
theorem dX5_roundsToRing_47 : decode cX5_roundsToRing 47 = .ok (.goto (-33), 3) := by decide +kernel
theorem dX5_roundsToRing_50 : decode cX5_roundsToRing 50 = .ok (.iload 5, 2) := by decide +kernel
theorem dX5_roundsToRing_52 : decode cX5_roundsToRing 52 = .ok (.ireturn, 1) := by decide +kernel
theorem dX5_roundsOfRing_0 : decode cX5_roundsOfRing 0 = .ok (.aload_n 0, 1) := by decide +kernel
theorem dX5_roundsOfRing_1 : decode cX5_roundsOfRing 1 = .ok (.aload_n 1, 1) := by decide +kernel
theorem dX5_roundsOfRing_2 : decode cX5_roundsOfRing 2 = .ok (.iload_n 2, 1) := by decide +kernel
theorem dX5_roundsOfRing_3 : decode cX5_roundsOfRing 3 = .ok (.invokevirtual 45, 3) := by decide +kernel
theorem dX5_roundsOfRing_6 : decode cX5_roundsOfRing 6 = .ok (.istore_n 3, 1) := by decide +kernel
theorem dX5_roundsOfRing_7 : decode cX5_roundsOfRing 7 = .ok (.iconst 1, 1) := by decide +kernel
theorem dX5_roundsOfRing_8 : decode cX5_roundsOfRing 8 = .ok (.istore 4, 2) := by decide +kernel
theorem dX5_roundsOfRing_10 : decode cX5_roundsOfRing 10 = .ok (.iload 4, 2) := by decide +kernel
theorem dX5_roundsOfRing_12 : decode cX5_roundsOfRing 12 = .ok (.sipush 1024, 3) := by decide +kernel
theorem dX5_roundsOfRing_15 : decode cX5_roundsOfRing 15 = .ok (.if_icmp .ge 21, 3) := by decide +kernel
theorem dX5_roundsOfRing_18 : decode cX5_roundsOfRing 18 = .ok (.iload_n 3, 1) := by decide +kernel
theorem dX5_roundsOfRing_19 : decode cX5_roundsOfRing 19 = .ok (.iload_n 2, 1) := by decide +kernel
theorem dX5_roundsOfRing_20 : decode cX5_roundsOfRing 20 = .ok (.if_icmp .eq 16, 3) := by decide +kernel
theorem dX5_roundsOfRing_23 : decode cX5_roundsOfRing 23 = .ok (.aload_n 0, 1) := by decide +kernel
theorem dX5_roundsOfRing_24 : decode cX5_roundsOfRing 24 = .ok (.aload_n 1, 1) := by decide +kernel
theorem dX5_roundsOfRing_25 : decode cX5_roundsOfRing 25 = .ok (.iload_n 3, 1) := by decide +kernel
theorem dX5_roundsOfRing_26 : decode cX5_roundsOfRing 26 = .ok (.invokevirtual 45, 3) := by decide +kernel
theorem dX5_roundsOfRing_29 : decode cX5_roundsOfRing 29 = .ok (.istore_n 3, 1) := by decide +kernel
theorem dX5_roundsOfRing_30 : decode cX5_roundsOfRing 30 = .ok (.iinc 4 1, 3) := by decide +kernel
theorem dX5_roundsOfRing_33 : decode cX5_roundsOfRing 33 = .ok (.goto (-23), 3) := by decide +kernel
theorem dX5_roundsOfRing_36 : decode cX5_roundsOfRing 36 = .ok (.iload 4, 2) := by decide +kernel
theorem dX5_roundsOfRing_38 : decode cX5_roundsOfRing 38 = .ok (.ireturn, 1) := by decide +kernel
theorem dX6_init_0 : decode cX6_init 0 = .ok (.aload_n 0, 1) := by decide +kernel
theorem dX6_init_1 : decode cX6_init 1 = .ok (.invokespecial 3, 3) := by decide +kernel
theorem dX6_init_4 : decode cX6_init 4 = .ok (.aload_n 0, 1) := by decide +kernel
theorem dX6_init_5 : decode cX6_init 5 = .ok (.new 9, 3) := by decide +kernel
theorem dX6_init_8 : decode cX6_init 8 = .ok (.dup, 1) := by decide +kernel
theorem dX6_init_9 : decode cX6_init 9 = .ok (.invokespecial 11, 3) := by decide +kernel
theorem dX6_init_12 : decode cX6_init 12 = .ok (.putfield 12, 3) := by decide +kernel
theorem dX6_init_15 : decode cX6_init 15 = .ok (.aload_n 0, 1) := by decide +kernel
theorem dX6_init_16 : decode cX6_init 16 = .ok (.new 18, 3) := by decide +kernel
theorem dX6_init_19 : decode cX6_init 19 = .ok (.dup, 1) := by decide +kernel
theorem dX6_init_20 : decode cX6_init 20 = .ok (.invokespecial 20, 3) := by decide +kernel
theorem dX6_init_23 : decode cX6_init 23 = .ok (.putfield 21, 3) := by decide +kernel
theorem dX6_init_26 : decode cX6_init 26 = .ok (.aload_n 0, 1) := by decide +kernel
theorem dX6_init_27 : decode cX6_init 27 = .ok (.iconst 4, 1) := by decide +kernel
theorem dX6_init_28 : decode cX6_init 28 = .ok (.newarray .int, 2) := by decide +kernel
theorem dX6_init_30 : decode cX6_init 30 = .ok (.putfield 25, 3) := by decide +kernel
theorem dX6_init_33 : decode cX6_init 33 = .ok (.aload_n 0, 1) := by decide +kernel
theorem dX6_init_34 : decode cX6_init 34 = .ok (.iconst 4, 1) := by decide +kernel
theorem dX6_init_35 : decode cX6_init 35 = .ok (.newarray .int, 2) := by decide +kernel
theorem dX6_init_37 : decode cX6_init 37 = .ok (.putfield 29, 3) := by decide +kernel
theorem dX6_init_40 : decode cX6_init 40 = .ok (.aload_n 0, 1) := by decide +kernel
theorem dX6_init_41 : decode cX6_init 41 = .ok (.iconst 0, 1) := by decide +kernel
theorem dX6_init_42 : decode cX6_init 42 = .ok (.putfield 32, 3) := by decide +kernel
theorem dX6_init_45 : decode cX6_init 45 = .ok (.aload_n 0, 1) := by decide +kernel
theorem dX6_init_46 : decode cX6_init 46 = .ok (.iconst 0, 1) := by decide +kernel
theorem dX6_init_47 : decode cX6_init 47 = .ok (.putfield 36, 3) := by decide +kernel
theorem dX6_init_50 : decode cX6_init 50 = .ok (.aload_n 0, 1) := by decide +kernel
theorem dX6_init_51 : decode cX6_init 51 = .ok (.iconst 0, 1) := by decide +kernel
theorem dX6_init_52 : decode cX6_init 52 = .ok (.putfield 39, 3) := by decide +kernel
theorem dX6_init_55 : decode cX6_init 55 = .ok (.return_, 1) := by decide +kernel
theorem dX6_makeAnew_0 : decode cX6_makeAnew 0 = .ok (.aload_n 0, 1) := by decide +kernel
theorem dX6_makeAnew_1 : decode cX6_makeAnew 1 = .ok (.getfield 12, 3) := by decide +kernel
theorem dX6_makeAnew_4 : decode cX6_makeAnew 4 = .ok (.aload_n 1, 1) := by decide +kernel
theorem dX6_makeAnew_5 : decode cX6_makeAnew 5 = .ok (.getfield 42, 3) := by decide +kernel
theorem dX6_makeAnew_8 : decode cX6_makeAnew 8 = .ok (.putfield 47, 3) := by decide +kernel
theorem dX6_makeAnew_11 : decode cX6_makeAnew 11 = .ok (.aload_n 0, 1) := by decide +kernel
theorem dX6_makeAnew_12 : decode cX6_makeAnew 12 = .ok (.aload_n 1, 1) := by decide +kernel
theorem dX6_makeAnew_13 : decode cX6_makeAnew 13 = .ok (.getfield 48, 3) := by decide +kernel
theorem dX6_makeAnew_16 : decode cX6_makeAnew 16 = .ok (.putfield 39, 3) := by decide +kernel
theorem dX6_makeAnew_19 : decode cX6_makeAnew 19 = .ok (.aload_n 0, 1) := by decide +kernel
theorem dX6_makeAnew_20 : decode cX6_makeAnew 20 = .ok (.aload_n 1, 1) := by decide +kernel
theorem dX6_makeAnew_21 : decode cX6_makeAnew 21 = .ok (.getfield 49, 3) := by decide +kernel
theorem dX6_makeAnew_24 : decode cX6_makeAnew 24 = .ok (.putfield 32, 3) := by decide +kernel
theorem dX6_makeAnew_27 : decode cX6_makeAnew 27 = .ok (.aload_n 0, 1) := by decide +kernel
theorem dX6_makeAnew_28 : decode cX6_makeAnew 28 = .ok (.aload_n 1, 1) := by decide +kernel
theorem dX6_makeAnew_29 : decode cX6_makeAnew 29 = .ok (.getfield 50, 3) := by decide +kernel
theorem dX6_makeAnew_32 : decode cX6_makeAnew 32 = .ok (.putfield 36, 3) := by decide +kernel
theorem dX6_makeAnew_35 : decode cX6_makeAnew 35 = .ok (.aload_n 1, 1) := by decide +kernel
theorem dX6_makeAnew_36 : decode cX6_makeAnew 36 = .ok (.getfield 51, 3) := by decide +kernel
theorem dX6_makeAnew_39 : decode cX6_makeAnew 39 = .ok (.iconst 0, 1) := by decide +kernel
theorem dX6_makeAnew_40 : decode cX6_makeAnew 40 = .ok (.aload_n 0, 1) := by decide +kernel
theorem dX6_makeAnew_41 : decode cX6_makeAnew 41 = .ok (.getfield 25, 3) := by decide +kernel
theorem dX6_makeAnew_44 : decode cX6_makeAnew 44 = .ok (.iconst 0, 1) := by decide +kernel
theorem dX6_makeAnew_45 : decode cX6_makeAnew 45 = .ok (.iconst 4, 1) := by decide +kernel
theorem dX6_makeAnew_46 : decode cX6_makeAnew 46 = .ok (.invokestatic 52, 3) := by decide +kernel
theorem dX6_makeAnew_49 : decode cX6_makeAnew 49 = .ok (.aload_n 1, 1) := by decide +kernel
theorem dX6_makeAnew_50 : decode cX6_makeAnew 50 = .ok (.getfield 58, 3) := by decide +kernel
theorem dX6_makeAnew_53 : decode cX6_makeAnew 53 = .ok (.iconst 0, 1) := by decide +kernel
theorem dX6_makeAnew_54 : decode cX6_makeAnew 54 = .ok (.aload_n 0, 1) := by decide +kernel
theorem dX6_makeAnew_55 : decode cX6_makeAnew 55 = .ok (.getfield 29, 3) := by decide +kernel
theorem dX6_makeAnew_58 : decode cX6_makeAnew 58 = .ok (.iconst 0, 1) := by decide +kernel
theorem dX6_makeAnew_59 : decode cX6_makeAnew 59 = .ok (.iconst 4, 1) := by decide +kernel
theorem dX6_makeAnew_60 : decode cX6_makeAnew 60 = .ok (.invokestatic 52, 3) := by decide +kernel
theorem dX6_makeAnew_63 : decode cX6_makeAnew 63 = .ok (.aload_n 0, 1) := by decide +kernel
theorem dX6_makeAnew_64 : decode cX6_makeAnew 64 = .ok (.getfield 21, 3) := by decide +kernel
theorem dX6_makeAnew_67 : decode cX6_makeAnew 67 = .ok (.aload_n 1, 1) := by decide +kernel
theorem dX6_makeAnew_68 : decode cX6_makeAnew 68 = .ok (.getfield 59, 3) := by decide +kernel
theorem dX6_makeAnew_71 : decode cX6_makeAnew 71 = .ok (.invokevirtual 62, 3) := by decide +kernel
theorem dX6_makeAnew_74 : decode cX6_makeAnew 74 = .ok (.aload_n 0, 1) := by decide +kernel
theorem dX6_makeAnew_75 : decode cX6_makeAnew 75 = .ok (.getfield 21, 3) := by decide +kernel
theorem dX6_makeAnew_78 : decode cX6_makeAnew 78 = .ok (.invokevirtual 66, 3) := by decide +kernel
theorem dX6_makeAnew_81 : decode cX6_makeAnew 81 = .ok (.iconst 0, 1) := by decide +kernel
theorem dX6_makeAnew_82 : decode cX6_makeAnew 82 = .ok (.istore_n 2, 1) := by decide +kernel
theorem dX6_makeAnew_83 : decode cX6_makeAnew 83 = .ok (.iload_n 2, 1) := by decide +kernel
theorem dX6_makeAnew_84 : decode cX6_makeAnew 84 = .ok (.aload_n 0, 1) := by decide +kernel
theorem dX6_makeAnew_85 : decode cX6_makeAnew 85 = .ok (.getfield 32, 3) := by decide +kernel
theorem dX6_makeAnew_88 : decode cX6_makeAnew 88 = .ok (.if_icmp .ge 32, 3) := by decide +kernel
theorem dX6_makeAnew_91 : decode cX6_makeAnew 91 = .ok (.iload_n 2, 1) := by decide +kernel
theorem dX6_makeAnew_92 : decode cX6_makeAnew 92 = .ok (.aload_n 1, 1) := by decide +kernel
theorem dX6_makeAnew_93 : decode cX6_makeAnew 93 = .ok (.getfield 69, 3) := by decide +kernel
theorem dX6_makeAnew_96 : decode cX6_makeAnew 96 = .ok (.arraylength, 1) := by decide +kernel
theorem dX6_makeAnew_97 : decode cX6_makeAnew 97 = .ok (.if_icmp .ge 23, 3) := by decide +kernel
theorem dX6_makeAnew_100 : decode cX6_makeAnew 100 = .ok (.aload_n 0, 1) := by decide +kernel
theorem dX6_makeAnew_101 : decode cX6_makeAnew 101 = .ok (.getfield 21, 3) := by decide +kernel
theorem dX6_makeAnew_104 : decode cX6_makeAnew 104 = .ok (.iload_n 2, 1) := by decide +kernel
theorem dX6_makeAnew_105 : decode cX6_makeAnew 105 = .ok (.aload_n 1, 1) := by decide +kernel
theorem dX6_makeAnew_106 : decode cX6_makeAnew 106 = .ok (.getfield 69, 3) := by decide +kernel
theorem dX6_makeAnew_109 : decode cX6_makeAnew 109 = .ok (.iload_n 2, 1) := by decide +kernel
theorem dX6_makeAnew_110 : decode cX6_makeAnew 110 = .ok (.iaload, 1) := by decide +kernel
theorem dX6_makeAnew_111 : decode cX6_makeAnew 111 = .ok (.invokevirtual 72, 3) := by decide +kernel
theorem dX6_makeAnew_114 : decode cX6_makeAnew 114 = .ok (.iinc 2 1, 3) := by decide +kernel
theorem dX6_makeAnew_117 : decode cX6_makeAnew 117 = .ok (.goto (-34), 3) := by decide +kernel
theorem dX6_makeAnew_120 : decode cX6_makeAnew 120 = .ok (.iconst 0, 1) := by decide +kernel
theorem dX6_makeAnew_121 : decode cX6_makeAnew 121 = .ok (.istore_n 2, 1) := by decide +kernel
theorem dX6_makeAnew_122 : decode cX6_makeAnew 122 = .ok (.iload_n 2, 1) := by decide +kernel
theorem dX6_makeAnew_123 : decode cX6_makeAnew 123 = .ok (.aload_n 0, 1) := by decide +kernel
theorem dX6_makeAnew_124 : decode cX6_makeAnew 124 = .ok (.getfield 36, 3) := by decide +kernel
theorem dX6_makeAnew_127 : decode cX6_makeAnew 127 = .ok (.if_icmp .ge 21, 3) := by decide +kernel
theorem dX6_makeAnew_130 : decode cX6_makeAnew 130 = .ok (.aload_n 0, 1) := by decide +kernel
theorem dX6_makeAnew_131 : decode cX6_makeAnew 131 = .ok (.getfield 21, 3) := by decide +kernel
theorem dX6_makeAnew_134 : decode cX6_makeAnew 134 = .ok (.iload_n 2, 1) := by decide +kernel
theorem dX6_makeAnew_135 : decode cX6_makeAnew 135 = .ok (.aload_n 1, 1) := by decide +kernel
theorem dX6_makeAnew_136 : decode cX6_makeAnew 136 = .ok (.getfield 59, 3) := by decide +kernel
theorem dX6_makeAnew_139 : decode cX6_makeAnew 139 = .ok (.invokevirtual 76, 3) := by decide +kernel
theorem dX6_makeAnew_142 : decode cX6_makeAnew 142 = .ok (.iinc 2 1, 3) := by decide +kernel
theorem dX6_makeAnew_145 : decode cX6_makeAnew 145 = .ok (.goto (-23), 3) := by decide +kernel
theorem dX6_makeAnew_148 : decode cX6_makeAnew 148 = .ok (.return_, 1) := by decide +kernel
theorem dX6_hasCompositor_0 : decode cX6_hasCompositor 0 = .ok (.iload_n 1, 1) := by decide +kernel
theorem dX6_hasCompositor_1 : decode cX6_hasCompositor 1 = .ok (.ifCond .lt 15, 3) := by decide +kernel
theorem dX6_hasCompositor_4 : decode cX6_hasCompositor 4 = .ok (.iload_n 1, 1) := by decide +kernel
theorem dX6_hasCompositor_5 : decode cX6_hasCompositor 5 = .ok (.aload_n 0, 1) := by decide +kernel
theorem dX6_hasCompositor_6 : decode cX6_hasCompositor 6 = .ok (.getfield 32, 3) := by decide +kernel
theorem dX6_hasCompositor_9 : decode cX6_hasCompositor 9 = .ok (.if_icmp .ge 7, 3) := by decide +kernel
theorem dX6_hasCompositor_12 : decode cX6_hasCompositor 12 = .ok (.iconst 1, 1) := by decide +kernel
theorem dX6_hasCompositor_13 : decode cX6_hasCompositor 13 = .ok (.goto 4, 3) := by decide +kernel
theorem dX6_hasCompositor_16 : decode cX6_hasCompositor 16 = .ok (.iconst 0, 1) := by decide +kernel
theorem dX6_hasCompositor_17 : decode cX6_hasCompositor 17 = .ok (.ireturn, 1) := by decide +kernel
theorem dX6_hasReader_0 : decode cX6_hasReader 0 = .ok (.iload_n 1, 1) := by decide +kernel
theorem dX6_hasReader_1 : decode cX6_hasReader 1 = .ok (.ifCond .lt 15, 3) := by decide +kernel
theorem dX6_hasReader_4 : decode cX6_hasReader 4 = .ok (.iload_n 1, 1) := by decide +kernel
theorem dX6_hasReader_5 : decode cX6_hasReader 5 = .ok (.aload_n 0, 1) := by decide +kernel
theorem dX6_hasReader_6 : decode cX6_hasReader 6 = .ok (.getfield 36, 3) := by decide +kernel
theorem dX6_hasReader_9 : decode cX6_hasReader 9 = .ok (.if_icmp .ge 7, 3) := by decide +kernel
theorem dX6_hasReader_12 : decode cX6_hasReader 12 = .ok (.iconst 1, 1) := by decide +kernel
theorem dX6_hasReader_13 : decode cX6_hasReader 13 = .ok (.goto 4, 3) := by decide +kernel
theorem dX6_hasReader_16 : decode cX6_hasReader 16 = .ok (.iconst 0, 1) := by decide +kernel
theorem dX6_hasReader_17 : decode cX6_hasReader 17 = .ok (.ireturn, 1) := by decide +kernel
theorem dX6_isNoticeFor_0 : decode cX6_isNoticeFor 0 = .ok (.aload_n 0, 1) := by decide +kernel
theorem dX6_isNoticeFor_1 : decode cX6_isNoticeFor 1 = .ok (.getfield 12, 3) := by decide +kernel
theorem dX6_isNoticeFor_4 : decode cX6_isNoticeFor 4 = .ok (.iload_n 1, 1) := by decide +kernel
theorem dX6_isNoticeFor_5 : decode cX6_isNoticeFor 5 = .ok (.invokevirtual 79, 3) := by decide +kernel
theorem dX6_isNoticeFor_8 : decode cX6_isNoticeFor 8 = .ok (.ifCond .eq 16, 3) := by decide +kernel
theorem dX6_isNoticeFor_11 : decode cX6_isNoticeFor 11 = .ok (.iload_n 2, 1) := by decide +kernel
theorem dX6_isNoticeFor_12 : decode cX6_isNoticeFor 12 = .ok (.ifCond .lt 12, 3) := by decide +kernel
theorem dX6_isNoticeFor_15 : decode cX6_isNoticeFor 15 = .ok (.iload_n 2, 1) := by decide +kernel
theorem dX6_isNoticeFor_16 : decode cX6_isNoticeFor 16 = .ok (.iconst 4, 1) := by decide +kernel
theorem dX6_isNoticeFor_17 : decode cX6_isNoticeFor 17 = .ok (.if_icmp .ge 7, 3) := by decide +kernel
theorem dX6_isNoticeFor_20 : decode cX6_isNoticeFor 20 = .ok (.iconst 1, 1) := by decide +kernel
theorem dX6_isNoticeFor_21 : decode cX6_isNoticeFor 21 = .ok (.goto 4, 3) := by decide +kernel
theorem dX6_isNoticeFor_24 : decode cX6_isNoticeFor 24 = .ok (.iconst 0, 1) := by decide +kernel
theorem dX6_isNoticeFor_25 : decode cX6_isNoticeFor 25 = .ok (.ireturn, 1) := by decide +kernel
theorem dX6_periodOf_0 : decode cX6_periodOf 0 = .ok (.iload_n 1, 1) := by decide +kernel
theorem dX6_periodOf_1 : decode cX6_periodOf 1 = .ok (.ifCond .lt 21, 3) := by decide +kernel
theorem dX6_periodOf_4 : decode cX6_periodOf 4 = .ok (.iload_n 1, 1) := by decide +kernel
theorem dX6_periodOf_5 : decode cX6_periodOf 5 = .ok (.aload_n 0, 1) := by decide +kernel
theorem dX6_periodOf_6 : decode cX6_periodOf 6 = .ok (.getfield 25, 3) := by decide +kernel
theorem dX6_periodOf_9 : decode cX6_periodOf 9 = .ok (.arraylength, 1) := by decide +kernel
theorem dX6_periodOf_10 : decode cX6_periodOf 10 = .ok (.if_icmp .ge 12, 3) := by decide +kernel
theorem dX6_periodOf_13 : decode cX6_periodOf 13 = .ok (.aload_n 0, 1) := by decide +kernel
theorem dX6_periodOf_14 : decode cX6_periodOf 14 = .ok (.getfield 25, 3) := by decide +kernel
theorem dX6_periodOf_17 : decode cX6_periodOf 17 = .ok (.iload_n 1, 1) := by decide +kernel
theorem dX6_periodOf_18 : decode cX6_periodOf 18 = .ok (.iaload, 1) := by decide +kernel
theorem dX6_periodOf_19 : decode cX6_periodOf 19 = .ok (.goto 4, 3) := by decide +kernel
theorem dX6_periodOf_22 : decode cX6_periodOf 22 = .ok (.iconst 0, 1) := by decide +kernel
theorem dX6_periodOf_23 : decode cX6_periodOf 23 = .ok (.ireturn, 1) := by decide +kernel
theorem dX6_leftOf_0 : decode cX6_leftOf 0 = .ok (.iload_n 1, 1) := by decide +kernel
theorem dX6_leftOf_1 : decode cX6_leftOf 1 = .ok (.ifCond .lt 21, 3) := by decide +kernel
theorem dX6_leftOf_4 : decode cX6_leftOf 4 = .ok (.iload_n 1, 1) := by decide +kernel
theorem dX6_leftOf_5 : decode cX6_leftOf 5 = .ok (.aload_n 0, 1) := by decide +kernel
theorem dX6_leftOf_6 : decode cX6_leftOf 6 = .ok (.getfield 29, 3) := by decide +kernel
theorem dX6_leftOf_9 : decode cX6_leftOf 9 = .ok (.arraylength, 1) := by decide +kernel
theorem dX6_leftOf_10 : decode cX6_leftOf 10 = .ok (.if_icmp .ge 12, 3) := by decide +kernel
theorem dX6_leftOf_13 : decode cX6_leftOf 13 = .ok (.aload_n 0, 1) := by decide +kernel
theorem dX6_leftOf_14 : decode cX6_leftOf 14 = .ok (.getfield 29, 3) := by decide +kernel
theorem dX6_leftOf_17 : decode cX6_leftOf 17 = .ok (.iload_n 1, 1) := by decide +kernel
theorem dX6_leftOf_18 : decode cX6_leftOf 18 = .ok (.iaload, 1) := by decide +kernel
theorem dX6_leftOf_19 : decode cX6_leftOf 19 = .ok (.goto 4, 3) := by decide +kernel
theorem dX6_leftOf_22 : decode cX6_leftOf 22 = .ok (.iconst 0, 1) := by decide +kernel
theorem dX6_leftOf_23 : decode cX6_leftOf 23 = .ok (.ireturn, 1) := by decide +kernel
theorem dX6_readsOn_0 : decode cX6_readsOn 0 = .ok (.aload_n 0, 1) := by decide +kernel
theorem dX6_readsOn_1 : decode cX6_readsOn 1 = .ok (.iload_n 1, 1) := by decide +kernel
theorem dX6_readsOn_2 : decode cX6_readsOn 2 = .ok (.invokevirtual 83, 3) := by decide +kernel
theorem dX6_readsOn_5 : decode cX6_readsOn 5 = .ok (.istore_n 3, 1) := by decide +kernel
theorem dX6_readsOn_6 : decode cX6_readsOn 6 = .ok (.iload_n 3, 1) := by decide +kernel
theorem dX6_readsOn_7 : decode cX6_readsOn 7 = .ok (.ifCond .le 18, 3) := by decide +kernel
theorem dX6_readsOn_10 : decode cX6_readsOn 10 = .ok (.iload_n 2, 1) := by decide +kernel
theorem dX6_readsOn_11 : decode cX6_readsOn 11 = .ok (.iload_n 3, 1) := by decide +kernel
theorem dX6_readsOn_12 : decode cX6_readsOn 12 = .ok (.irem, 1) := by decide +kernel
theorem dX6_readsOn_13 : decode cX6_readsOn 13 = .ok (.aload_n 0, 1) := by decide +kernel
theorem dX6_readsOn_14 : decode cX6_readsOn 14 = .ok (.iload_n 1, 1) := by decide +kernel
theorem dX6_readsOn_15 : decode cX6_readsOn 15 = .ok (.invokevirtual 87, 3) := by decide +kernel
theorem dX6_readsOn_18 : decode cX6_readsOn 18 = .ok (.if_icmp .ne 7, 3) := by decide +kernel
theorem dX6_readsOn_21 : decode cX6_readsOn 21 = .ok (.iconst 1, 1) := by decide +kernel
theorem dX6_readsOn_22 : decode cX6_readsOn 22 = .ok (.goto 4, 3) := by decide +kernel
theorem dX6_readsOn_25 : decode cX6_readsOn 25 = .ok (.iconst 0, 1) := by decide +kernel
theorem dX6_readsOn_26 : decode cX6_readsOn 26 = .ok (.ireturn, 1) := by decide +kernel
theorem dX6_rightOf_0 : decode cX6_rightOf 0 = .ok (.aload_n 0, 1) := by decide +kernel
theorem dX6_rightOf_1 : decode cX6_rightOf 1 = .ok (.getfield 12, 3) := by decide +kernel
theorem dX6_rightOf_4 : decode cX6_rightOf 4 = .ok (.getfield 47, 3) := by decide +kernel
theorem dX6_rightOf_7 : decode cX6_rightOf 7 = .ok (.iload_n 1, 1) := by decide +kernel
theorem dX6_rightOf_8 : decode cX6_rightOf 8 = .ok (.aload_n 0, 1) := by decide +kernel
theorem dX6_rightOf_9 : decode cX6_rightOf 9 = .ok (.getfield 39, 3) := by decide +kernel
theorem dX6_rightOf_12 : decode cX6_rightOf 12 = .ok (.ixor, 1) := by decide +kernel
theorem dX6_rightOf_13 : decode cX6_rightOf 13 = .ok (.invokestatic 90, 3) := by decide +kernel
theorem dX6_rightOf_16 : decode cX6_rightOf 16 = .ok (.isub, 1) := by decide +kernel
theorem dX6_rightOf_17 : decode cX6_rightOf 17 = .ok (.ireturn, 1) := by decide +kernel
theorem dX6_readingToday_0 : decode cX6_readingToday 0 = .ok (.iconst 0, 1) := by decide +kernel
theorem dX6_readingToday_1 : decode cX6_readingToday 1 = .ok (.istore_n 1, 1) := by decide +kernel
theorem dX6_readingToday_2 : decode cX6_readingToday 2 = .ok (.iconst 0, 1) := by decide +kernel
theorem dX6_readingToday_3 : decode cX6_readingToday 3 = .ok (.istore_n 2, 1) := by decide +kernel
theorem dX6_readingToday_4 : decode cX6_readingToday 4 = .ok (.iload_n 2, 1) := by decide +kernel
theorem dX6_readingToday_5 : decode cX6_readingToday 5 = .ok (.aload_n 0, 1) := by decide +kernel
theorem dX6_readingToday_6 : decode cX6_readingToday 6 = .ok (.getfield 36, 3) := by decide +kernel
theorem dX6_readingToday_9 : decode cX6_readingToday 9 = .ok (.if_icmp .ge 30, 3) := by decide +kernel
theorem dX6_readingToday_12 : decode cX6_readingToday 12 = .ok (.aload_n 0, 1) := by decide +kernel
theorem dX6_readingToday_13 : decode cX6_readingToday 13 = .ok (.iload_n 2, 1) := by decide +kernel
theorem dX6_readingToday_14 : decode cX6_readingToday 14 = .ok (.aload_n 0, 1) := by decide +kernel
theorem dX6_readingToday_15 : decode cX6_readingToday 15 = .ok (.getfield 21, 3) := by decide +kernel
theorem dX6_readingToday_18 : decode cX6_readingToday 18 = .ok (.invokevirtual 93, 3) := by decide +kernel
theorem dX6_readingToday_21 : decode cX6_readingToday 21 = .ok (.invokevirtual 97, 3) := by decide +kernel
theorem dX6_readingToday_24 : decode cX6_readingToday 24 = .ok (.ifCond .eq 9, 3) := by decide +kernel
theorem dX6_readingToday_27 : decode cX6_readingToday 27 = .ok (.iload_n 1, 1) := by decide +kernel
theorem dX6_readingToday_28 : decode cX6_readingToday 28 = .ok (.iconst 1, 1) := by decide +kernel
theorem dX6_readingToday_29 : decode cX6_readingToday 29 = .ok (.iload_n 2, 1) := by decide +kernel
theorem dX6_readingToday_30 : decode cX6_readingToday 30 = .ok (.ishl, 1) := by decide +kernel
theorem dX6_readingToday_31 : decode cX6_readingToday 31 = .ok (.ior, 1) := by decide +kernel
theorem dX6_readingToday_32 : decode cX6_readingToday 32 = .ok (.istore_n 1, 1) := by decide +kernel
theorem dX6_readingToday_33 : decode cX6_readingToday 33 = .ok (.iinc 2 1, 3) := by decide +kernel
theorem dX6_readingToday_36 : decode cX6_readingToday 36 = .ok (.goto (-32), 3) := by decide +kernel
theorem dX6_readingToday_39 : decode cX6_readingToday 39 = .ok (.iload_n 1, 1) := by decide +kernel
theorem dX6_readingToday_40 : decode cX6_readingToday 40 = .ok (.ireturn, 1) := by decide +kernel
theorem dX6_believingTruth_0 : decode cX6_believingTruth 0 = .ok (.iconst 0, 1) := by decide +kernel
theorem dX6_believingTruth_1 : decode cX6_believingTruth 1 = .ok (.istore_n 1, 1) := by decide +kernel
theorem dX6_believingTruth_2 : decode cX6_believingTruth 2 = .ok (.iconst 0, 1) := by decide +kernel
theorem dX6_believingTruth_3 : decode cX6_believingTruth 3 = .ok (.istore_n 2, 1) := by decide +kernel
theorem dX6_believingTruth_4 : decode cX6_believingTruth 4 = .ok (.iload_n 2, 1) := by decide +kernel
theorem dX6_believingTruth_5 : decode cX6_believingTruth 5 = .ok (.aload_n 0, 1) := by decide +kernel
theorem dX6_believingTruth_6 : decode cX6_believingTruth 6 = .ok (.getfield 36, 3) := by decide +kernel
theorem dX6_believingTruth_9 : decode cX6_believingTruth 9 = .ok (.if_icmp .ge 30, 3) := by decide +kernel
theorem dX6_believingTruth_12 : decode cX6_believingTruth 12 = .ok (.aload_n 0, 1) := by decide +kernel
theorem dX6_believingTruth_13 : decode cX6_believingTruth 13 = .ok (.getfield 21, 3) := by decide +kernel
theorem dX6_believingTruth_16 : decode cX6_believingTruth 16 = .ok (.iload_n 2, 1) := by decide +kernel
theorem dX6_believingTruth_17 : decode cX6_believingTruth 17 = .ok (.invokevirtual 101, 3) := by decide +kernel
theorem dX6_believingTruth_20 : decode cX6_believingTruth 20 = .ok (.aload_n 0, 1) := by decide +kernel
theorem dX6_believingTruth_21 : decode cX6_believingTruth 21 = .ok (.getfield 39, 3) := by decide +kernel
theorem dX6_believingTruth_24 : decode cX6_believingTruth 24 = .ok (.if_icmp .ne 9, 3) := by decide +kernel
theorem dX6_believingTruth_27 : decode cX6_believingTruth 27 = .ok (.iload_n 1, 1) := by decide +kernel
theorem dX6_believingTruth_28 : decode cX6_believingTruth 28 = .ok (.iconst 1, 1) := by decide +kernel
theorem dX6_believingTruth_29 : decode cX6_believingTruth 29 = .ok (.iload_n 2, 1) := by decide +kernel
theorem dX6_believingTruth_30 : decode cX6_believingTruth 30 = .ok (.ishl, 1) := by decide +kernel
theorem dX6_believingTruth_31 : decode cX6_believingTruth 31 = .ok (.ior, 1) := by decide +kernel
theorem dX6_believingTruth_32 : decode cX6_believingTruth 32 = .ok (.istore_n 1, 1) := by decide +kernel
theorem dX6_believingTruth_33 : decode cX6_believingTruth 33 = .ok (.iinc 2 1, 3) := by decide +kernel
theorem dX6_believingTruth_36 : decode cX6_believingTruth 36 = .ok (.goto (-32), 3) := by decide +kernel
theorem dX6_believingTruth_39 : decode cX6_believingTruth 39 = .ok (.iload_n 1, 1) := by decide +kernel
theorem dX6_believingTruth_40 : decode cX6_believingTruth 40 = .ok (.ireturn, 1) := by decide +kernel
theorem dX6_noticed_0 : decode cX6_noticed 0 = .ok (.aload_n 0, 1) := by decide +kernel
theorem dX6_noticed_1 : decode cX6_noticed 1 = .ok (.getfield 12, 3) := by decide +kernel
theorem dX6_noticed_4 : decode cX6_noticed 4 = .ok (.aload_n 0, 1) := by decide +kernel
theorem dX6_noticed_5 : decode cX6_noticed 5 = .ok (.getfield 21, 3) := by decide +kernel
theorem dX6_noticed_8 : decode cX6_noticed 8 = .ok (.iload_n 1, 1) := by decide +kernel
theorem dX6_noticed_9 : decode cX6_noticed 9 = .ok (.invokevirtual 104, 3) := by decide +kernel
theorem dX6_noticed_12 : decode cX6_noticed 12 = .ok (.iload_n 2, 1) := by decide +kernel
theorem dX6_noticed_13 : decode cX6_noticed 13 = .ok (.iload_n 3, 1) := by decide +kernel
theorem dX6_noticed_14 : decode cX6_noticed 14 = .ok (.iload 4, 2) := by decide +kernel
theorem dX6_noticed_16 : decode cX6_noticed 16 = .ok (.invokevirtual 107, 3) := by decide +kernel
theorem dX6_noticed_19 : decode cX6_noticed 19 = .ok (.ireturn, 1) := by decide +kernel
theorem dX6_printNotice_0 : decode cX6_printNotice 0 = .ok (.aload_n 0, 1) := by decide +kernel
theorem dX6_printNotice_1 : decode cX6_printNotice 1 = .ok (.getfield 21, 3) := by decide +kernel
theorem dX6_printNotice_4 : decode cX6_printNotice 4 = .ok (.aload_n 0, 1) := by decide +kernel
theorem dX6_printNotice_5 : decode cX6_printNotice 5 = .ok (.iload_n 1, 1) := by decide +kernel
theorem dX6_printNotice_6 : decode cX6_printNotice 6 = .ok (.aload_n 0, 1) := by decide +kernel
theorem dX6_printNotice_7 : decode cX6_printNotice 7 = .ok (.getfield 21, 3) := by decide +kernel
theorem dX6_printNotice_10 : decode cX6_printNotice 10 = .ok (.invokevirtual 111, 3) := by decide +kernel
theorem dX6_printNotice_13 : decode cX6_printNotice 13 = .ok (.iload_n 2, 1) := by decide +kernel
theorem dX6_printNotice_14 : decode cX6_printNotice 14 = .ok (.iload_n 3, 1) := by decide +kernel
theorem dX6_printNotice_15 : decode cX6_printNotice 15 = .ok (.invokevirtual 113, 3) := by decide +kernel
theorem dX6_printNotice_18 : decode cX6_printNotice 18 = .ok (.invokevirtual 62, 3) := by decide +kernel
theorem dX6_printNotice_21 : decode cX6_printNotice 21 = .ok (.iconst 0, 1) := by decide +kernel
theorem dX6_printNotice_22 : decode cX6_printNotice 22 = .ok (.istore 4, 2) := by decide +kernel
theorem dX6_printNotice_24 : decode cX6_printNotice 24 = .ok (.iload 4, 2) := by decide +kernel
theorem dX6_printNotice_26 : decode cX6_printNotice 26 = .ok (.aload_n 0, 1) := by decide +kernel
theorem dX6_printNotice_27 : decode cX6_printNotice 27 = .ok (.getfield 36, 3) := by decide +kernel
theorem dX6_printNotice_30 : decode cX6_printNotice 30 = .ok (.if_icmp .ge 50, 3) := by decide +kernel
theorem dX6_printNotice_33 : decode cX6_printNotice 33 = .ok (.aload_n 0, 1) := by decide +kernel
theorem dX6_printNotice_34 : decode cX6_printNotice 34 = .ok (.iload 4, 2) := by decide +kernel
theorem dX6_printNotice_36 : decode cX6_printNotice 36 = .ok (.aload_n 0, 1) := by decide +kernel
theorem dX6_printNotice_37 : decode cX6_printNotice 37 = .ok (.getfield 21, 3) := by decide +kernel
theorem dX6_printNotice_40 : decode cX6_printNotice 40 = .ok (.invokevirtual 93, 3) := by decide +kernel
theorem dX6_printNotice_43 : decode cX6_printNotice 43 = .ok (.invokevirtual 97, 3) := by decide +kernel
theorem dX6_printNotice_46 : decode cX6_printNotice 46 = .ok (.ifCond .eq 28, 3) := by decide +kernel
theorem dX6_printNotice_49 : decode cX6_printNotice 49 = .ok (.aload_n 0, 1) := by decide +kernel
theorem dX6_printNotice_50 : decode cX6_printNotice 50 = .ok (.getfield 21, 3) := by decide +kernel
theorem dX6_printNotice_53 : decode cX6_printNotice 53 = .ok (.iload 4, 2) := by decide +kernel
theorem dX6_printNotice_55 : decode cX6_printNotice 55 = .ok (.aload_n 0, 1) := by decide +kernel
theorem dX6_printNotice_56 : decode cX6_printNotice 56 = .ok (.iload_n 1, 1) := by decide +kernel
theorem dX6_printNotice_57 : decode cX6_printNotice 57 = .ok (.aload_n 0, 1) := by decide +kernel
theorem dX6_printNotice_58 : decode cX6_printNotice 58 = .ok (.getfield 21, 3) := by decide +kernel
theorem dX6_printNotice_61 : decode cX6_printNotice 61 = .ok (.iload 4, 2) := by decide +kernel
theorem dX6_printNotice_63 : decode cX6_printNotice 63 = .ok (.invokevirtual 101, 3) := by decide +kernel
theorem dX6_printNotice_66 : decode cX6_printNotice 66 = .ok (.iload_n 2, 1) := by decide +kernel
theorem dX6_printNotice_67 : decode cX6_printNotice 67 = .ok (.iload_n 3, 1) := by decide +kernel
theorem dX6_printNotice_68 : decode cX6_printNotice 68 = .ok (.invokevirtual 113, 3) := by decide +kernel
theorem dX6_printNotice_71 : decode cX6_printNotice 71 = .ok (.invokevirtual 76, 3) := by decide +kernel
theorem dX6_printNotice_74 : decode cX6_printNotice 74 = .ok (.iinc 4 1, 3) := by decide +kernel
theorem dX6_printNotice_77 : decode cX6_printNotice 77 = .ok (.goto (-53), 3) := by decide +kernel
theorem dX6_printNotice_80 : decode cX6_printNotice 80 = .ok (.aload_n 0, 1) := by decide +kernel
theorem dX6_printNotice_81 : decode cX6_printNotice 81 = .ok (.getfield 21, 3) := by decide +kernel
theorem dX6_printNotice_84 : decode cX6_printNotice 84 = .ok (.invokevirtual 114, 3) := by decide +kernel
theorem dX6_printNotice_87 : decode cX6_printNotice 87 = .ok (.return_, 1) := by decide +kernel
theorem dX7_init_0 : decode cX7_init 0 = .ok (.aload_n 0, 1) := by decide +kernel
theorem dX7_init_1 : decode cX7_init 1 = .ok (.invokespecial 1, 3) := by decide +kernel
theorem dX7_init_4 : decode cX7_init 4 = .ok (.aload_n 0, 1) := by decide +kernel
theorem dX7_init_5 : decode cX7_init 5 = .ok (.iconst 0, 1) := by decide +kernel
theorem dX7_init_6 : decode cX7_init 6 = .ok (.iload_n 1, 1) := by decide +kernel
theorem dX7_init_7 : decode cX7_init 7 = .ok (.invokestatic 7, 3) := by decide +kernel
theorem dX7_init_10 : decode cX7_init 10 = .ok (.bipush 9, 2) := by decide +kernel
theorem dX7_init_12 : decode cX7_init 12 = .ok (.imul, 1) := by decide +kernel
theorem dX7_init_13 : decode cX7_init 13 = .ok (.newarray .int, 2) := by decide +kernel
theorem dX7_init_15 : decode cX7_init 15 = .ok (.putfield 15, 3) := by decide +kernel
theorem dX7_init_18 : decode cX7_init 18 = .ok (.return_, 1) := by decide +kernel
theorem dX7_holds_0 : decode cX7_holds 0 = .ok (.iload_n 1, 1) := by decide +kernel
theorem dX7_holds_1 : decode cX7_holds 1 = .ok (.ifCond .lt 19, 3) := by decide +kernel
theorem dX7_holds_4 : decode cX7_holds 4 = .ok (.iload_n 1, 1) := by decide +kernel
theorem dX7_holds_5 : decode cX7_holds 5 = .ok (.aload_n 0, 1) := by decide +kernel
theorem dX7_holds_6 : decode cX7_holds 6 = .ok (.getfield 15, 3) := by decide +kernel
theorem dX7_holds_9 : decode cX7_holds 9 = .ok (.arraylength, 1) := by decide +kernel
theorem dX7_holds_10 : decode cX7_holds 10 = .ok (.bipush 9, 2) := by decide +kernel
theorem dX7_holds_12 : decode cX7_holds 12 = .ok (.idiv, 1) := by decide +kernel
theorem dX7_holds_13 : decode cX7_holds 13 = .ok (.if_icmp .ge 7, 3) := by decide +kernel
theorem dX7_holds_16 : decode cX7_holds 16 = .ok (.iconst 1, 1) := by decide +kernel
theorem dX7_holds_17 : decode cX7_holds 17 = .ok (.goto 4, 3) := by decide +kernel
theorem dX7_holds_20 : decode cX7_holds 20 = .ok (.iconst 0, 1) := by decide +kernel
theorem dX7_holds_21 : decode cX7_holds 21 = .ok (.ireturn, 1) := by decide +kernel
theorem dX7_put_0 : decode cX7_put 0 = .ok (.aload_n 0, 1) := by decide +kernel
theorem dX7_put_1 : decode cX7_put 1 = .ok (.iload_n 1, 1) := by decide +kernel
theorem dX7_put_2 : decode cX7_put 2 = .ok (.invokevirtual 21, 3) := by decide +kernel
theorem dX7_put_5 : decode cX7_put 5 = .ok (.ifCond .eq 21, 3) := by decide +kernel
theorem dX7_put_8 : decode cX7_put 8 = .ok (.aload_n 2, 1) := by decide +kernel
theorem dX7_put_9 : decode cX7_put 9 = .ok (.getfield 25, 3) := by decide +kernel
theorem dX7_put_12 : decode cX7_put 12 = .ok (.iconst 0, 1) := by decide +kernel
theorem dX7_put_13 : decode cX7_put 13 = .ok (.aload_n 0, 1) := by decide +kernel
theorem dX7_put_14 : decode cX7_put 14 = .ok (.getfield 15, 3) := by decide +kernel
theorem dX7_put_17 : decode cX7_put 17 = .ok (.iload_n 1, 1) := by decide +kernel
theorem dX7_put_18 : decode cX7_put 18 = .ok (.bipush 9, 2) := by decide +kernel
theorem dX7_put_20 : decode cX7_put 20 = .ok (.imul, 1) := by decide +kernel
theorem dX7_put_21 : decode cX7_put 21 = .ok (.bipush 9, 2) := by decide +kernel
theorem dX7_put_23 : decode cX7_put 23 = .ok (.invokestatic 28, 3) := by decide +kernel
theorem dX7_put_26 : decode cX7_put 26 = .ok (.return_, 1) := by decide +kernel
theorem dX7_fetch_0 : decode cX7_fetch 0 = .ok (.aload_n 0, 1) := by decide +kernel
theorem dX7_fetch_1 : decode cX7_fetch 1 = .ok (.iload_n 1, 1) := by decide +kernel
theorem dX7_fetch_2 : decode cX7_fetch 2 = .ok (.invokevirtual 21, 3) := by decide +kernel
theorem dX7_fetch_5 : decode cX7_fetch 5 = .ok (.ifCond .eq 21, 3) := by decide +kernel
theorem dX7_fetch_8 : decode cX7_fetch 8 = .ok (.aload_n 0, 1) := by decide +kernel
theorem dX7_fetch_9 : decode cX7_fetch 9 = .ok (.getfield 15, 3) := by decide +kernel
theorem dX7_fetch_12 : decode cX7_fetch 12 = .ok (.iload_n 1, 1) := by decide +kernel
theorem dX7_fetch_13 : decode cX7_fetch 13 = .ok (.bipush 9, 2) := by decide +kernel
theorem dX7_fetch_15 : decode cX7_fetch 15 = .ok (.imul, 1) := by decide +kernel
theorem dX7_fetch_16 : decode cX7_fetch 16 = .ok (.aload_n 2, 1) := by decide +kernel
theorem dX7_fetch_17 : decode cX7_fetch 17 = .ok (.getfield 25, 3) := by decide +kernel
theorem dX7_fetch_20 : decode cX7_fetch 20 = .ok (.iconst 0, 1) := by decide +kernel
theorem dX7_fetch_21 : decode cX7_fetch 21 = .ok (.bipush 9, 2) := by decide +kernel
theorem dX7_fetch_23 : decode cX7_fetch 23 = .ok (.invokestatic 28, 3) := by decide +kernel
theorem dX7_fetch_26 : decode cX7_fetch 26 = .ok (.return_, 1) := by decide +kernel
theorem dX8_init_0 : decode cX8_init 0 = .ok (.aload_n 0, 1) := by decide +kernel
theorem dX8_init_1 : decode cX8_init 1 = .ok (.invokespecial 3, 3) := by decide +kernel
theorem dX8_init_4 : decode cX8_init 4 = .ok (.aload_n 0, 1) := by decide +kernel
theorem dX8_init_5 : decode cX8_init 5 = .ok (.iconst 1, 1) := by decide +kernel
theorem dX8_init_6 : decode cX8_init 6 = .ok (.putfield 9, 3) := by decide +kernel
theorem dX8_init_9 : decode cX8_init 9 = .ok (.return_, 1) := by decide +kernel
theorem dX8_names_0 : decode cX8_names 0 = .ok (.iconst 1, 1) := by decide +kernel
theorem dX8_names_1 : decode cX8_names 1 = .ok (.iconst 2, 1) := by decide +kernel
theorem dX8_names_2 : decode cX8_names 2 = .ok (.aload_n 0, 1) := by decide +kernel
theorem dX8_names_3 : decode cX8_names 3 = .ok (.getfield 9, 3) := by decide +kernel
theorem dX8_names_6 : decode cX8_names 6 = .ok (.imul, 1) := by decide +kernel
theorem dX8_names_7 : decode cX8_names 7 = .ok (.ishl, 1) := by decide +kernel
theorem dX8_names_8 : decode cX8_names 8 = .ok (.ireturn, 1) := by decide +kernel
theorem dX8_hasPlace_0 : decode cX8_hasPlace 0 = .ok (.iload_n 1, 1) := by decide +kernel
theorem dX8_hasPlace_1 : decode cX8_hasPlace 1 = .ok (.ifCond .lt 15, 3) := by decide +kernel
theorem dX8_hasPlace_4 : decode cX8_hasPlace 4 = .ok (.iload_n 1, 1) := by decide +kernel
theorem dX8_hasPlace_5 : decode cX8_hasPlace 5 = .ok (.aload_n 0, 1) := by decide +kernel
theorem dX8_hasPlace_6 : decode cX8_hasPlace 6 = .ok (.getfield 9, 3) := by decide +kernel
theorem dX8_hasPlace_9 : decode cX8_hasPlace 9 = .ok (.if_icmp .ge 7, 3) := by decide +kernel
theorem dX8_hasPlace_12 : decode cX8_hasPlace 12 = .ok (.iconst 1, 1) := by decide +kernel
theorem dX8_hasPlace_13 : decode cX8_hasPlace 13 = .ok (.goto 4, 3) := by decide +kernel
theorem dX8_hasPlace_16 : decode cX8_hasPlace 16 = .ok (.iconst 0, 1) := by decide +kernel
theorem dX8_hasPlace_17 : decode cX8_hasPlace 17 = .ok (.ireturn, 1) := by decide +kernel
theorem dX8_nextPlace_0 : decode cX8_nextPlace 0 = .ok (.iload_n 1, 1) := by decide +kernel
theorem dX8_nextPlace_1 : decode cX8_nextPlace 1 = .ok (.iconst 1, 1) := by decide +kernel
theorem dX8_nextPlace_2 : decode cX8_nextPlace 2 = .ok (.iadd, 1) := by decide +kernel
theorem dX8_nextPlace_3 : decode cX8_nextPlace 3 = .ok (.aload_n 0, 1) := by decide +kernel
theorem dX8_nextPlace_4 : decode cX8_nextPlace 4 = .ok (.getfield 9, 3) := by decide +kernel
theorem dX8_nextPlace_7 : decode cX8_nextPlace 7 = .ok (.if_icmp .ge 9, 3) := by decide +kernel
