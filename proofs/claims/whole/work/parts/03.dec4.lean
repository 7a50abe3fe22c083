theorem dX12_noRow_5 : decode cX12_noRow 5 = .ok (.invokestatic 65, 3) := by decide +kernel
theorem dX12_noRow_8 : decode cX12_noRow 8 = .ok (.ifCond .eq 17, 3) := by decide +kernel
theorem dX12_noRow_11 : decode cX12_noRow 11 = .ok (.lload_n 3, 1) := by decide +kernel
theorem dX12_noRow_12 : decode cX12_noRow 12 = .ok (.lconst 0, 1) := by decide +kernel
theorem dX12_noRow_13 : decode cX12_noRow 13 = .ok (.iload_n 1, 1) := by decide +kernel
theorem dX12_noRow_14 : decode cX12_noRow 14 = .ok (.invokestatic 166, 3) := by decide +kernel
theorem dX12_noRow_17 : decode cX12_noRow 17 = .ok (.lconst 1, 1) := by decide +kernel
theorem dX12_noRow_18 : decode cX12_noRow 18 = .ok (.lsub, 1) := by decide +kernel
theorem dX12_noRow_19 : decode cX12_noRow 19 = .ok (.invokestatic 65, 3) := by decide +kernel
theorem dX12_noRow_22 : decode cX12_noRow 22 = .ok (.ifCond .ne 5, 3) := by decide +kernel
theorem dX12_noRow_25 : decode cX12_noRow 25 = .ok (.iconst 1, 1) := by decide +kernel
theorem dX12_noRow_26 : decode cX12_noRow 26 = .ok (.ireturn, 1) := by decide +kernel
theorem dX12_noRow_27 : decode cX12_noRow 27 = .ok (.iconst 1, 1) := by decide +kernel
theorem dX12_noRow_28 : decode cX12_noRow 28 = .ok (.istore 5, 2) := by decide +kernel
theorem dX12_noRow_30 : decode cX12_noRow 30 = .ok (.iconst 0, 1) := by decide +kernel
theorem dX12_noRow_31 : decode cX12_noRow 31 = .ok (.istore 6, 2) := by decide +kernel
theorem dX12_noRow_33 : decode cX12_noRow 33 = .ok (.iload 6, 2) := by decide +kernel
theorem dX12_noRow_35 : decode cX12_noRow 35 = .ok (.iload_n 1, 1) := by decide +kernel
theorem dX12_noRow_36 : decode cX12_noRow 36 = .ok (.if_icmp .ge 35, 3) := by decide +kernel
theorem dX12_noRow_39 : decode cX12_noRow 39 = .ok (.iload 5, 2) := by decide +kernel
theorem dX12_noRow_41 : decode cX12_noRow 41 = .ok (.ifCond .eq 21, 3) := by decide +kernel
theorem dX12_noRow_44 : decode cX12_noRow 44 = .ok (.aload_n 0, 1) := by decide +kernel
theorem dX12_noRow_45 : decode cX12_noRow 45 = .ok (.iload_n 1, 1) := by decide +kernel
theorem dX12_noRow_46 : decode cX12_noRow 46 = .ok (.lload_n 3, 1) := by decide +kernel
theorem dX12_noRow_47 : decode cX12_noRow 47 = .ok (.iload 6, 2) := by decide +kernel
theorem dX12_noRow_49 : decode cX12_noRow 49 = .ok (.invokestatic 170, 3) := by decide +kernel
theorem dX12_noRow_52 : decode cX12_noRow 52 = .ok (.invokevirtual 174, 3) := by decide +kernel
theorem dX12_noRow_55 : decode cX12_noRow 55 = .ok (.ifCond .ne 7, 3) := by decide +kernel
theorem dX12_noRow_58 : decode cX12_noRow 58 = .ok (.iconst 1, 1) := by decide +kernel
theorem dX12_noRow_59 : decode cX12_noRow 59 = .ok (.goto 4, 3) := by decide +kernel
theorem dX12_noRow_62 : decode cX12_noRow 62 = .ok (.iconst 0, 1) := by decide +kernel
theorem dX12_noRow_63 : decode cX12_noRow 63 = .ok (.istore 5, 2) := by decide +kernel
theorem dX12_noRow_65 : decode cX12_noRow 65 = .ok (.iinc 6 1, 3) := by decide +kernel
theorem dX12_noRow_68 : decode cX12_noRow 68 = .ok (.goto (-35), 3) := by decide +kernel
theorem dX12_noRow_71 : decode cX12_noRow 71 = .ok (.iload 5, 2) := by decide +kernel
theorem dX12_noRow_73 : decode cX12_noRow 73 = .ok (.ifCond .ne 7, 3) := by decide +kernel
theorem dX12_noRow_76 : decode cX12_noRow 76 = .ok (.iconst 1, 1) := by decide +kernel
theorem dX12_noRow_77 : decode cX12_noRow 77 = .ok (.goto 4, 3) := by decide +kernel
theorem dX12_noRow_80 : decode cX12_noRow 80 = .ok (.iconst 0, 1) := by decide +kernel
theorem dX12_noRow_81 : decode cX12_noRow 81 = .ok (.ireturn, 1) := by decide +kernel
theorem dX12_noticed_0 : decode cX12_noticed 0 = .ok (.aload_n 0, 1) := by decide +kernel
theorem dX12_noticed_1 : decode cX12_noticed 1 = .ok (.iload_n 1, 1) := by decide +kernel
theorem dX12_noticed_2 : decode cX12_noticed 2 = .ok (.aload_n 0, 1) := by decide +kernel
theorem dX12_noticed_3 : decode cX12_noticed 3 = .ok (.getfield 32, 3) := by decide +kernel
theorem dX12_noticed_6 : decode cX12_noticed 6 = .ok (.iconst 2, 1) := by decide +kernel
theorem dX12_noticed_7 : decode cX12_noticed 7 = .ok (.iload_n 2, 1) := by decide +kernel
theorem dX12_noticed_8 : decode cX12_noticed 8 = .ok (.bipush 100, 2) := by decide +kernel
theorem dX12_noticed_10 : decode cX12_noticed 10 = .ok (.idiv, 1) := by decide +kernel
theorem dX12_noticed_11 : decode cX12_noticed 11 = .ok (.iadd, 1) := by decide +kernel
theorem dX12_noticed_12 : decode cX12_noticed 12 = .ok (.iaload, 1) := by decide +kernel
theorem dX12_noticed_13 : decode cX12_noticed 13 = .ok (.iload_n 2, 1) := by decide +kernel
theorem dX12_noticed_14 : decode cX12_noticed 14 = .ok (.bipush 10, 2) := by decide +kernel
theorem dX12_noticed_16 : decode cX12_noticed 16 = .ok (.idiv, 1) := by decide +kernel
theorem dX12_noticed_17 : decode cX12_noticed 17 = .ok (.bipush 10, 2) := by decide +kernel
theorem dX12_noticed_19 : decode cX12_noticed 19 = .ok (.irem, 1) := by decide +kernel
theorem dX12_noticed_20 : decode cX12_noticed 20 = .ok (.iload_n 2, 1) := by decide +kernel
theorem dX12_noticed_21 : decode cX12_noticed 21 = .ok (.bipush 10, 2) := by decide +kernel
theorem dX12_noticed_23 : decode cX12_noticed 23 = .ok (.irem, 1) := by decide +kernel
theorem dX12_noticed_24 : decode cX12_noticed 24 = .ok (.invokevirtual 149, 3) := by decide +kernel
theorem dX12_noticed_27 : decode cX12_noticed 27 = .ok (.ireturn, 1) := by decide +kernel
theorem dX12_afterRow_0 : decode cX12_afterRow 0 = .ok (.iload_n 1, 1) := by decide +kernel
theorem dX12_afterRow_1 : decode cX12_afterRow 1 = .ok (.istore 5, 2) := by decide +kernel
theorem dX12_afterRow_3 : decode cX12_afterRow 3 = .ok (.iconst 0, 1) := by decide +kernel
theorem dX12_afterRow_4 : decode cX12_afterRow 4 = .ok (.istore 6, 2) := by decide +kernel
theorem dX12_afterRow_6 : decode cX12_afterRow 6 = .ok (.iload 6, 2) := by decide +kernel
theorem dX12_afterRow_8 : decode cX12_afterRow 8 = .ok (.iload_n 2, 1) := by decide +kernel
theorem dX12_afterRow_9 : decode cX12_afterRow 9 = .ok (.if_icmp .ge 24, 3) := by decide +kernel
theorem dX12_afterRow_12 : decode cX12_afterRow 12 = .ok (.aload_n 0, 1) := by decide +kernel
theorem dX12_afterRow_13 : decode cX12_afterRow 13 = .ok (.iload 5, 2) := by decide +kernel
theorem dX12_afterRow_15 : decode cX12_afterRow 15 = .ok (.iload_n 2, 1) := by decide +kernel
theorem dX12_afterRow_16 : decode cX12_afterRow 16 = .ok (.lload_n 3, 1) := by decide +kernel
theorem dX12_afterRow_17 : decode cX12_afterRow 17 = .ok (.iload 6, 2) := by decide +kernel
theorem dX12_afterRow_19 : decode cX12_afterRow 19 = .ok (.invokestatic 170, 3) := by decide +kernel
theorem dX12_afterRow_22 : decode cX12_afterRow 22 = .ok (.invokevirtual 177, 3) := by decide +kernel
theorem dX12_afterRow_25 : decode cX12_afterRow 25 = .ok (.istore 5, 2) := by decide +kernel
theorem dX12_afterRow_27 : decode cX12_afterRow 27 = .ok (.iinc 6 1, 3) := by decide +kernel
theorem dX12_afterRow_30 : decode cX12_afterRow 30 = .ok (.goto (-24), 3) := by decide +kernel
theorem dX12_afterRow_33 : decode cX12_afterRow 33 = .ok (.iload 5, 2) := by decide +kernel
theorem dX12_afterRow_35 : decode cX12_afterRow 35 = .ok (.ireturn, 1) := by decide +kernel
theorem dX12_after_0 : decode cX12_after 0 = .ok (.aload_n 0, 1) := by decide +kernel
theorem dX12_after_1 : decode cX12_after 1 = .ok (.iconst 0, 1) := by decide +kernel
theorem dX12_after_2 : decode cX12_after 2 = .ok (.putfield 57, 3) := by decide +kernel
theorem dX12_after_5 : decode cX12_after 5 = .ok (.aload_n 0, 1) := by decide +kernel
theorem dX12_after_6 : decode cX12_after 6 = .ok (.iload_n 1, 1) := by decide +kernel
theorem dX12_after_7 : decode cX12_after 7 = .ok (.invokevirtual 180, 3) := by decide +kernel
theorem dX12_after_10 : decode cX12_after 10 = .ok (.istore 5, 2) := by decide +kernel
theorem dX12_after_12 : decode cX12_after 12 = .ok (.iload 5, 2) := by decide +kernel
theorem dX12_after_14 : decode cX12_after 14 = .ok (.bipush (-9), 2) := by decide +kernel
theorem dX12_after_16 : decode cX12_after 16 = .ok (.if_icmp .eq 13, 3) := by decide +kernel
theorem dX12_after_19 : decode cX12_after 19 = .ok (.aload_n 0, 1) := by decide +kernel
theorem dX12_after_20 : decode cX12_after 20 = .ok (.iload_n 2, 1) := by decide +kernel
theorem dX12_after_21 : decode cX12_after 21 = .ok (.iconst 4, 1) := by decide +kernel
theorem dX12_after_22 : decode cX12_after 22 = .ok (.lload_n 3, 1) := by decide +kernel
theorem dX12_after_23 : decode cX12_after 23 = .ok (.invokevirtual 183, 3) := by decide +kernel
theorem dX12_after_26 : decode cX12_after 26 = .ok (.ifCond .eq 8, 3) := by decide +kernel
theorem dX12_after_29 : decode cX12_after 29 = .ok (.bipush (-2), 2) := by decide +kernel
theorem dX12_after_31 : decode cX12_after 31 = .ok (.goto 15, 3) := by decide +kernel
theorem dX12_after_34 : decode cX12_after 34 = .ok (.aload_n 0, 1) := by decide +kernel
theorem dX12_after_35 : decode cX12_after 35 = .ok (.aload_n 0, 1) := by decide +kernel
theorem dX12_after_36 : decode cX12_after 36 = .ok (.iload 5, 2) := by decide +kernel
theorem dX12_after_38 : decode cX12_after 38 = .ok (.iload_n 2, 1) := by decide +kernel
theorem dX12_after_39 : decode cX12_after 39 = .ok (.lload_n 3, 1) := by decide +kernel
theorem dX12_after_40 : decode cX12_after 40 = .ok (.invokevirtual 187, 3) := by decide +kernel
theorem dX12_after_43 : decode cX12_after 43 = .ok (.invokevirtual 135, 3) := by decide +kernel
theorem dX12_after_46 : decode cX12_after 46 = .ok (.ireturn, 1) := by decide +kernel
theorem dX12_begin_0 : decode cX12_begin 0 = .ok (.iconst 0, 1) := by decide +kernel
theorem dX12_begin_1 : decode cX12_begin 1 = .ok (.istore_n 1, 1) := by decide +kernel
theorem dX12_begin_2 : decode cX12_begin 2 = .ok (.iload_n 1, 1) := by decide +kernel
theorem dX12_begin_3 : decode cX12_begin 3 = .ok (.bipush 9, 2) := by decide +kernel
theorem dX12_begin_5 : decode cX12_begin 5 = .ok (.if_icmp .ge 21, 3) := by decide +kernel
theorem dX12_begin_8 : decode cX12_begin 8 = .ok (.aload_n 0, 1) := by decide +kernel
theorem dX12_begin_9 : decode cX12_begin 9 = .ok (.getfield 35, 3) := by decide +kernel
theorem dX12_begin_12 : decode cX12_begin 12 = .ok (.iload_n 1, 1) := by decide +kernel
theorem dX12_begin_13 : decode cX12_begin 13 = .ok (.aload_n 0, 1) := by decide +kernel
theorem dX12_begin_14 : decode cX12_begin 14 = .ok (.getfield 32, 3) := by decide +kernel
theorem dX12_begin_17 : decode cX12_begin 17 = .ok (.iload_n 1, 1) := by decide +kernel
theorem dX12_begin_18 : decode cX12_begin 18 = .ok (.iaload, 1) := by decide +kernel
theorem dX12_begin_19 : decode cX12_begin 19 = .ok (.iastore, 1) := by decide +kernel
theorem dX12_begin_20 : decode cX12_begin 20 = .ok (.iinc 1 1, 3) := by decide +kernel
theorem dX12_begin_23 : decode cX12_begin 23 = .ok (.goto (-21), 3) := by decide +kernel
theorem dX12_begin_26 : decode cX12_begin 26 = .ok (.return_, 1) := by decide +kernel
theorem dX12_isAllRight_0 : decode cX12_isAllRight 0 = .ok (.aload_n 0, 1) := by decide +kernel
theorem dX12_isAllRight_1 : decode cX12_isAllRight 1 = .ok (.getfield 35, 3) := by decide +kernel
theorem dX12_isAllRight_4 : decode cX12_isAllRight 4 = .ok (.iconst 0, 1) := by decide +kernel
theorem dX12_isAllRight_5 : decode cX12_isAllRight 5 = .ok (.iaload, 1) := by decide +kernel
theorem dX12_isAllRight_6 : decode cX12_isAllRight 6 = .ok (.aload_n 0, 1) := by decide +kernel
theorem dX12_isAllRight_7 : decode cX12_isAllRight 7 = .ok (.getfield 115, 3) := by decide +kernel
theorem dX12_isAllRight_10 : decode cX12_isAllRight 10 = .ok (.if_icmp .ne 7, 3) := by decide +kernel
theorem dX12_isAllRight_13 : decode cX12_isAllRight 13 = .ok (.iconst 1, 1) := by decide +kernel
theorem dX12_isAllRight_14 : decode cX12_isAllRight 14 = .ok (.goto 4, 3) := by decide +kernel
theorem dX12_isAllRight_17 : decode cX12_isAllRight 17 = .ok (.iconst 0, 1) := by decide +kernel
theorem dX12_isAllRight_18 : decode cX12_isAllRight 18 = .ok (.istore_n 1, 1) := by decide +kernel
theorem dX12_isAllRight_19 : decode cX12_isAllRight 19 = .ok (.iconst 0, 1) := by decide +kernel
theorem dX12_isAllRight_20 : decode cX12_isAllRight 20 = .ok (.istore_n 2, 1) := by decide +kernel
theorem dX12_isAllRight_21 : decode cX12_isAllRight 21 = .ok (.iload_n 2, 1) := by decide +kernel
theorem dX12_isAllRight_22 : decode cX12_isAllRight 22 = .ok (.aload_n 0, 1) := by decide +kernel
theorem dX12_isAllRight_23 : decode cX12_isAllRight 23 = .ok (.getfield 69, 3) := by decide +kernel
theorem dX12_isAllRight_26 : decode cX12_isAllRight 26 = .ok (.if_icmp .ge 34, 3) := by decide +kernel
theorem dX12_isAllRight_29 : decode cX12_isAllRight 29 = .ok (.iload_n 1, 1) := by decide +kernel
theorem dX12_isAllRight_30 : decode cX12_isAllRight 30 = .ok (.ifCond .eq 22, 3) := by decide +kernel
theorem dX12_isAllRight_33 : decode cX12_isAllRight 33 = .ok (.aload_n 0, 1) := by decide +kernel
theorem dX12_isAllRight_34 : decode cX12_isAllRight 34 = .ok (.getfield 35, 3) := by decide +kernel
theorem dX12_isAllRight_37 : decode cX12_isAllRight 37 = .ok (.iconst 5, 1) := by decide +kernel
theorem dX12_isAllRight_38 : decode cX12_isAllRight 38 = .ok (.iload_n 2, 1) := by decide +kernel
theorem dX12_isAllRight_39 : decode cX12_isAllRight 39 = .ok (.iadd, 1) := by decide +kernel
theorem dX12_isAllRight_40 : decode cX12_isAllRight 40 = .ok (.iaload, 1) := by decide +kernel
theorem dX12_isAllRight_41 : decode cX12_isAllRight 41 = .ok (.aload_n 0, 1) := by decide +kernel
theorem dX12_isAllRight_42 : decode cX12_isAllRight 42 = .ok (.getfield 115, 3) := by decide +kernel
theorem dX12_isAllRight_45 : decode cX12_isAllRight 45 = .ok (.if_icmp .ne 7, 3) := by decide +kernel
theorem dX12_isAllRight_48 : decode cX12_isAllRight 48 = .ok (.iconst 1, 1) := by decide +kernel
theorem dX12_isAllRight_49 : decode cX12_isAllRight 49 = .ok (.goto 4, 3) := by decide +kernel
theorem dX12_isAllRight_52 : decode cX12_isAllRight 52 = .ok (.iconst 0, 1) := by decide +kernel
theorem dX12_isAllRight_53 : decode cX12_isAllRight 53 = .ok (.istore_n 1, 1) := by decide +kernel
theorem dX12_isAllRight_54 : decode cX12_isAllRight 54 = .ok (.iinc 2 1, 3) := by decide +kernel
theorem dX12_isAllRight_57 : decode cX12_isAllRight 57 = .ok (.goto (-36), 3) := by decide +kernel
theorem dX12_isAllRight_60 : decode cX12_isAllRight 60 = .ok (.iload_n 1, 1) := by decide +kernel
theorem dX12_isAllRight_61 : decode cX12_isAllRight 61 = .ok (.ireturn, 1) := by decide +kernel
theorem dX12_rights_0 : decode cX12_rights 0 = .ok (.aload_n 0, 1) := by decide +kernel
theorem dX12_rights_1 : decode cX12_rights 1 = .ok (.invokevirtual 191, 3) := by decide +kernel
theorem dX12_rights_4 : decode cX12_rights 4 = .ok (.iconst 1, 1) := by decide +kernel
theorem dX12_rights_5 : decode cX12_rights 5 = .ok (.istore 4, 2) := by decide +kernel
theorem dX12_rights_7 : decode cX12_rights 7 = .ok (.iconst 0, 1) := by decide +kernel
theorem dX12_rights_8 : decode cX12_rights 8 = .ok (.istore 5, 2) := by decide +kernel
theorem dX12_rights_10 : decode cX12_rights 10 = .ok (.iload 5, 2) := by decide +kernel
theorem dX12_rights_12 : decode cX12_rights 12 = .ok (.iload_n 1, 1) := by decide +kernel
theorem dX12_rights_13 : decode cX12_rights 13 = .ok (.if_icmp .ge 71, 3) := by decide +kernel
theorem dX12_rights_16 : decode cX12_rights 16 = .ok (.iload 4, 2) := by decide +kernel
theorem dX12_rights_18 : decode cX12_rights 18 = .ok (.ifCond .eq 66, 3) := by decide +kernel
theorem dX12_rights_21 : decode cX12_rights 21 = .ok (.iload_n 1, 1) := by decide +kernel
theorem dX12_rights_22 : decode cX12_rights 22 = .ok (.iload_n 2, 1) := by decide +kernel
theorem dX12_rights_23 : decode cX12_rights 23 = .ok (.i2l, 1) := by decide +kernel
theorem dX12_rights_24 : decode cX12_rights 24 = .ok (.iload 5, 2) := by decide +kernel
theorem dX12_rights_26 : decode cX12_rights 26 = .ok (.invokestatic 170, 3) := by decide +kernel
theorem dX12_rights_29 : decode cX12_rights 29 = .ok (.istore 6, 2) := by decide +kernel
theorem dX12_rights_31 : decode cX12_rights 31 = .ok (.aload_n 0, 1) := by decide +kernel
theorem dX12_rights_32 : decode cX12_rights 32 = .ok (.iload 6, 2) := by decide +kernel
theorem dX12_rights_34 : decode cX12_rights 34 = .ok (.invokevirtual 174, 3) := by decide +kernel
theorem dX12_rights_37 : decode cX12_rights 37 = .ok (.ifCond .ne 7, 3) := by decide +kernel
theorem dX12_rights_40 : decode cX12_rights 40 = .ok (.iconst 1, 1) := by decide +kernel
theorem dX12_rights_41 : decode cX12_rights 41 = .ok (.goto 4, 3) := by decide +kernel
theorem dX12_rights_44 : decode cX12_rights 44 = .ok (.iconst 0, 1) := by decide +kernel
theorem dX12_rights_45 : decode cX12_rights 45 = .ok (.istore 4, 2) := by decide +kernel
theorem dX12_rights_47 : decode cX12_rights 47 = .ok (.iload 4, 2) := by decide +kernel
theorem dX12_rights_49 : decode cX12_rights 49 = .ok (.ifCond .eq 29, 3) := by decide +kernel
theorem dX12_rights_52 : decode cX12_rights 52 = .ok (.aload_n 0, 1) := by decide +kernel
theorem dX12_rights_53 : decode cX12_rights 53 = .ok (.aload_n 0, 1) := by decide +kernel
theorem dX12_rights_54 : decode cX12_rights 54 = .ok (.getfield 35, 3) := by decide +kernel
theorem dX12_rights_57 : decode cX12_rights 57 = .ok (.iload 6, 2) := by decide +kernel
theorem dX12_rights_59 : decode cX12_rights 59 = .ok (.bipush 100, 2) := by decide +kernel
theorem dX12_rights_61 : decode cX12_rights 61 = .ok (.idiv, 1) := by decide +kernel
theorem dX12_rights_62 : decode cX12_rights 62 = .ok (.iload 6, 2) := by decide +kernel
theorem dX12_rights_64 : decode cX12_rights 64 = .ok (.bipush 10, 2) := by decide +kernel
theorem dX12_rights_66 : decode cX12_rights 66 = .ok (.idiv, 1) := by decide +kernel
theorem dX12_rights_67 : decode cX12_rights 67 = .ok (.bipush 10, 2) := by decide +kernel
theorem dX12_rights_69 : decode cX12_rights 69 = .ok (.irem, 1) := by decide +kernel
theorem dX12_rights_70 : decode cX12_rights 70 = .ok (.iload 6, 2) := by decide +kernel
theorem dX12_rights_72 : decode cX12_rights 72 = .ok (.bipush 10, 2) := by decide +kernel
theorem dX12_rights_74 : decode cX12_rights 74 = .ok (.irem, 1) := by decide +kernel
theorem dX12_rights_75 : decode cX12_rights 75 = .ok (.invokevirtual 162, 3) := by decide +kernel
theorem dX12_rights_78 : decode cX12_rights 78 = .ok (.iinc 5 1, 3) := by decide +kernel
theorem dX12_rights_81 : decode cX12_rights 81 = .ok (.goto (-71), 3) := by decide +kernel
theorem dX12_rights_84 : decode cX12_rights 84 = .ok (.iload 4, 2) := by decide +kernel
theorem dX12_rights_86 : decode cX12_rights 86 = .ok (.ifCond .eq 34, 3) := by decide +kernel
theorem dX12_rights_89 : decode cX12_rights 89 = .ok (.iload_n 3, 1) := by decide +kernel
theorem dX12_rights_90 : decode cX12_rights 90 = .ok (.ifCond .eq 13, 3) := by decide +kernel
theorem dX12_rights_93 : decode cX12_rights 93 = .ok (.aload_n 0, 1) := by decide +kernel
theorem dX12_rights_94 : decode cX12_rights 94 = .ok (.invokevirtual 194, 3) := by decide +kernel
theorem dX12_rights_97 : decode cX12_rights 97 = .ok (.ifCond .eq 23, 3) := by decide +kernel
theorem dX12_rights_100 : decode cX12_rights 100 = .ok (.goto 16, 3) := by decide +kernel
theorem dX12_rights_103 : decode cX12_rights 103 = .ok (.aload_n 0, 1) := by decide +kernel
theorem dX12_rights_104 : decode cX12_rights 104 = .ok (.getfield 35, 3) := by decide +kernel
theorem dX12_rights_107 : decode cX12_rights 107 = .ok (.iconst 0, 1) := by decide +kernel
theorem dX12_rights_108 : decode cX12_rights 108 = .ok (.iaload, 1) := by decide +kernel
theorem dX12_rights_109 : decode cX12_rights 109 = .ok (.aload_n 0, 1) := by decide +kernel
theorem dX12_rights_110 : decode cX12_rights 110 = .ok (.getfield 115, 3) := by decide +kernel
theorem dX12_rights_113 : decode cX12_rights 113 = .ok (.if_icmp .ne 7, 3) := by decide +kernel
theorem dX12_rights_116 : decode cX12_rights 116 = .ok (.iconst 1, 1) := by decide +kernel
theorem dX12_rights_117 : decode cX12_rights 117 = .ok (.goto 4, 3) := by decide +kernel
theorem dX12_rights_120 : decode cX12_rights 120 = .ok (.iconst 0, 1) := by decide +kernel
theorem dX12_rights_121 : decode cX12_rights 121 = .ok (.ireturn, 1) := by decide +kernel
theorem dX12_findRow_0 : decode cX12_findRow 0 = .ok (.aload_n 0, 1) := by decide +kernel
theorem dX12_findRow_1 : decode cX12_findRow 1 = .ok (.bipush (-9), 2) := by decide +kernel
theorem dX12_findRow_3 : decode cX12_findRow 3 = .ok (.putfield 197, 3) := by decide +kernel
theorem dX12_findRow_6 : decode cX12_findRow 6 = .ok (.aload_n 0, 1) := by decide +kernel
theorem dX12_findRow_7 : decode cX12_findRow 7 = .ok (.bipush (-9), 2) := by decide +kernel
theorem dX12_findRow_9 : decode cX12_findRow 9 = .ok (.putfield 200, 3) := by decide +kernel
theorem dX12_findRow_12 : decode cX12_findRow 12 = .ok (.iconst 0, 1) := by decide +kernel
theorem dX12_findRow_13 : decode cX12_findRow 13 = .ok (.istore_n 2, 1) := by decide +kernel
theorem dX12_findRow_14 : decode cX12_findRow 14 = .ok (.iload_n 2, 1) := by decide +kernel
theorem dX12_findRow_15 : decode cX12_findRow 15 = .ok (.iconst 2, 1) := by decide +kernel
theorem dX12_findRow_16 : decode cX12_findRow 16 = .ok (.if_icmp .gt 112, 3) := by decide +kernel
theorem dX12_findRow_19 : decode cX12_findRow 19 = .ok (.aload_n 0, 1) := by decide +kernel
theorem dX12_findRow_20 : decode cX12_findRow 20 = .ok (.getfield 197, 3) := by decide +kernel
theorem dX12_findRow_23 : decode cX12_findRow 23 = .ok (.bipush (-9), 2) := by decide +kernel
theorem dX12_findRow_25 : decode cX12_findRow 25 = .ok (.if_icmp .ne 103, 3) := by decide +kernel
theorem dX12_findRow_28 : decode cX12_findRow 28 = .ok (.iload_n 2, 1) := by decide +kernel
theorem dX12_findRow_29 : decode cX12_findRow 29 = .ok (.ifCond .ne 7, 3) := by decide +kernel
theorem dX12_findRow_32 : decode cX12_findRow 32 = .ok (.iconst 1, 1) := by decide +kernel
theorem dX12_findRow_33 : decode cX12_findRow 33 = .ok (.goto 16, 3) := by decide +kernel
theorem dX12_findRow_36 : decode cX12_findRow 36 = .ok (.iload_n 2, 1) := by decide +kernel
theorem dX12_findRow_37 : decode cX12_findRow 37 = .ok (.iconst 1, 1) := by decide +kernel
theorem dX12_findRow_38 : decode cX12_findRow 38 = .ok (.if_icmp .ne 9, 3) := by decide +kernel
theorem dX12_findRow_41 : decode cX12_findRow 41 = .ok (.sipush 300, 3) := by decide +kernel
theorem dX12_findRow_44 : decode cX12_findRow 44 = .ok (.goto 5, 3) := by decide +kernel
theorem dX12_findRow_47 : decode cX12_findRow 47 = .ok (.ldc 203, 2) := by decide +kernel
theorem dX12_findRow_49 : decode cX12_findRow 49 = .ok (.istore_n 3, 1) := by decide +kernel
theorem dX12_findRow_50 : decode cX12_findRow 50 = .ok (.iconst 0, 1) := by decide +kernel
theorem dX12_findRow_51 : decode cX12_findRow 51 = .ok (.istore 4, 2) := by decide +kernel
theorem dX12_findRow_53 : decode cX12_findRow 53 = .ok (.iload 4, 2) := by decide +kernel
theorem dX12_findRow_55 : decode cX12_findRow 55 = .ok (.iload_n 3, 1) := by decide +kernel
theorem dX12_findRow_56 : decode cX12_findRow 56 = .ok (.if_icmp .ge 66, 3) := by decide +kernel
theorem dX12_findRow_59 : decode cX12_findRow 59 = .ok (.aload_n 0, 1) := by decide +kernel
theorem dX12_findRow_60 : decode cX12_findRow 60 = .ok (.getfield 197, 3) := by decide +kernel
theorem dX12_findRow_63 : decode cX12_findRow 63 = .ok (.bipush (-9), 2) := by decide +kernel
theorem dX12_findRow_65 : decode cX12_findRow 65 = .ok (.if_icmp .ne 57, 3) := by decide +kernel
theorem dX12_findRow_68 : decode cX12_findRow 68 = .ok (.iload_n 2, 1) := by decide +kernel
theorem dX12_findRow_69 : decode cX12_findRow 69 = .ok (.iconst 2, 1) := by decide +kernel
theorem dX12_findRow_70 : decode cX12_findRow 70 = .ok (.if_icmp .lt 24, 3) := by decide +kernel
theorem dX12_findRow_73 : decode cX12_findRow 73 = .ok (.iload 4, 2) := by decide +kernel
theorem dX12_findRow_75 : decode cX12_findRow 75 = .ok (.bipush 10, 2) := by decide +kernel
theorem dX12_findRow_77 : decode cX12_findRow 77 = .ok (.irem, 1) := by decide +kernel
theorem dX12_findRow_78 : decode cX12_findRow 78 = .ok (.iconst 4, 1) := by decide +kernel
theorem dX12_findRow_79 : decode cX12_findRow 79 = .ok (.if_icmp .ge 37, 3) := by decide +kernel
theorem dX12_findRow_82 : decode cX12_findRow 82 = .ok (.iload 4, 2) := by decide +kernel
theorem dX12_findRow_84 : decode cX12_findRow 84 = .ok (.sipush 1000, 3) := by decide +kernel
theorem dX12_findRow_87 : decode cX12_findRow 87 = .ok (.irem, 1) := by decide +kernel
theorem dX12_findRow_88 : decode cX12_findRow 88 = .ok (.sipush 300, 3) := by decide +kernel
theorem dX12_findRow_91 : decode cX12_findRow 91 = .ok (.if_icmp .ge 25, 3) := by decide +kernel
theorem dX12_findRow_94 : decode cX12_findRow 94 = .ok (.aload_n 0, 1) := by decide +kernel
theorem dX12_findRow_95 : decode cX12_findRow 95 = .ok (.iload_n 2, 1) := by decide +kernel
theorem dX12_findRow_96 : decode cX12_findRow 96 = .ok (.iload 4, 2) := by decide +kernel
theorem dX12_findRow_98 : decode cX12_findRow 98 = .ok (.iload_n 1, 1) := by decide +kernel
theorem dX12_findRow_99 : decode cX12_findRow 99 = .ok (.invokevirtual 204, 3) := by decide +kernel
theorem dX12_findRow_102 : decode cX12_findRow 102 = .ok (.ifCond .eq 14, 3) := by decide +kernel
theorem dX12_findRow_105 : decode cX12_findRow 105 = .ok (.aload_n 0, 1) := by decide +kernel
theorem dX12_findRow_106 : decode cX12_findRow 106 = .ok (.iload_n 2, 1) := by decide +kernel
theorem dX12_findRow_107 : decode cX12_findRow 107 = .ok (.putfield 197, 3) := by decide +kernel
theorem dX12_findRow_110 : decode cX12_findRow 110 = .ok (.aload_n 0, 1) := by decide +kernel
theorem dX12_findRow_111 : decode cX12_findRow 111 = .ok (.iload 4, 2) := by decide +kernel
theorem dX12_findRow_113 : decode cX12_findRow 113 = .ok (.putfield 200, 3) := by decide +kernel
theorem dX12_findRow_116 : decode cX12_findRow 116 = .ok (.iinc 4 1, 3) := by decide +kernel
theorem dX12_findRow_119 : decode cX12_findRow 119 = .ok (.goto (-66), 3) := by decide +kernel
theorem dX12_findRow_122 : decode cX12_findRow 122 = .ok (.iinc 2 1, 3) := by decide +kernel
theorem dX12_findRow_125 : decode cX12_findRow 125 = .ok (.goto (-111), 3) := by decide +kernel
theorem dX12_findRow_128 : decode cX12_findRow 128 = .ok (.return_, 1) := by decide +kernel
theorem dX12_righted_0 : decode cX12_righted 0 = .ok (.aload_n 0, 1) := by decide +kernel
theorem dX12_righted_1 : decode cX12_righted 1 = .ok (.iconst 0, 1) := by decide +kernel
theorem dX12_righted_2 : decode cX12_righted 2 = .ok (.putfield 57, 3) := by decide +kernel
theorem dX12_righted_5 : decode cX12_righted 5 = .ok (.iload_n 1, 1) := by decide +kernel
theorem dX12_righted_6 : decode cX12_righted 6 = .ok (.i2l, 1) := by decide +kernel
theorem dX12_righted_7 : decode cX12_righted 7 = .ok (.lconst 0, 1) := by decide +kernel
theorem dX12_righted_8 : decode cX12_righted 8 = .ok (.lconst 1, 1) := by decide +kernel
theorem dX12_righted_9 : decode cX12_righted 9 = .ok (.invokestatic 65, 3) := by decide +kernel
theorem dX12_righted_12 : decode cX12_righted 12 = .ok (.ifCond .ne 6, 3) := by decide +kernel
theorem dX12_righted_15 : decode cX12_righted 15 = .ok (.bipush (-2), 2) := by decide +kernel
theorem dX12_righted_17 : decode cX12_righted 17 = .ok (.ireturn, 1) := by decide +kernel
theorem dX12_righted_18 : decode cX12_righted 18 = .ok (.aload_n 0, 1) := by decide +kernel
theorem dX12_righted_19 : decode cX12_righted 19 = .ok (.iconst 0, 1) := by decide +kernel
theorem dX12_righted_20 : decode cX12_righted 20 = .ok (.invokevirtual 208, 3) := by decide +kernel
theorem dX12_righted_23 : decode cX12_righted 23 = .ok (.iload_n 1, 1) := by decide +kernel
theorem dX12_righted_24 : decode cX12_righted 24 = .ok (.ifCond .ne 10, 3) := by decide +kernel
theorem dX12_righted_27 : decode cX12_righted 27 = .ok (.aload_n 0, 1) := by decide +kernel
theorem dX12_righted_28 : decode cX12_righted 28 = .ok (.getfield 197, 3) := by decide +kernel
theorem dX12_righted_31 : decode cX12_righted 31 = .ok (.goto 7, 3) := by decide +kernel
theorem dX12_righted_34 : decode cX12_righted 34 = .ok (.aload_n 0, 1) := by decide +kernel
theorem dX12_righted_35 : decode cX12_righted 35 = .ok (.getfield 200, 3) := by decide +kernel
theorem dX12_righted_38 : decode cX12_righted 38 = .ok (.ireturn, 1) := by decide +kernel
theorem dX12_allRighted_0 : decode cX12_allRighted 0 = .ok (.aload_n 0, 1) := by decide +kernel
theorem dX12_allRighted_1 : decode cX12_allRighted 1 = .ok (.iconst 0, 1) := by decide +kernel
theorem dX12_allRighted_2 : decode cX12_allRighted 2 = .ok (.putfield 57, 3) := by decide +kernel
theorem dX12_allRighted_5 : decode cX12_allRighted 5 = .ok (.iload_n 1, 1) := by decide +kernel
theorem dX12_allRighted_6 : decode cX12_allRighted 6 = .ok (.i2l, 1) := by decide +kernel
theorem dX12_allRighted_7 : decode cX12_allRighted 7 = .ok (.lconst 0, 1) := by decide +kernel
theorem dX12_allRighted_8 : decode cX12_allRighted 8 = .ok (.lconst 1, 1) := by decide +kernel
theorem dX12_allRighted_9 : decode cX12_allRighted 9 = .ok (.invokestatic 65, 3) := by decide +kernel
theorem dX12_allRighted_12 : decode cX12_allRighted 12 = .ok (.ifCond .ne 6, 3) := by decide +kernel
theorem dX12_allRighted_15 : decode cX12_allRighted 15 = .ok (.bipush (-2), 2) := by decide +kernel
theorem dX12_allRighted_17 : decode cX12_allRighted 17 = .ok (.ireturn, 1) := by decide +kernel
theorem dX12_allRighted_18 : decode cX12_allRighted 18 = .ok (.aload_n 0, 1) := by decide +kernel
theorem dX12_allRighted_19 : decode cX12_allRighted 19 = .ok (.iconst 1, 1) := by decide +kernel
theorem dX12_allRighted_20 : decode cX12_allRighted 20 = .ok (.invokevirtual 208, 3) := by decide +kernel
theorem dX12_allRighted_23 : decode cX12_allRighted 23 = .ok (.iload_n 1, 1) := by decide +kernel
theorem dX12_allRighted_24 : decode cX12_allRighted 24 = .ok (.ifCond .ne 10, 3) := by decide +kernel
theorem dX12_allRighted_27 : decode cX12_allRighted 27 = .ok (.aload_n 0, 1) := by decide +kernel
theorem dX12_allRighted_28 : decode cX12_allRighted 28 = .ok (.getfield 197, 3) := by decide +kernel
theorem dX12_allRighted_31 : decode cX12_allRighted 31 = .ok (.goto 7, 3) := by decide +kernel
theorem dX12_allRighted_34 : decode cX12_allRighted 34 = .ok (.aload_n 0, 1) := by decide +kernel
theorem dX12_allRighted_35 : decode cX12_allRighted 35 = .ok (.getfield 200, 3) := by decide +kernel
theorem dX12_allRighted_38 : decode cX12_allRighted 38 = .ok (.ireturn, 1) := by decide +kernel
theorem dX12_ring_0 : decode cX12_ring 0 = .ok (.aload_n 0, 1) := by decide +kernel
theorem dX12_ring_1 : decode cX12_ring 1 = .ok (.iconst 0, 1) := by decide +kernel
theorem dX12_ring_2 : decode cX12_ring 2 = .ok (.putfield 57, 3) := by decide +kernel
theorem dX12_ring_5 : decode cX12_ring 5 = .ok (.aload_n 0, 1) := by decide +kernel
theorem dX12_ring_6 : decode cX12_ring 6 = .ok (.iload_n 1, 1) := by decide +kernel
theorem dX12_ring_7 : decode cX12_ring 7 = .ok (.iconst 3, 1) := by decide +kernel
theorem dX12_ring_8 : decode cX12_ring 8 = .ok (.lload_n 2, 1) := by decide +kernel
theorem dX12_ring_9 : decode cX12_ring 9 = .ok (.invokevirtual 183, 3) := by decide +kernel
theorem dX12_ring_12 : decode cX12_ring 12 = .ok (.ifCond .ne 14, 3) := by decide +kernel
theorem dX12_ring_15 : decode cX12_ring 15 = .ok (.iload 4, 2) := by decide +kernel
theorem dX12_ring_17 : decode cX12_ring 17 = .ok (.i2l, 1) := by decide +kernel
theorem dX12_ring_18 : decode cX12_ring 18 = .ok (.lconst 0, 1) := by decide +kernel
theorem dX12_ring_19 : decode cX12_ring 19 = .ok (.lconst 1, 1) := by decide +kernel
theorem dX12_ring_20 : decode cX12_ring 20 = .ok (.invokestatic 65, 3) := by decide +kernel
theorem dX12_ring_23 : decode cX12_ring 23 = .ok (.ifCond .ne 6, 3) := by decide +kernel
theorem dX12_ring_26 : decode cX12_ring 26 = .ok (.bipush (-2), 2) := by decide +kernel
theorem dX12_ring_28 : decode cX12_ring 28 = .ok (.ireturn, 1) := by decide +kernel
theorem dX12_ring_29 : decode cX12_ring 29 = .ok (.aload_n 0, 1) := by decide +kernel
theorem dX12_ring_30 : decode cX12_ring 30 = .ok (.getfield 54, 3) := by decide +kernel
theorem dX12_ring_33 : decode cX12_ring 33 = .ok (.iconst 0, 1) := by decide +kernel
theorem dX12_ring_34 : decode cX12_ring 34 = .ok (.aload_n 0, 1) := by decide +kernel
theorem dX12_ring_35 : decode cX12_ring 35 = .ok (.getfield 32, 3) := by decide +kernel
theorem dX12_ring_38 : decode cX12_ring 38 = .ok (.iconst 0, 1) := by decide +kernel
theorem dX12_ring_39 : decode cX12_ring 39 = .ok (.iaload, 1) := by decide +kernel
theorem dX12_ring_40 : decode cX12_ring 40 = .ok (.iastore, 1) := by decide +kernel
theorem dX12_ring_41 : decode cX12_ring 41 = .ok (.iconst 1, 1) := by decide +kernel
theorem dX12_ring_42 : decode cX12_ring 42 = .ok (.istore 5, 2) := by decide +kernel
theorem dX12_ring_44 : decode cX12_ring 44 = .ok (.aload_n 0, 1) := by decide +kernel
theorem dX12_ring_45 : decode cX12_ring 45 = .ok (.aload_n 0, 1) := by decide +kernel
theorem dX12_ring_46 : decode cX12_ring 46 = .ok (.getfield 54, 3) := by decide +kernel
theorem dX12_ring_49 : decode cX12_ring 49 = .ok (.iload 5, 2) := by decide +kernel
theorem dX12_ring_51 : decode cX12_ring 51 = .ok (.iconst 1, 1) := by decide +kernel
theorem dX12_ring_52 : decode cX12_ring 52 = .ok (.isub, 1) := by decide +kernel
theorem dX12_ring_53 : decode cX12_ring 53 = .ok (.iaload, 1) := by decide +kernel
theorem dX12_ring_54 : decode cX12_ring 54 = .ok (.iload_n 1, 1) := by decide +kernel
theorem dX12_ring_55 : decode cX12_ring 55 = .ok (.lload_n 2, 1) := by decide +kernel
theorem dX12_ring_56 : decode cX12_ring 56 = .ok (.invokevirtual 187, 3) := by decide +kernel
theorem dX12_ring_59 : decode cX12_ring 59 = .ok (.istore 6, 2) := by decide +kernel
theorem dX12_ring_61 : decode cX12_ring 61 = .ok (.iconst 0, 1) := by decide +kernel
theorem dX12_ring_62 : decode cX12_ring 62 = .ok (.istore 7, 2) := by decide +kernel
theorem dX12_ring_64 : decode cX12_ring 64 = .ok (.iload 7, 2) := by decide +kernel
theorem dX12_ring_66 : decode cX12_ring 66 = .ok (.iload 5, 2) := by decide +kernel
theorem dX12_ring_68 : decode cX12_ring 68 = .ok (.if_icmp .ge 37, 3) := by decide +kernel
theorem dX12_ring_71 : decode cX12_ring 71 = .ok (.aload_n 0, 1) := by decide +kernel
theorem dX12_ring_72 : decode cX12_ring 72 = .ok (.getfield 54, 3) := by decide +kernel
theorem dX12_ring_75 : decode cX12_ring 75 = .ok (.iload 7, 2) := by decide +kernel
theorem dX12_ring_77 : decode cX12_ring 77 = .ok (.iaload, 1) := by decide +kernel
theorem dX12_ring_78 : decode cX12_ring 78 = .ok (.iload 6, 2) := by decide +kernel
theorem dX12_ring_80 : decode cX12_ring 80 = .ok (.if_icmp .ne 19, 3) := by decide +kernel
theorem dX12_ring_83 : decode cX12_ring 83 = .ok (.iload 4, 2) := by decide +kernel
theorem dX12_ring_85 : decode cX12_ring 85 = .ok (.ifCond .ne 8, 3) := by decide +kernel
theorem dX12_ring_88 : decode cX12_ring 88 = .ok (.iload 7, 2) := by decide +kernel
theorem dX12_ring_90 : decode cX12_ring 90 = .ok (.goto 8, 3) := by decide +kernel
theorem dX12_ring_93 : decode cX12_ring 93 = .ok (.iload 5, 2) := by decide +kernel
theorem dX12_ring_95 : decode cX12_ring 95 = .ok (.iload 7, 2) := by decide +kernel
theorem dX12_ring_97 : decode cX12_ring 97 = .ok (.isub, 1) := by decide +kernel
theorem dX12_ring_98 : decode cX12_ring 98 = .ok (.ireturn, 1) := by decide +kernel
theorem dX12_ring_99 : decode cX12_ring 99 = .ok (.iinc 7 1, 3) := by decide +kernel
theorem dX12_ring_102 : decode cX12_ring 102 = .ok (.goto (-38), 3) := by decide +kernel
theorem dX12_ring_105 : decode cX12_ring 105 = .ok (.aload_n 0, 1) := by decide +kernel
theorem dX12_ring_106 : decode cX12_ring 106 = .ok (.getfield 54, 3) := by decide +kernel
theorem dX12_ring_109 : decode cX12_ring 109 = .ok (.iload 5, 2) := by decide +kernel
theorem dX12_ring_111 : decode cX12_ring 111 = .ok (.iload 6, 2) := by decide +kernel
theorem dX12_ring_113 : decode cX12_ring 113 = .ok (.iastore, 1) := by decide +kernel
theorem dX12_ring_114 : decode cX12_ring 114 = .ok (.iinc 5 1, 3) := by decide +kernel
theorem dX12_ring_117 : decode cX12_ring 117 = .ok (.goto (-73), 3) := by decide +kernel
theorem dX12_findFirst_0 : decode cX12_findFirst 0 = .ok (.aload_n 0, 1) := by decide +kernel
theorem dX12_findFirst_1 : decode cX12_findFirst 1 = .ok (.iconst 0, 1) := by decide +kernel
theorem dX12_findFirst_2 : decode cX12_findFirst 2 = .ok (.putfield 212, 3) := by decide +kernel
theorem dX12_findFirst_5 : decode cX12_findFirst 5 = .ok (.aload_n 0, 1) := by decide +kernel
theorem dX12_findFirst_6 : decode cX12_findFirst 6 = .ok (.bipush (-9), 2) := by decide +kernel
theorem dX12_findFirst_8 : decode cX12_findFirst 8 = .ok (.putfield 215, 3) := by decide +kernel
theorem dX12_findFirst_11 : decode cX12_findFirst 11 = .ok (.aload_n 0, 1) := by decide +kernel
theorem dX12_findFirst_12 : decode cX12_findFirst 12 = .ok (.iconst 1, 1) := by decide +kernel
theorem dX12_findFirst_13 : decode cX12_findFirst 13 = .ok (.aload_n 0, 1) := by decide +kernel
theorem dX12_findFirst_14 : decode cX12_findFirst 14 = .ok (.getfield 13, 3) := by decide +kernel
theorem dX12_findFirst_17 : decode cX12_findFirst 17 = .ok (.ishl, 1) := by decide +kernel
theorem dX12_findFirst_18 : decode cX12_findFirst 18 = .ok (.iconst 1, 1) := by decide +kernel
theorem dX12_findFirst_19 : decode cX12_findFirst 19 = .ok (.isub, 1) := by decide +kernel
theorem dX12_findFirst_20 : decode cX12_findFirst 20 = .ok (.putfield 218, 3) := by decide +kernel
theorem dX12_findFirst_23 : decode cX12_findFirst 23 = .ok (.iconst 0, 1) := by decide +kernel
theorem dX12_findFirst_24 : decode cX12_findFirst 24 = .ok (.istore 4, 2) := by decide +kernel
theorem dX12_findFirst_26 : decode cX12_findFirst 26 = .ok (.iload 4, 2) := by decide +kernel
theorem dX12_findFirst_28 : decode cX12_findFirst 28 = .ok (.aload_n 0, 1) := by decide +kernel
theorem dX12_findFirst_29 : decode cX12_findFirst 29 = .ok (.invokevirtual 221, 3) := by decide +kernel
theorem dX12_findFirst_32 : decode cX12_findFirst 32 = .ok (.if_icmp .ge 114, 3) := by decide +kernel
theorem dX12_findFirst_35 : decode cX12_findFirst 35 = .ok (.aload_n 0, 1) := by decide +kernel
theorem dX12_findFirst_36 : decode cX12_findFirst 36 = .ok (.iload 4, 2) := by decide +kernel
theorem dX12_findFirst_38 : decode cX12_findFirst 38 = .ok (.iload_n 1, 1) := by decide +kernel
theorem dX12_findFirst_39 : decode cX12_findFirst 39 = .ok (.lload_n 2, 1) := by decide +kernel
theorem dX12_findFirst_40 : decode cX12_findFirst 40 = .ok (.invokevirtual 187, 3) := by decide +kernel
theorem dX12_findFirst_43 : decode cX12_findFirst 43 = .ok (.aload_n 0, 1) := by decide +kernel
theorem dX12_findFirst_44 : decode cX12_findFirst 44 = .ok (.getfield 32, 3) := by decide +kernel
theorem dX12_findFirst_47 : decode cX12_findFirst 47 = .ok (.iconst 0, 1) := by decide +kernel
theorem dX12_findFirst_48 : decode cX12_findFirst 48 = .ok (.iaload, 1) := by decide +kernel
theorem dX12_findFirst_49 : decode cX12_findFirst 49 = .ok (.if_icmp .ne 91, 3) := by decide +kernel
theorem dX12_findFirst_52 : decode cX12_findFirst 52 = .ok (.aload_n 0, 1) := by decide +kernel
theorem dX12_findFirst_53 : decode cX12_findFirst 53 = .ok (.aload_n 0, 1) := by decide +kernel
theorem dX12_findFirst_54 : decode cX12_findFirst 54 = .ok (.getfield 212, 3) := by decide +kernel
theorem dX12_findFirst_57 : decode cX12_findFirst 57 = .ok (.ifCond .ne 8, 3) := by decide +kernel
theorem dX12_findFirst_60 : decode cX12_findFirst 60 = .ok (.iload 4, 2) := by decide +kernel
theorem dX12_findFirst_62 : decode cX12_findFirst 62 = .ok (.goto 7, 3) := by decide +kernel
theorem dX12_findFirst_65 : decode cX12_findFirst 65 = .ok (.aload_n 0, 1) := by decide +kernel
theorem dX12_findFirst_66 : decode cX12_findFirst 66 = .ok (.getfield 215, 3) := by decide +kernel
theorem dX12_findFirst_69 : decode cX12_findFirst 69 = .ok (.putfield 215, 3) := by decide +kernel
theorem dX12_findFirst_72 : decode cX12_findFirst 72 = .ok (.aload_n 0, 1) := by decide +kernel
theorem dX12_findFirst_73 : decode cX12_findFirst 73 = .ok (.dup, 1) := by decide +kernel
theorem dX12_findFirst_74 : decode cX12_findFirst 74 = .ok (.getfield 212, 3) := by decide +kernel
theorem dX12_findFirst_77 : decode cX12_findFirst 77 = .ok (.iconst 1, 1) := by decide +kernel
theorem dX12_findFirst_78 : decode cX12_findFirst 78 = .ok (.iadd, 1) := by decide +kernel
theorem dX12_findFirst_79 : decode cX12_findFirst 79 = .ok (.putfield 212, 3) := by decide +kernel
theorem dX12_findFirst_82 : decode cX12_findFirst 82 = .ok (.iconst 0, 1) := by decide +kernel
theorem dX12_findFirst_83 : decode cX12_findFirst 83 = .ok (.istore 5, 2) := by decide +kernel
theorem dX12_findFirst_85 : decode cX12_findFirst 85 = .ok (.iload 5, 2) := by decide +kernel
theorem dX12_findFirst_87 : decode cX12_findFirst 87 = .ok (.aload_n 0, 1) := by decide +kernel
theorem dX12_findFirst_88 : decode cX12_findFirst 88 = .ok (.getfield 13, 3) := by decide +kernel
theorem dX12_findFirst_91 : decode cX12_findFirst 91 = .ok (.if_icmp .ge 49, 3) := by decide +kernel
theorem dX12_findFirst_94 : decode cX12_findFirst 94 = .ok (.aload_n 0, 1) := by decide +kernel
theorem dX12_findFirst_95 : decode cX12_findFirst 95 = .ok (.dup, 1) := by decide +kernel
theorem dX12_findFirst_96 : decode cX12_findFirst 96 = .ok (.getfield 218, 3) := by decide +kernel
theorem dX12_findFirst_99 : decode cX12_findFirst 99 = .ok (.aload_n 0, 1) := by decide +kernel
theorem dX12_findFirst_100 : decode cX12_findFirst 100 = .ok (.iload 4, 2) := by decide +kernel
theorem dX12_findFirst_102 : decode cX12_findFirst 102 = .ok (.iload 5, 2) := by decide +kernel
theorem dX12_findFirst_104 : decode cX12_findFirst 104 = .ok (.invokevirtual 124, 3) := by decide +kernel
theorem dX12_findFirst_107 : decode cX12_findFirst 107 = .ok (.aload_n 0, 1) := by decide +kernel
theorem dX12_findFirst_108 : decode cX12_findFirst 108 = .ok (.aload_n 0, 1) := by decide +kernel
theorem dX12_findFirst_109 : decode cX12_findFirst 109 = .ok (.getfield 215, 3) := by decide +kernel
theorem dX12_findFirst_112 : decode cX12_findFirst 112 = .ok (.iload 5, 2) := by decide +kernel
theorem dX12_findFirst_114 : decode cX12_findFirst 114 = .ok (.invokevirtual 124, 3) := by decide +kernel
theorem dX12_findFirst_117 : decode cX12_findFirst 117 = .ok (.if_icmp .ne 7, 3) := by decide +kernel
theorem dX12_findFirst_120 : decode cX12_findFirst 120 = .ok (.iconst (-1), 1) := by decide +kernel
theorem dX12_findFirst_121 : decode cX12_findFirst 121 = .ok (.goto 9, 3) := by decide +kernel
theorem dX12_findFirst_124 : decode cX12_findFirst 124 = .ok (.iconst 1, 1) := by decide +kernel
theorem dX12_findFirst_125 : decode cX12_findFirst 125 = .ok (.iload 5, 2) := by decide +kernel
theorem dX12_findFirst_127 : decode cX12_findFirst 127 = .ok (.ishl, 1) := by decide +kernel
theorem dX12_findFirst_128 : decode cX12_findFirst 128 = .ok (.iconst (-1), 1) := by decide +kernel
theorem dX12_findFirst_129 : decode cX12_findFirst 129 = .ok (.ixor, 1) := by decide +kernel
theorem dX12_findFirst_130 : decode cX12_findFirst 130 = .ok (.iand, 1) := by decide +kernel
theorem dX12_findFirst_131 : decode cX12_findFirst 131 = .ok (.putfield 218, 3) := by decide +kernel
theorem dX12_findFirst_134 : decode cX12_findFirst 134 = .ok (.iinc 5 1, 3) := by decide +kernel
theorem dX12_findFirst_137 : decode cX12_findFirst 137 = .ok (.goto (-52), 3) := by decide +kernel
theorem dX12_findFirst_140 : decode cX12_findFirst 140 = .ok (.iinc 4 1, 3) := by decide +kernel
theorem dX12_findFirst_143 : decode cX12_findFirst 143 = .ok (.goto (-117), 3) := by decide +kernel
theorem dX12_findFirst_146 : decode cX12_findFirst 146 = .ok (.return_, 1) := by decide +kernel
theorem dX12_first_0 : decode cX12_first 0 = .ok (.aload_n 0, 1) := by decide +kernel
theorem dX12_first_1 : decode cX12_first 1 = .ok (.iconst 0, 1) := by decide +kernel
theorem dX12_first_2 : decode cX12_first 2 = .ok (.putfield 57, 3) := by decide +kernel
theorem dX12_first_5 : decode cX12_first 5 = .ok (.aload_n 0, 1) := by decide +kernel
theorem dX12_first_6 : decode cX12_first 6 = .ok (.iload_n 1, 1) := by decide +kernel
theorem dX12_first_7 : decode cX12_first 7 = .ok (.iconst 3, 1) := by decide +kernel
theorem dX12_first_8 : decode cX12_first 8 = .ok (.lload_n 2, 1) := by decide +kernel
theorem dX12_first_9 : decode cX12_first 9 = .ok (.invokevirtual 183, 3) := by decide +kernel
theorem dX12_first_12 : decode cX12_first 12 = .ok (.ifCond .ne 16, 3) := by decide +kernel
theorem dX12_first_15 : decode cX12_first 15 = .ok (.iload 4, 2) := by decide +kernel
theorem dX12_first_17 : decode cX12_first 17 = .ok (.i2l, 1) := by decide +kernel
theorem dX12_first_18 : decode cX12_first 18 = .ok (.lconst 0, 1) := by decide +kernel
theorem dX12_first_19 : decode cX12_first 19 = .ok (.ldc2_w 224, 3) := by decide +kernel
theorem dX12_first_22 : decode cX12_first 22 = .ok (.invokestatic 65, 3) := by decide +kernel
theorem dX12_first_25 : decode cX12_first 25 = .ok (.ifCond .ne 6, 3) := by decide +kernel
theorem dX12_first_28 : decode cX12_first 28 = .ok (.bipush (-2), 2) := by decide +kernel
theorem dX12_first_30 : decode cX12_first 30 = .ok (.ireturn, 1) := by decide +kernel
theorem dX12_first_31 : decode cX12_first 31 = .ok (.aload_n 0, 1) := by decide +kernel
theorem dX12_first_32 : decode cX12_first 32 = .ok (.iload_n 1, 1) := by decide +kernel
theorem dX12_first_33 : decode cX12_first 33 = .ok (.lload_n 2, 1) := by decide +kernel
theorem dX12_first_34 : decode cX12_first 34 = .ok (.invokevirtual 226, 3) := by decide +kernel
theorem dX12_first_37 : decode cX12_first 37 = .ok (.iload 4, 2) := by decide +kernel
theorem dX12_first_39 : decode cX12_first 39 = .ok (.ifCond .ne 8, 3) := by decide +kernel
theorem dX12_first_42 : decode cX12_first 42 = .ok (.aload_n 0, 1) := by decide +kernel
theorem dX12_first_43 : decode cX12_first 43 = .ok (.getfield 212, 3) := by decide +kernel
theorem dX12_first_46 : decode cX12_first 46 = .ok (.ireturn, 1) := by decide +kernel
theorem dX12_first_47 : decode cX12_first 47 = .ok (.aload_n 0, 1) := by decide +kernel
theorem dX12_first_48 : decode cX12_first 48 = .ok (.getfield 212, 3) := by decide +kernel
theorem dX12_first_51 : decode cX12_first 51 = .ok (.ifCond .ne 8, 3) := by decide +kernel
theorem dX12_first_54 : decode cX12_first 54 = .ok (.bipush (-9), 2) := by decide +kernel
theorem dX12_first_56 : decode cX12_first 56 = .ok (.goto 24, 3) := by decide +kernel
theorem dX12_first_59 : decode cX12_first 59 = .ok (.iload 4, 2) := by decide +kernel
theorem dX12_first_61 : decode cX12_first 61 = .ok (.iconst 1, 1) := by decide +kernel
theorem dX12_first_62 : decode cX12_first 62 = .ok (.if_icmp .ne 14, 3) := by decide +kernel
theorem dX12_first_65 : decode cX12_first 65 = .ok (.aload_n 0, 1) := by decide +kernel
theorem dX12_first_66 : decode cX12_first 66 = .ok (.aload_n 0, 1) := by decide +kernel
theorem dX12_first_67 : decode cX12_first 67 = .ok (.getfield 215, 3) := by decide +kernel
theorem dX12_first_70 : decode cX12_first 70 = .ok (.invokevirtual 135, 3) := by decide +kernel
theorem dX12_first_73 : decode cX12_first 73 = .ok (.goto 7, 3) := by decide +kernel
theorem dX12_first_76 : decode cX12_first 76 = .ok (.aload_n 0, 1) := by decide +kernel
theorem dX12_first_77 : decode cX12_first 77 = .ok (.getfield 218, 3) := by decide +kernel
theorem dX12_first_80 : decode cX12_first 80 = .ok (.ireturn, 1) := by decide +kernel
theorem dX12_who_0 : decode cX12_who 0 = .ok (.aload_n 0, 1) := by decide +kernel
theorem dX12_who_1 : decode cX12_who 1 = .ok (.iconst 0, 1) := by decide +kernel
theorem dX12_who_2 : decode cX12_who 2 = .ok (.putfield 57, 3) := by decide +kernel
theorem dX12_who_5 : decode cX12_who 5 = .ok (.aload_n 0, 1) := by decide +kernel
theorem dX12_who_6 : decode cX12_who 6 = .ok (.iload_n 1, 1) := by decide +kernel
theorem dX12_who_7 : decode cX12_who 7 = .ok (.invokevirtual 180, 3) := by decide +kernel
theorem dX12_who_10 : decode cX12_who 10 = .ok (.istore 5, 2) := by decide +kernel
theorem dX12_who_12 : decode cX12_who 12 = .ok (.aload_n 0, 1) := by decide +kernel
theorem dX12_who_13 : decode cX12_who 13 = .ok (.iload_n 2, 1) := by decide +kernel
theorem dX12_who_14 : decode cX12_who 14 = .ok (.invokevirtual 180, 3) := by decide +kernel
theorem dX12_who_17 : decode cX12_who 17 = .ok (.istore 6, 2) := by decide +kernel
theorem dX12_who_19 : decode cX12_who 19 = .ok (.iload 5, 2) := by decide +kernel
theorem dX12_who_21 : decode cX12_who 21 = .ok (.bipush (-9), 2) := by decide +kernel
theorem dX12_who_23 : decode cX12_who 23 = .ok (.if_icmp .eq 26, 3) := by decide +kernel
theorem dX12_who_26 : decode cX12_who 26 = .ok (.iload 6, 2) := by decide +kernel
theorem dX12_who_28 : decode cX12_who 28 = .ok (.bipush (-9), 2) := by decide +kernel
theorem dX12_who_30 : decode cX12_who 30 = .ok (.if_icmp .eq 19, 3) := by decide +kernel
theorem dX12_who_33 : decode cX12_who 33 = .ok (.aload_n 0, 1) := by decide +kernel
theorem dX12_who_34 : decode cX12_who 34 = .ok (.iload_n 3, 1) := by decide +kernel
theorem dX12_who_35 : decode cX12_who 35 = .ok (.invokevirtual 153, 3) := by decide +kernel
theorem dX12_who_38 : decode cX12_who 38 = .ok (.ifCond .ne 11, 3) := by decide +kernel
theorem dX12_who_41 : decode cX12_who 41 = .ok (.iload 4, 2) := by decide +kernel
theorem dX12_who_43 : decode cX12_who 43 = .ok (.invokestatic 156, 3) := by decide +kernel
theorem dX12_who_46 : decode cX12_who 46 = .ok (.ifCond .eq 6, 3) := by decide +kernel
theorem dX12_who_49 : decode cX12_who 49 = .ok (.bipush (-2), 2) := by decide +kernel
theorem dX12_who_51 : decode cX12_who 51 = .ok (.ireturn, 1) := by decide +kernel
theorem dX12_who_52 : decode cX12_who 52 = .ok (.iconst 0, 1) := by decide +kernel
theorem dX12_who_53 : decode cX12_who 53 = .ok (.istore 7, 2) := by decide +kernel
theorem dX12_who_55 : decode cX12_who 55 = .ok (.iconst 0, 1) := by decide +kernel
theorem dX12_who_56 : decode cX12_who 56 = .ok (.istore 8, 2) := by decide +kernel
theorem dX12_who_58 : decode cX12_who 58 = .ok (.iload 8, 2) := by decide +kernel
theorem dX12_who_60 : decode cX12_who 60 = .ok (.aload_n 0, 1) := by decide +kernel
theorem dX12_who_61 : decode cX12_who 61 = .ok (.getfield 62, 3) := by decide +kernel
theorem dX12_who_64 : decode cX12_who 64 = .ok (.if_icmp .ge 45, 3) := by decide +kernel
theorem dX12_who_67 : decode cX12_who 67 = .ok (.iload 7, 2) := by decide +kernel
theorem dX12_who_69 : decode cX12_who 69 = .ok (.aload_n 0, 1) := by decide +kernel
theorem dX12_who_70 : decode cX12_who 70 = .ok (.iload 5, 2) := by decide +kernel
theorem dX12_who_72 : decode cX12_who 72 = .ok (.aload_n 0, 1) := by decide +kernel
theorem dX12_who_73 : decode cX12_who 73 = .ok (.getfield 32, 3) := by decide +kernel
theorem dX12_who_76 : decode cX12_who 76 = .ok (.iconst 2, 1) := by decide +kernel
theorem dX12_who_77 : decode cX12_who 77 = .ok (.iload 8, 2) := by decide +kernel
theorem dX12_who_79 : decode cX12_who 79 = .ok (.iadd, 1) := by decide +kernel
theorem dX12_who_80 : decode cX12_who 80 = .ok (.iaload, 1) := by decide +kernel
theorem dX12_who_81 : decode cX12_who 81 = .ok (.iload_n 3, 1) := by decide +kernel
theorem dX12_who_82 : decode cX12_who 82 = .ok (.iload 4, 2) := by decide +kernel
theorem dX12_who_84 : decode cX12_who 84 = .ok (.invokevirtual 149, 3) := by decide +kernel
theorem dX12_who_87 : decode cX12_who 87 = .ok (.iload 6, 2) := by decide +kernel
theorem dX12_who_89 : decode cX12_who 89 = .ok (.if_icmp .ne 10, 3) := by decide +kernel
theorem dX12_who_92 : decode cX12_who 92 = .ok (.iconst 1, 1) := by decide +kernel
theorem dX12_who_93 : decode cX12_who 93 = .ok (.iload 8, 2) := by decide +kernel
theorem dX12_who_95 : decode cX12_who 95 = .ok (.ishl, 1) := by decide +kernel
theorem dX12_who_96 : decode cX12_who 96 = .ok (.goto 4, 3) := by decide +kernel
theorem dX12_who_99 : decode cX12_who 99 = .ok (.iconst 0, 1) := by decide +kernel
theorem dX12_who_100 : decode cX12_who 100 = .ok (.ior, 1) := by decide +kernel
theorem dX12_who_101 : decode cX12_who 101 = .ok (.istore 7, 2) := by decide +kernel
theorem dX12_who_103 : decode cX12_who 103 = .ok (.iinc 8 1, 3) := by decide +kernel
theorem dX12_who_106 : decode cX12_who 106 = .ok (.goto (-48), 3) := by decide +kernel
theorem dX12_who_109 : decode cX12_who 109 = .ok (.iload 7, 2) := by decide +kernel
theorem dX12_who_111 : decode cX12_who 111 = .ok (.ireturn, 1) := by decide +kernel
theorem dX12_unlike_0 : decode cX12_unlike 0 = .ok (.iconst 0, 1) := by decide +kernel
theorem dX12_unlike_1 : decode cX12_unlike 1 = .ok (.istore_n 3, 1) := by decide +kernel
theorem dX12_unlike_2 : decode cX12_unlike 2 = .ok (.iconst 0, 1) := by decide +kernel
theorem dX12_unlike_3 : decode cX12_unlike 3 = .ok (.istore 4, 2) := by decide +kernel
theorem dX12_unlike_5 : decode cX12_unlike 5 = .ok (.iload 4, 2) := by decide +kernel
theorem dX12_unlike_7 : decode cX12_unlike 7 = .ok (.aload_n 0, 1) := by decide +kernel
theorem dX12_unlike_8 : decode cX12_unlike 8 = .ok (.getfield 13, 3) := by decide +kernel
theorem dX12_unlike_11 : decode cX12_unlike 11 = .ok (.if_icmp .ge 34, 3) := by decide +kernel
theorem dX12_unlike_14 : decode cX12_unlike 14 = .ok (.iload_n 3, 1) := by decide +kernel
theorem dX12_unlike_15 : decode cX12_unlike 15 = .ok (.aload_n 0, 1) := by decide +kernel
theorem dX12_unlike_16 : decode cX12_unlike 16 = .ok (.iload_n 1, 1) := by decide +kernel
theorem dX12_unlike_17 : decode cX12_unlike 17 = .ok (.iload 4, 2) := by decide +kernel
theorem dX12_unlike_19 : decode cX12_unlike 19 = .ok (.invokevirtual 124, 3) := by decide +kernel
theorem dX12_unlike_22 : decode cX12_unlike 22 = .ok (.aload_n 0, 1) := by decide +kernel
theorem dX12_unlike_23 : decode cX12_unlike 23 = .ok (.iload_n 2, 1) := by decide +kernel
theorem dX12_unlike_24 : decode cX12_unlike 24 = .ok (.iload 4, 2) := by decide +kernel
theorem dX12_unlike_26 : decode cX12_unlike 26 = .ok (.invokevirtual 124, 3) := by decide +kernel
theorem dX12_unlike_29 : decode cX12_unlike 29 = .ok (.if_icmp .ne 7, 3) := by decide +kernel
theorem dX12_unlike_32 : decode cX12_unlike 32 = .ok (.iconst 0, 1) := by decide +kernel
theorem dX12_unlike_33 : decode cX12_unlike 33 = .ok (.goto 4, 3) := by decide +kernel
theorem dX12_unlike_36 : decode cX12_unlike 36 = .ok (.iconst 1, 1) := by decide +kernel
theorem dX12_unlike_37 : decode cX12_unlike 37 = .ok (.iadd, 1) := by decide +kernel
theorem dX12_unlike_38 : decode cX12_unlike 38 = .ok (.istore_n 3, 1) := by decide +kernel
theorem dX12_unlike_39 : decode cX12_unlike 39 = .ok (.iinc 4 1, 3) := by decide +kernel
theorem dX12_unlike_42 : decode cX12_unlike 42 = .ok (.goto (-37), 3) := by decide +kernel
theorem dX12_unlike_45 : decode cX12_unlike 45 = .ok (.iload_n 3, 1) := by decide +kernel
theorem dX12_unlike_46 : decode cX12_unlike 46 = .ok (.ireturn, 1) := by decide +kernel
theorem dX12_layCode_0 : decode cX12_layCode 0 = .ok (.aload_n 0, 1) := by decide +kernel
theorem dX12_layCode_1 : decode cX12_layCode 1 = .ok (.iconst 0, 1) := by decide +kernel
theorem dX12_layCode_2 : decode cX12_layCode 2 = .ok (.putfield 230, 3) := by decide +kernel
theorem dX12_layCode_5 : decode cX12_layCode 5 = .ok (.iconst 0, 1) := by decide +kernel
theorem dX12_layCode_6 : decode cX12_layCode 6 = .ok (.istore_n 2, 1) := by decide +kernel
theorem dX12_layCode_7 : decode cX12_layCode 7 = .ok (.iload_n 2, 1) := by decide +kernel
theorem dX12_layCode_8 : decode cX12_layCode 8 = .ok (.aload_n 0, 1) := by decide +kernel
theorem dX12_layCode_9 : decode cX12_layCode 9 = .ok (.invokevirtual 221, 3) := by decide +kernel
theorem dX12_layCode_12 : decode cX12_layCode 12 = .ok (.if_icmp .ge 79, 3) := by decide +kernel
theorem dX12_layCode_15 : decode cX12_layCode 15 = .ok (.iconst 1, 1) := by decide +kernel
theorem dX12_layCode_16 : decode cX12_layCode 16 = .ok (.istore_n 3, 1) := by decide +kernel
theorem dX12_layCode_17 : decode cX12_layCode 17 = .ok (.iconst 0, 1) := by decide +kernel
theorem dX12_layCode_18 : decode cX12_layCode 18 = .ok (.istore 4, 2) := by decide +kernel
theorem dX12_layCode_20 : decode cX12_layCode 20 = .ok (.iload 4, 2) := by decide +kernel
theorem dX12_layCode_22 : decode cX12_layCode 22 = .ok (.aload_n 0, 1) := by decide +kernel
theorem dX12_layCode_23 : decode cX12_layCode 23 = .ok (.getfield 230, 3) := by decide +kernel
theorem dX12_layCode_26 : decode cX12_layCode 26 = .ok (.if_icmp .ge 35, 3) := by decide +kernel
theorem dX12_layCode_29 : decode cX12_layCode 29 = .ok (.iload_n 3, 1) := by decide +kernel
theorem dX12_layCode_30 : decode cX12_layCode 30 = .ok (.ifCond .eq 31, 3) := by decide +kernel
theorem dX12_layCode_33 : decode cX12_layCode 33 = .ok (.aload_n 0, 1) := by decide +kernel
theorem dX12_layCode_34 : decode cX12_layCode 34 = .ok (.iload_n 2, 1) := by decide +kernel
theorem dX12_layCode_35 : decode cX12_layCode 35 = .ok (.aload_n 0, 1) := by decide +kernel
theorem dX12_layCode_36 : decode cX12_layCode 36 = .ok (.getfield 48, 3) := by decide +kernel
theorem dX12_layCode_39 : decode cX12_layCode 39 = .ok (.iload 4, 2) := by decide +kernel
theorem dX12_layCode_41 : decode cX12_layCode 41 = .ok (.iaload, 1) := by decide +kernel
theorem dX12_layCode_42 : decode cX12_layCode 42 = .ok (.invokevirtual 233, 3) := by decide +kernel
theorem dX12_layCode_45 : decode cX12_layCode 45 = .ok (.iload_n 1, 1) := by decide +kernel
theorem dX12_layCode_46 : decode cX12_layCode 46 = .ok (.if_icmp .lt 7, 3) := by decide +kernel
theorem dX12_layCode_49 : decode cX12_layCode 49 = .ok (.iconst 1, 1) := by decide +kernel
theorem dX12_layCode_50 : decode cX12_layCode 50 = .ok (.goto 4, 3) := by decide +kernel
theorem dX12_layCode_53 : decode cX12_layCode 53 = .ok (.iconst 0, 1) := by decide +kernel
theorem dX12_layCode_54 : decode cX12_layCode 54 = .ok (.istore_n 3, 1) := by decide +kernel
theorem dX12_layCode_55 : decode cX12_layCode 55 = .ok (.iinc 4 1, 3) := by decide +kernel
theorem dX12_layCode_58 : decode cX12_layCode 58 = .ok (.goto (-38), 3) := by decide +kernel
theorem dX12_layCode_61 : decode cX12_layCode 61 = .ok (.iload_n 3, 1) := by decide +kernel
theorem dX12_layCode_62 : decode cX12_layCode 62 = .ok (.ifCond .eq 23, 3) := by decide +kernel
theorem dX12_layCode_65 : decode cX12_layCode 65 = .ok (.aload_n 0, 1) := by decide +kernel
theorem dX12_layCode_66 : decode cX12_layCode 66 = .ok (.getfield 48, 3) := by decide +kernel
theorem dX12_layCode_69 : decode cX12_layCode 69 = .ok (.aload_n 0, 1) := by decide +kernel
theorem dX12_layCode_70 : decode cX12_layCode 70 = .ok (.getfield 230, 3) := by decide +kernel
theorem dX12_layCode_73 : decode cX12_layCode 73 = .ok (.iload_n 2, 1) := by decide +kernel
theorem dX12_layCode_74 : decode cX12_layCode 74 = .ok (.iastore, 1) := by decide +kernel
theorem dX12_layCode_75 : decode cX12_layCode 75 = .ok (.aload_n 0, 1) := by decide +kernel
theorem dX12_layCode_76 : decode cX12_layCode 76 = .ok (.dup, 1) := by decide +kernel
theorem dX12_layCode_77 : decode cX12_layCode 77 = .ok (.getfield 230, 3) := by decide +kernel
theorem dX12_layCode_80 : decode cX12_layCode 80 = .ok (.iconst 1, 1) := by decide +kernel
theorem dX12_layCode_81 : decode cX12_layCode 81 = .ok (.iadd, 1) := by decide +kernel
theorem dX12_layCode_82 : decode cX12_layCode 82 = .ok (.putfield 230, 3) := by decide +kernel
theorem dX12_layCode_85 : decode cX12_layCode 85 = .ok (.iinc 2 1, 3) := by decide +kernel
theorem dX12_layCode_88 : decode cX12_layCode 88 = .ok (.goto (-81), 3) := by decide +kernel
theorem dX12_layCode_91 : decode cX12_layCode 91 = .ok (.return_, 1) := by decide +kernel
theorem dX12_code_0 : decode cX12_code 0 = .ok (.aload_n 0, 1) := by decide +kernel
theorem dX12_code_1 : decode cX12_code 1 = .ok (.iconst 0, 1) := by decide +kernel
theorem dX12_code_2 : decode cX12_code 2 = .ok (.putfield 57, 3) := by decide +kernel
theorem dX12_code_5 : decode cX12_code 5 = .ok (.iload_n 1, 1) := by decide +kernel
theorem dX12_code_6 : decode cX12_code 6 = .ok (.i2l, 1) := by decide +kernel
theorem dX12_code_7 : decode cX12_code 7 = .ok (.lconst 1, 1) := by decide +kernel
theorem dX12_code_8 : decode cX12_code 8 = .ok (.ldc2_w 236, 3) := by decide +kernel
theorem dX12_code_11 : decode cX12_code 11 = .ok (.invokestatic 65, 3) := by decide +kernel
theorem dX12_code_14 : decode cX12_code 14 = .ok (.ifCond .ne 6, 3) := by decide +kernel
theorem dX12_code_17 : decode cX12_code 17 = .ok (.bipush (-2), 2) := by decide +kernel
theorem dX12_code_19 : decode cX12_code 19 = .ok (.ireturn, 1) := by decide +kernel
theorem dX12_code_20 : decode cX12_code 20 = .ok (.aload_n 0, 1) := by decide +kernel
theorem dX12_code_21 : decode cX12_code 21 = .ok (.iload_n 1, 1) := by decide +kernel
theorem dX12_code_22 : decode cX12_code 22 = .ok (.invokevirtual 238, 3) := by decide +kernel
theorem dX12_code_25 : decode cX12_code 25 = .ok (.aload_n 0, 1) := by decide +kernel
theorem dX12_code_26 : decode cX12_code 26 = .ok (.getfield 230, 3) := by decide +kernel
theorem dX12_code_29 : decode cX12_code 29 = .ok (.ireturn, 1) := by decide +kernel
theorem dX12_codeName_0 : decode cX12_codeName 0 = .ok (.aload_n 0, 1) := by decide +kernel
theorem dX12_codeName_1 : decode cX12_codeName 1 = .ok (.iconst 0, 1) := by decide +kernel
theorem dX12_codeName_2 : decode cX12_codeName 2 = .ok (.putfield 57, 3) := by decide +kernel
theorem dX12_codeName_5 : decode cX12_codeName 5 = .ok (.iload_n 1, 1) := by decide +kernel
theorem dX12_codeName_6 : decode cX12_codeName 6 = .ok (.i2l, 1) := by decide +kernel
theorem dX12_codeName_7 : decode cX12_codeName 7 = .ok (.lconst 1, 1) := by decide +kernel
theorem dX12_codeName_8 : decode cX12_codeName 8 = .ok (.ldc2_w 236, 3) := by decide +kernel
theorem dX12_codeName_11 : decode cX12_codeName 11 = .ok (.invokestatic 65, 3) := by decide +kernel
theorem dX12_codeName_14 : decode cX12_codeName 14 = .ok (.ifCond .ne 6, 3) := by decide +kernel
theorem dX12_codeName_17 : decode cX12_codeName 17 = .ok (.bipush (-2), 2) := by decide +kernel
theorem dX12_codeName_19 : decode cX12_codeName 19 = .ok (.ireturn, 1) := by decide +kernel
theorem dX12_codeName_20 : decode cX12_codeName 20 = .ok (.aload_n 0, 1) := by decide +kernel
theorem dX12_codeName_21 : decode cX12_codeName 21 = .ok (.iload_n 1, 1) := by decide +kernel
theorem dX12_codeName_22 : decode cX12_codeName 22 = .ok (.invokevirtual 238, 3) := by decide +kernel
theorem dX12_codeName_25 : decode cX12_codeName 25 = .ok (.iload_n 2, 1) := by decide +kernel
theorem dX12_codeName_26 : decode cX12_codeName 26 = .ok (.i2l, 1) := by decide +kernel
theorem dX12_codeName_27 : decode cX12_codeName 27 = .ok (.lconst 0, 1) := by decide +kernel
theorem dX12_codeName_28 : decode cX12_codeName 28 = .ok (.aload_n 0, 1) := by decide +kernel
theorem dX12_codeName_29 : decode cX12_codeName 29 = .ok (.getfield 230, 3) := by decide +kernel
theorem dX12_codeName_32 : decode cX12_codeName 32 = .ok (.iconst 1, 1) := by decide +kernel
theorem dX12_codeName_33 : decode cX12_codeName 33 = .ok (.isub, 1) := by decide +kernel
theorem dX12_codeName_34 : decode cX12_codeName 34 = .ok (.i2l, 1) := by decide +kernel
theorem dX12_codeName_35 : decode cX12_codeName 35 = .ok (.invokestatic 65, 3) := by decide +kernel
theorem dX12_codeName_38 : decode cX12_codeName 38 = .ok (.ifCond .eq 16, 3) := by decide +kernel
theorem dX12_codeName_41 : decode cX12_codeName 41 = .ok (.aload_n 0, 1) := by decide +kernel
theorem dX12_codeName_42 : decode cX12_codeName 42 = .ok (.aload_n 0, 1) := by decide +kernel
theorem dX12_codeName_43 : decode cX12_codeName 43 = .ok (.getfield 48, 3) := by decide +kernel
theorem dX12_codeName_46 : decode cX12_codeName 46 = .ok (.iload_n 2, 1) := by decide +kernel
theorem dX12_codeName_47 : decode cX12_codeName 47 = .ok (.iaload, 1) := by decide +kernel
theorem dX12_codeName_48 : decode cX12_codeName 48 = .ok (.invokevirtual 135, 3) := by decide +kernel
theorem dX12_codeName_51 : decode cX12_codeName 51 = .ok (.goto 5, 3) := by decide +kernel
theorem dX12_codeName_54 : decode cX12_codeName 54 = .ok (.bipush (-3), 2) := by decide +kernel
theorem dX12_codeName_56 : decode cX12_codeName 56 = .ok (.ireturn, 1) := by decide +kernel
theorem dX12_rightBy_0 : decode cX12_rightBy 0 = .ok (.aload_n 0, 1) := by decide +kernel
theorem dX12_rightBy_1 : decode cX12_rightBy 1 = .ok (.aload_n 0, 1) := by decide +kernel
theorem dX12_rightBy_2 : decode cX12_rightBy 2 = .ok (.getfield 32, 3) := by decide +kernel
theorem dX12_rightBy_5 : decode cX12_rightBy 5 = .ok (.iconst 0, 1) := by decide +kernel
theorem dX12_rightBy_6 : decode cX12_rightBy 6 = .ok (.iaload, 1) := by decide +kernel
theorem dX12_rightBy_7 : decode cX12_rightBy 7 = .ok (.aload_n 0, 1) := by decide +kernel
theorem dX12_rightBy_8 : decode cX12_rightBy 8 = .ok (.getfield 32, 3) := by decide +kernel
theorem dX12_rightBy_11 : decode cX12_rightBy 11 = .ok (.iconst 2, 1) := by decide +kernel
theorem dX12_rightBy_12 : decode cX12_rightBy 12 = .ok (.iload_n 1, 1) := by decide +kernel
theorem dX12_rightBy_13 : decode cX12_rightBy 13 = .ok (.iadd, 1) := by decide +kernel
theorem dX12_rightBy_14 : decode cX12_rightBy 14 = .ok (.iaload, 1) := by decide +kernel
theorem dX12_rightBy_15 : decode cX12_rightBy 15 = .ok (.iload_n 3, 1) := by decide +kernel
theorem dX12_rightBy_16 : decode cX12_rightBy 16 = .ok (.iload 4, 2) := by decide +kernel
theorem dX12_rightBy_18 : decode cX12_rightBy 18 = .ok (.invokevirtual 149, 3) := by decide +kernel
theorem dX12_rightBy_21 : decode cX12_rightBy 21 = .ok (.istore 7, 2) := by decide +kernel
theorem dX12_rightBy_23 : decode cX12_rightBy 23 = .ok (.aload_n 0, 1) := by decide +kernel
theorem dX12_rightBy_24 : decode cX12_rightBy 24 = .ok (.aload_n 0, 1) := by decide +kernel
theorem dX12_rightBy_25 : decode cX12_rightBy 25 = .ok (.iload 7, 2) := by decide +kernel
theorem dX12_rightBy_27 : decode cX12_rightBy 27 = .ok (.aload_n 0, 1) := by decide +kernel
theorem dX12_rightBy_28 : decode cX12_rightBy 28 = .ok (.getfield 32, 3) := by decide +kernel
theorem dX12_rightBy_31 : decode cX12_rightBy 31 = .ok (.iconst 2, 1) := by decide +kernel
theorem dX12_rightBy_32 : decode cX12_rightBy 32 = .ok (.iload_n 2, 1) := by decide +kernel
theorem dX12_rightBy_33 : decode cX12_rightBy 33 = .ok (.iadd, 1) := by decide +kernel
theorem dX12_rightBy_34 : decode cX12_rightBy 34 = .ok (.iaload, 1) := by decide +kernel
theorem dX12_rightBy_35 : decode cX12_rightBy 35 = .ok (.iload 5, 2) := by decide +kernel
theorem dX12_rightBy_37 : decode cX12_rightBy 37 = .ok (.iload 6, 2) := by decide +kernel
theorem dX12_rightBy_39 : decode cX12_rightBy 39 = .ok (.invokevirtual 149, 3) := by decide +kernel
theorem dX12_rightBy_42 : decode cX12_rightBy 42 = .ok (.invokevirtual 139, 3) := by decide +kernel
theorem dX12_rightBy_45 : decode cX12_rightBy 45 = .ok (.ireturn, 1) := by decide +kernel
theorem dX12_rests_0 : decode cX12_rests 0 = .ok (.aload_n 0, 1) := by decide +kernel
theorem dX12_rests_1 : decode cX12_rests 1 = .ok (.iconst 0, 1) := by decide +kernel
theorem dX12_rests_2 : decode cX12_rests 2 = .ok (.putfield 57, 3) := by decide +kernel
theorem dX12_rests_5 : decode cX12_rests 5 = .ok (.aload_n 0, 1) := by decide +kernel
theorem dX12_rests_6 : decode cX12_rests 6 = .ok (.iload_n 1, 1) := by decide +kernel
theorem dX12_rests_7 : decode cX12_rests 7 = .ok (.invokevirtual 153, 3) := by decide +kernel
theorem dX12_rests_10 : decode cX12_rests 10 = .ok (.ifCond .ne 37, 3) := by decide +kernel
theorem dX12_rests_13 : decode cX12_rests 13 = .ok (.aload_n 0, 1) := by decide +kernel
theorem dX12_rests_14 : decode cX12_rests 14 = .ok (.iload_n 3, 1) := by decide +kernel
theorem dX12_rests_15 : decode cX12_rests 15 = .ok (.invokevirtual 153, 3) := by decide +kernel
theorem dX12_rests_18 : decode cX12_rests 18 = .ok (.ifCond .ne 29, 3) := by decide +kernel
theorem dX12_rests_21 : decode cX12_rests 21 = .ok (.iload_n 2, 1) := by decide +kernel
theorem dX12_rests_22 : decode cX12_rests 22 = .ok (.invokestatic 156, 3) := by decide +kernel
theorem dX12_rests_25 : decode cX12_rests 25 = .ok (.ifCond .ne 22, 3) := by decide +kernel
theorem dX12_rests_28 : decode cX12_rests 28 = .ok (.iload 4, 2) := by decide +kernel
theorem dX12_rests_30 : decode cX12_rests 30 = .ok (.invokestatic 156, 3) := by decide +kernel
theorem dX12_rests_33 : decode cX12_rests 33 = .ok (.ifCond .ne 14, 3) := by decide +kernel
theorem dX12_rests_36 : decode cX12_rests 36 = .ok (.iload 5, 2) := by decide +kernel
theorem dX12_rests_38 : decode cX12_rests 38 = .ok (.i2l, 1) := by decide +kernel
theorem dX12_rests_39 : decode cX12_rests 39 = .ok (.lconst 0, 1) := by decide +kernel
theorem dX12_rests_40 : decode cX12_rests 40 = .ok (.lconst 1, 1) := by decide +kernel
theorem dX12_rests_41 : decode cX12_rests 41 = .ok (.invokestatic 65, 3) := by decide +kernel
theorem dX12_rests_44 : decode cX12_rests 44 = .ok (.ifCond .ne 6, 3) := by decide +kernel
theorem dX12_rests_47 : decode cX12_rests 47 = .ok (.bipush (-2), 2) := by decide +kernel
theorem dX12_rests_49 : decode cX12_rests 49 = .ok (.ireturn, 1) := by decide +kernel
theorem dX12_rests_50 : decode cX12_rests 50 = .ok (.iconst 0, 1) := by decide +kernel
theorem dX12_rests_51 : decode cX12_rests 51 = .ok (.istore 6, 2) := by decide +kernel
theorem dX12_rests_53 : decode cX12_rests 53 = .ok (.bipush (-9), 2) := by decide +kernel
theorem dX12_rests_55 : decode cX12_rests 55 = .ok (.istore 7, 2) := by decide +kernel
theorem dX12_rests_57 : decode cX12_rests 57 = .ok (.iconst 0, 1) := by decide +kernel
theorem dX12_rests_58 : decode cX12_rests 58 = .ok (.istore 8, 2) := by decide +kernel
theorem dX12_rests_60 : decode cX12_rests 60 = .ok (.iload 8, 2) := by decide +kernel
theorem dX12_rests_62 : decode cX12_rests 62 = .ok (.aload_n 0, 1) := by decide +kernel
theorem dX12_rests_63 : decode cX12_rests 63 = .ok (.getfield 62, 3) := by decide +kernel
theorem dX12_rests_66 : decode cX12_rests 66 = .ok (.if_icmp .ge 151, 3) := by decide +kernel
theorem dX12_rests_69 : decode cX12_rests 69 = .ok (.iconst 0, 1) := by decide +kernel
theorem dX12_rests_70 : decode cX12_rests 70 = .ok (.istore 9, 2) := by decide +kernel
theorem dX12_rests_72 : decode cX12_rests 72 = .ok (.iload 9, 2) := by decide +kernel
theorem dX12_rests_74 : decode cX12_rests 74 = .ok (.aload_n 0, 1) := by decide +kernel
theorem dX12_rests_75 : decode cX12_rests 75 = .ok (.getfield 62, 3) := by decide +kernel
theorem dX12_rests_78 : decode cX12_rests 78 = .ok (.if_icmp .ge 133, 3) := by decide +kernel
theorem dX12_rests_81 : decode cX12_rests 81 = .ok (.aload_n 0, 1) := by decide +kernel
theorem dX12_rests_82 : decode cX12_rests 82 = .ok (.iload 8, 2) := by decide +kernel
theorem dX12_rests_84 : decode cX12_rests 84 = .ok (.iload 9, 2) := by decide +kernel
theorem dX12_rests_86 : decode cX12_rests 86 = .ok (.iload_n 1, 1) := by decide +kernel
theorem dX12_rests_87 : decode cX12_rests 87 = .ok (.iload_n 2, 1) := by decide +kernel
theorem dX12_rests_88 : decode cX12_rests 88 = .ok (.iload_n 3, 1) := by decide +kernel
theorem dX12_rests_89 : decode cX12_rests 89 = .ok (.iload 4, 2) := by decide +kernel
theorem dX12_rests_91 : decode cX12_rests 91 = .ok (.invokevirtual 242, 3) := by decide +kernel
theorem dX12_rests_94 : decode cX12_rests 94 = .ok (.istore 10, 2) := by decide +kernel
theorem dX12_rests_96 : decode cX12_rests 96 = .ok (.iconst 1, 1) := by decide +kernel
theorem dX12_rests_97 : decode cX12_rests 97 = .ok (.istore 11, 2) := by decide +kernel
theorem dX12_rests_99 : decode cX12_rests 99 = .ok (.iconst 0, 1) := by decide +kernel
theorem dX12_rests_100 : decode cX12_rests 100 = .ok (.istore 12, 2) := by decide +kernel
theorem dX12_rests_102 : decode cX12_rests 102 = .ok (.iload 12, 2) := by decide +kernel
theorem dX12_rests_104 : decode cX12_rests 104 = .ok (.aload_n 0, 1) := by decide +kernel
theorem dX12_rests_105 : decode cX12_rests 105 = .ok (.getfield 62, 3) := by decide +kernel
theorem dX12_rests_108 : decode cX12_rests 108 = .ok (.if_icmp .ge 57, 3) := by decide +kernel
theorem dX12_rests_111 : decode cX12_rests 111 = .ok (.iload 11, 2) := by decide +kernel
theorem dX12_rests_113 : decode cX12_rests 113 = .ok (.ifCond .eq 43, 3) := by decide +kernel
theorem dX12_rests_116 : decode cX12_rests 116 = .ok (.aload_n 0, 1) := by decide +kernel
theorem dX12_rests_117 : decode cX12_rests 117 = .ok (.iload 12, 2) := by decide +kernel
theorem dX12_rests_119 : decode cX12_rests 119 = .ok (.iload 9, 2) := by decide +kernel
theorem dX12_rests_121 : decode cX12_rests 121 = .ok (.iload_n 1, 1) := by decide +kernel
theorem dX12_rests_122 : decode cX12_rests 122 = .ok (.iload_n 2, 1) := by decide +kernel
theorem dX12_rests_123 : decode cX12_rests 123 = .ok (.iload_n 3, 1) := by decide +kernel
theorem dX12_rests_124 : decode cX12_rests 124 = .ok (.iload 4, 2) := by decide +kernel
theorem dX12_rests_126 : decode cX12_rests 126 = .ok (.invokevirtual 242, 3) := by decide +kernel
theorem dX12_rests_129 : decode cX12_rests 129 = .ok (.iload 10, 2) := by decide +kernel
theorem dX12_rests_131 : decode cX12_rests 131 = .ok (.if_icmp .gt 25, 3) := by decide +kernel
theorem dX12_rests_134 : decode cX12_rests 134 = .ok (.aload_n 0, 1) := by decide +kernel
theorem dX12_rests_135 : decode cX12_rests 135 = .ok (.iload 8, 2) := by decide +kernel
theorem dX12_rests_137 : decode cX12_rests 137 = .ok (.iload 12, 2) := by decide +kernel
theorem dX12_rests_139 : decode cX12_rests 139 = .ok (.iload_n 1, 1) := by decide +kernel
theorem dX12_rests_140 : decode cX12_rests 140 = .ok (.iload_n 2, 1) := by decide +kernel
theorem dX12_rests_141 : decode cX12_rests 141 = .ok (.iload_n 3, 1) := by decide +kernel
theorem dX12_rests_142 : decode cX12_rests 142 = .ok (.iload 4, 2) := by decide +kernel
theorem dX12_rests_144 : decode cX12_rests 144 = .ok (.invokevirtual 242, 3) := by decide +kernel
theorem dX12_rests_147 : decode cX12_rests 147 = .ok (.iload 10, 2) := by decide +kernel
theorem dX12_rests_149 : decode cX12_rests 149 = .ok (.if_icmp .lt 7, 3) := by decide +kernel
theorem dX12_rests_152 : decode cX12_rests 152 = .ok (.iconst 1, 1) := by decide +kernel
theorem dX12_rests_153 : decode cX12_rests 153 = .ok (.goto 4, 3) := by decide +kernel
theorem dX12_rests_156 : decode cX12_rests 156 = .ok (.iconst 0, 1) := by decide +kernel
theorem dX12_rests_157 : decode cX12_rests 157 = .ok (.istore 11, 2) := by decide +kernel
theorem dX12_rests_159 : decode cX12_rests 159 = .ok (.iinc 12 1, 3) := by decide +kernel
theorem dX12_rests_162 : decode cX12_rests 162 = .ok (.goto (-60), 3) := by decide +kernel
theorem dX12_rests_165 : decode cX12_rests 165 = .ok (.iload 11, 2) := by decide +kernel
theorem dX12_rests_167 : decode cX12_rests 167 = .ok (.ifCond .eq 19, 3) := by decide +kernel
theorem dX12_rests_170 : decode cX12_rests 170 = .ok (.iload 6, 2) := by decide +kernel
theorem dX12_rests_172 : decode cX12_rests 172 = .ok (.ifCond .ne 14, 3) := by decide +kernel
theorem dX12_rests_175 : decode cX12_rests 175 = .ok (.bipush 10, 2) := by decide +kernel
theorem dX12_rests_177 : decode cX12_rests 177 = .ok (.iload 8, 2) := by decide +kernel
theorem dX12_rests_179 : decode cX12_rests 179 = .ok (.imul, 1) := by decide +kernel
theorem dX12_rests_180 : decode cX12_rests 180 = .ok (.iload 9, 2) := by decide +kernel
theorem dX12_rests_182 : decode cX12_rests 182 = .ok (.iadd, 1) := by decide +kernel
theorem dX12_rests_183 : decode cX12_rests 183 = .ok (.goto 5, 3) := by decide +kernel
theorem dX12_rests_186 : decode cX12_rests 186 = .ok (.iload 7, 2) := by decide +kernel
theorem dX12_rests_188 : decode cX12_rests 188 = .ok (.istore 7, 2) := by decide +kernel
theorem dX12_rests_190 : decode cX12_rests 190 = .ok (.iload 6, 2) := by decide +kernel
theorem dX12_rests_192 : decode cX12_rests 192 = .ok (.iload 11, 2) := by decide +kernel
theorem dX12_rests_194 : decode cX12_rests 194 = .ok (.ifCond .eq 7, 3) := by decide +kernel
theorem dX12_rests_197 : decode cX12_rests 197 = .ok (.iconst 1, 1) := by decide +kernel
theorem dX12_rests_198 : decode cX12_rests 198 = .ok (.goto 4, 3) := by decide +kernel
theorem dX12_rests_201 : decode cX12_rests 201 = .ok (.iconst 0, 1) := by decide +kernel
theorem dX12_rests_202 : decode cX12_rests 202 = .ok (.iadd, 1) := by decide +kernel
theorem dX12_rests_203 : decode cX12_rests 203 = .ok (.istore 6, 2) := by decide +kernel
theorem dX12_rests_205 : decode cX12_rests 205 = .ok (.iinc 9 1, 3) := by decide +kernel
theorem dX12_rests_208 : decode cX12_rests 208 = .ok (.goto (-136), 3) := by decide +kernel
theorem dX12_rests_211 : decode cX12_rests 211 = .ok (.iinc 8 1, 3) := by decide +kernel
theorem dX12_rests_214 : decode cX12_rests 214 = .ok (.goto (-154), 3) := by decide +kernel
theorem dX12_rests_217 : decode cX12_rests 217 = .ok (.iload 5, 2) := by decide +kernel
theorem dX12_rests_219 : decode cX12_rests 219 = .ok (.ifCond .ne 8, 3) := by decide +kernel
theorem dX12_rests_222 : decode cX12_rests 222 = .ok (.iload 6, 2) := by decide +kernel
theorem dX12_rests_224 : decode cX12_rests 224 = .ok (.goto 5, 3) := by decide +kernel
theorem dX12_rests_227 : decode cX12_rests 227 = .ok (.iload 7, 2) := by decide +kernel
theorem dX12_rests_229 : decode cX12_rests 229 = .ok (.ireturn, 1) := by decide +kernel
theorem dX12_divisor_0 : decode cX12_divisor 0 = .ok (.iload_n 0, 1) := by decide +kernel
theorem dX12_divisor_1 : decode cX12_divisor 1 = .ok (.ifCond .ge 8, 3) := by decide +kernel
theorem dX12_divisor_4 : decode cX12_divisor 4 = .ok (.iload_n 0, 1) := by decide +kernel
theorem dX12_divisor_5 : decode cX12_divisor 5 = .ok (.ineg, 1) := by decide +kernel
theorem dX12_divisor_6 : decode cX12_divisor 6 = .ok (.goto 4, 3) := by decide +kernel
theorem dX12_divisor_9 : decode cX12_divisor 9 = .ok (.iload_n 0, 1) := by decide +kernel
theorem dX12_divisor_10 : decode cX12_divisor 10 = .ok (.istore_n 2, 1) := by decide +kernel
theorem dX12_divisor_11 : decode cX12_divisor 11 = .ok (.iload_n 1, 1) := by decide +kernel
theorem dX12_divisor_12 : decode cX12_divisor 12 = .ok (.istore_n 3, 1) := by decide +kernel
theorem dX12_divisor_13 : decode cX12_divisor 13 = .ok (.iload_n 3, 1) := by decide +kernel
theorem dX12_divisor_14 : decode cX12_divisor 14 = .ok (.ifCond .eq 16, 3) := by decide +kernel
theorem dX12_divisor_17 : decode cX12_divisor 17 = .ok (.iload_n 2, 1) := by decide +kernel
theorem dX12_divisor_18 : decode cX12_divisor 18 = .ok (.iload_n 3, 1) := by decide +kernel
theorem dX12_divisor_19 : decode cX12_divisor 19 = .ok (.irem, 1) := by decide +kernel
theorem dX12_divisor_20 : decode cX12_divisor 20 = .ok (.istore 4, 2) := by decide +kernel
theorem dX12_divisor_22 : decode cX12_divisor 22 = .ok (.iload_n 3, 1) := by decide +kernel
theorem dX12_divisor_23 : decode cX12_divisor 23 = .ok (.istore_n 2, 1) := by decide +kernel
theorem dX12_divisor_24 : decode cX12_divisor 24 = .ok (.iload 4, 2) := by decide +kernel
theorem dX12_divisor_26 : decode cX12_divisor 26 = .ok (.istore_n 3, 1) := by decide +kernel
theorem dX12_divisor_27 : decode cX12_divisor 27 = .ok (.goto (-14), 3) := by decide +kernel
theorem dX12_divisor_30 : decode cX12_divisor 30 = .ok (.iload_n 2, 1) := by decide +kernel
theorem dX12_divisor_31 : decode cX12_divisor 31 = .ok (.ireturn, 1) := by decide +kernel
theorem dX12_fraction_0 : decode cX12_fraction 0 = .ok (.iload_n 0, 1) := by decide +kernel
theorem dX12_fraction_1 : decode cX12_fraction 1 = .ok (.iload_n 1, 1) := by decide +kernel
theorem dX12_fraction_2 : decode cX12_fraction 2 = .ok (.invokestatic 246, 3) := by decide +kernel
theorem dX12_fraction_5 : decode cX12_fraction 5 = .ok (.istore_n 3, 1) := by decide +kernel
theorem dX12_fraction_6 : decode cX12_fraction 6 = .ok (.iload_n 2, 1) := by decide +kernel
theorem dX12_fraction_7 : decode cX12_fraction 7 = .ok (.ifCond .eq 9, 3) := by decide +kernel
theorem dX12_fraction_10 : decode cX12_fraction 10 = .ok (.iload_n 0, 1) := by decide +kernel
theorem dX12_fraction_11 : decode cX12_fraction 11 = .ok (.iload_n 3, 1) := by decide +kernel
theorem dX12_fraction_12 : decode cX12_fraction 12 = .ok (.idiv, 1) := by decide +kernel
theorem dX12_fraction_13 : decode cX12_fraction 13 = .ok (.goto 6, 3) := by decide +kernel
theorem dX12_fraction_16 : decode cX12_fraction 16 = .ok (.iload_n 1, 1) := by decide +kernel
theorem dX12_fraction_17 : decode cX12_fraction 17 = .ok (.iload_n 3, 1) := by decide +kernel
theorem dX12_fraction_18 : decode cX12_fraction 18 = .ok (.idiv, 1) := by decide +kernel
theorem dX12_fraction_19 : decode cX12_fraction 19 = .ok (.ireturn, 1) := by decide +kernel
theorem dX12_wrongOf_0 : decode cX12_wrongOf 0 = .ok (.iconst 0, 1) := by decide +kernel
theorem dX12_wrongOf_1 : decode cX12_wrongOf 1 = .ok (.istore_n 2, 1) := by decide +kernel
theorem dX12_wrongOf_2 : decode cX12_wrongOf 2 = .ok (.iload_n 2, 1) := by decide +kernel
theorem dX12_wrongOf_3 : decode cX12_wrongOf 3 = .ok (.aload_n 0, 1) := by decide +kernel
theorem dX12_wrongOf_4 : decode cX12_wrongOf 4 = .ok (.getfield 13, 3) := by decide +kernel
theorem dX12_wrongOf_7 : decode cX12_wrongOf 7 = .ok (.if_icmp .ge 29, 3) := by decide +kernel
theorem dX12_wrongOf_10 : decode cX12_wrongOf 10 = .ok (.aload_n 0, 1) := by decide +kernel
theorem dX12_wrongOf_11 : decode cX12_wrongOf 11 = .ok (.iload_n 1, 1) := by decide +kernel
theorem dX12_wrongOf_12 : decode cX12_wrongOf 12 = .ok (.iload_n 2, 1) := by decide +kernel
theorem dX12_wrongOf_13 : decode cX12_wrongOf 13 = .ok (.invokevirtual 124, 3) := by decide +kernel
theorem dX12_wrongOf_16 : decode cX12_wrongOf 16 = .ok (.aload_n 0, 1) := by decide +kernel
theorem dX12_wrongOf_17 : decode cX12_wrongOf 17 = .ok (.aload_n 0, 1) := by decide +kernel
theorem dX12_wrongOf_18 : decode cX12_wrongOf 18 = .ok (.getfield 115, 3) := by decide +kernel
theorem dX12_wrongOf_21 : decode cX12_wrongOf 21 = .ok (.iload_n 2, 1) := by decide +kernel
theorem dX12_wrongOf_22 : decode cX12_wrongOf 22 = .ok (.invokevirtual 124, 3) := by decide +kernel
theorem dX12_wrongOf_25 : decode cX12_wrongOf 25 = .ok (.if_icmp .eq 5, 3) := by decide +kernel
theorem dX12_wrongOf_28 : decode cX12_wrongOf 28 = .ok (.iload_n 2, 1) := by decide +kernel
theorem dX12_wrongOf_29 : decode cX12_wrongOf 29 = .ok (.ireturn, 1) := by decide +kernel
theorem dX12_wrongOf_30 : decode cX12_wrongOf 30 = .ok (.iinc 2 1, 3) := by decide +kernel
theorem dX12_wrongOf_33 : decode cX12_wrongOf 33 = .ok (.goto (-31), 3) := by decide +kernel
theorem dX12_wrongOf_36 : decode cX12_wrongOf 36 = .ok (.bipush (-9), 2) := by decide +kernel
theorem dX12_wrongOf_38 : decode cX12_wrongOf 38 = .ok (.ireturn, 1) := by decide +kernel
theorem dX12_chance_0 : decode cX12_chance 0 = .ok (.aload_n 0, 1) := by decide +kernel
theorem dX12_chance_1 : decode cX12_chance 1 = .ok (.iconst 0, 1) := by decide +kernel
theorem dX12_chance_2 : decode cX12_chance 2 = .ok (.putfield 57, 3) := by decide +kernel
theorem dX12_chance_5 : decode cX12_chance 5 = .ok (.aload_n 0, 1) := by decide +kernel
theorem dX12_chance_6 : decode cX12_chance 6 = .ok (.iload_n 1, 1) := by decide +kernel
theorem dX12_chance_7 : decode cX12_chance 7 = .ok (.invokevirtual 142, 3) := by decide +kernel
theorem dX12_chance_10 : decode cX12_chance 10 = .ok (.ifCond .eq 5, 3) := by decide +kernel
theorem dX12_chance_13 : decode cX12_chance 13 = .ok (.iconst (-1), 1) := by decide +kernel
theorem dX12_chance_14 : decode cX12_chance 14 = .ok (.ireturn, 1) := by decide +kernel
theorem dX12_chance_15 : decode cX12_chance 15 = .ok (.iload_n 2, 1) := by decide +kernel
theorem dX12_chance_16 : decode cX12_chance 16 = .ok (.i2l, 1) := by decide +kernel
theorem dX12_chance_17 : decode cX12_chance 17 = .ok (.lconst 1, 1) := by decide +kernel
theorem dX12_chance_18 : decode cX12_chance 18 = .ok (.ldc2_w 249, 3) := by decide +kernel
theorem dX12_chance_21 : decode cX12_chance 21 = .ok (.invokestatic 65, 3) := by decide +kernel
theorem dX12_chance_24 : decode cX12_chance 24 = .ok (.ifCond .eq 15, 3) := by decide +kernel
theorem dX12_chance_27 : decode cX12_chance 27 = .ok (.iload_n 3, 1) := by decide +kernel
theorem dX12_chance_28 : decode cX12_chance 28 = .ok (.i2l, 1) := by decide +kernel
theorem dX12_chance_29 : decode cX12_chance 29 = .ok (.lconst 0, 1) := by decide +kernel
theorem dX12_chance_30 : decode cX12_chance 30 = .ok (.ldc2_w 251, 3) := by decide +kernel
theorem dX12_chance_33 : decode cX12_chance 33 = .ok (.invokestatic 65, 3) := by decide +kernel
theorem dX12_chance_36 : decode cX12_chance 36 = .ok (.ifCond .ne 6, 3) := by decide +kernel
theorem dX12_chance_39 : decode cX12_chance 39 = .ok (.bipush (-2), 2) := by decide +kernel
theorem dX12_chance_41 : decode cX12_chance 41 = .ok (.ireturn, 1) := by decide +kernel
theorem dX12_chance_42 : decode cX12_chance 42 = .ok (.iconst 0, 1) := by decide +kernel
theorem dX12_chance_43 : decode cX12_chance 43 = .ok (.istore 5, 2) := by decide +kernel
theorem dX12_chance_45 : decode cX12_chance 45 = .ok (.iconst 0, 1) := by decide +kernel
theorem dX12_chance_46 : decode cX12_chance 46 = .ok (.istore 6, 2) := by decide +kernel
theorem dX12_chance_48 : decode cX12_chance 48 = .ok (.iload 6, 2) := by decide +kernel
theorem dX12_chance_50 : decode cX12_chance 50 = .ok (.iconst 1, 1) := by decide +kernel
theorem dX12_chance_51 : decode cX12_chance 51 = .ok (.iload_n 2, 1) := by decide +kernel
theorem dX12_chance_52 : decode cX12_chance 52 = .ok (.ishl, 1) := by decide +kernel
theorem dX12_chance_53 : decode cX12_chance 53 = .ok (.if_icmp .ge 139, 3) := by decide +kernel
theorem dX12_chance_56 : decode cX12_chance 56 = .ok (.iconst 1, 1) := by decide +kernel
theorem dX12_chance_57 : decode cX12_chance 57 = .ok (.istore 7, 2) := by decide +kernel
theorem dX12_chance_59 : decode cX12_chance 59 = .ok (.aload_n 0, 1) := by decide +kernel
theorem dX12_chance_60 : decode cX12_chance 60 = .ok (.getfield 32, 3) := by decide +kernel
theorem dX12_chance_63 : decode cX12_chance 63 = .ok (.iconst 0, 1) := by decide +kernel
theorem dX12_chance_64 : decode cX12_chance 64 = .ok (.iaload, 1) := by decide +kernel
theorem dX12_chance_65 : decode cX12_chance 65 = .ok (.istore 8, 2) := by decide +kernel
theorem dX12_chance_67 : decode cX12_chance 67 = .ok (.iconst 0, 1) := by decide +kernel
theorem dX12_chance_68 : decode cX12_chance 68 = .ok (.istore 9, 2) := by decide +kernel
theorem dX12_chance_70 : decode cX12_chance 70 = .ok (.iload 9, 2) := by decide +kernel
theorem dX12_chance_72 : decode cX12_chance 72 = .ok (.iload_n 2, 1) := by decide +kernel
theorem dX12_chance_73 : decode cX12_chance 73 = .ok (.if_icmp .ge 93, 3) := by decide +kernel
theorem dX12_chance_76 : decode cX12_chance 76 = .ok (.iload 6, 2) := by decide +kernel
theorem dX12_chance_78 : decode cX12_chance 78 = .ok (.iload 9, 2) := by decide +kernel
theorem dX12_chance_80 : decode cX12_chance 80 = .ok (.invokestatic 253, 3) := by decide +kernel
theorem dX12_chance_83 : decode cX12_chance 83 = .ok (.istore 10, 2) := by decide +kernel
theorem dX12_chance_85 : decode cX12_chance 85 = .ok (.aload_n 0, 1) := by decide +kernel
theorem dX12_chance_86 : decode cX12_chance 86 = .ok (.iload 8, 2) := by decide +kernel
theorem dX12_chance_88 : decode cX12_chance 88 = .ok (.invokevirtual 257, 3) := by decide +kernel
theorem dX12_chance_91 : decode cX12_chance 91 = .ok (.istore 11, 2) := by decide +kernel
theorem dX12_chance_93 : decode cX12_chance 93 = .ok (.iload 7, 2) := by decide +kernel
theorem dX12_chance_95 : decode cX12_chance 95 = .ok (.iload 10, 2) := by decide +kernel
theorem dX12_chance_97 : decode cX12_chance 97 = .ok (.ifCond .eq 7, 3) := by decide +kernel
theorem dX12_chance_100 : decode cX12_chance 100 = .ok (.iload_n 3, 1) := by decide +kernel
theorem dX12_chance_101 : decode cX12_chance 101 = .ok (.goto 7, 3) := by decide +kernel
theorem dX12_chance_104 : decode cX12_chance 104 = .ok (.bipush 10, 2) := by decide +kernel
theorem dX12_chance_106 : decode cX12_chance 106 = .ok (.iload_n 3, 1) := by decide +kernel
theorem dX12_chance_107 : decode cX12_chance 107 = .ok (.isub, 1) := by decide +kernel
theorem dX12_chance_108 : decode cX12_chance 108 = .ok (.imul, 1) := by decide +kernel
theorem dX12_chance_109 : decode cX12_chance 109 = .ok (.istore 7, 2) := by decide +kernel
theorem dX12_chance_111 : decode cX12_chance 111 = .ok (.iload 11, 2) := by decide +kernel
theorem dX12_chance_113 : decode cX12_chance 113 = .ok (.bipush (-9), 2) := by decide +kernel
theorem dX12_chance_115 : decode cX12_chance 115 = .ok (.if_icmp .ne 8, 3) := by decide +kernel
theorem dX12_chance_118 : decode cX12_chance 118 = .ok (.iload 8, 2) := by decide +kernel
theorem dX12_chance_120 : decode cX12_chance 120 = .ok (.goto 38, 3) := by decide +kernel
theorem dX12_chance_123 : decode cX12_chance 123 = .ok (.aload_n 0, 1) := by decide +kernel
theorem dX12_chance_124 : decode cX12_chance 124 = .ok (.iload 8, 2) := by decide +kernel
theorem dX12_chance_126 : decode cX12_chance 126 = .ok (.iload 10, 2) := by decide +kernel
theorem dX12_chance_128 : decode cX12_chance 128 = .ok (.ifCond .eq 14, 3) := by decide +kernel
theorem dX12_chance_131 : decode cX12_chance 131 = .ok (.aload_n 0, 1) := by decide +kernel
theorem dX12_chance_132 : decode cX12_chance 132 = .ok (.getfield 32, 3) := by decide +kernel
theorem dX12_chance_135 : decode cX12_chance 135 = .ok (.iconst 2, 1) := by decide +kernel
theorem dX12_chance_136 : decode cX12_chance 136 = .ok (.iload_n 1, 1) := by decide +kernel
theorem dX12_chance_137 : decode cX12_chance 137 = .ok (.iadd, 1) := by decide +kernel
theorem dX12_chance_138 : decode cX12_chance 138 = .ok (.iaload, 1) := by decide +kernel
theorem dX12_chance_139 : decode cX12_chance 139 = .ok (.goto 4, 3) := by decide +kernel
theorem dX12_chance_142 : decode cX12_chance 142 = .ok (.iconst 0, 1) := by decide +kernel
theorem dX12_chance_143 : decode cX12_chance 143 = .ok (.iload 11, 2) := by decide +kernel
theorem dX12_chance_145 : decode cX12_chance 145 = .ok (.aload_n 0, 1) := by decide +kernel
theorem dX12_chance_146 : decode cX12_chance 146 = .ok (.aload_n 0, 1) := by decide +kernel
theorem dX12_chance_147 : decode cX12_chance 147 = .ok (.getfield 115, 3) := by decide +kernel
theorem dX12_chance_150 : decode cX12_chance 150 = .ok (.iload 11, 2) := by decide +kernel
theorem dX12_chance_152 : decode cX12_chance 152 = .ok (.invokevirtual 124, 3) := by decide +kernel
theorem dX12_chance_155 : decode cX12_chance 155 = .ok (.invokevirtual 149, 3) := by decide +kernel
theorem dX12_chance_158 : decode cX12_chance 158 = .ok (.istore 8, 2) := by decide +kernel
theorem dX12_chance_160 : decode cX12_chance 160 = .ok (.iinc 9 1, 3) := by decide +kernel
theorem dX12_chance_163 : decode cX12_chance 163 = .ok (.goto (-93), 3) := by decide +kernel
theorem dX12_chance_166 : decode cX12_chance 166 = .ok (.iload 5, 2) := by decide +kernel
theorem dX12_chance_168 : decode cX12_chance 168 = .ok (.iload 8, 2) := by decide +kernel
theorem dX12_chance_170 : decode cX12_chance 170 = .ok (.aload_n 0, 1) := by decide +kernel
theorem dX12_chance_171 : decode cX12_chance 171 = .ok (.getfield 115, 3) := by decide +kernel
theorem dX12_chance_174 : decode cX12_chance 174 = .ok (.if_icmp .ne 8, 3) := by decide +kernel
theorem dX12_chance_177 : decode cX12_chance 177 = .ok (.iload 7, 2) := by decide +kernel
theorem dX12_chance_179 : decode cX12_chance 179 = .ok (.goto 4, 3) := by decide +kernel
theorem dX12_chance_182 : decode cX12_chance 182 = .ok (.iconst 0, 1) := by decide +kernel
theorem dX12_chance_183 : decode cX12_chance 183 = .ok (.iadd, 1) := by decide +kernel
theorem dX12_chance_184 : decode cX12_chance 184 = .ok (.istore 5, 2) := by decide +kernel
theorem dX12_chance_186 : decode cX12_chance 186 = .ok (.iinc 6 1, 3) := by decide +kernel
theorem dX12_chance_189 : decode cX12_chance 189 = .ok (.goto (-141), 3) := by decide +kernel
theorem dX12_chance_192 : decode cX12_chance 192 = .ok (.iload 5, 2) := by decide +kernel
theorem dX12_chance_194 : decode cX12_chance 194 = .ok (.bipush 10, 2) := by decide +kernel
theorem dX12_chance_196 : decode cX12_chance 196 = .ok (.iload_n 2, 1) := by decide +kernel
theorem dX12_chance_197 : decode cX12_chance 197 = .ok (.invokestatic 121, 3) := by decide +kernel
theorem dX12_chance_200 : decode cX12_chance 200 = .ok (.iload 4, 2) := by decide +kernel
theorem dX12_chance_202 : decode cX12_chance 202 = .ok (.invokestatic 260, 3) := by decide +kernel
theorem dX12_chance_205 : decode cX12_chance 205 = .ok (.ireturn, 1) := by decide +kernel
theorem dX12_mostRight_0 : decode cX12_mostRight 0 = .ok (.aload_n 0, 1) := by decide +kernel
theorem dX12_mostRight_1 : decode cX12_mostRight 1 = .ok (.aload_n 0, 1) := by decide +kernel
theorem dX12_mostRight_2 : decode cX12_mostRight 2 = .ok (.getfield 32, 3) := by decide +kernel
theorem dX12_mostRight_5 : decode cX12_mostRight 5 = .ok (.iconst 0, 1) := by decide +kernel
theorem dX12_mostRight_6 : decode cX12_mostRight 6 = .ok (.iaload, 1) := by decide +kernel
theorem dX12_mostRight_7 : decode cX12_mostRight 7 = .ok (.invokevirtual 139, 3) := by decide +kernel
theorem dX12_mostRight_10 : decode cX12_mostRight 10 = .ok (.istore_n 2, 1) := by decide +kernel
theorem dX12_mostRight_11 : decode cX12_mostRight 11 = .ok (.iconst 0, 1) := by decide +kernel
theorem dX12_mostRight_12 : decode cX12_mostRight 12 = .ok (.istore_n 3, 1) := by decide +kernel
theorem dX12_mostRight_13 : decode cX12_mostRight 13 = .ok (.iload_n 3, 1) := by decide +kernel
theorem dX12_mostRight_14 : decode cX12_mostRight 14 = .ok (.sipush 300, 3) := by decide +kernel
theorem dX12_mostRight_17 : decode cX12_mostRight 17 = .ok (.if_icmp .ge 58, 3) := by decide +kernel
theorem dX12_mostRight_20 : decode cX12_mostRight 20 = .ok (.aload_n 0, 1) := by decide +kernel
theorem dX12_mostRight_21 : decode cX12_mostRight 21 = .ok (.iload_n 3, 1) := by decide +kernel
theorem dX12_mostRight_22 : decode cX12_mostRight 22 = .ok (.invokevirtual 174, 3) := by decide +kernel
theorem dX12_mostRight_25 : decode cX12_mostRight 25 = .ok (.ifCond .ne 44, 3) := by decide +kernel
theorem dX12_mostRight_28 : decode cX12_mostRight 28 = .ok (.iload_n 1, 1) := by decide +kernel
theorem dX12_mostRight_29 : decode cX12_mostRight 29 = .ok (.iload_n 3, 1) := by decide +kernel
theorem dX12_mostRight_30 : decode cX12_mostRight 30 = .ok (.bipush 100, 2) := by decide +kernel
theorem dX12_mostRight_32 : decode cX12_mostRight 32 = .ok (.idiv, 1) := by decide +kernel
theorem dX12_mostRight_33 : decode cX12_mostRight 33 = .ok (.invokestatic 253, 3) := by decide +kernel
theorem dX12_mostRight_36 : decode cX12_mostRight 36 = .ok (.ifCond .eq 33, 3) := by decide +kernel
theorem dX12_mostRight_39 : decode cX12_mostRight 39 = .ok (.aload_n 0, 1) := by decide +kernel
theorem dX12_mostRight_40 : decode cX12_mostRight 40 = .ok (.aload_n 0, 1) := by decide +kernel
theorem dX12_mostRight_41 : decode cX12_mostRight 41 = .ok (.aload_n 0, 1) := by decide +kernel
theorem dX12_mostRight_42 : decode cX12_mostRight 42 = .ok (.getfield 32, 3) := by decide +kernel
theorem dX12_mostRight_45 : decode cX12_mostRight 45 = .ok (.iconst 0, 1) := by decide +kernel
theorem dX12_mostRight_46 : decode cX12_mostRight 46 = .ok (.iaload, 1) := by decide +kernel
theorem dX12_mostRight_47 : decode cX12_mostRight 47 = .ok (.iload_n 3, 1) := by decide +kernel
theorem dX12_mostRight_48 : decode cX12_mostRight 48 = .ok (.invokevirtual 177, 3) := by decide +kernel
theorem dX12_mostRight_51 : decode cX12_mostRight 51 = .ok (.invokevirtual 139, 3) := by decide +kernel
theorem dX12_mostRight_54 : decode cX12_mostRight 54 = .ok (.istore 4, 2) := by decide +kernel
theorem dX12_mostRight_56 : decode cX12_mostRight 56 = .ok (.iload 4, 2) := by decide +kernel
theorem dX12_mostRight_58 : decode cX12_mostRight 58 = .ok (.iload_n 2, 1) := by decide +kernel
theorem dX12_mostRight_59 : decode cX12_mostRight 59 = .ok (.if_icmp .le 8, 3) := by decide +kernel
theorem dX12_mostRight_62 : decode cX12_mostRight 62 = .ok (.iload 4, 2) := by decide +kernel
theorem dX12_mostRight_64 : decode cX12_mostRight 64 = .ok (.goto 4, 3) := by decide +kernel
theorem dX12_mostRight_67 : decode cX12_mostRight 67 = .ok (.iload_n 2, 1) := by decide +kernel
theorem dX12_mostRight_68 : decode cX12_mostRight 68 = .ok (.istore_n 2, 1) := by decide +kernel
theorem dX12_mostRight_69 : decode cX12_mostRight 69 = .ok (.iinc 3 1, 3) := by decide +kernel
theorem dX12_mostRight_72 : decode cX12_mostRight 72 = .ok (.goto (-59), 3) := by decide +kernel
theorem dX12_mostRight_75 : decode cX12_mostRight 75 = .ok (.iload_n 2, 1) := by decide +kernel
theorem dX12_mostRight_76 : decode cX12_mostRight 76 = .ok (.ireturn, 1) := by decide +kernel
theorem dX12_share_0 : decode cX12_share 0 = .ok (.aload_n 0, 1) := by decide +kernel
theorem dX12_share_1 : decode cX12_share 1 = .ok (.iconst 0, 1) := by decide +kernel
theorem dX12_share_2 : decode cX12_share 2 = .ok (.putfield 57, 3) := by decide +kernel
theorem dX12_share_5 : decode cX12_share 5 = .ok (.aload_n 0, 1) := by decide +kernel
theorem dX12_share_6 : decode cX12_share 6 = .ok (.iload_n 1, 1) := by decide +kernel
theorem dX12_share_7 : decode cX12_share 7 = .ok (.invokevirtual 142, 3) := by decide +kernel
theorem dX12_share_10 : decode cX12_share 10 = .ok (.ifCond .eq 5, 3) := by decide +kernel
theorem dX12_share_13 : decode cX12_share 13 = .ok (.iconst (-1), 1) := by decide +kernel
theorem dX12_share_14 : decode cX12_share 14 = .ok (.ireturn, 1) := by decide +kernel
theorem dX12_share_15 : decode cX12_share 15 = .ok (.iconst 0, 1) := by decide +kernel
theorem dX12_share_16 : decode cX12_share 16 = .ok (.istore_n 3, 1) := by decide +kernel
theorem dX12_share_17 : decode cX12_share 17 = .ok (.iload_n 3, 1) := by decide +kernel
theorem dX12_share_18 : decode cX12_share 18 = .ok (.iconst 1, 1) := by decide +kernel
theorem dX12_share_19 : decode cX12_share 19 = .ok (.aload_n 0, 1) := by decide +kernel
theorem dX12_share_20 : decode cX12_share 20 = .ok (.getfield 62, 3) := by decide +kernel
theorem dX12_share_23 : decode cX12_share 23 = .ok (.ishl, 1) := by decide +kernel
theorem dX12_share_24 : decode cX12_share 24 = .ok (.if_icmp .ge 20, 3) := by decide +kernel
theorem dX12_share_27 : decode cX12_share 27 = .ok (.aload_n 0, 1) := by decide +kernel
theorem dX12_share_28 : decode cX12_share 28 = .ok (.getfield 51, 3) := by decide +kernel
theorem dX12_share_31 : decode cX12_share 31 = .ok (.iload_n 3, 1) := by decide +kernel
theorem dX12_share_32 : decode cX12_share 32 = .ok (.aload_n 0, 1) := by decide +kernel
theorem dX12_share_33 : decode cX12_share 33 = .ok (.iload_n 3, 1) := by decide +kernel
theorem dX12_share_34 : decode cX12_share 34 = .ok (.invokevirtual 264, 3) := by decide +kernel
theorem dX12_share_37 : decode cX12_share 37 = .ok (.iastore, 1) := by decide +kernel
theorem dX12_share_38 : decode cX12_share 38 = .ok (.iinc 3 1, 3) := by decide +kernel
theorem dX12_share_41 : decode cX12_share 41 = .ok (.goto (-24), 3) := by decide +kernel
theorem dX12_share_44 : decode cX12_share 44 = .ok (.iconst 0, 1) := by decide +kernel
theorem dX12_share_45 : decode cX12_share 45 = .ok (.istore_n 3, 1) := by decide +kernel
theorem dX12_share_46 : decode cX12_share 46 = .ok (.aload_n 0, 1) := by decide +kernel
theorem dX12_share_47 : decode cX12_share 47 = .ok (.getfield 62, 3) := by decide +kernel
theorem dX12_share_50 : decode cX12_share 50 = .ok (.iconst 3, 1) := by decide +kernel
theorem dX12_share_51 : decode cX12_share 51 = .ok (.if_icmp .ne 8, 3) := by decide +kernel
theorem dX12_share_54 : decode cX12_share 54 = .ok (.bipush 6, 2) := by decide +kernel
theorem dX12_share_56 : decode cX12_share 56 = .ok (.goto 7, 3) := by decide +kernel
theorem dX12_share_59 : decode cX12_share 59 = .ok (.aload_n 0, 1) := by decide +kernel
theorem dX12_share_60 : decode cX12_share 60 = .ok (.getfield 62, 3) := by decide +kernel
theorem dX12_share_63 : decode cX12_share 63 = .ok (.istore 4, 2) := by decide +kernel
theorem dX12_share_65 : decode cX12_share 65 = .ok (.iconst 0, 1) := by decide +kernel
theorem dX12_share_66 : decode cX12_share 66 = .ok (.istore 5, 2) := by decide +kernel
theorem dX12_share_68 : decode cX12_share 68 = .ok (.iload 5, 2) := by decide +kernel
theorem dX12_share_70 : decode cX12_share 70 = .ok (.iconst 1, 1) := by decide +kernel
theorem dX12_share_71 : decode cX12_share 71 = .ok (.aload_n 0, 1) := by decide +kernel
theorem dX12_share_72 : decode cX12_share 72 = .ok (.getfield 62, 3) := by decide +kernel
theorem dX12_share_75 : decode cX12_share 75 = .ok (.ishl, 1) := by decide +kernel
theorem dX12_share_76 : decode cX12_share 76 = .ok (.if_icmp .ge 84, 3) := by decide +kernel
theorem dX12_share_79 : decode cX12_share 79 = .ok (.iload 5, 2) := by decide +kernel
theorem dX12_share_81 : decode cX12_share 81 = .ok (.iload_n 1, 1) := by decide +kernel
theorem dX12_share_82 : decode cX12_share 82 = .ok (.invokestatic 253, 3) := by decide +kernel
theorem dX12_share_85 : decode cX12_share 85 = .ok (.ifCond .ne 69, 3) := by decide +kernel
theorem dX12_share_88 : decode cX12_share 88 = .ok (.iload 5, 2) := by decide +kernel
theorem dX12_share_90 : decode cX12_share 90 = .ok (.iconst 1, 1) := by decide +kernel
theorem dX12_share_91 : decode cX12_share 91 = .ok (.iand, 1) := by decide +kernel
theorem dX12_share_92 : decode cX12_share 92 = .ok (.iload 5, 2) := by decide +kernel
theorem dX12_share_94 : decode cX12_share 94 = .ok (.iconst 1, 1) := by decide +kernel
theorem dX12_share_95 : decode cX12_share 95 = .ok (.ishr, 1) := by decide +kernel
theorem dX12_share_96 : decode cX12_share 96 = .ok (.iconst 1, 1) := by decide +kernel
theorem dX12_share_97 : decode cX12_share 97 = .ok (.iand, 1) := by decide +kernel
theorem dX12_share_98 : decode cX12_share 98 = .ok (.iadd, 1) := by decide +kernel
theorem dX12_share_99 : decode cX12_share 99 = .ok (.iload 5, 2) := by decide +kernel
theorem dX12_share_101 : decode cX12_share 101 = .ok (.iconst 2, 1) := by decide +kernel
theorem dX12_share_102 : decode cX12_share 102 = .ok (.ishr, 1) := by decide +kernel
theorem dX12_share_103 : decode cX12_share 103 = .ok (.iconst 1, 1) := by decide +kernel
theorem dX12_share_104 : decode cX12_share 104 = .ok (.iand, 1) := by decide +kernel
theorem dX12_share_105 : decode cX12_share 105 = .ok (.iadd, 1) := by decide +kernel
theorem dX12_share_106 : decode cX12_share 106 = .ok (.istore 6, 2) := by decide +kernel
theorem dX12_share_108 : decode cX12_share 108 = .ok (.aload_n 0, 1) := by decide +kernel
theorem dX12_share_109 : decode cX12_share 109 = .ok (.getfield 62, 3) := by decide +kernel
theorem dX12_share_112 : decode cX12_share 112 = .ok (.iconst 3, 1) := by decide +kernel
theorem dX12_share_113 : decode cX12_share 113 = .ok (.if_icmp .ne 13, 3) := by decide +kernel
theorem dX12_share_116 : decode cX12_share 116 = .ok (.iload 6, 2) := by decide +kernel
theorem dX12_share_118 : decode cX12_share 118 = .ok (.iconst 1, 1) := by decide +kernel
theorem dX12_share_119 : decode cX12_share 119 = .ok (.if_icmp .eq 7, 3) := by decide +kernel
theorem dX12_share_122 : decode cX12_share 122 = .ok (.iconst 2, 1) := by decide +kernel
theorem dX12_share_123 : decode cX12_share 123 = .ok (.goto 4, 3) := by decide +kernel
theorem dX12_share_126 : decode cX12_share 126 = .ok (.iconst 1, 1) := by decide +kernel
theorem dX12_share_127 : decode cX12_share 127 = .ok (.istore 7, 2) := by decide +kernel
theorem dX12_share_129 : decode cX12_share 129 = .ok (.iload_n 3, 1) := by decide +kernel
theorem dX12_share_130 : decode cX12_share 130 = .ok (.iload 7, 2) := by decide +kernel
theorem dX12_share_132 : decode cX12_share 132 = .ok (.aload_n 0, 1) := by decide +kernel
theorem dX12_share_133 : decode cX12_share 133 = .ok (.getfield 51, 3) := by decide +kernel
theorem dX12_share_136 : decode cX12_share 136 = .ok (.iload 5, 2) := by decide +kernel
theorem dX12_share_138 : decode cX12_share 138 = .ok (.iconst 1, 1) := by decide +kernel
theorem dX12_share_139 : decode cX12_share 139 = .ok (.iload_n 1, 1) := by decide +kernel
theorem dX12_share_140 : decode cX12_share 140 = .ok (.ishl, 1) := by decide +kernel
theorem dX12_share_141 : decode cX12_share 141 = .ok (.ior, 1) := by decide +kernel
theorem dX12_share_142 : decode cX12_share 142 = .ok (.iaload, 1) := by decide +kernel
theorem dX12_share_143 : decode cX12_share 143 = .ok (.aload_n 0, 1) := by decide +kernel
theorem dX12_share_144 : decode cX12_share 144 = .ok (.getfield 51, 3) := by decide +kernel
theorem dX12_share_147 : decode cX12_share 147 = .ok (.iload 5, 2) := by decide +kernel
theorem dX12_share_149 : decode cX12_share 149 = .ok (.iaload, 1) := by decide +kernel
theorem dX12_share_150 : decode cX12_share 150 = .ok (.isub, 1) := by decide +kernel
theorem dX12_share_151 : decode cX12_share 151 = .ok (.imul, 1) := by decide +kernel
theorem dX12_share_152 : decode cX12_share 152 = .ok (.iadd, 1) := by decide +kernel
theorem dX12_share_153 : decode cX12_share 153 = .ok (.istore_n 3, 1) := by decide +kernel
theorem dX12_share_154 : decode cX12_share 154 = .ok (.iinc 5 1, 3) := by decide +kernel
theorem dX12_share_157 : decode cX12_share 157 = .ok (.goto (-89), 3) := by decide +kernel
theorem dX12_share_160 : decode cX12_share 160 = .ok (.iload_n 3, 1) := by decide +kernel
theorem dX12_share_161 : decode cX12_share 161 = .ok (.iload 4, 2) := by decide +kernel
theorem dX12_share_163 : decode cX12_share 163 = .ok (.iload_n 2, 1) := by decide +kernel
theorem dX12_share_164 : decode cX12_share 164 = .ok (.invokestatic 260, 3) := by decide +kernel
theorem dX12_share_167 : decode cX12_share 167 = .ok (.ireturn, 1) := by decide +kernel
theorem dX12_seed_0 : decode cX12_seed 0 = .ok (.aload_n 0, 1) := by decide +kernel
theorem dX12_seed_1 : decode cX12_seed 1 = .ok (.iconst 0, 1) := by decide +kernel
theorem dX12_seed_2 : decode cX12_seed 2 = .ok (.putfield 57, 3) := by decide +kernel
theorem dX12_seed_5 : decode cX12_seed 5 = .ok (.aload_n 0, 1) := by decide +kernel
theorem dX12_seed_6 : decode cX12_seed 6 = .ok (.getfield 267, 3) := by decide +kernel
theorem dX12_seed_9 : decode cX12_seed 9 = .ok (.lstore_n 3, 1) := by decide +kernel
theorem dX12_seed_10 : decode cX12_seed 10 = .ok (.aload_n 0, 1) := by decide +kernel
theorem dX12_seed_11 : decode cX12_seed 11 = .ok (.lload_n 1, 1) := by decide +kernel
theorem dX12_seed_12 : decode cX12_seed 12 = .ok (.putfield 267, 3) := by decide +kernel
theorem dX12_seed_15 : decode cX12_seed 15 = .ok (.lload_n 3, 1) := by decide +kernel
theorem dX12_seed_16 : decode cX12_seed 16 = .ok (.lreturn, 1) := by decide +kernel
theorem dX12_years_0 : decode cX12_years 0 = .ok (.aload_n 0, 1) := by decide +kernel
theorem dX12_years_1 : decode cX12_years 1 = .ok (.iconst 0, 1) := by decide +kernel
theorem dX12_years_2 : decode cX12_years 2 = .ok (.putfield 57, 3) := by decide +kernel
theorem dX12_years_5 : decode cX12_years 5 = .ok (.iload_n 1, 1) := by decide +kernel
theorem dX12_years_6 : decode cX12_years 6 = .ok (.i2l, 1) := by decide +kernel
theorem dX12_years_7 : decode cX12_years 7 = .ok (.lconst 1, 1) := by decide +kernel
theorem dX12_years_8 : decode cX12_years 8 = .ok (.ldc2_w 271, 3) := by decide +kernel
theorem dX12_years_11 : decode cX12_years 11 = .ok (.invokestatic 65, 3) := by decide +kernel
theorem dX12_years_14 : decode cX12_years 14 = .ok (.ifCond .ne 6, 3) := by decide +kernel
theorem dX12_years_17 : decode cX12_years 17 = .ok (.bipush (-2), 2) := by decide +kernel
theorem dX12_years_19 : decode cX12_years 19 = .ok (.ireturn, 1) := by decide +kernel
theorem dX12_years_20 : decode cX12_years 20 = .ok (.aload_n 0, 1) := by decide +kernel
theorem dX12_years_21 : decode cX12_years 21 = .ok (.getfield 32, 3) := by decide +kernel
theorem dX12_years_24 : decode cX12_years 24 = .ok (.iconst 0, 1) := by decide +kernel
theorem dX12_years_25 : decode cX12_years 25 = .ok (.iaload, 1) := by decide +kernel
theorem dX12_years_26 : decode cX12_years 26 = .ok (.istore_n 2, 1) := by decide +kernel
theorem dX12_years_27 : decode cX12_years 27 = .ok (.iconst 0, 1) := by decide +kernel
theorem dX12_years_28 : decode cX12_years 28 = .ok (.istore_n 3, 1) := by decide +kernel
theorem dX12_years_29 : decode cX12_years 29 = .ok (.iconst 0, 1) := by decide +kernel
theorem dX12_years_30 : decode cX12_years 30 = .ok (.istore 4, 2) := by decide +kernel
theorem dX12_years_32 : decode cX12_years 32 = .ok (.iload 4, 2) := by decide +kernel
theorem dX12_years_34 : decode cX12_years 34 = .ok (.iload_n 1, 1) := by decide +kernel
theorem dX12_years_35 : decode cX12_years 35 = .ok (.if_icmp .ge 94, 3) := by decide +kernel
theorem dX12_years_38 : decode cX12_years 38 = .ok (.aload_n 0, 1) := by decide +kernel
theorem dX12_years_39 : decode cX12_years 39 = .ok (.aload_n 0, 1) := by decide +kernel
theorem dX12_years_40 : decode cX12_years 40 = .ok (.getfield 267, 3) := by decide +kernel
theorem dX12_years_43 : decode cX12_years 43 = .ok (.ldc2_w 273, 3) := by decide +kernel
theorem dX12_years_46 : decode cX12_years 46 = .ok (.lmul, 1) := by decide +kernel
theorem dX12_years_47 : decode cX12_years 47 = .ok (.ldc2_w 275, 3) := by decide +kernel
theorem dX12_years_50 : decode cX12_years 50 = .ok (.ladd, 1) := by decide +kernel
theorem dX12_years_51 : decode cX12_years 51 = .ok (.putfield 267, 3) := by decide +kernel
theorem dX12_years_54 : decode cX12_years 54 = .ok (.aload_n 0, 1) := by decide +kernel
theorem dX12_years_55 : decode cX12_years 55 = .ok (.getfield 267, 3) := by decide +kernel
theorem dX12_years_58 : decode cX12_years 58 = .ok (.bipush 33, 2) := by decide +kernel
theorem dX12_years_60 : decode cX12_years 60 = .ok (.lushr, 1) := by decide +kernel
theorem dX12_years_61 : decode cX12_years 61 = .ok (.ldc2_w 277, 3) := by decide +kernel
theorem dX12_years_64 : decode cX12_years 64 = .ok (.lrem, 1) := by decide +kernel
theorem dX12_years_65 : decode cX12_years 65 = .ok (.l2i, 1) := by decide +kernel
theorem dX12_years_66 : decode cX12_years 66 = .ok (.istore 5, 2) := by decide +kernel
theorem dX12_years_68 : decode cX12_years 68 = .ok (.iload 5, 2) := by decide +kernel
theorem dX12_years_70 : decode cX12_years 70 = .ok (.bipush 20, 2) := by decide +kernel
theorem dX12_years_72 : decode cX12_years 72 = .ok (.idiv, 1) := by decide +kernel
theorem dX12_years_73 : decode cX12_years 73 = .ok (.bipush 100, 2) := by decide +kernel
theorem dX12_years_75 : decode cX12_years 75 = .ok (.imul, 1) := by decide +kernel
theorem dX12_years_76 : decode cX12_years 76 = .ok (.iload 5, 2) := by decide +kernel
theorem dX12_years_78 : decode cX12_years 78 = .ok (.bipush 20, 2) := by decide +kernel
theorem dX12_years_80 : decode cX12_years 80 = .ok (.irem, 1) := by decide +kernel
theorem dX12_years_81 : decode cX12_years 81 = .ok (.iconst 4, 1) := by decide +kernel
theorem dX12_years_82 : decode cX12_years 82 = .ok (.idiv, 1) := by decide +kernel
theorem dX12_years_83 : decode cX12_years 83 = .ok (.bipush 10, 2) := by decide +kernel
theorem dX12_years_85 : decode cX12_years 85 = .ok (.imul, 1) := by decide +kernel
theorem dX12_years_86 : decode cX12_years 86 = .ok (.iadd, 1) := by decide +kernel
theorem dX12_years_87 : decode cX12_years 87 = .ok (.iload 5, 2) := by decide +kernel
theorem dX12_years_89 : decode cX12_years 89 = .ok (.iconst 4, 1) := by decide +kernel
theorem dX12_years_90 : decode cX12_years 90 = .ok (.irem, 1) := by decide +kernel
theorem dX12_years_91 : decode cX12_years 91 = .ok (.iadd, 1) := by decide +kernel
theorem dX12_years_92 : decode cX12_years 92 = .ok (.istore 6, 2) := by decide +kernel
theorem dX12_years_94 : decode cX12_years 94 = .ok (.aload_n 0, 1) := by decide +kernel
theorem dX12_years_95 : decode cX12_years 95 = .ok (.iload 6, 2) := by decide +kernel
theorem dX12_years_97 : decode cX12_years 97 = .ok (.invokevirtual 174, 3) := by decide +kernel
theorem dX12_years_100 : decode cX12_years 100 = .ok (.ifCond .eq 7, 3) := by decide +kernel
theorem dX12_years_103 : decode cX12_years 103 = .ok (.iload_n 2, 1) := by decide +kernel
theorem dX12_years_104 : decode cX12_years 104 = .ok (.goto 10, 3) := by decide +kernel
theorem dX12_years_107 : decode cX12_years 107 = .ok (.aload_n 0, 1) := by decide +kernel
theorem dX12_years_108 : decode cX12_years 108 = .ok (.iload_n 2, 1) := by decide +kernel
theorem dX12_years_109 : decode cX12_years 109 = .ok (.iload 6, 2) := by decide +kernel
theorem dX12_years_111 : decode cX12_years 111 = .ok (.invokevirtual 177, 3) := by decide +kernel
theorem dX12_years_114 : decode cX12_years 114 = .ok (.istore_n 2, 1) := by decide +kernel
theorem dX12_years_115 : decode cX12_years 115 = .ok (.iload_n 3, 1) := by decide +kernel
theorem dX12_years_116 : decode cX12_years 116 = .ok (.aload_n 0, 1) := by decide +kernel
theorem dX12_years_117 : decode cX12_years 117 = .ok (.iload_n 2, 1) := by decide +kernel
theorem dX12_years_118 : decode cX12_years 118 = .ok (.invokevirtual 139, 3) := by decide +kernel
theorem dX12_years_121 : decode cX12_years 121 = .ok (.iadd, 1) := by decide +kernel
theorem dX12_years_122 : decode cX12_years 122 = .ok (.istore_n 3, 1) := by decide +kernel
theorem dX12_years_123 : decode cX12_years 123 = .ok (.iinc 4 1, 3) := by decide +kernel
theorem dX12_years_126 : decode cX12_years 126 = .ok (.goto (-94), 3) := by decide +kernel
theorem dX12_years_129 : decode cX12_years 129 = .ok (.iload_n 3, 1) := by decide +kernel
theorem dX12_years_130 : decode cX12_years 130 = .ok (.ireturn, 1) := by decide +kernel
theorem dX12_keep_0 : decode cX12_keep 0 = .ok (.aload_n 0, 1) := by decide +kernel
theorem dX12_keep_1 : decode cX12_keep 1 = .ok (.iconst 0, 1) := by decide +kernel
theorem dX12_keep_2 : decode cX12_keep 2 = .ok (.putfield 57, 3) := by decide +kernel
theorem dX12_keep_5 : decode cX12_keep 5 = .ok (.iload_n 1, 1) := by decide +kernel
theorem dX12_keep_6 : decode cX12_keep 6 = .ok (.i2l, 1) := by decide +kernel
theorem dX12_keep_7 : decode cX12_keep 7 = .ok (.lconst 0, 1) := by decide +kernel
theorem dX12_keep_8 : decode cX12_keep 8 = .ok (.lconst 1, 1) := by decide +kernel
theorem dX12_keep_9 : decode cX12_keep 9 = .ok (.invokestatic 65, 3) := by decide +kernel
theorem dX12_keep_12 : decode cX12_keep 12 = .ok (.ifCond .ne 5, 3) := by decide +kernel
theorem dX12_keep_15 : decode cX12_keep 15 = .ok (.iconst (-1), 1) := by decide +kernel
theorem dX12_keep_16 : decode cX12_keep 16 = .ok (.ireturn, 1) := by decide +kernel
theorem dX12_keep_17 : decode cX12_keep 17 = .ok (.aload_n 0, 1) := by decide +kernel
theorem dX12_keep_18 : decode cX12_keep 18 = .ok (.getfield 44, 3) := by decide +kernel
theorem dX12_keep_21 : decode cX12_keep 21 = .ok (.iload_n 1, 1) := by decide +kernel
theorem dX12_keep_22 : decode cX12_keep 22 = .ok (.iconst 1, 1) := by decide +kernel
theorem dX12_keep_23 : decode cX12_keep 23 = .ok (.bastore, 1) := by decide +kernel
theorem dX12_keep_24 : decode cX12_keep 24 = .ok (.iconst 0, 1) := by decide +kernel
theorem dX12_keep_25 : decode cX12_keep 25 = .ok (.istore_n 2, 1) := by decide +kernel
theorem dX12_keep_26 : decode cX12_keep 26 = .ok (.iload_n 2, 1) := by decide +kernel
theorem dX12_keep_27 : decode cX12_keep 27 = .ok (.bipush 9, 2) := by decide +kernel
theorem dX12_keep_29 : decode cX12_keep 29 = .ok (.if_icmp .ge 26, 3) := by decide +kernel
theorem dX12_keep_32 : decode cX12_keep 32 = .ok (.aload_n 0, 1) := by decide +kernel
theorem dX12_keep_33 : decode cX12_keep 33 = .ok (.getfield 41, 3) := by decide +kernel
theorem dX12_keep_36 : decode cX12_keep 36 = .ok (.bipush 9, 2) := by decide +kernel
theorem dX12_keep_38 : decode cX12_keep 38 = .ok (.iload_n 1, 1) := by decide +kernel
theorem dX12_keep_39 : decode cX12_keep 39 = .ok (.imul, 1) := by decide +kernel
theorem dX12_keep_40 : decode cX12_keep 40 = .ok (.iload_n 2, 1) := by decide +kernel
theorem dX12_keep_41 : decode cX12_keep 41 = .ok (.iadd, 1) := by decide +kernel
theorem dX12_keep_42 : decode cX12_keep 42 = .ok (.aload_n 0, 1) := by decide +kernel
theorem dX12_keep_43 : decode cX12_keep 43 = .ok (.getfield 32, 3) := by decide +kernel
theorem dX12_keep_46 : decode cX12_keep 46 = .ok (.iload_n 2, 1) := by decide +kernel
theorem dX12_keep_47 : decode cX12_keep 47 = .ok (.iaload, 1) := by decide +kernel
theorem dX12_keep_48 : decode cX12_keep 48 = .ok (.iastore, 1) := by decide +kernel
theorem dX12_keep_49 : decode cX12_keep 49 = .ok (.iinc 2 1, 3) := by decide +kernel
theorem dX12_keep_52 : decode cX12_keep 52 = .ok (.goto (-26), 3) := by decide +kernel
theorem dX12_keep_55 : decode cX12_keep 55 = .ok (.aload_n 0, 1) := by decide +kernel
theorem dX12_keep_56 : decode cX12_keep 56 = .ok (.getfield 32, 3) := by decide +kernel
theorem dX12_keep_59 : decode cX12_keep 59 = .ok (.iconst 1, 1) := by decide +kernel
theorem dX12_keep_60 : decode cX12_keep 60 = .ok (.iaload, 1) := by decide +kernel
theorem dX12_keep_61 : decode cX12_keep 61 = .ok (.ireturn, 1) := by decide +kernel
theorem dX12_again_0 : decode cX12_again 0 = .ok (.aload_n 0, 1) := by decide +kernel
theorem dX12_again_1 : decode cX12_again 1 = .ok (.iconst 0, 1) := by decide +kernel
theorem dX12_again_2 : decode cX12_again 2 = .ok (.putfield 57, 3) := by decide +kernel
theorem dX12_again_5 : decode cX12_again 5 = .ok (.iload_n 1, 1) := by decide +kernel
theorem dX12_again_6 : decode cX12_again 6 = .ok (.i2l, 1) := by decide +kernel
theorem dX12_again_7 : decode cX12_again 7 = .ok (.lconst 0, 1) := by decide +kernel
theorem dX12_again_8 : decode cX12_again 8 = .ok (.lconst 1, 1) := by decide +kernel
theorem dX12_again_9 : decode cX12_again 9 = .ok (.invokestatic 65, 3) := by decide +kernel
theorem dX12_again_12 : decode cX12_again 12 = .ok (.ifCond .ne 5, 3) := by decide +kernel
theorem dX12_again_15 : decode cX12_again 15 = .ok (.iconst (-1), 1) := by decide +kernel
theorem dX12_again_16 : decode cX12_again 16 = .ok (.ireturn, 1) := by decide +kernel
theorem dX12_again_17 : decode cX12_again 17 = .ok (.aload_n 0, 1) := by decide +kernel
theorem dX12_again_18 : decode cX12_again 18 = .ok (.getfield 44, 3) := by decide +kernel
theorem dX12_again_21 : decode cX12_again 21 = .ok (.iload_n 1, 1) := by decide +kernel
theorem dX12_again_22 : decode cX12_again 22 = .ok (.baload, 1) := by decide +kernel
theorem dX12_again_23 : decode cX12_again 23 = .ok (.ifCond .ne 6, 3) := by decide +kernel
theorem dX12_again_26 : decode cX12_again 26 = .ok (.bipush (-3), 2) := by decide +kernel
theorem dX12_again_28 : decode cX12_again 28 = .ok (.ireturn, 1) := by decide +kernel
theorem dX12_again_29 : decode cX12_again 29 = .ok (.iconst 0, 1) := by decide +kernel
theorem dX12_again_30 : decode cX12_again 30 = .ok (.istore_n 2, 1) := by decide +kernel
theorem dX12_again_31 : decode cX12_again 31 = .ok (.iload_n 2, 1) := by decide +kernel
theorem dX12_again_32 : decode cX12_again 32 = .ok (.bipush 9, 2) := by decide +kernel
theorem dX12_again_34 : decode cX12_again 34 = .ok (.if_icmp .ge 26, 3) := by decide +kernel
theorem dX12_again_37 : decode cX12_again 37 = .ok (.aload_n 0, 1) := by decide +kernel
theorem dX12_again_38 : decode cX12_again 38 = .ok (.getfield 32, 3) := by decide +kernel
theorem dX12_again_41 : decode cX12_again 41 = .ok (.iload_n 2, 1) := by decide +kernel
theorem dX12_again_42 : decode cX12_again 42 = .ok (.aload_n 0, 1) := by decide +kernel
theorem dX12_again_43 : decode cX12_again 43 = .ok (.getfield 41, 3) := by decide +kernel
theorem dX12_again_46 : decode cX12_again 46 = .ok (.bipush 9, 2) := by decide +kernel
theorem dX12_again_48 : decode cX12_again 48 = .ok (.iload_n 1, 1) := by decide +kernel
theorem dX12_again_49 : decode cX12_again 49 = .ok (.imul, 1) := by decide +kernel
theorem dX12_again_50 : decode cX12_again 50 = .ok (.iload_n 2, 1) := by decide +kernel
theorem dX12_again_51 : decode cX12_again 51 = .ok (.iadd, 1) := by decide +kernel
theorem dX12_again_52 : decode cX12_again 52 = .ok (.iaload, 1) := by decide +kernel
theorem dX12_again_53 : decode cX12_again 53 = .ok (.iastore, 1) := by decide +kernel
theorem dX12_again_54 : decode cX12_again 54 = .ok (.iinc 2 1, 3) := by decide +kernel
theorem dX12_again_57 : decode cX12_again 57 = .ok (.goto (-26), 3) := by decide +kernel
theorem dX12_again_60 : decode cX12_again 60 = .ok (.aload_n 0, 1) := by decide +kernel
theorem dX12_again_61 : decode cX12_again 61 = .ok (.iconst 0, 1) := by decide +kernel
theorem dX12_again_62 : decode cX12_again 62 = .ok (.putfield 118, 3) := by decide +kernel
theorem dX12_again_65 : decode cX12_again 65 = .ok (.aload_n 0, 1) := by decide +kernel
theorem dX12_again_66 : decode cX12_again 66 = .ok (.getfield 32, 3) := by decide +kernel
theorem dX12_again_69 : decode cX12_again 69 = .ok (.iconst 1, 1) := by decide +kernel
theorem dX12_again_70 : decode cX12_again 70 = .ok (.iaload, 1) := by decide +kernel
theorem dX12_again_71 : decode cX12_again 71 = .ok (.ireturn, 1) := by decide +kernel
