theorem dX12_init_0 : decode cX12_init 0 = .ok (.aload_n 0, 1) := by decide +kernel
theorem dX12_init_1 : decode cX12_init 1 = .ok (.invokespecial 1, 3) := by decide +kernel
theorem dX12_init_4 : decode cX12_init 4 = .ok (.aload_n 0, 1) := by decide +kernel
theorem dX12_init_5 : decode cX12_init 5 = .ok (.bipush 40, 2) := by decide +kernel
theorem dX12_init_7 : decode cX12_init 7 = .ok (.newarray .int, 2) := by decide +kernel
theorem dX12_init_9 : decode cX12_init 9 = .ok (.putfield 7, 3) := by decide +kernel
theorem dX12_init_12 : decode cX12_init 12 = .ok (.aload_n 0, 1) := by decide +kernel
theorem dX12_init_13 : decode cX12_init 13 = .ok (.iconst 1, 1) := by decide +kernel
theorem dX12_init_14 : decode cX12_init 14 = .ok (.putfield 13, 3) := by decide +kernel
theorem dX12_init_17 : decode cX12_init 17 = .ok (.aload_n 0, 1) := by decide +kernel
theorem dX12_init_18 : decode cX12_init 18 = .ok (.iconst 4, 1) := by decide +kernel
theorem dX12_init_19 : decode cX12_init 19 = .ok (.newarray .int, 2) := by decide +kernel
theorem dX12_init_21 : decode cX12_init 21 = .ok (.putfield 17, 3) := by decide +kernel
theorem dX12_init_24 : decode cX12_init 24 = .ok (.aload_n 0, 1) := by decide +kernel
theorem dX12_init_25 : decode cX12_init 25 = .ok (.iconst 4, 1) := by decide +kernel
theorem dX12_init_26 : decode cX12_init 26 = .ok (.newarray .int, 2) := by decide +kernel
theorem dX12_init_28 : decode cX12_init 28 = .ok (.putfield 20, 3) := by decide +kernel
theorem dX12_init_31 : decode cX12_init 31 = .ok (.aload_n 0, 1) := by decide +kernel
theorem dX12_init_32 : decode cX12_init 32 = .ok (.iconst 3, 1) := by decide +kernel
theorem dX12_init_33 : decode cX12_init 33 = .ok (.newarray .int, 2) := by decide +kernel
theorem dX12_init_35 : decode cX12_init 35 = .ok (.putfield 23, 3) := by decide +kernel
theorem dX12_init_38 : decode cX12_init 38 = .ok (.aload_n 0, 1) := by decide +kernel
theorem dX12_init_39 : decode cX12_init 39 = .ok (.iconst 4, 1) := by decide +kernel
theorem dX12_init_40 : decode cX12_init 40 = .ok (.newarray .int, 2) := by decide +kernel
theorem dX12_init_42 : decode cX12_init 42 = .ok (.putfield 26, 3) := by decide +kernel
theorem dX12_init_45 : decode cX12_init 45 = .ok (.aload_n 0, 1) := by decide +kernel
theorem dX12_init_46 : decode cX12_init 46 = .ok (.iconst 4, 1) := by decide +kernel
theorem dX12_init_47 : decode cX12_init 47 = .ok (.newarray .int, 2) := by decide +kernel
theorem dX12_init_49 : decode cX12_init 49 = .ok (.putfield 29, 3) := by decide +kernel
theorem dX12_init_52 : decode cX12_init 52 = .ok (.aload_n 0, 1) := by decide +kernel
theorem dX12_init_53 : decode cX12_init 53 = .ok (.bipush 9, 2) := by decide +kernel
theorem dX12_init_55 : decode cX12_init 55 = .ok (.newarray .int, 2) := by decide +kernel
theorem dX12_init_57 : decode cX12_init 57 = .ok (.putfield 32, 3) := by decide +kernel
theorem dX12_init_60 : decode cX12_init 60 = .ok (.aload_n 0, 1) := by decide +kernel
theorem dX12_init_61 : decode cX12_init 61 = .ok (.bipush 9, 2) := by decide +kernel
theorem dX12_init_63 : decode cX12_init 63 = .ok (.newarray .int, 2) := by decide +kernel
theorem dX12_init_65 : decode cX12_init 65 = .ok (.putfield 35, 3) := by decide +kernel
theorem dX12_init_68 : decode cX12_init 68 = .ok (.aload_n 0, 1) := by decide +kernel
theorem dX12_init_69 : decode cX12_init 69 = .ok (.bipush 126, 2) := by decide +kernel
theorem dX12_init_71 : decode cX12_init 71 = .ok (.newarray .int, 2) := by decide +kernel
theorem dX12_init_73 : decode cX12_init 73 = .ok (.putfield 38, 3) := by decide +kernel
theorem dX12_init_76 : decode cX12_init 76 = .ok (.aload_n 0, 1) := by decide +kernel
theorem dX12_init_77 : decode cX12_init 77 = .ok (.bipush 18, 2) := by decide +kernel
theorem dX12_init_79 : decode cX12_init 79 = .ok (.newarray .int, 2) := by decide +kernel
theorem dX12_init_81 : decode cX12_init 81 = .ok (.putfield 41, 3) := by decide +kernel
theorem dX12_init_84 : decode cX12_init 84 = .ok (.aload_n 0, 1) := by decide +kernel
theorem dX12_init_85 : decode cX12_init 85 = .ok (.iconst 2, 1) := by decide +kernel
theorem dX12_init_86 : decode cX12_init 86 = .ok (.newarray .boolean, 2) := by decide +kernel
theorem dX12_init_88 : decode cX12_init 88 = .ok (.putfield 44, 3) := by decide +kernel
theorem dX12_init_91 : decode cX12_init 91 = .ok (.aload_n 0, 1) := by decide +kernel
theorem dX12_init_92 : decode cX12_init 92 = .ok (.sipush 1024, 3) := by decide +kernel
theorem dX12_init_95 : decode cX12_init 95 = .ok (.newarray .int, 2) := by decide +kernel
theorem dX12_init_97 : decode cX12_init 97 = .ok (.putfield 48, 3) := by decide +kernel
theorem dX12_init_100 : decode cX12_init 100 = .ok (.aload_n 0, 1) := by decide +kernel
theorem dX12_init_101 : decode cX12_init 101 = .ok (.bipush 8, 2) := by decide +kernel
theorem dX12_init_103 : decode cX12_init 103 = .ok (.newarray .int, 2) := by decide +kernel
theorem dX12_init_105 : decode cX12_init 105 = .ok (.putfield 51, 3) := by decide +kernel
theorem dX12_init_108 : decode cX12_init 108 = .ok (.aload_n 0, 1) := by decide +kernel
theorem dX12_init_109 : decode cX12_init 109 = .ok (.sipush 1026, 3) := by decide +kernel
theorem dX12_init_112 : decode cX12_init 112 = .ok (.newarray .int, 2) := by decide +kernel
theorem dX12_init_114 : decode cX12_init 114 = .ok (.putfield 54, 3) := by decide +kernel
theorem dX12_init_117 : decode cX12_init 117 = .ok (.return_, 1) := by decide +kernel
theorem dX12_in_0 : decode cX12_in 0 = .ok (.lload_n 0, 1) := by decide +kernel
theorem dX12_in_1 : decode cX12_in 1 = .ok (.lload_n 2, 1) := by decide +kernel
theorem dX12_in_2 : decode cX12_in 2 = .ok (.lcmp, 1) := by decide +kernel
theorem dX12_in_3 : decode cX12_in 3 = .ok (.ifCond .lt 14, 3) := by decide +kernel
theorem dX12_in_6 : decode cX12_in 6 = .ok (.lload_n 0, 1) := by decide +kernel
theorem dX12_in_7 : decode cX12_in 7 = .ok (.lload 4, 2) := by decide +kernel
theorem dX12_in_9 : decode cX12_in 9 = .ok (.lcmp, 1) := by decide +kernel
theorem dX12_in_10 : decode cX12_in 10 = .ok (.ifCond .gt 7, 3) := by decide +kernel
theorem dX12_in_13 : decode cX12_in 13 = .ok (.iconst 1, 1) := by decide +kernel
theorem dX12_in_14 : decode cX12_in 14 = .ok (.goto 4, 3) := by decide +kernel
theorem dX12_in_17 : decode cX12_in 17 = .ok (.iconst 0, 1) := by decide +kernel
theorem dX12_in_18 : decode cX12_in 18 = .ok (.ireturn, 1) := by decide +kernel
theorem dX12_has_0 : decode cX12_has 0 = .ok (.iload_n 0, 1) := by decide +kernel
theorem dX12_has_1 : decode cX12_has 1 = .ok (.iload_n 1, 1) := by decide +kernel
theorem dX12_has_2 : decode cX12_has 2 = .ok (.ishr, 1) := by decide +kernel
theorem dX12_has_3 : decode cX12_has 3 = .ok (.iconst 1, 1) := by decide +kernel
theorem dX12_has_4 : decode cX12_has 4 = .ok (.iand, 1) := by decide +kernel
theorem dX12_has_5 : decode cX12_has 5 = .ok (.iconst 1, 1) := by decide +kernel
theorem dX12_has_6 : decode cX12_has 6 = .ok (.if_icmp .ne 7, 3) := by decide +kernel
theorem dX12_has_9 : decode cX12_has 9 = .ok (.iconst 1, 1) := by decide +kernel
theorem dX12_has_10 : decode cX12_has 10 = .ok (.goto 4, 3) := by decide +kernel
theorem dX12_has_13 : decode cX12_has 13 = .ok (.iconst 0, 1) := by decide +kernel
theorem dX12_has_14 : decode cX12_has 14 = .ok (.ireturn, 1) := by decide +kernel
theorem dX12_power_0 : decode cX12_power 0 = .ok (.iconst 1, 1) := by decide +kernel
theorem dX12_power_1 : decode cX12_power 1 = .ok (.istore_n 2, 1) := by decide +kernel
theorem dX12_power_2 : decode cX12_power 2 = .ok (.iconst 0, 1) := by decide +kernel
theorem dX12_power_3 : decode cX12_power 3 = .ok (.istore_n 3, 1) := by decide +kernel
theorem dX12_power_4 : decode cX12_power 4 = .ok (.iload_n 3, 1) := by decide +kernel
theorem dX12_power_5 : decode cX12_power 5 = .ok (.iload_n 1, 1) := by decide +kernel
theorem dX12_power_6 : decode cX12_power 6 = .ok (.if_icmp .ge 13, 3) := by decide +kernel
theorem dX12_power_9 : decode cX12_power 9 = .ok (.iload_n 2, 1) := by decide +kernel
theorem dX12_power_10 : decode cX12_power 10 = .ok (.iload_n 0, 1) := by decide +kernel
theorem dX12_power_11 : decode cX12_power 11 = .ok (.imul, 1) := by decide +kernel
theorem dX12_power_12 : decode cX12_power 12 = .ok (.istore_n 2, 1) := by decide +kernel
theorem dX12_power_13 : decode cX12_power 13 = .ok (.iinc 3 1, 3) := by decide +kernel
theorem dX12_power_16 : decode cX12_power 16 = .ok (.goto (-12), 3) := by decide +kernel
theorem dX12_power_19 : decode cX12_power 19 = .ok (.iload_n 2, 1) := by decide +kernel
theorem dX12_power_20 : decode cX12_power 20 = .ok (.ireturn, 1) := by decide +kernel
theorem dX12_thousand_0 : decode cX12_thousand 0 = .ok (.lconst 1, 1) := by decide +kernel
theorem dX12_thousand_1 : decode cX12_thousand 1 = .ok (.lstore_n 1, 1) := by decide +kernel
theorem dX12_thousand_2 : decode cX12_thousand 2 = .ok (.iconst 0, 1) := by decide +kernel
theorem dX12_thousand_3 : decode cX12_thousand 3 = .ok (.istore_n 3, 1) := by decide +kernel
theorem dX12_thousand_4 : decode cX12_thousand 4 = .ok (.iload_n 3, 1) := by decide +kernel
theorem dX12_thousand_5 : decode cX12_thousand 5 = .ok (.iload_n 0, 1) := by decide +kernel
theorem dX12_thousand_6 : decode cX12_thousand 6 = .ok (.if_icmp .ge 15, 3) := by decide +kernel
theorem dX12_thousand_9 : decode cX12_thousand 9 = .ok (.lload_n 1, 1) := by decide +kernel
theorem dX12_thousand_10 : decode cX12_thousand 10 = .ok (.ldc2_w 60, 3) := by decide +kernel
theorem dX12_thousand_13 : decode cX12_thousand 13 = .ok (.lmul, 1) := by decide +kernel
theorem dX12_thousand_14 : decode cX12_thousand 14 = .ok (.lstore_n 1, 1) := by decide +kernel
theorem dX12_thousand_15 : decode cX12_thousand 15 = .ok (.iinc 3 1, 3) := by decide +kernel
theorem dX12_thousand_18 : decode cX12_thousand 18 = .ok (.goto (-14), 3) := by decide +kernel
theorem dX12_thousand_21 : decode cX12_thousand 21 = .ok (.lload_n 1, 1) := by decide +kernel
theorem dX12_thousand_22 : decode cX12_thousand 22 = .ok (.lreturn, 1) := by decide +kernel
theorem dX12_noCompositor_0 : decode cX12_noCompositor 0 = .ok (.iload_n 1, 1) := by decide +kernel
theorem dX12_noCompositor_1 : decode cX12_noCompositor 1 = .ok (.i2l, 1) := by decide +kernel
theorem dX12_noCompositor_2 : decode cX12_noCompositor 2 = .ok (.lconst 0, 1) := by decide +kernel
theorem dX12_noCompositor_3 : decode cX12_noCompositor 3 = .ok (.aload_n 0, 1) := by decide +kernel
theorem dX12_noCompositor_4 : decode cX12_noCompositor 4 = .ok (.getfield 62, 3) := by decide +kernel
theorem dX12_noCompositor_7 : decode cX12_noCompositor 7 = .ok (.iconst 1, 1) := by decide +kernel
theorem dX12_noCompositor_8 : decode cX12_noCompositor 8 = .ok (.isub, 1) := by decide +kernel
theorem dX12_noCompositor_9 : decode cX12_noCompositor 9 = .ok (.i2l, 1) := by decide +kernel
theorem dX12_noCompositor_10 : decode cX12_noCompositor 10 = .ok (.invokestatic 65, 3) := by decide +kernel
theorem dX12_noCompositor_13 : decode cX12_noCompositor 13 = .ok (.ifCond .ne 7, 3) := by decide +kernel
theorem dX12_noCompositor_16 : decode cX12_noCompositor 16 = .ok (.iconst 1, 1) := by decide +kernel
theorem dX12_noCompositor_17 : decode cX12_noCompositor 17 = .ok (.goto 4, 3) := by decide +kernel
theorem dX12_noCompositor_20 : decode cX12_noCompositor 20 = .ok (.iconst 0, 1) := by decide +kernel
theorem dX12_noCompositor_21 : decode cX12_noCompositor 21 = .ok (.ireturn, 1) := by decide +kernel
theorem dX12_noReader_0 : decode cX12_noReader 0 = .ok (.iload_n 1, 1) := by decide +kernel
theorem dX12_noReader_1 : decode cX12_noReader 1 = .ok (.i2l, 1) := by decide +kernel
theorem dX12_noReader_2 : decode cX12_noReader 2 = .ok (.lconst 0, 1) := by decide +kernel
theorem dX12_noReader_3 : decode cX12_noReader 3 = .ok (.aload_n 0, 1) := by decide +kernel
theorem dX12_noReader_4 : decode cX12_noReader 4 = .ok (.getfield 69, 3) := by decide +kernel
theorem dX12_noReader_7 : decode cX12_noReader 7 = .ok (.iconst 1, 1) := by decide +kernel
theorem dX12_noReader_8 : decode cX12_noReader 8 = .ok (.isub, 1) := by decide +kernel
theorem dX12_noReader_9 : decode cX12_noReader 9 = .ok (.i2l, 1) := by decide +kernel
theorem dX12_noReader_10 : decode cX12_noReader 10 = .ok (.invokestatic 65, 3) := by decide +kernel
theorem dX12_noReader_13 : decode cX12_noReader 13 = .ok (.ifCond .ne 7, 3) := by decide +kernel
theorem dX12_noReader_16 : decode cX12_noReader 16 = .ok (.iconst 1, 1) := by decide +kernel
theorem dX12_noReader_17 : decode cX12_noReader 17 = .ok (.goto 4, 3) := by decide +kernel
theorem dX12_noReader_20 : decode cX12_noReader 20 = .ok (.iconst 0, 1) := by decide +kernel
theorem dX12_noReader_21 : decode cX12_noReader 21 = .ok (.ireturn, 1) := by decide +kernel
theorem dX12_noPlace_0 : decode cX12_noPlace 0 = .ok (.iload_n 1, 1) := by decide +kernel
theorem dX12_noPlace_1 : decode cX12_noPlace 1 = .ok (.i2l, 1) := by decide +kernel
theorem dX12_noPlace_2 : decode cX12_noPlace 2 = .ok (.lconst 0, 1) := by decide +kernel
theorem dX12_noPlace_3 : decode cX12_noPlace 3 = .ok (.aload_n 0, 1) := by decide +kernel
theorem dX12_noPlace_4 : decode cX12_noPlace 4 = .ok (.getfield 13, 3) := by decide +kernel
theorem dX12_noPlace_7 : decode cX12_noPlace 7 = .ok (.iconst 1, 1) := by decide +kernel
theorem dX12_noPlace_8 : decode cX12_noPlace 8 = .ok (.isub, 1) := by decide +kernel
theorem dX12_noPlace_9 : decode cX12_noPlace 9 = .ok (.i2l, 1) := by decide +kernel
theorem dX12_noPlace_10 : decode cX12_noPlace 10 = .ok (.invokestatic 65, 3) := by decide +kernel
theorem dX12_noPlace_13 : decode cX12_noPlace 13 = .ok (.ifCond .ne 7, 3) := by decide +kernel
theorem dX12_noPlace_16 : decode cX12_noPlace 16 = .ok (.iconst 1, 1) := by decide +kernel
theorem dX12_noPlace_17 : decode cX12_noPlace 17 = .ok (.goto 4, 3) := by decide +kernel
theorem dX12_noPlace_20 : decode cX12_noPlace 20 = .ok (.iconst 0, 1) := by decide +kernel
theorem dX12_noPlace_21 : decode cX12_noPlace 21 = .ok (.ireturn, 1) := by decide +kernel
theorem dX12_noLetter_0 : decode cX12_noLetter 0 = .ok (.iload_n 0, 1) := by decide +kernel
theorem dX12_noLetter_1 : decode cX12_noLetter 1 = .ok (.i2l, 1) := by decide +kernel
theorem dX12_noLetter_2 : decode cX12_noLetter 2 = .ok (.lconst 0, 1) := by decide +kernel
theorem dX12_noLetter_3 : decode cX12_noLetter 3 = .ok (.ldc2_w 72, 3) := by decide +kernel
theorem dX12_noLetter_6 : decode cX12_noLetter 6 = .ok (.invokestatic 65, 3) := by decide +kernel
theorem dX12_noLetter_9 : decode cX12_noLetter 9 = .ok (.ifCond .ne 7, 3) := by decide +kernel
theorem dX12_noLetter_12 : decode cX12_noLetter 12 = .ok (.iconst 1, 1) := by decide +kernel
theorem dX12_noLetter_13 : decode cX12_noLetter 13 = .ok (.goto 4, 3) := by decide +kernel
theorem dX12_noLetter_16 : decode cX12_noLetter 16 = .ok (.iconst 0, 1) := by decide +kernel
theorem dX12_noLetter_17 : decode cX12_noLetter 17 = .ok (.ireturn, 1) := by decide +kernel
theorem dX12_write_0 : decode cX12_write 0 = .ok (.aload_n 0, 1) := by decide +kernel
theorem dX12_write_1 : decode cX12_write 1 = .ok (.iconst 0, 1) := by decide +kernel
theorem dX12_write_2 : decode cX12_write 2 = .ok (.putfield 57, 3) := by decide +kernel
theorem dX12_write_5 : decode cX12_write 5 = .ok (.iload_n 1, 1) := by decide +kernel
theorem dX12_write_6 : decode cX12_write 6 = .ok (.i2l, 1) := by decide +kernel
theorem dX12_write_7 : decode cX12_write 7 = .ok (.lconst 0, 1) := by decide +kernel
theorem dX12_write_8 : decode cX12_write 8 = .ok (.ldc2_w 74, 3) := by decide +kernel
theorem dX12_write_11 : decode cX12_write 11 = .ok (.invokestatic 65, 3) := by decide +kernel
theorem dX12_write_14 : decode cX12_write 14 = .ok (.ifCond .ne 6, 3) := by decide +kernel
theorem dX12_write_17 : decode cX12_write 17 = .ok (.bipush (-2), 2) := by decide +kernel
theorem dX12_write_19 : decode cX12_write 19 = .ok (.ireturn, 1) := by decide +kernel
theorem dX12_write_20 : decode cX12_write 20 = .ok (.aload_n 0, 1) := by decide +kernel
theorem dX12_write_21 : decode cX12_write 21 = .ok (.getfield 76, 3) := by decide +kernel
theorem dX12_write_24 : decode cX12_write 24 = .ok (.bipush 40, 2) := by decide +kernel
theorem dX12_write_26 : decode cX12_write 26 = .ok (.if_icmp .ne 6, 3) := by decide +kernel
theorem dX12_write_29 : decode cX12_write 29 = .ok (.bipush (-4), 2) := by decide +kernel
theorem dX12_write_31 : decode cX12_write 31 = .ok (.ireturn, 1) := by decide +kernel
theorem dX12_write_32 : decode cX12_write 32 = .ok (.aload_n 0, 1) := by decide +kernel
theorem dX12_write_33 : decode cX12_write 33 = .ok (.getfield 7, 3) := by decide +kernel
theorem dX12_write_36 : decode cX12_write 36 = .ok (.aload_n 0, 1) := by decide +kernel
theorem dX12_write_37 : decode cX12_write 37 = .ok (.getfield 76, 3) := by decide +kernel
theorem dX12_write_40 : decode cX12_write 40 = .ok (.iload_n 1, 1) := by decide +kernel
theorem dX12_write_41 : decode cX12_write 41 = .ok (.iastore, 1) := by decide +kernel
theorem dX12_write_42 : decode cX12_write 42 = .ok (.aload_n 0, 1) := by decide +kernel
theorem dX12_write_43 : decode cX12_write 43 = .ok (.dup, 1) := by decide +kernel
theorem dX12_write_44 : decode cX12_write 44 = .ok (.getfield 76, 3) := by decide +kernel
theorem dX12_write_47 : decode cX12_write 47 = .ok (.iconst 1, 1) := by decide +kernel
theorem dX12_write_48 : decode cX12_write 48 = .ok (.iadd, 1) := by decide +kernel
theorem dX12_write_49 : decode cX12_write 49 = .ok (.putfield 76, 3) := by decide +kernel
theorem dX12_write_52 : decode cX12_write 52 = .ok (.aload_n 0, 1) := by decide +kernel
theorem dX12_write_53 : decode cX12_write 53 = .ok (.getfield 76, 3) := by decide +kernel
theorem dX12_write_56 : decode cX12_write 56 = .ok (.ireturn, 1) := by decide +kernel
theorem dX12_wipe_0 : decode cX12_wipe 0 = .ok (.aload_n 0, 1) := by decide +kernel
theorem dX12_wipe_1 : decode cX12_wipe 1 = .ok (.iconst 0, 1) := by decide +kernel
theorem dX12_wipe_2 : decode cX12_wipe 2 = .ok (.putfield 57, 3) := by decide +kernel
theorem dX12_wipe_5 : decode cX12_wipe 5 = .ok (.aload_n 0, 1) := by decide +kernel
theorem dX12_wipe_6 : decode cX12_wipe 6 = .ok (.getfield 76, 3) := by decide +kernel
theorem dX12_wipe_9 : decode cX12_wipe 9 = .ok (.istore_n 1, 1) := by decide +kernel
theorem dX12_wipe_10 : decode cX12_wipe 10 = .ok (.aload_n 0, 1) := by decide +kernel
theorem dX12_wipe_11 : decode cX12_wipe 11 = .ok (.iconst 0, 1) := by decide +kernel
theorem dX12_wipe_12 : decode cX12_wipe 12 = .ok (.putfield 76, 3) := by decide +kernel
theorem dX12_wipe_15 : decode cX12_wipe 15 = .ok (.iload_n 1, 1) := by decide +kernel
theorem dX12_wipe_16 : decode cX12_wipe 16 = .ok (.ireturn, 1) := by decide +kernel
theorem dX12_figure_0 : decode cX12_figure 0 = .ok (.aload_n 0, 1) := by decide +kernel
theorem dX12_figure_1 : decode cX12_figure 1 = .ok (.getfield 79, 3) := by decide +kernel
theorem dX12_figure_4 : decode cX12_figure 4 = .ok (.aload_n 0, 1) := by decide +kernel
theorem dX12_figure_5 : decode cX12_figure 5 = .ok (.getfield 76, 3) := by decide +kernel
theorem dX12_figure_8 : decode cX12_figure 8 = .ok (.if_icmp .eq 26, 3) := by decide +kernel
theorem dX12_figure_11 : decode cX12_figure 11 = .ok (.aload_n 0, 1) := by decide +kernel
theorem dX12_figure_12 : decode cX12_figure 12 = .ok (.getfield 7, 3) := by decide +kernel
theorem dX12_figure_15 : decode cX12_figure 15 = .ok (.aload_n 0, 1) := by decide +kernel
theorem dX12_figure_16 : decode cX12_figure 16 = .ok (.getfield 79, 3) := by decide +kernel
theorem dX12_figure_19 : decode cX12_figure 19 = .ok (.iaload, 1) := by decide +kernel
theorem dX12_figure_20 : decode cX12_figure 20 = .ok (.bipush 48, 2) := by decide +kernel
theorem dX12_figure_22 : decode cX12_figure 22 = .ok (.isub, 1) := by decide +kernel
theorem dX12_figure_23 : decode cX12_figure 23 = .ok (.i2l, 1) := by decide +kernel
theorem dX12_figure_24 : decode cX12_figure 24 = .ok (.iload_n 1, 1) := by decide +kernel
theorem dX12_figure_25 : decode cX12_figure 25 = .ok (.i2l, 1) := by decide +kernel
theorem dX12_figure_26 : decode cX12_figure 26 = .ok (.iload_n 2, 1) := by decide +kernel
theorem dX12_figure_27 : decode cX12_figure 27 = .ok (.i2l, 1) := by decide +kernel
theorem dX12_figure_28 : decode cX12_figure 28 = .ok (.invokestatic 65, 3) := by decide +kernel
theorem dX12_figure_31 : decode cX12_figure 31 = .ok (.ifCond .ne 6, 3) := by decide +kernel
theorem dX12_figure_34 : decode cX12_figure 34 = .ok (.bipush (-9), 2) := by decide +kernel
theorem dX12_figure_36 : decode cX12_figure 36 = .ok (.ireturn, 1) := by decide +kernel
theorem dX12_figure_37 : decode cX12_figure 37 = .ok (.aload_n 0, 1) := by decide +kernel
theorem dX12_figure_38 : decode cX12_figure 38 = .ok (.dup, 1) := by decide +kernel
theorem dX12_figure_39 : decode cX12_figure 39 = .ok (.getfield 79, 3) := by decide +kernel
theorem dX12_figure_42 : decode cX12_figure 42 = .ok (.iconst 1, 1) := by decide +kernel
theorem dX12_figure_43 : decode cX12_figure 43 = .ok (.iadd, 1) := by decide +kernel
theorem dX12_figure_44 : decode cX12_figure 44 = .ok (.putfield 79, 3) := by decide +kernel
theorem dX12_figure_47 : decode cX12_figure 47 = .ok (.aload_n 0, 1) := by decide +kernel
theorem dX12_figure_48 : decode cX12_figure 48 = .ok (.getfield 7, 3) := by decide +kernel
theorem dX12_figure_51 : decode cX12_figure 51 = .ok (.aload_n 0, 1) := by decide +kernel
theorem dX12_figure_52 : decode cX12_figure 52 = .ok (.getfield 79, 3) := by decide +kernel
theorem dX12_figure_55 : decode cX12_figure 55 = .ok (.iconst 1, 1) := by decide +kernel
theorem dX12_figure_56 : decode cX12_figure 56 = .ok (.isub, 1) := by decide +kernel
theorem dX12_figure_57 : decode cX12_figure 57 = .ok (.iaload, 1) := by decide +kernel
theorem dX12_figure_58 : decode cX12_figure 58 = .ok (.bipush 48, 2) := by decide +kernel
theorem dX12_figure_60 : decode cX12_figure 60 = .ok (.isub, 1) := by decide +kernel
theorem dX12_figure_61 : decode cX12_figure 61 = .ok (.ireturn, 1) := by decide +kernel
theorem dX12_isLetter_0 : decode cX12_isLetter 0 = .ok (.aload_n 0, 1) := by decide +kernel
theorem dX12_isLetter_1 : decode cX12_isLetter 1 = .ok (.getfield 79, 3) := by decide +kernel
theorem dX12_isLetter_4 : decode cX12_isLetter 4 = .ok (.aload_n 0, 1) := by decide +kernel
theorem dX12_isLetter_5 : decode cX12_isLetter 5 = .ok (.getfield 76, 3) := by decide +kernel
theorem dX12_isLetter_8 : decode cX12_isLetter 8 = .ok (.if_icmp .ge 30, 3) := by decide +kernel
theorem dX12_isLetter_11 : decode cX12_isLetter 11 = .ok (.aload_n 0, 1) := by decide +kernel
theorem dX12_isLetter_12 : decode cX12_isLetter 12 = .ok (.getfield 7, 3) := by decide +kernel
theorem dX12_isLetter_15 : decode cX12_isLetter 15 = .ok (.aload_n 0, 1) := by decide +kernel
theorem dX12_isLetter_16 : decode cX12_isLetter 16 = .ok (.getfield 79, 3) := by decide +kernel
theorem dX12_isLetter_19 : decode cX12_isLetter 19 = .ok (.iaload, 1) := by decide +kernel
theorem dX12_isLetter_20 : decode cX12_isLetter 20 = .ok (.bipush 97, 2) := by decide +kernel
theorem dX12_isLetter_22 : decode cX12_isLetter 22 = .ok (.isub, 1) := by decide +kernel
theorem dX12_isLetter_23 : decode cX12_isLetter 23 = .ok (.i2l, 1) := by decide +kernel
theorem dX12_isLetter_24 : decode cX12_isLetter 24 = .ok (.lconst 0, 1) := by decide +kernel
theorem dX12_isLetter_25 : decode cX12_isLetter 25 = .ok (.ldc2_w 72, 3) := by decide +kernel
theorem dX12_isLetter_28 : decode cX12_isLetter 28 = .ok (.invokestatic 65, 3) := by decide +kernel
theorem dX12_isLetter_31 : decode cX12_isLetter 31 = .ok (.ifCond .eq 7, 3) := by decide +kernel
theorem dX12_isLetter_34 : decode cX12_isLetter 34 = .ok (.iconst 1, 1) := by decide +kernel
theorem dX12_isLetter_35 : decode cX12_isLetter 35 = .ok (.goto 4, 3) := by decide +kernel
theorem dX12_isLetter_38 : decode cX12_isLetter 38 = .ok (.iconst 0, 1) := by decide +kernel
theorem dX12_isLetter_39 : decode cX12_isLetter 39 = .ok (.ireturn, 1) := by decide +kernel
theorem dX12_readNames_0 : decode cX12_readNames 0 = .ok (.aload_n 0, 1) := by decide +kernel
theorem dX12_readNames_1 : decode cX12_readNames 1 = .ok (.iconst 0, 1) := by decide +kernel
theorem dX12_readNames_2 : decode cX12_readNames 2 = .ok (.putfield 82, 3) := by decide +kernel
theorem dX12_readNames_5 : decode cX12_readNames 5 = .ok (.aload_n 0, 1) := by decide +kernel
theorem dX12_readNames_6 : decode cX12_readNames 6 = .ok (.iconst 0, 1) := by decide +kernel
theorem dX12_readNames_7 : decode cX12_readNames 7 = .ok (.putfield 85, 3) := by decide +kernel
theorem dX12_readNames_10 : decode cX12_readNames 10 = .ok (.aload_n 0, 1) := by decide +kernel
theorem dX12_readNames_11 : decode cX12_readNames 11 = .ok (.getfield 85, 3) := by decide +kernel
theorem dX12_readNames_14 : decode cX12_readNames 14 = .ok (.iconst 5, 1) := by decide +kernel
theorem dX12_readNames_15 : decode cX12_readNames 15 = .ok (.if_icmp .ge 56, 3) := by decide +kernel
theorem dX12_readNames_18 : decode cX12_readNames 18 = .ok (.aload_n 0, 1) := by decide +kernel
theorem dX12_readNames_19 : decode cX12_readNames 19 = .ok (.invokevirtual 88, 3) := by decide +kernel
theorem dX12_readNames_22 : decode cX12_readNames 22 = .ok (.ifCond .eq 49, 3) := by decide +kernel
theorem dX12_readNames_25 : decode cX12_readNames 25 = .ok (.aload_n 0, 1) := by decide +kernel
theorem dX12_readNames_26 : decode cX12_readNames 26 = .ok (.iconst 4, 1) := by decide +kernel
theorem dX12_readNames_27 : decode cX12_readNames 27 = .ok (.aload_n 0, 1) := by decide +kernel
theorem dX12_readNames_28 : decode cX12_readNames 28 = .ok (.getfield 82, 3) := by decide +kernel
theorem dX12_readNames_31 : decode cX12_readNames 31 = .ok (.imul, 1) := by decide +kernel
theorem dX12_readNames_32 : decode cX12_readNames 32 = .ok (.aload_n 0, 1) := by decide +kernel
theorem dX12_readNames_33 : decode cX12_readNames 33 = .ok (.getfield 7, 3) := by decide +kernel
theorem dX12_readNames_36 : decode cX12_readNames 36 = .ok (.aload_n 0, 1) := by decide +kernel
theorem dX12_readNames_37 : decode cX12_readNames 37 = .ok (.getfield 79, 3) := by decide +kernel
theorem dX12_readNames_40 : decode cX12_readNames 40 = .ok (.iaload, 1) := by decide +kernel
theorem dX12_readNames_41 : decode cX12_readNames 41 = .ok (.iadd, 1) := by decide +kernel
theorem dX12_readNames_42 : decode cX12_readNames 42 = .ok (.bipush 97, 2) := by decide +kernel
theorem dX12_readNames_44 : decode cX12_readNames 44 = .ok (.isub, 1) := by decide +kernel
theorem dX12_readNames_45 : decode cX12_readNames 45 = .ok (.putfield 82, 3) := by decide +kernel
theorem dX12_readNames_48 : decode cX12_readNames 48 = .ok (.aload_n 0, 1) := by decide +kernel
theorem dX12_readNames_49 : decode cX12_readNames 49 = .ok (.dup, 1) := by decide +kernel
theorem dX12_readNames_50 : decode cX12_readNames 50 = .ok (.getfield 85, 3) := by decide +kernel
theorem dX12_readNames_53 : decode cX12_readNames 53 = .ok (.iconst 1, 1) := by decide +kernel
theorem dX12_readNames_54 : decode cX12_readNames 54 = .ok (.iadd, 1) := by decide +kernel
theorem dX12_readNames_55 : decode cX12_readNames 55 = .ok (.putfield 85, 3) := by decide +kernel
theorem dX12_readNames_58 : decode cX12_readNames 58 = .ok (.aload_n 0, 1) := by decide +kernel
theorem dX12_readNames_59 : decode cX12_readNames 59 = .ok (.dup, 1) := by decide +kernel
theorem dX12_readNames_60 : decode cX12_readNames 60 = .ok (.getfield 79, 3) := by decide +kernel
theorem dX12_readNames_63 : decode cX12_readNames 63 = .ok (.iconst 1, 1) := by decide +kernel
theorem dX12_readNames_64 : decode cX12_readNames 64 = .ok (.iadd, 1) := by decide +kernel
theorem dX12_readNames_65 : decode cX12_readNames 65 = .ok (.putfield 79, 3) := by decide +kernel
theorem dX12_readNames_68 : decode cX12_readNames 68 = .ok (.goto (-58), 3) := by decide +kernel
theorem dX12_readNames_71 : decode cX12_readNames 71 = .ok (.aload_n 0, 1) := by decide +kernel
theorem dX12_readNames_72 : decode cX12_readNames 72 = .ok (.getfield 85, 3) := by decide +kernel
theorem dX12_readNames_75 : decode cX12_readNames 75 = .ok (.ifCond .eq 28, 3) := by decide +kernel
theorem dX12_readNames_78 : decode cX12_readNames 78 = .ok (.aload_n 0, 1) := by decide +kernel
theorem dX12_readNames_79 : decode cX12_readNames 79 = .ok (.getfield 79, 3) := by decide +kernel
theorem dX12_readNames_82 : decode cX12_readNames 82 = .ok (.aload_n 0, 1) := by decide +kernel
theorem dX12_readNames_83 : decode cX12_readNames 83 = .ok (.getfield 76, 3) := by decide +kernel
theorem dX12_readNames_86 : decode cX12_readNames 86 = .ok (.if_icmp .eq 17, 3) := by decide +kernel
theorem dX12_readNames_89 : decode cX12_readNames 89 = .ok (.aload_n 0, 1) := by decide +kernel
theorem dX12_readNames_90 : decode cX12_readNames 90 = .ok (.getfield 7, 3) := by decide +kernel
theorem dX12_readNames_93 : decode cX12_readNames 93 = .ok (.aload_n 0, 1) := by decide +kernel
theorem dX12_readNames_94 : decode cX12_readNames 94 = .ok (.getfield 79, 3) := by decide +kernel
theorem dX12_readNames_97 : decode cX12_readNames 97 = .ok (.iaload, 1) := by decide +kernel
theorem dX12_readNames_98 : decode cX12_readNames 98 = .ok (.bipush 47, 2) := by decide +kernel
theorem dX12_readNames_100 : decode cX12_readNames 100 = .ok (.if_icmp .eq 5, 3) := by decide +kernel
theorem dX12_readNames_103 : decode cX12_readNames 103 = .ok (.iconst 0, 1) := by decide +kernel
theorem dX12_readNames_104 : decode cX12_readNames 104 = .ok (.ireturn, 1) := by decide +kernel
theorem dX12_readNames_105 : decode cX12_readNames 105 = .ok (.aload_n 0, 1) := by decide +kernel
theorem dX12_readNames_106 : decode cX12_readNames 106 = .ok (.dup, 1) := by decide +kernel
theorem dX12_readNames_107 : decode cX12_readNames 107 = .ok (.getfield 79, 3) := by decide +kernel
theorem dX12_readNames_110 : decode cX12_readNames 110 = .ok (.iconst 1, 1) := by decide +kernel
theorem dX12_readNames_111 : decode cX12_readNames 111 = .ok (.iadd, 1) := by decide +kernel
theorem dX12_readNames_112 : decode cX12_readNames 112 = .ok (.putfield 79, 3) := by decide +kernel
theorem dX12_readNames_115 : decode cX12_readNames 115 = .ok (.aload_n 0, 1) := by decide +kernel
theorem dX12_readNames_116 : decode cX12_readNames 116 = .ok (.iconst 0, 1) := by decide +kernel
theorem dX12_readNames_117 : decode cX12_readNames 117 = .ok (.putfield 92, 3) := by decide +kernel
theorem dX12_readNames_120 : decode cX12_readNames 120 = .ok (.iconst 0, 1) := by decide +kernel
theorem dX12_readNames_121 : decode cX12_readNames 121 = .ok (.istore_n 1, 1) := by decide +kernel
theorem dX12_readNames_122 : decode cX12_readNames 122 = .ok (.iload_n 1, 1) := by decide +kernel
theorem dX12_readNames_123 : decode cX12_readNames 123 = .ok (.aload_n 0, 1) := by decide +kernel
theorem dX12_readNames_124 : decode cX12_readNames 124 = .ok (.getfield 85, 3) := by decide +kernel
theorem dX12_readNames_127 : decode cX12_readNames 127 = .ok (.if_icmp .ge 51, 3) := by decide +kernel
theorem dX12_readNames_130 : decode cX12_readNames 130 = .ok (.aload_n 0, 1) := by decide +kernel
theorem dX12_readNames_131 : decode cX12_readNames 131 = .ok (.invokevirtual 88, 3) := by decide +kernel
theorem dX12_readNames_134 : decode cX12_readNames 134 = .ok (.ifCond .ne 5, 3) := by decide +kernel
theorem dX12_readNames_137 : decode cX12_readNames 137 = .ok (.iconst 0, 1) := by decide +kernel
theorem dX12_readNames_138 : decode cX12_readNames 138 = .ok (.ireturn, 1) := by decide +kernel
theorem dX12_readNames_139 : decode cX12_readNames 139 = .ok (.aload_n 0, 1) := by decide +kernel
theorem dX12_readNames_140 : decode cX12_readNames 140 = .ok (.iconst 4, 1) := by decide +kernel
theorem dX12_readNames_141 : decode cX12_readNames 141 = .ok (.aload_n 0, 1) := by decide +kernel
theorem dX12_readNames_142 : decode cX12_readNames 142 = .ok (.getfield 92, 3) := by decide +kernel
theorem dX12_readNames_145 : decode cX12_readNames 145 = .ok (.imul, 1) := by decide +kernel
theorem dX12_readNames_146 : decode cX12_readNames 146 = .ok (.aload_n 0, 1) := by decide +kernel
theorem dX12_readNames_147 : decode cX12_readNames 147 = .ok (.getfield 7, 3) := by decide +kernel
theorem dX12_readNames_150 : decode cX12_readNames 150 = .ok (.aload_n 0, 1) := by decide +kernel
theorem dX12_readNames_151 : decode cX12_readNames 151 = .ok (.getfield 79, 3) := by decide +kernel
theorem dX12_readNames_154 : decode cX12_readNames 154 = .ok (.iaload, 1) := by decide +kernel
theorem dX12_readNames_155 : decode cX12_readNames 155 = .ok (.iadd, 1) := by decide +kernel
theorem dX12_readNames_156 : decode cX12_readNames 156 = .ok (.bipush 97, 2) := by decide +kernel
theorem dX12_readNames_158 : decode cX12_readNames 158 = .ok (.isub, 1) := by decide +kernel
theorem dX12_readNames_159 : decode cX12_readNames 159 = .ok (.putfield 92, 3) := by decide +kernel
theorem dX12_readNames_162 : decode cX12_readNames 162 = .ok (.aload_n 0, 1) := by decide +kernel
theorem dX12_readNames_163 : decode cX12_readNames 163 = .ok (.dup, 1) := by decide +kernel
theorem dX12_readNames_164 : decode cX12_readNames 164 = .ok (.getfield 79, 3) := by decide +kernel
theorem dX12_readNames_167 : decode cX12_readNames 167 = .ok (.iconst 1, 1) := by decide +kernel
theorem dX12_readNames_168 : decode cX12_readNames 168 = .ok (.iadd, 1) := by decide +kernel
theorem dX12_readNames_169 : decode cX12_readNames 169 = .ok (.putfield 79, 3) := by decide +kernel
theorem dX12_readNames_172 : decode cX12_readNames 172 = .ok (.iinc 1 1, 3) := by decide +kernel
theorem dX12_readNames_175 : decode cX12_readNames 175 = .ok (.goto (-53), 3) := by decide +kernel
theorem dX12_readNames_178 : decode cX12_readNames 178 = .ok (.iconst 1, 1) := by decide +kernel
theorem dX12_readNames_179 : decode cX12_readNames 179 = .ok (.ireturn, 1) := by decide +kernel
theorem dX12_readPart_0 : decode cX12_readPart 0 = .ok (.aload_n 0, 1) := by decide +kernel
theorem dX12_readPart_1 : decode cX12_readPart 1 = .ok (.getfield 7, 3) := by decide +kernel
theorem dX12_readPart_4 : decode cX12_readPart 4 = .ok (.aload_n 0, 1) := by decide +kernel
theorem dX12_readPart_5 : decode cX12_readPart 5 = .ok (.getfield 79, 3) := by decide +kernel
theorem dX12_readPart_8 : decode cX12_readPart 8 = .ok (.iaload, 1) := by decide +kernel
theorem dX12_readPart_9 : decode cX12_readPart 9 = .ok (.istore_n 1, 1) := by decide +kernel
theorem dX12_readPart_10 : decode cX12_readPart 10 = .ok (.aload_n 0, 1) := by decide +kernel
theorem dX12_readPart_11 : decode cX12_readPart 11 = .ok (.dup, 1) := by decide +kernel
theorem dX12_readPart_12 : decode cX12_readPart 12 = .ok (.getfield 79, 3) := by decide +kernel
theorem dX12_readPart_15 : decode cX12_readPart 15 = .ok (.iconst 1, 1) := by decide +kernel
theorem dX12_readPart_16 : decode cX12_readPart 16 = .ok (.iadd, 1) := by decide +kernel
theorem dX12_readPart_17 : decode cX12_readPart 17 = .ok (.putfield 79, 3) := by decide +kernel
theorem dX12_readPart_20 : decode cX12_readPart 20 = .ok (.iload_n 1, 1) := by decide +kernel
theorem dX12_readPart_21 : decode cX12_readPart 21 = .ok (.bipush 67, 2) := by decide +kernel
theorem dX12_readPart_23 : decode cX12_readPart 23 = .ok (.if_icmp .ne 48, 3) := by decide +kernel
theorem dX12_readPart_26 : decode cX12_readPart 26 = .ok (.aload_n 0, 1) := by decide +kernel
theorem dX12_readPart_27 : decode cX12_readPart 27 = .ok (.getfield 95, 3) := by decide +kernel
theorem dX12_readPart_30 : decode cX12_readPart 30 = .ok (.iconst 3, 1) := by decide +kernel
theorem dX12_readPart_31 : decode cX12_readPart 31 = .ok (.if_icmp .ge 40, 3) := by decide +kernel
theorem dX12_readPart_34 : decode cX12_readPart 34 = .ok (.aload_n 0, 1) := by decide +kernel
theorem dX12_readPart_35 : decode cX12_readPart 35 = .ok (.iconst 0, 1) := by decide +kernel
theorem dX12_readPart_36 : decode cX12_readPart 36 = .ok (.iconst 3, 1) := by decide +kernel
theorem dX12_readPart_37 : decode cX12_readPart 37 = .ok (.invokevirtual 98, 3) := by decide +kernel
theorem dX12_readPart_40 : decode cX12_readPart 40 = .ok (.istore_n 2, 1) := by decide +kernel
theorem dX12_readPart_41 : decode cX12_readPart 41 = .ok (.iload_n 2, 1) := by decide +kernel
theorem dX12_readPart_42 : decode cX12_readPart 42 = .ok (.bipush (-9), 2) := by decide +kernel
theorem dX12_readPart_44 : decode cX12_readPart 44 = .ok (.if_icmp .ne 5, 3) := by decide +kernel
theorem dX12_readPart_47 : decode cX12_readPart 47 = .ok (.iconst 0, 1) := by decide +kernel
theorem dX12_readPart_48 : decode cX12_readPart 48 = .ok (.ireturn, 1) := by decide +kernel
theorem dX12_readPart_49 : decode cX12_readPart 49 = .ok (.aload_n 0, 1) := by decide +kernel
theorem dX12_readPart_50 : decode cX12_readPart 50 = .ok (.getfield 23, 3) := by decide +kernel
theorem dX12_readPart_53 : decode cX12_readPart 53 = .ok (.aload_n 0, 1) := by decide +kernel
theorem dX12_readPart_54 : decode cX12_readPart 54 = .ok (.getfield 95, 3) := by decide +kernel
theorem dX12_readPart_57 : decode cX12_readPart 57 = .ok (.iload_n 2, 1) := by decide +kernel
theorem dX12_readPart_58 : decode cX12_readPart 58 = .ok (.iastore, 1) := by decide +kernel
theorem dX12_readPart_59 : decode cX12_readPart 59 = .ok (.aload_n 0, 1) := by decide +kernel
theorem dX12_readPart_60 : decode cX12_readPart 60 = .ok (.dup, 1) := by decide +kernel
theorem dX12_readPart_61 : decode cX12_readPart 61 = .ok (.getfield 95, 3) := by decide +kernel
theorem dX12_readPart_64 : decode cX12_readPart 64 = .ok (.iconst 1, 1) := by decide +kernel
theorem dX12_readPart_65 : decode cX12_readPart 65 = .ok (.iadd, 1) := by decide +kernel
theorem dX12_readPart_66 : decode cX12_readPart 66 = .ok (.putfield 95, 3) := by decide +kernel
theorem dX12_readPart_69 : decode cX12_readPart 69 = .ok (.iconst 1, 1) := by decide +kernel
theorem dX12_readPart_70 : decode cX12_readPart 70 = .ok (.ireturn, 1) := by decide +kernel
theorem dX12_readPart_71 : decode cX12_readPart 71 = .ok (.iload_n 1, 1) := by decide +kernel
theorem dX12_readPart_72 : decode cX12_readPart 72 = .ok (.bipush 82, 2) := by decide +kernel
theorem dX12_readPart_74 : decode cX12_readPart 74 = .ok (.if_icmp .ne 78, 3) := by decide +kernel
theorem dX12_readPart_77 : decode cX12_readPart 77 = .ok (.aload_n 0, 1) := by decide +kernel
theorem dX12_readPart_78 : decode cX12_readPart 78 = .ok (.getfield 102, 3) := by decide +kernel
theorem dX12_readPart_81 : decode cX12_readPart 81 = .ok (.iconst 4, 1) := by decide +kernel
theorem dX12_readPart_82 : decode cX12_readPart 82 = .ok (.if_icmp .ge 70, 3) := by decide +kernel
theorem dX12_readPart_85 : decode cX12_readPart 85 = .ok (.aload_n 0, 1) := by decide +kernel
theorem dX12_readPart_86 : decode cX12_readPart 86 = .ok (.iconst 1, 1) := by decide +kernel
theorem dX12_readPart_87 : decode cX12_readPart 87 = .ok (.iconst 4, 1) := by decide +kernel
theorem dX12_readPart_88 : decode cX12_readPart 88 = .ok (.invokevirtual 98, 3) := by decide +kernel
theorem dX12_readPart_91 : decode cX12_readPart 91 = .ok (.istore_n 2, 1) := by decide +kernel
theorem dX12_readPart_92 : decode cX12_readPart 92 = .ok (.iload_n 2, 1) := by decide +kernel
theorem dX12_readPart_93 : decode cX12_readPart 93 = .ok (.bipush (-9), 2) := by decide +kernel
theorem dX12_readPart_95 : decode cX12_readPart 95 = .ok (.if_icmp .ne 8, 3) := by decide +kernel
theorem dX12_readPart_98 : decode cX12_readPart 98 = .ok (.bipush (-9), 2) := by decide +kernel
theorem dX12_readPart_100 : decode cX12_readPart 100 = .ok (.goto 11, 3) := by decide +kernel
theorem dX12_readPart_103 : decode cX12_readPart 103 = .ok (.aload_n 0, 1) := by decide +kernel
theorem dX12_readPart_104 : decode cX12_readPart 104 = .ok (.iconst 0, 1) := by decide +kernel
theorem dX12_readPart_105 : decode cX12_readPart 105 = .ok (.iload_n 2, 1) := by decide +kernel
theorem dX12_readPart_106 : decode cX12_readPart 106 = .ok (.iconst 1, 1) := by decide +kernel
theorem dX12_readPart_107 : decode cX12_readPart 107 = .ok (.isub, 1) := by decide +kernel
theorem dX12_readPart_108 : decode cX12_readPart 108 = .ok (.invokevirtual 98, 3) := by decide +kernel
theorem dX12_readPart_111 : decode cX12_readPart 111 = .ok (.istore_n 3, 1) := by decide +kernel
theorem dX12_readPart_112 : decode cX12_readPart 112 = .ok (.iload_n 3, 1) := by decide +kernel
theorem dX12_readPart_113 : decode cX12_readPart 113 = .ok (.bipush (-9), 2) := by decide +kernel
theorem dX12_readPart_115 : decode cX12_readPart 115 = .ok (.if_icmp .ne 5, 3) := by decide +kernel
theorem dX12_readPart_118 : decode cX12_readPart 118 = .ok (.iconst 0, 1) := by decide +kernel
theorem dX12_readPart_119 : decode cX12_readPart 119 = .ok (.ireturn, 1) := by decide +kernel
theorem dX12_readPart_120 : decode cX12_readPart 120 = .ok (.aload_n 0, 1) := by decide +kernel
theorem dX12_readPart_121 : decode cX12_readPart 121 = .ok (.getfield 26, 3) := by decide +kernel
theorem dX12_readPart_124 : decode cX12_readPart 124 = .ok (.aload_n 0, 1) := by decide +kernel
theorem dX12_readPart_125 : decode cX12_readPart 125 = .ok (.getfield 102, 3) := by decide +kernel
theorem dX12_readPart_128 : decode cX12_readPart 128 = .ok (.iload_n 2, 1) := by decide +kernel
theorem dX12_readPart_129 : decode cX12_readPart 129 = .ok (.iastore, 1) := by decide +kernel
theorem dX12_readPart_130 : decode cX12_readPart 130 = .ok (.aload_n 0, 1) := by decide +kernel
theorem dX12_readPart_131 : decode cX12_readPart 131 = .ok (.getfield 29, 3) := by decide +kernel
theorem dX12_readPart_134 : decode cX12_readPart 134 = .ok (.aload_n 0, 1) := by decide +kernel
theorem dX12_readPart_135 : decode cX12_readPart 135 = .ok (.getfield 102, 3) := by decide +kernel
theorem dX12_readPart_138 : decode cX12_readPart 138 = .ok (.iload_n 3, 1) := by decide +kernel
theorem dX12_readPart_139 : decode cX12_readPart 139 = .ok (.iastore, 1) := by decide +kernel
theorem dX12_readPart_140 : decode cX12_readPart 140 = .ok (.aload_n 0, 1) := by decide +kernel
theorem dX12_readPart_141 : decode cX12_readPart 141 = .ok (.dup, 1) := by decide +kernel
theorem dX12_readPart_142 : decode cX12_readPart 142 = .ok (.getfield 102, 3) := by decide +kernel
theorem dX12_readPart_145 : decode cX12_readPart 145 = .ok (.iconst 1, 1) := by decide +kernel
theorem dX12_readPart_146 : decode cX12_readPart 146 = .ok (.iadd, 1) := by decide +kernel
theorem dX12_readPart_147 : decode cX12_readPart 147 = .ok (.putfield 102, 3) := by decide +kernel
theorem dX12_readPart_150 : decode cX12_readPart 150 = .ok (.iconst 1, 1) := by decide +kernel
theorem dX12_readPart_151 : decode cX12_readPart 151 = .ok (.ireturn, 1) := by decide +kernel
theorem dX12_readPart_152 : decode cX12_readPart 152 = .ok (.aload_n 0, 1) := by decide +kernel
theorem dX12_readPart_153 : decode cX12_readPart 153 = .ok (.dup, 1) := by decide +kernel
theorem dX12_readPart_154 : decode cX12_readPart 154 = .ok (.getfield 79, 3) := by decide +kernel
theorem dX12_readPart_157 : decode cX12_readPart 157 = .ok (.iconst 1, 1) := by decide +kernel
theorem dX12_readPart_158 : decode cX12_readPart 158 = .ok (.isub, 1) := by decide +kernel
theorem dX12_readPart_159 : decode cX12_readPart 159 = .ok (.putfield 79, 3) := by decide +kernel
theorem dX12_readPart_162 : decode cX12_readPart 162 = .ok (.iconst 0, 1) := by decide +kernel
theorem dX12_readPart_163 : decode cX12_readPart 163 = .ok (.ireturn, 1) := by decide +kernel
theorem dX12_readPaper_0 : decode cX12_readPaper 0 = .ok (.aload_n 0, 1) := by decide +kernel
theorem dX12_readPaper_1 : decode cX12_readPaper 1 = .ok (.iconst 0, 1) := by decide +kernel
theorem dX12_readPaper_2 : decode cX12_readPaper 2 = .ok (.putfield 79, 3) := by decide +kernel
theorem dX12_readPaper_5 : decode cX12_readPaper 5 = .ok (.aload_n 0, 1) := by decide +kernel
theorem dX12_readPaper_6 : decode cX12_readPaper 6 = .ok (.iconst 0, 1) := by decide +kernel
theorem dX12_readPaper_7 : decode cX12_readPaper 7 = .ok (.putfield 95, 3) := by decide +kernel
theorem dX12_readPaper_10 : decode cX12_readPaper 10 = .ok (.aload_n 0, 1) := by decide +kernel
theorem dX12_readPaper_11 : decode cX12_readPaper 11 = .ok (.iconst 0, 1) := by decide +kernel
theorem dX12_readPaper_12 : decode cX12_readPaper 12 = .ok (.putfield 102, 3) := by decide +kernel
theorem dX12_readPaper_15 : decode cX12_readPaper 15 = .ok (.aload_n 0, 1) := by decide +kernel
theorem dX12_readPaper_16 : decode cX12_readPaper 16 = .ok (.getfield 76, 3) := by decide +kernel
theorem dX12_readPaper_19 : decode cX12_readPaper 19 = .ok (.ifCond .eq 14, 3) := by decide +kernel
theorem dX12_readPaper_22 : decode cX12_readPaper 22 = .ok (.aload_n 0, 1) := by decide +kernel
theorem dX12_readPaper_23 : decode cX12_readPaper 23 = .ok (.getfield 7, 3) := by decide +kernel
theorem dX12_readPaper_26 : decode cX12_readPaper 26 = .ok (.iconst 0, 1) := by decide +kernel
theorem dX12_readPaper_27 : decode cX12_readPaper 27 = .ok (.iaload, 1) := by decide +kernel
theorem dX12_readPaper_28 : decode cX12_readPaper 28 = .ok (.bipush 69, 2) := by decide +kernel
theorem dX12_readPaper_30 : decode cX12_readPaper 30 = .ok (.if_icmp .eq 5, 3) := by decide +kernel
theorem dX12_readPaper_33 : decode cX12_readPaper 33 = .ok (.iconst 0, 1) := by decide +kernel
theorem dX12_readPaper_34 : decode cX12_readPaper 34 = .ok (.ireturn, 1) := by decide +kernel
theorem dX12_readPaper_35 : decode cX12_readPaper 35 = .ok (.aload_n 0, 1) := by decide +kernel
theorem dX12_readPaper_36 : decode cX12_readPaper 36 = .ok (.iconst 1, 1) := by decide +kernel
theorem dX12_readPaper_37 : decode cX12_readPaper 37 = .ok (.putfield 79, 3) := by decide +kernel
theorem dX12_readPaper_40 : decode cX12_readPaper 40 = .ok (.aload_n 0, 1) := by decide +kernel
theorem dX12_readPaper_41 : decode cX12_readPaper 41 = .ok (.invokevirtual 105, 3) := by decide +kernel
theorem dX12_readPaper_44 : decode cX12_readPaper 44 = .ok (.ifCond .ne 8, 3) := by decide +kernel
theorem dX12_readPaper_47 : decode cX12_readPaper 47 = .ok (.aload_n 0, 1) := by decide +kernel
theorem dX12_readPaper_48 : decode cX12_readPaper 48 = .ok (.getfield 79, 3) := by decide +kernel
theorem dX12_readPaper_51 : decode cX12_readPaper 51 = .ok (.ireturn, 1) := by decide +kernel
theorem dX12_readPaper_52 : decode cX12_readPaper 52 = .ok (.aload_n 0, 1) := by decide +kernel
theorem dX12_readPaper_53 : decode cX12_readPaper 53 = .ok (.getfield 79, 3) := by decide +kernel
theorem dX12_readPaper_56 : decode cX12_readPaper 56 = .ok (.aload_n 0, 1) := by decide +kernel
theorem dX12_readPaper_57 : decode cX12_readPaper 57 = .ok (.getfield 76, 3) := by decide +kernel
theorem dX12_readPaper_60 : decode cX12_readPaper 60 = .ok (.if_icmp .ge 15, 3) := by decide +kernel
theorem dX12_readPaper_63 : decode cX12_readPaper 63 = .ok (.aload_n 0, 1) := by decide +kernel
theorem dX12_readPaper_64 : decode cX12_readPaper 64 = .ok (.invokevirtual 108, 3) := by decide +kernel
theorem dX12_readPaper_67 : decode cX12_readPaper 67 = .ok (.ifCond .ne (-15), 3) := by decide +kernel
theorem dX12_readPaper_70 : decode cX12_readPaper 70 = .ok (.aload_n 0, 1) := by decide +kernel
theorem dX12_readPaper_71 : decode cX12_readPaper 71 = .ok (.getfield 79, 3) := by decide +kernel
theorem dX12_readPaper_74 : decode cX12_readPaper 74 = .ok (.ireturn, 1) := by decide +kernel
theorem dX12_readPaper_75 : decode cX12_readPaper 75 = .ok (.bipush (-9), 2) := by decide +kernel
theorem dX12_readPaper_77 : decode cX12_readPaper 77 = .ok (.ireturn, 1) := by decide +kernel
theorem dX12_fault_0 : decode cX12_fault 0 = .ok (.aload_n 0, 1) := by decide +kernel
theorem dX12_fault_1 : decode cX12_fault 1 = .ok (.iconst 0, 1) := by decide +kernel
theorem dX12_fault_2 : decode cX12_fault 2 = .ok (.putfield 57, 3) := by decide +kernel
theorem dX12_fault_5 : decode cX12_fault 5 = .ok (.aload_n 0, 1) := by decide +kernel
theorem dX12_fault_6 : decode cX12_fault 6 = .ok (.invokevirtual 111, 3) := by decide +kernel
theorem dX12_fault_9 : decode cX12_fault 9 = .ok (.ireturn, 1) := by decide +kernel
theorem dX12_paper_0 : decode cX12_paper 0 = .ok (.aload_n 0, 1) := by decide +kernel
theorem dX12_paper_1 : decode cX12_paper 1 = .ok (.iconst 0, 1) := by decide +kernel
theorem dX12_paper_2 : decode cX12_paper 2 = .ok (.putfield 57, 3) := by decide +kernel
theorem dX12_paper_5 : decode cX12_paper 5 = .ok (.aload_n 0, 1) := by decide +kernel
theorem dX12_paper_6 : decode cX12_paper 6 = .ok (.invokevirtual 111, 3) := by decide +kernel
theorem dX12_paper_9 : decode cX12_paper 9 = .ok (.bipush (-9), 2) := by decide +kernel
theorem dX12_paper_11 : decode cX12_paper 11 = .ok (.if_icmp .eq 6, 3) := by decide +kernel
theorem dX12_paper_14 : decode cX12_paper 14 = .ok (.bipush (-3), 2) := by decide +kernel
theorem dX12_paper_16 : decode cX12_paper 16 = .ok (.ireturn, 1) := by decide +kernel
theorem dX12_paper_17 : decode cX12_paper 17 = .ok (.aload_n 0, 1) := by decide +kernel
theorem dX12_paper_18 : decode cX12_paper 18 = .ok (.aload_n 0, 1) := by decide +kernel
theorem dX12_paper_19 : decode cX12_paper 19 = .ok (.getfield 85, 3) := by decide +kernel
theorem dX12_paper_22 : decode cX12_paper 22 = .ok (.putfield 13, 3) := by decide +kernel
theorem dX12_paper_25 : decode cX12_paper 25 = .ok (.aload_n 0, 1) := by decide +kernel
theorem dX12_paper_26 : decode cX12_paper 26 = .ok (.aload_n 0, 1) := by decide +kernel
theorem dX12_paper_27 : decode cX12_paper 27 = .ok (.getfield 82, 3) := by decide +kernel
theorem dX12_paper_30 : decode cX12_paper 30 = .ok (.putfield 115, 3) := by decide +kernel
theorem dX12_paper_33 : decode cX12_paper 33 = .ok (.aload_n 0, 1) := by decide +kernel
theorem dX12_paper_34 : decode cX12_paper 34 = .ok (.aload_n 0, 1) := by decide +kernel
theorem dX12_paper_35 : decode cX12_paper 35 = .ok (.getfield 95, 3) := by decide +kernel
theorem dX12_paper_38 : decode cX12_paper 38 = .ok (.putfield 62, 3) := by decide +kernel
theorem dX12_paper_41 : decode cX12_paper 41 = .ok (.aload_n 0, 1) := by decide +kernel
theorem dX12_paper_42 : decode cX12_paper 42 = .ok (.aload_n 0, 1) := by decide +kernel
theorem dX12_paper_43 : decode cX12_paper 43 = .ok (.getfield 102, 3) := by decide +kernel
theorem dX12_paper_46 : decode cX12_paper 46 = .ok (.putfield 69, 3) := by decide +kernel
theorem dX12_paper_49 : decode cX12_paper 49 = .ok (.iconst 0, 1) := by decide +kernel
theorem dX12_paper_50 : decode cX12_paper 50 = .ok (.istore_n 1, 1) := by decide +kernel
theorem dX12_paper_51 : decode cX12_paper 51 = .ok (.iload_n 1, 1) := by decide +kernel
theorem dX12_paper_52 : decode cX12_paper 52 = .ok (.bipush 9, 2) := by decide +kernel
theorem dX12_paper_54 : decode cX12_paper 54 = .ok (.if_icmp .ge 16, 3) := by decide +kernel
theorem dX12_paper_57 : decode cX12_paper 57 = .ok (.aload_n 0, 1) := by decide +kernel
theorem dX12_paper_58 : decode cX12_paper 58 = .ok (.getfield 32, 3) := by decide +kernel
theorem dX12_paper_61 : decode cX12_paper 61 = .ok (.iload_n 1, 1) := by decide +kernel
theorem dX12_paper_62 : decode cX12_paper 62 = .ok (.iconst 0, 1) := by decide +kernel
theorem dX12_paper_63 : decode cX12_paper 63 = .ok (.iastore, 1) := by decide +kernel
theorem dX12_paper_64 : decode cX12_paper 64 = .ok (.iinc 1 1, 3) := by decide +kernel
theorem dX12_paper_67 : decode cX12_paper 67 = .ok (.goto (-16), 3) := by decide +kernel
theorem dX12_paper_70 : decode cX12_paper 70 = .ok (.aload_n 0, 1) := by decide +kernel
theorem dX12_paper_71 : decode cX12_paper 71 = .ok (.getfield 32, 3) := by decide +kernel
theorem dX12_paper_74 : decode cX12_paper 74 = .ok (.iconst 0, 1) := by decide +kernel
theorem dX12_paper_75 : decode cX12_paper 75 = .ok (.aload_n 0, 1) := by decide +kernel
theorem dX12_paper_76 : decode cX12_paper 76 = .ok (.getfield 92, 3) := by decide +kernel
theorem dX12_paper_79 : decode cX12_paper 79 = .ok (.iastore, 1) := by decide +kernel
theorem dX12_paper_80 : decode cX12_paper 80 = .ok (.iconst 0, 1) := by decide +kernel
theorem dX12_paper_81 : decode cX12_paper 81 = .ok (.istore_n 1, 1) := by decide +kernel
theorem dX12_paper_82 : decode cX12_paper 82 = .ok (.iload_n 1, 1) := by decide +kernel
theorem dX12_paper_83 : decode cX12_paper 83 = .ok (.aload_n 0, 1) := by decide +kernel
theorem dX12_paper_84 : decode cX12_paper 84 = .ok (.getfield 62, 3) := by decide +kernel
theorem dX12_paper_87 : decode cX12_paper 87 = .ok (.if_icmp .ge 23, 3) := by decide +kernel
theorem dX12_paper_90 : decode cX12_paper 90 = .ok (.aload_n 0, 1) := by decide +kernel
theorem dX12_paper_91 : decode cX12_paper 91 = .ok (.getfield 32, 3) := by decide +kernel
theorem dX12_paper_94 : decode cX12_paper 94 = .ok (.iconst 2, 1) := by decide +kernel
theorem dX12_paper_95 : decode cX12_paper 95 = .ok (.iload_n 1, 1) := by decide +kernel
theorem dX12_paper_96 : decode cX12_paper 96 = .ok (.iadd, 1) := by decide +kernel
theorem dX12_paper_97 : decode cX12_paper 97 = .ok (.aload_n 0, 1) := by decide +kernel
theorem dX12_paper_98 : decode cX12_paper 98 = .ok (.getfield 23, 3) := by decide +kernel
theorem dX12_paper_101 : decode cX12_paper 101 = .ok (.iload_n 1, 1) := by decide +kernel
theorem dX12_paper_102 : decode cX12_paper 102 = .ok (.iaload, 1) := by decide +kernel
theorem dX12_paper_103 : decode cX12_paper 103 = .ok (.iastore, 1) := by decide +kernel
theorem dX12_paper_104 : decode cX12_paper 104 = .ok (.iinc 1 1, 3) := by decide +kernel
theorem dX12_paper_107 : decode cX12_paper 107 = .ok (.goto (-25), 3) := by decide +kernel
theorem dX12_paper_110 : decode cX12_paper 110 = .ok (.iconst 0, 1) := by decide +kernel
theorem dX12_paper_111 : decode cX12_paper 111 = .ok (.istore_n 1, 1) := by decide +kernel
theorem dX12_paper_112 : decode cX12_paper 112 = .ok (.iload_n 1, 1) := by decide +kernel
theorem dX12_paper_113 : decode cX12_paper 113 = .ok (.aload_n 0, 1) := by decide +kernel
theorem dX12_paper_114 : decode cX12_paper 114 = .ok (.getfield 69, 3) := by decide +kernel
theorem dX12_paper_117 : decode cX12_paper 117 = .ok (.if_icmp .ge 45, 3) := by decide +kernel
theorem dX12_paper_120 : decode cX12_paper 120 = .ok (.aload_n 0, 1) := by decide +kernel
theorem dX12_paper_121 : decode cX12_paper 121 = .ok (.getfield 17, 3) := by decide +kernel
theorem dX12_paper_124 : decode cX12_paper 124 = .ok (.iload_n 1, 1) := by decide +kernel
theorem dX12_paper_125 : decode cX12_paper 125 = .ok (.aload_n 0, 1) := by decide +kernel
theorem dX12_paper_126 : decode cX12_paper 126 = .ok (.getfield 26, 3) := by decide +kernel
theorem dX12_paper_129 : decode cX12_paper 129 = .ok (.iload_n 1, 1) := by decide +kernel
theorem dX12_paper_130 : decode cX12_paper 130 = .ok (.iaload, 1) := by decide +kernel
theorem dX12_paper_131 : decode cX12_paper 131 = .ok (.iastore, 1) := by decide +kernel
theorem dX12_paper_132 : decode cX12_paper 132 = .ok (.aload_n 0, 1) := by decide +kernel
theorem dX12_paper_133 : decode cX12_paper 133 = .ok (.getfield 20, 3) := by decide +kernel
theorem dX12_paper_136 : decode cX12_paper 136 = .ok (.iload_n 1, 1) := by decide +kernel
theorem dX12_paper_137 : decode cX12_paper 137 = .ok (.aload_n 0, 1) := by decide +kernel
theorem dX12_paper_138 : decode cX12_paper 138 = .ok (.getfield 29, 3) := by decide +kernel
theorem dX12_paper_141 : decode cX12_paper 141 = .ok (.iload_n 1, 1) := by decide +kernel
theorem dX12_paper_142 : decode cX12_paper 142 = .ok (.iaload, 1) := by decide +kernel
theorem dX12_paper_143 : decode cX12_paper 143 = .ok (.iastore, 1) := by decide +kernel
theorem dX12_paper_144 : decode cX12_paper 144 = .ok (.aload_n 0, 1) := by decide +kernel
theorem dX12_paper_145 : decode cX12_paper 145 = .ok (.getfield 32, 3) := by decide +kernel
theorem dX12_paper_148 : decode cX12_paper 148 = .ok (.iconst 5, 1) := by decide +kernel
theorem dX12_paper_149 : decode cX12_paper 149 = .ok (.iload_n 1, 1) := by decide +kernel
theorem dX12_paper_150 : decode cX12_paper 150 = .ok (.iadd, 1) := by decide +kernel
theorem dX12_paper_151 : decode cX12_paper 151 = .ok (.aload_n 0, 1) := by decide +kernel
theorem dX12_paper_152 : decode cX12_paper 152 = .ok (.getfield 92, 3) := by decide +kernel
theorem dX12_paper_155 : decode cX12_paper 155 = .ok (.iastore, 1) := by decide +kernel
theorem dX12_paper_156 : decode cX12_paper 156 = .ok (.iinc 1 1, 3) := by decide +kernel
theorem dX12_paper_159 : decode cX12_paper 159 = .ok (.goto (-47), 3) := by decide +kernel
theorem dX12_paper_162 : decode cX12_paper 162 = .ok (.aload_n 0, 1) := by decide +kernel
theorem dX12_paper_163 : decode cX12_paper 163 = .ok (.iconst 0, 1) := by decide +kernel
theorem dX12_paper_164 : decode cX12_paper 164 = .ok (.putfield 118, 3) := by decide +kernel
theorem dX12_paper_167 : decode cX12_paper 167 = .ok (.aload_n 0, 1) := by decide +kernel
theorem dX12_paper_168 : decode cX12_paper 168 = .ok (.getfield 44, 3) := by decide +kernel
theorem dX12_paper_171 : decode cX12_paper 171 = .ok (.iconst 0, 1) := by decide +kernel
theorem dX12_paper_172 : decode cX12_paper 172 = .ok (.iconst 0, 1) := by decide +kernel
theorem dX12_paper_173 : decode cX12_paper 173 = .ok (.bastore, 1) := by decide +kernel
theorem dX12_paper_174 : decode cX12_paper 174 = .ok (.aload_n 0, 1) := by decide +kernel
theorem dX12_paper_175 : decode cX12_paper 175 = .ok (.getfield 44, 3) := by decide +kernel
theorem dX12_paper_178 : decode cX12_paper 178 = .ok (.iconst 1, 1) := by decide +kernel
theorem dX12_paper_179 : decode cX12_paper 179 = .ok (.iconst 0, 1) := by decide +kernel
theorem dX12_paper_180 : decode cX12_paper 180 = .ok (.bastore, 1) := by decide +kernel
theorem dX12_paper_181 : decode cX12_paper 181 = .ok (.bipush 10, 2) := by decide +kernel
theorem dX12_paper_183 : decode cX12_paper 183 = .ok (.aload_n 0, 1) := by decide +kernel
theorem dX12_paper_184 : decode cX12_paper 184 = .ok (.getfield 62, 3) := by decide +kernel
theorem dX12_paper_187 : decode cX12_paper 187 = .ok (.imul, 1) := by decide +kernel
theorem dX12_paper_188 : decode cX12_paper 188 = .ok (.aload_n 0, 1) := by decide +kernel
theorem dX12_paper_189 : decode cX12_paper 189 = .ok (.getfield 69, 3) := by decide +kernel
theorem dX12_paper_192 : decode cX12_paper 192 = .ok (.iadd, 1) := by decide +kernel
theorem dX12_paper_193 : decode cX12_paper 193 = .ok (.ireturn, 1) := by decide +kernel
theorem dX12_letterOf_0 : decode cX12_letterOf 0 = .ok (.iload_n 1, 1) := by decide +kernel
theorem dX12_letterOf_1 : decode cX12_letterOf 1 = .ok (.iconst 4, 1) := by decide +kernel
theorem dX12_letterOf_2 : decode cX12_letterOf 2 = .ok (.aload_n 0, 1) := by decide +kernel
theorem dX12_letterOf_3 : decode cX12_letterOf 3 = .ok (.getfield 13, 3) := by decide +kernel
theorem dX12_letterOf_6 : decode cX12_letterOf 6 = .ok (.iconst 1, 1) := by decide +kernel
theorem dX12_letterOf_7 : decode cX12_letterOf 7 = .ok (.isub, 1) := by decide +kernel
theorem dX12_letterOf_8 : decode cX12_letterOf 8 = .ok (.iload_n 2, 1) := by decide +kernel
theorem dX12_letterOf_9 : decode cX12_letterOf 9 = .ok (.isub, 1) := by decide +kernel
theorem dX12_letterOf_10 : decode cX12_letterOf 10 = .ok (.invokestatic 121, 3) := by decide +kernel
theorem dX12_letterOf_13 : decode cX12_letterOf 13 = .ok (.idiv, 1) := by decide +kernel
theorem dX12_letterOf_14 : decode cX12_letterOf 14 = .ok (.iconst 4, 1) := by decide +kernel
theorem dX12_letterOf_15 : decode cX12_letterOf 15 = .ok (.irem, 1) := by decide +kernel
theorem dX12_letterOf_16 : decode cX12_letterOf 16 = .ok (.ireturn, 1) := by decide +kernel
theorem dX12_put_0 : decode cX12_put 0 = .ok (.iload_n 1, 1) := by decide +kernel
theorem dX12_put_1 : decode cX12_put 1 = .ok (.iload_n 3, 1) := by decide +kernel
theorem dX12_put_2 : decode cX12_put 2 = .ok (.aload_n 0, 1) := by decide +kernel
theorem dX12_put_3 : decode cX12_put 3 = .ok (.iload_n 1, 1) := by decide +kernel
theorem dX12_put_4 : decode cX12_put 4 = .ok (.iload_n 2, 1) := by decide +kernel
theorem dX12_put_5 : decode cX12_put 5 = .ok (.invokevirtual 124, 3) := by decide +kernel
theorem dX12_put_8 : decode cX12_put 8 = .ok (.isub, 1) := by decide +kernel
theorem dX12_put_9 : decode cX12_put 9 = .ok (.iconst 4, 1) := by decide +kernel
theorem dX12_put_10 : decode cX12_put 10 = .ok (.aload_n 0, 1) := by decide +kernel
theorem dX12_put_11 : decode cX12_put 11 = .ok (.getfield 13, 3) := by decide +kernel
theorem dX12_put_14 : decode cX12_put 14 = .ok (.iconst 1, 1) := by decide +kernel
theorem dX12_put_15 : decode cX12_put 15 = .ok (.isub, 1) := by decide +kernel
theorem dX12_put_16 : decode cX12_put 16 = .ok (.iload_n 2, 1) := by decide +kernel
theorem dX12_put_17 : decode cX12_put 17 = .ok (.isub, 1) := by decide +kernel
theorem dX12_put_18 : decode cX12_put 18 = .ok (.invokestatic 121, 3) := by decide +kernel
theorem dX12_put_21 : decode cX12_put 21 = .ok (.imul, 1) := by decide +kernel
theorem dX12_put_22 : decode cX12_put 22 = .ok (.iadd, 1) := by decide +kernel
theorem dX12_put_23 : decode cX12_put 23 = .ok (.ireturn, 1) := by decide +kernel
theorem dX12_notice_0 : decode cX12_notice 0 = .ok (.iload_n 3, 1) := by decide +kernel
theorem dX12_notice_1 : decode cX12_notice 1 = .ok (.iconst 1, 1) := by decide +kernel
theorem dX12_notice_2 : decode cX12_notice 2 = .ok (.iadd, 1) := by decide +kernel
theorem dX12_notice_3 : decode cX12_notice 3 = .ok (.aload_n 0, 1) := by decide +kernel
theorem dX12_notice_4 : decode cX12_notice 4 = .ok (.getfield 13, 3) := by decide +kernel
theorem dX12_notice_7 : decode cX12_notice 7 = .ok (.irem, 1) := by decide +kernel
theorem dX12_notice_8 : decode cX12_notice 8 = .ok (.istore 5, 2) := by decide +kernel
theorem dX12_notice_10 : decode cX12_notice 10 = .ok (.aload_n 0, 1) := by decide +kernel
theorem dX12_notice_11 : decode cX12_notice 11 = .ok (.iload_n 1, 1) := by decide +kernel
theorem dX12_notice_12 : decode cX12_notice 12 = .ok (.iload_n 3, 1) := by decide +kernel
theorem dX12_notice_13 : decode cX12_notice 13 = .ok (.iload 4, 2) := by decide +kernel
theorem dX12_notice_15 : decode cX12_notice 15 = .ok (.invokevirtual 127, 3) := by decide +kernel
theorem dX12_notice_18 : decode cX12_notice 18 = .ok (.istore 6, 2) := by decide +kernel
theorem dX12_notice_20 : decode cX12_notice 20 = .ok (.iload_n 2, 1) := by decide +kernel
theorem dX12_notice_21 : decode cX12_notice 21 = .ok (.tableswitch 86 1 3 #[27, 48, 62], 27) := by decide +kernel
theorem dX12_notice_48 : decode cX12_notice 48 = .ok (.aload_n 0, 1) := by decide +kernel
theorem dX12_notice_49 : decode cX12_notice 49 = .ok (.iload 6, 2) := by decide +kernel
theorem dX12_notice_51 : decode cX12_notice 51 = .ok (.iload 5, 2) := by decide +kernel
theorem dX12_notice_53 : decode cX12_notice 53 = .ok (.aload_n 0, 1) := by decide +kernel
theorem dX12_notice_54 : decode cX12_notice 54 = .ok (.iload 6, 2) := by decide +kernel
theorem dX12_notice_56 : decode cX12_notice 56 = .ok (.iload 5, 2) := by decide +kernel
theorem dX12_notice_58 : decode cX12_notice 58 = .ok (.invokevirtual 124, 3) := by decide +kernel
theorem dX12_notice_61 : decode cX12_notice 61 = .ok (.iconst 1, 1) := by decide +kernel
theorem dX12_notice_62 : decode cX12_notice 62 = .ok (.iadd, 1) := by decide +kernel
theorem dX12_notice_63 : decode cX12_notice 63 = .ok (.iconst 4, 1) := by decide +kernel
theorem dX12_notice_64 : decode cX12_notice 64 = .ok (.irem, 1) := by decide +kernel
theorem dX12_notice_65 : decode cX12_notice 65 = .ok (.invokevirtual 127, 3) := by decide +kernel
theorem dX12_notice_68 : decode cX12_notice 68 = .ok (.ireturn, 1) := by decide +kernel
theorem dX12_notice_69 : decode cX12_notice 69 = .ok (.aload_n 0, 1) := by decide +kernel
theorem dX12_notice_70 : decode cX12_notice 70 = .ok (.iload 6, 2) := by decide +kernel
theorem dX12_notice_72 : decode cX12_notice 72 = .ok (.iload_n 3, 1) := by decide +kernel
theorem dX12_notice_73 : decode cX12_notice 73 = .ok (.iload 4, 2) := by decide +kernel
theorem dX12_notice_75 : decode cX12_notice 75 = .ok (.iconst 1, 1) := by decide +kernel
theorem dX12_notice_76 : decode cX12_notice 76 = .ok (.iadd, 1) := by decide +kernel
theorem dX12_notice_77 : decode cX12_notice 77 = .ok (.iconst 4, 1) := by decide +kernel
theorem dX12_notice_78 : decode cX12_notice 78 = .ok (.irem, 1) := by decide +kernel
theorem dX12_notice_79 : decode cX12_notice 79 = .ok (.invokevirtual 127, 3) := by decide +kernel
theorem dX12_notice_82 : decode cX12_notice 82 = .ok (.ireturn, 1) := by decide +kernel
theorem dX12_notice_83 : decode cX12_notice 83 = .ok (.aload_n 0, 1) := by decide +kernel
theorem dX12_notice_84 : decode cX12_notice 84 = .ok (.aload_n 0, 1) := by decide +kernel
theorem dX12_notice_85 : decode cX12_notice 85 = .ok (.iload 6, 2) := by decide +kernel
theorem dX12_notice_87 : decode cX12_notice 87 = .ok (.iload_n 3, 1) := by decide +kernel
theorem dX12_notice_88 : decode cX12_notice 88 = .ok (.aload_n 0, 1) := by decide +kernel
theorem dX12_notice_89 : decode cX12_notice 89 = .ok (.iload 6, 2) := by decide +kernel
theorem dX12_notice_91 : decode cX12_notice 91 = .ok (.iload 5, 2) := by decide +kernel
theorem dX12_notice_93 : decode cX12_notice 93 = .ok (.invokevirtual 124, 3) := by decide +kernel
theorem dX12_notice_96 : decode cX12_notice 96 = .ok (.invokevirtual 127, 3) := by decide +kernel
theorem dX12_notice_99 : decode cX12_notice 99 = .ok (.iload 5, 2) := by decide +kernel
theorem dX12_notice_101 : decode cX12_notice 101 = .ok (.iload 4, 2) := by decide +kernel
theorem dX12_notice_103 : decode cX12_notice 103 = .ok (.invokevirtual 127, 3) := by decide +kernel
theorem dX12_notice_106 : decode cX12_notice 106 = .ok (.ireturn, 1) := by decide +kernel
theorem dX12_notice_107 : decode cX12_notice 107 = .ok (.iload 6, 2) := by decide +kernel
theorem dX12_notice_109 : decode cX12_notice 109 = .ok (.ireturn, 1) := by decide +kernel
theorem dX12_rightOf_0 : decode cX12_rightOf 0 = .ok (.iconst 0, 1) := by decide +kernel
theorem dX12_rightOf_1 : decode cX12_rightOf 1 = .ok (.istore_n 2, 1) := by decide +kernel
theorem dX12_rightOf_2 : decode cX12_rightOf 2 = .ok (.iconst 0, 1) := by decide +kernel
theorem dX12_rightOf_3 : decode cX12_rightOf 3 = .ok (.istore_n 3, 1) := by decide +kernel
theorem dX12_rightOf_4 : decode cX12_rightOf 4 = .ok (.iload_n 3, 1) := by decide +kernel
theorem dX12_rightOf_5 : decode cX12_rightOf 5 = .ok (.aload_n 0, 1) := by decide +kernel
theorem dX12_rightOf_6 : decode cX12_rightOf 6 = .ok (.getfield 13, 3) := by decide +kernel
theorem dX12_rightOf_9 : decode cX12_rightOf 9 = .ok (.if_icmp .ge 35, 3) := by decide +kernel
theorem dX12_rightOf_12 : decode cX12_rightOf 12 = .ok (.iload_n 2, 1) := by decide +kernel
theorem dX12_rightOf_13 : decode cX12_rightOf 13 = .ok (.aload_n 0, 1) := by decide +kernel
theorem dX12_rightOf_14 : decode cX12_rightOf 14 = .ok (.iload_n 1, 1) := by decide +kernel
theorem dX12_rightOf_15 : decode cX12_rightOf 15 = .ok (.iload_n 3, 1) := by decide +kernel
theorem dX12_rightOf_16 : decode cX12_rightOf 16 = .ok (.invokevirtual 124, 3) := by decide +kernel
theorem dX12_rightOf_19 : decode cX12_rightOf 19 = .ok (.aload_n 0, 1) := by decide +kernel
theorem dX12_rightOf_20 : decode cX12_rightOf 20 = .ok (.aload_n 0, 1) := by decide +kernel
theorem dX12_rightOf_21 : decode cX12_rightOf 21 = .ok (.getfield 115, 3) := by decide +kernel
theorem dX12_rightOf_24 : decode cX12_rightOf 24 = .ok (.iload_n 3, 1) := by decide +kernel
theorem dX12_rightOf_25 : decode cX12_rightOf 25 = .ok (.invokevirtual 124, 3) := by decide +kernel
theorem dX12_rightOf_28 : decode cX12_rightOf 28 = .ok (.if_icmp .ne 7, 3) := by decide +kernel
theorem dX12_rightOf_31 : decode cX12_rightOf 31 = .ok (.iconst 1, 1) := by decide +kernel
theorem dX12_rightOf_32 : decode cX12_rightOf 32 = .ok (.goto 4, 3) := by decide +kernel
theorem dX12_rightOf_35 : decode cX12_rightOf 35 = .ok (.iconst 0, 1) := by decide +kernel
theorem dX12_rightOf_36 : decode cX12_rightOf 36 = .ok (.iadd, 1) := by decide +kernel
theorem dX12_rightOf_37 : decode cX12_rightOf 37 = .ok (.istore_n 2, 1) := by decide +kernel
theorem dX12_rightOf_38 : decode cX12_rightOf 38 = .ok (.iinc 3 1, 3) := by decide +kernel
theorem dX12_rightOf_41 : decode cX12_rightOf 41 = .ok (.goto (-37), 3) := by decide +kernel
theorem dX12_rightOf_44 : decode cX12_rightOf 44 = .ok (.iload_n 2, 1) := by decide +kernel
theorem dX12_rightOf_45 : decode cX12_rightOf 45 = .ok (.ireturn, 1) := by decide +kernel
theorem dX12_told_0 : decode cX12_told 0 = .ok (.iconst 0, 1) := by decide +kernel
theorem dX12_told_1 : decode cX12_told 1 = .ok (.istore_n 2, 1) := by decide +kernel
theorem dX12_told_2 : decode cX12_told 2 = .ok (.iconst 0, 1) := by decide +kernel
theorem dX12_told_3 : decode cX12_told 3 = .ok (.istore_n 3, 1) := by decide +kernel
theorem dX12_told_4 : decode cX12_told 4 = .ok (.iload_n 3, 1) := by decide +kernel
theorem dX12_told_5 : decode cX12_told 5 = .ok (.aload_n 0, 1) := by decide +kernel
theorem dX12_told_6 : decode cX12_told 6 = .ok (.getfield 13, 3) := by decide +kernel
theorem dX12_told_9 : decode cX12_told 9 = .ok (.if_icmp .ge 21, 3) := by decide +kernel
theorem dX12_told_12 : decode cX12_told 12 = .ok (.bipush 10, 2) := by decide +kernel
theorem dX12_told_14 : decode cX12_told 14 = .ok (.iload_n 2, 1) := by decide +kernel
theorem dX12_told_15 : decode cX12_told 15 = .ok (.imul, 1) := by decide +kernel
theorem dX12_told_16 : decode cX12_told 16 = .ok (.aload_n 0, 1) := by decide +kernel
theorem dX12_told_17 : decode cX12_told 17 = .ok (.iload_n 1, 1) := by decide +kernel
theorem dX12_told_18 : decode cX12_told 18 = .ok (.iload_n 3, 1) := by decide +kernel
theorem dX12_told_19 : decode cX12_told 19 = .ok (.invokevirtual 124, 3) := by decide +kernel
theorem dX12_told_22 : decode cX12_told 22 = .ok (.iadd, 1) := by decide +kernel
theorem dX12_told_23 : decode cX12_told 23 = .ok (.istore_n 2, 1) := by decide +kernel
theorem dX12_told_24 : decode cX12_told 24 = .ok (.iinc 3 1, 3) := by decide +kernel
theorem dX12_told_27 : decode cX12_told 27 = .ok (.goto (-23), 3) := by decide +kernel
theorem dX12_told_30 : decode cX12_told 30 = .ok (.iload_n 2, 1) := by decide +kernel
theorem dX12_told_31 : decode cX12_told 31 = .ok (.ireturn, 1) := by decide +kernel
theorem dX12_nameOf_0 : decode cX12_nameOf 0 = .ok (.iload_n 1, 1) := by decide +kernel
theorem dX12_nameOf_1 : decode cX12_nameOf 1 = .ok (.i2l, 1) := by decide +kernel
theorem dX12_nameOf_2 : decode cX12_nameOf 2 = .ok (.lconst 0, 1) := by decide +kernel
theorem dX12_nameOf_3 : decode cX12_nameOf 3 = .ok (.bipush 10, 2) := by decide +kernel
theorem dX12_nameOf_5 : decode cX12_nameOf 5 = .ok (.aload_n 0, 1) := by decide +kernel
theorem dX12_nameOf_6 : decode cX12_nameOf 6 = .ok (.getfield 13, 3) := by decide +kernel
theorem dX12_nameOf_9 : decode cX12_nameOf 9 = .ok (.invokestatic 121, 3) := by decide +kernel
theorem dX12_nameOf_12 : decode cX12_nameOf 12 = .ok (.iconst 1, 1) := by decide +kernel
theorem dX12_nameOf_13 : decode cX12_nameOf 13 = .ok (.isub, 1) := by decide +kernel
theorem dX12_nameOf_14 : decode cX12_nameOf 14 = .ok (.i2l, 1) := by decide +kernel
theorem dX12_nameOf_15 : decode cX12_nameOf 15 = .ok (.invokestatic 65, 3) := by decide +kernel
theorem dX12_nameOf_18 : decode cX12_nameOf 18 = .ok (.ifCond .ne 6, 3) := by decide +kernel
theorem dX12_nameOf_21 : decode cX12_nameOf 21 = .ok (.bipush (-9), 2) := by decide +kernel
theorem dX12_nameOf_23 : decode cX12_nameOf 23 = .ok (.ireturn, 1) := by decide +kernel
theorem dX12_nameOf_24 : decode cX12_nameOf 24 = .ok (.iconst 0, 1) := by decide +kernel
theorem dX12_nameOf_25 : decode cX12_nameOf 25 = .ok (.istore_n 2, 1) := by decide +kernel
theorem dX12_nameOf_26 : decode cX12_nameOf 26 = .ok (.iconst 1, 1) := by decide +kernel
theorem dX12_nameOf_27 : decode cX12_nameOf 27 = .ok (.istore_n 3, 1) := by decide +kernel
theorem dX12_nameOf_28 : decode cX12_nameOf 28 = .ok (.iconst 0, 1) := by decide +kernel
theorem dX12_nameOf_29 : decode cX12_nameOf 29 = .ok (.istore 4, 2) := by decide +kernel
theorem dX12_nameOf_31 : decode cX12_nameOf 31 = .ok (.iload 4, 2) := by decide +kernel
theorem dX12_nameOf_33 : decode cX12_nameOf 33 = .ok (.aload_n 0, 1) := by decide +kernel
theorem dX12_nameOf_34 : decode cX12_nameOf 34 = .ok (.getfield 13, 3) := by decide +kernel
theorem dX12_nameOf_37 : decode cX12_nameOf 37 = .ok (.if_icmp .ge 53, 3) := by decide +kernel
theorem dX12_nameOf_40 : decode cX12_nameOf 40 = .ok (.iload_n 1, 1) := by decide +kernel
theorem dX12_nameOf_41 : decode cX12_nameOf 41 = .ok (.bipush 10, 2) := by decide +kernel
theorem dX12_nameOf_43 : decode cX12_nameOf 43 = .ok (.aload_n 0, 1) := by decide +kernel
theorem dX12_nameOf_44 : decode cX12_nameOf 44 = .ok (.getfield 13, 3) := by decide +kernel
theorem dX12_nameOf_47 : decode cX12_nameOf 47 = .ok (.iconst 1, 1) := by decide +kernel
theorem dX12_nameOf_48 : decode cX12_nameOf 48 = .ok (.isub, 1) := by decide +kernel
theorem dX12_nameOf_49 : decode cX12_nameOf 49 = .ok (.iload 4, 2) := by decide +kernel
theorem dX12_nameOf_51 : decode cX12_nameOf 51 = .ok (.isub, 1) := by decide +kernel
theorem dX12_nameOf_52 : decode cX12_nameOf 52 = .ok (.invokestatic 121, 3) := by decide +kernel
theorem dX12_nameOf_55 : decode cX12_nameOf 55 = .ok (.idiv, 1) := by decide +kernel
theorem dX12_nameOf_56 : decode cX12_nameOf 56 = .ok (.bipush 10, 2) := by decide +kernel
theorem dX12_nameOf_58 : decode cX12_nameOf 58 = .ok (.irem, 1) := by decide +kernel
theorem dX12_nameOf_59 : decode cX12_nameOf 59 = .ok (.istore 5, 2) := by decide +kernel
theorem dX12_nameOf_61 : decode cX12_nameOf 61 = .ok (.iload_n 3, 1) := by decide +kernel
theorem dX12_nameOf_62 : decode cX12_nameOf 62 = .ok (.ifCond .eq 13, 3) := by decide +kernel
theorem dX12_nameOf_65 : decode cX12_nameOf 65 = .ok (.iload 5, 2) := by decide +kernel
theorem dX12_nameOf_67 : decode cX12_nameOf 67 = .ok (.iconst 4, 1) := by decide +kernel
theorem dX12_nameOf_68 : decode cX12_nameOf 68 = .ok (.if_icmp .ge 7, 3) := by decide +kernel
theorem dX12_nameOf_71 : decode cX12_nameOf 71 = .ok (.iconst 1, 1) := by decide +kernel
theorem dX12_nameOf_72 : decode cX12_nameOf 72 = .ok (.goto 4, 3) := by decide +kernel
theorem dX12_nameOf_75 : decode cX12_nameOf 75 = .ok (.iconst 0, 1) := by decide +kernel
theorem dX12_nameOf_76 : decode cX12_nameOf 76 = .ok (.istore_n 3, 1) := by decide +kernel
theorem dX12_nameOf_77 : decode cX12_nameOf 77 = .ok (.iconst 4, 1) := by decide +kernel
theorem dX12_nameOf_78 : decode cX12_nameOf 78 = .ok (.iload_n 2, 1) := by decide +kernel
theorem dX12_nameOf_79 : decode cX12_nameOf 79 = .ok (.imul, 1) := by decide +kernel
theorem dX12_nameOf_80 : decode cX12_nameOf 80 = .ok (.iload 5, 2) := by decide +kernel
theorem dX12_nameOf_82 : decode cX12_nameOf 82 = .ok (.iadd, 1) := by decide +kernel
theorem dX12_nameOf_83 : decode cX12_nameOf 83 = .ok (.istore_n 2, 1) := by decide +kernel
theorem dX12_nameOf_84 : decode cX12_nameOf 84 = .ok (.iinc 4 1, 3) := by decide +kernel
theorem dX12_nameOf_87 : decode cX12_nameOf 87 = .ok (.goto (-56), 3) := by decide +kernel
theorem dX12_nameOf_90 : decode cX12_nameOf 90 = .ok (.iload_n 3, 1) := by decide +kernel
theorem dX12_nameOf_91 : decode cX12_nameOf 91 = .ok (.ifCond .eq 7, 3) := by decide +kernel
theorem dX12_nameOf_94 : decode cX12_nameOf 94 = .ok (.iload_n 2, 1) := by decide +kernel
theorem dX12_nameOf_95 : decode cX12_nameOf 95 = .ok (.goto 5, 3) := by decide +kernel
theorem dX12_nameOf_98 : decode cX12_nameOf 98 = .ok (.bipush (-9), 2) := by decide +kernel
theorem dX12_nameOf_100 : decode cX12_nameOf 100 = .ok (.ireturn, 1) := by decide +kernel
theorem dX12_names_0 : decode cX12_names 0 = .ok (.iconst 4, 1) := by decide +kernel
theorem dX12_names_1 : decode cX12_names 1 = .ok (.aload_n 0, 1) := by decide +kernel
theorem dX12_names_2 : decode cX12_names 2 = .ok (.getfield 13, 3) := by decide +kernel
theorem dX12_names_5 : decode cX12_names 5 = .ok (.invokestatic 121, 3) := by decide +kernel
theorem dX12_names_8 : decode cX12_names 8 = .ok (.ireturn, 1) := by decide +kernel
theorem dX12_doesRead_0 : decode cX12_doesRead 0 = .ok (.aload_n 1, 1) := by decide +kernel
theorem dX12_doesRead_1 : decode cX12_doesRead 1 = .ok (.iconst 1, 1) := by decide +kernel
theorem dX12_doesRead_2 : decode cX12_doesRead 2 = .ok (.iaload, 1) := by decide +kernel
theorem dX12_doesRead_3 : decode cX12_doesRead 3 = .ok (.aload_n 0, 1) := by decide +kernel
theorem dX12_doesRead_4 : decode cX12_doesRead 4 = .ok (.getfield 17, 3) := by decide +kernel
theorem dX12_doesRead_7 : decode cX12_doesRead 7 = .ok (.iload_n 2, 1) := by decide +kernel
theorem dX12_doesRead_8 : decode cX12_doesRead 8 = .ok (.iaload, 1) := by decide +kernel
theorem dX12_doesRead_9 : decode cX12_doesRead 9 = .ok (.irem, 1) := by decide +kernel
theorem dX12_doesRead_10 : decode cX12_doesRead 10 = .ok (.aload_n 0, 1) := by decide +kernel
theorem dX12_doesRead_11 : decode cX12_doesRead 11 = .ok (.getfield 20, 3) := by decide +kernel
theorem dX12_doesRead_14 : decode cX12_doesRead 14 = .ok (.iload_n 2, 1) := by decide +kernel
theorem dX12_doesRead_15 : decode cX12_doesRead 15 = .ok (.iaload, 1) := by decide +kernel
theorem dX12_doesRead_16 : decode cX12_doesRead 16 = .ok (.if_icmp .ne 7, 3) := by decide +kernel
theorem dX12_doesRead_19 : decode cX12_doesRead 19 = .ok (.iconst 1, 1) := by decide +kernel
theorem dX12_doesRead_20 : decode cX12_doesRead 20 = .ok (.goto 4, 3) := by decide +kernel
theorem dX12_doesRead_23 : decode cX12_doesRead 23 = .ok (.iconst 0, 1) := by decide +kernel
theorem dX12_doesRead_24 : decode cX12_doesRead 24 = .ok (.ireturn, 1) := by decide +kernel
theorem dX12_about_0 : decode cX12_about 0 = .ok (.aload_n 0, 1) := by decide +kernel
theorem dX12_about_1 : decode cX12_about 1 = .ok (.iconst 0, 1) := by decide +kernel
theorem dX12_about_2 : decode cX12_about 2 = .ok (.putfield 57, 3) := by decide +kernel
theorem dX12_about_5 : decode cX12_about 5 = .ok (.iconst 0, 1) := by decide +kernel
theorem dX12_about_6 : decode cX12_about 6 = .ok (.istore_n 2, 1) := by decide +kernel
theorem dX12_about_7 : decode cX12_about 7 = .ok (.iconst 0, 1) := by decide +kernel
theorem dX12_about_8 : decode cX12_about 8 = .ok (.istore_n 3, 1) := by decide +kernel
theorem dX12_about_9 : decode cX12_about 9 = .ok (.iconst 0, 1) := by decide +kernel
theorem dX12_about_10 : decode cX12_about 10 = .ok (.istore 4, 2) := by decide +kernel
theorem dX12_about_12 : decode cX12_about 12 = .ok (.iload 4, 2) := by decide +kernel
theorem dX12_about_14 : decode cX12_about 14 = .ok (.aload_n 0, 1) := by decide +kernel
theorem dX12_about_15 : decode cX12_about 15 = .ok (.getfield 69, 3) := by decide +kernel
theorem dX12_about_18 : decode cX12_about 18 = .ok (.if_icmp .ge 60, 3) := by decide +kernel
theorem dX12_about_21 : decode cX12_about 21 = .ok (.iload_n 2, 1) := by decide +kernel
theorem dX12_about_22 : decode cX12_about 22 = .ok (.aload_n 0, 1) := by decide +kernel
theorem dX12_about_23 : decode cX12_about 23 = .ok (.aload_n 0, 1) := by decide +kernel
theorem dX12_about_24 : decode cX12_about 24 = .ok (.getfield 32, 3) := by decide +kernel
theorem dX12_about_27 : decode cX12_about 27 = .ok (.iload 4, 2) := by decide +kernel
theorem dX12_about_29 : decode cX12_about 29 = .ok (.invokevirtual 131, 3) := by decide +kernel
theorem dX12_about_32 : decode cX12_about 32 = .ok (.ifCond .eq 10, 3) := by decide +kernel
theorem dX12_about_35 : decode cX12_about 35 = .ok (.iconst 1, 1) := by decide +kernel
theorem dX12_about_36 : decode cX12_about 36 = .ok (.iload 4, 2) := by decide +kernel
theorem dX12_about_38 : decode cX12_about 38 = .ok (.ishl, 1) := by decide +kernel
theorem dX12_about_39 : decode cX12_about 39 = .ok (.goto 4, 3) := by decide +kernel
theorem dX12_about_42 : decode cX12_about 42 = .ok (.iconst 0, 1) := by decide +kernel
theorem dX12_about_43 : decode cX12_about 43 = .ok (.ior, 1) := by decide +kernel
theorem dX12_about_44 : decode cX12_about 44 = .ok (.istore_n 2, 1) := by decide +kernel
theorem dX12_about_45 : decode cX12_about 45 = .ok (.iload_n 3, 1) := by decide +kernel
theorem dX12_about_46 : decode cX12_about 46 = .ok (.aload_n 0, 1) := by decide +kernel
theorem dX12_about_47 : decode cX12_about 47 = .ok (.getfield 32, 3) := by decide +kernel
theorem dX12_about_50 : decode cX12_about 50 = .ok (.iconst 5, 1) := by decide +kernel
theorem dX12_about_51 : decode cX12_about 51 = .ok (.iload 4, 2) := by decide +kernel
theorem dX12_about_53 : decode cX12_about 53 = .ok (.iadd, 1) := by decide +kernel
theorem dX12_about_54 : decode cX12_about 54 = .ok (.iaload, 1) := by decide +kernel
theorem dX12_about_55 : decode cX12_about 55 = .ok (.aload_n 0, 1) := by decide +kernel
theorem dX12_about_56 : decode cX12_about 56 = .ok (.getfield 115, 3) := by decide +kernel
theorem dX12_about_59 : decode cX12_about 59 = .ok (.if_icmp .ne 10, 3) := by decide +kernel
theorem dX12_about_62 : decode cX12_about 62 = .ok (.iconst 1, 1) := by decide +kernel
theorem dX12_about_63 : decode cX12_about 63 = .ok (.iload 4, 2) := by decide +kernel
theorem dX12_about_65 : decode cX12_about 65 = .ok (.ishl, 1) := by decide +kernel
theorem dX12_about_66 : decode cX12_about 66 = .ok (.goto 4, 3) := by decide +kernel
theorem dX12_about_69 : decode cX12_about 69 = .ok (.iconst 0, 1) := by decide +kernel
theorem dX12_about_70 : decode cX12_about 70 = .ok (.ior, 1) := by decide +kernel
theorem dX12_about_71 : decode cX12_about 71 = .ok (.istore_n 3, 1) := by decide +kernel
theorem dX12_about_72 : decode cX12_about 72 = .ok (.iinc 4 1, 3) := by decide +kernel
theorem dX12_about_75 : decode cX12_about 75 = .ok (.goto (-63), 3) := by decide +kernel
theorem dX12_about_78 : decode cX12_about 78 = .ok (.iload_n 1, 1) := by decide +kernel
theorem dX12_about_79 : decode cX12_about 79 = .ok (.tableswitch 124 0 10 #[57, 62, 67, 72, 81, 92, 103, 110, 112, 114, 119], 57) := by decide +kernel
theorem dX12_about_136 : decode cX12_about 136 = .ok (.aload_n 0, 1) := by decide +kernel
theorem dX12_about_137 : decode cX12_about 137 = .ok (.getfield 62, 3) := by decide +kernel
theorem dX12_about_140 : decode cX12_about 140 = .ok (.ireturn, 1) := by decide +kernel
theorem dX12_about_141 : decode cX12_about 141 = .ok (.aload_n 0, 1) := by decide +kernel
theorem dX12_about_142 : decode cX12_about 142 = .ok (.getfield 69, 3) := by decide +kernel
theorem dX12_about_145 : decode cX12_about 145 = .ok (.ireturn, 1) := by decide +kernel
theorem dX12_about_146 : decode cX12_about 146 = .ok (.aload_n 0, 1) := by decide +kernel
theorem dX12_about_147 : decode cX12_about 147 = .ok (.getfield 13, 3) := by decide +kernel
theorem dX12_about_150 : decode cX12_about 150 = .ok (.ireturn, 1) := by decide +kernel
theorem dX12_about_151 : decode cX12_about 151 = .ok (.aload_n 0, 1) := by decide +kernel
theorem dX12_about_152 : decode cX12_about 152 = .ok (.aload_n 0, 1) := by decide +kernel
theorem dX12_about_153 : decode cX12_about 153 = .ok (.getfield 115, 3) := by decide +kernel
theorem dX12_about_156 : decode cX12_about 156 = .ok (.invokevirtual 135, 3) := by decide +kernel
theorem dX12_about_159 : decode cX12_about 159 = .ok (.ireturn, 1) := by decide +kernel
theorem dX12_about_160 : decode cX12_about 160 = .ok (.aload_n 0, 1) := by decide +kernel
theorem dX12_about_161 : decode cX12_about 161 = .ok (.aload_n 0, 1) := by decide +kernel
theorem dX12_about_162 : decode cX12_about 162 = .ok (.getfield 32, 3) := by decide +kernel
theorem dX12_about_165 : decode cX12_about 165 = .ok (.iconst 0, 1) := by decide +kernel
theorem dX12_about_166 : decode cX12_about 166 = .ok (.iaload, 1) := by decide +kernel
theorem dX12_about_167 : decode cX12_about 167 = .ok (.invokevirtual 135, 3) := by decide +kernel
theorem dX12_about_170 : decode cX12_about 170 = .ok (.ireturn, 1) := by decide +kernel
theorem dX12_about_171 : decode cX12_about 171 = .ok (.aload_n 0, 1) := by decide +kernel
theorem dX12_about_172 : decode cX12_about 172 = .ok (.aload_n 0, 1) := by decide +kernel
theorem dX12_about_173 : decode cX12_about 173 = .ok (.getfield 32, 3) := by decide +kernel
theorem dX12_about_176 : decode cX12_about 176 = .ok (.iconst 0, 1) := by decide +kernel
theorem dX12_about_177 : decode cX12_about 177 = .ok (.iaload, 1) := by decide +kernel
theorem dX12_about_178 : decode cX12_about 178 = .ok (.invokevirtual 139, 3) := by decide +kernel
theorem dX12_about_181 : decode cX12_about 181 = .ok (.ireturn, 1) := by decide +kernel
theorem dX12_about_182 : decode cX12_about 182 = .ok (.aload_n 0, 1) := by decide +kernel
theorem dX12_about_183 : decode cX12_about 183 = .ok (.getfield 32, 3) := by decide +kernel
theorem dX12_about_186 : decode cX12_about 186 = .ok (.iconst 1, 1) := by decide +kernel
theorem dX12_about_187 : decode cX12_about 187 = .ok (.iaload, 1) := by decide +kernel
theorem dX12_about_188 : decode cX12_about 188 = .ok (.ireturn, 1) := by decide +kernel
theorem dX12_about_189 : decode cX12_about 189 = .ok (.iload_n 2, 1) := by decide +kernel
theorem dX12_about_190 : decode cX12_about 190 = .ok (.ireturn, 1) := by decide +kernel
theorem dX12_about_191 : decode cX12_about 191 = .ok (.iload_n 3, 1) := by decide +kernel
theorem dX12_about_192 : decode cX12_about 192 = .ok (.ireturn, 1) := by decide +kernel
theorem dX12_about_193 : decode cX12_about 193 = .ok (.aload_n 0, 1) := by decide +kernel
theorem dX12_about_194 : decode cX12_about 194 = .ok (.getfield 118, 3) := by decide +kernel
theorem dX12_about_197 : decode cX12_about 197 = .ok (.ireturn, 1) := by decide +kernel
theorem dX12_about_198 : decode cX12_about 198 = .ok (.aload_n 0, 1) := by decide +kernel
theorem dX12_about_199 : decode cX12_about 199 = .ok (.getfield 76, 3) := by decide +kernel
theorem dX12_about_202 : decode cX12_about 202 = .ok (.ireturn, 1) := by decide +kernel
theorem dX12_about_203 : decode cX12_about 203 = .ok (.bipush (-2), 2) := by decide +kernel
theorem dX12_about_205 : decode cX12_about 205 = .ok (.ireturn, 1) := by decide +kernel
theorem dX12_kind_0 : decode cX12_kind 0 = .ok (.aload_n 0, 1) := by decide +kernel
theorem dX12_kind_1 : decode cX12_kind 1 = .ok (.iconst 0, 1) := by decide +kernel
theorem dX12_kind_2 : decode cX12_kind 2 = .ok (.putfield 57, 3) := by decide +kernel
theorem dX12_kind_5 : decode cX12_kind 5 = .ok (.aload_n 0, 1) := by decide +kernel
theorem dX12_kind_6 : decode cX12_kind 6 = .ok (.iload_n 1, 1) := by decide +kernel
theorem dX12_kind_7 : decode cX12_kind 7 = .ok (.invokevirtual 142, 3) := by decide +kernel
theorem dX12_kind_10 : decode cX12_kind 10 = .ok (.ifCond .eq 7, 3) := by decide +kernel
theorem dX12_kind_13 : decode cX12_kind 13 = .ok (.iconst (-1), 1) := by decide +kernel
theorem dX12_kind_14 : decode cX12_kind 14 = .ok (.goto 11, 3) := by decide +kernel
theorem dX12_kind_17 : decode cX12_kind 17 = .ok (.aload_n 0, 1) := by decide +kernel
theorem dX12_kind_18 : decode cX12_kind 18 = .ok (.getfield 32, 3) := by decide +kernel
theorem dX12_kind_21 : decode cX12_kind 21 = .ok (.iconst 2, 1) := by decide +kernel
theorem dX12_kind_22 : decode cX12_kind 22 = .ok (.iload_n 1, 1) := by decide +kernel
theorem dX12_kind_23 : decode cX12_kind 23 = .ok (.iadd, 1) := by decide +kernel
theorem dX12_kind_24 : decode cX12_kind 24 = .ok (.iaload, 1) := by decide +kernel
theorem dX12_kind_25 : decode cX12_kind 25 = .ok (.ireturn, 1) := by decide +kernel
theorem dX12_reader_0 : decode cX12_reader 0 = .ok (.aload_n 0, 1) := by decide +kernel
theorem dX12_reader_1 : decode cX12_reader 1 = .ok (.iconst 0, 1) := by decide +kernel
theorem dX12_reader_2 : decode cX12_reader 2 = .ok (.putfield 57, 3) := by decide +kernel
theorem dX12_reader_5 : decode cX12_reader 5 = .ok (.aload_n 0, 1) := by decide +kernel
theorem dX12_reader_6 : decode cX12_reader 6 = .ok (.iload_n 1, 1) := by decide +kernel
theorem dX12_reader_7 : decode cX12_reader 7 = .ok (.invokevirtual 146, 3) := by decide +kernel
theorem dX12_reader_10 : decode cX12_reader 10 = .ok (.ifCond .eq 5, 3) := by decide +kernel
theorem dX12_reader_13 : decode cX12_reader 13 = .ok (.iconst (-1), 1) := by decide +kernel
theorem dX12_reader_14 : decode cX12_reader 14 = .ok (.ireturn, 1) := by decide +kernel
theorem dX12_reader_15 : decode cX12_reader 15 = .ok (.iload_n 2, 1) := by decide +kernel
theorem dX12_reader_16 : decode cX12_reader 16 = .ok (.tableswitch 72 0 3 #[32, 39, 46, 59], 32) := by decide +kernel
theorem dX12_reader_48 : decode cX12_reader 48 = .ok (.aload_n 0, 1) := by decide +kernel
theorem dX12_reader_49 : decode cX12_reader 49 = .ok (.getfield 17, 3) := by decide +kernel
theorem dX12_reader_52 : decode cX12_reader 52 = .ok (.iload_n 1, 1) := by decide +kernel
theorem dX12_reader_53 : decode cX12_reader 53 = .ok (.iaload, 1) := by decide +kernel
theorem dX12_reader_54 : decode cX12_reader 54 = .ok (.ireturn, 1) := by decide +kernel
theorem dX12_reader_55 : decode cX12_reader 55 = .ok (.aload_n 0, 1) := by decide +kernel
theorem dX12_reader_56 : decode cX12_reader 56 = .ok (.getfield 20, 3) := by decide +kernel
theorem dX12_reader_59 : decode cX12_reader 59 = .ok (.iload_n 1, 1) := by decide +kernel
theorem dX12_reader_60 : decode cX12_reader 60 = .ok (.iaload, 1) := by decide +kernel
theorem dX12_reader_61 : decode cX12_reader 61 = .ok (.ireturn, 1) := by decide +kernel
theorem dX12_reader_62 : decode cX12_reader 62 = .ok (.aload_n 0, 1) := by decide +kernel
theorem dX12_reader_63 : decode cX12_reader 63 = .ok (.aload_n 0, 1) := by decide +kernel
theorem dX12_reader_64 : decode cX12_reader 64 = .ok (.getfield 32, 3) := by decide +kernel
theorem dX12_reader_67 : decode cX12_reader 67 = .ok (.iconst 5, 1) := by decide +kernel
theorem dX12_reader_68 : decode cX12_reader 68 = .ok (.iload_n 1, 1) := by decide +kernel
theorem dX12_reader_69 : decode cX12_reader 69 = .ok (.iadd, 1) := by decide +kernel
theorem dX12_reader_70 : decode cX12_reader 70 = .ok (.iaload, 1) := by decide +kernel
theorem dX12_reader_71 : decode cX12_reader 71 = .ok (.invokevirtual 135, 3) := by decide +kernel
theorem dX12_reader_74 : decode cX12_reader 74 = .ok (.ireturn, 1) := by decide +kernel
theorem dX12_reader_75 : decode cX12_reader 75 = .ok (.aload_n 0, 1) := by decide +kernel
theorem dX12_reader_76 : decode cX12_reader 76 = .ok (.aload_n 0, 1) := by decide +kernel
theorem dX12_reader_77 : decode cX12_reader 77 = .ok (.getfield 32, 3) := by decide +kernel
theorem dX12_reader_80 : decode cX12_reader 80 = .ok (.iconst 5, 1) := by decide +kernel
theorem dX12_reader_81 : decode cX12_reader 81 = .ok (.iload_n 1, 1) := by decide +kernel
theorem dX12_reader_82 : decode cX12_reader 82 = .ok (.iadd, 1) := by decide +kernel
theorem dX12_reader_83 : decode cX12_reader 83 = .ok (.iaload, 1) := by decide +kernel
theorem dX12_reader_84 : decode cX12_reader 84 = .ok (.invokevirtual 139, 3) := by decide +kernel
theorem dX12_reader_87 : decode cX12_reader 87 = .ok (.ireturn, 1) := by decide +kernel
theorem dX12_reader_88 : decode cX12_reader 88 = .ok (.bipush (-2), 2) := by decide +kernel
theorem dX12_reader_90 : decode cX12_reader 90 = .ok (.ireturn, 1) := by decide +kernel
theorem dX12_note_0 : decode cX12_note 0 = .ok (.aload_n 0, 1) := by decide +kernel
theorem dX12_note_1 : decode cX12_note 1 = .ok (.getfield 118, 3) := by decide +kernel
theorem dX12_note_4 : decode cX12_note 4 = .ok (.bipush 14, 2) := by decide +kernel
theorem dX12_note_6 : decode cX12_note 6 = .ok (.if_icmp .ne 42, 3) := by decide +kernel
theorem dX12_note_9 : decode cX12_note 9 = .ok (.iconst 0, 1) := by decide +kernel
theorem dX12_note_10 : decode cX12_note 10 = .ok (.istore_n 1, 1) := by decide +kernel
theorem dX12_note_11 : decode cX12_note 11 = .ok (.iload_n 1, 1) := by decide +kernel
theorem dX12_note_12 : decode cX12_note 12 = .ok (.bipush 117, 2) := by decide +kernel
theorem dX12_note_14 : decode cX12_note 14 = .ok (.if_icmp .ge 24, 3) := by decide +kernel
theorem dX12_note_17 : decode cX12_note 17 = .ok (.aload_n 0, 1) := by decide +kernel
theorem dX12_note_18 : decode cX12_note 18 = .ok (.getfield 38, 3) := by decide +kernel
theorem dX12_note_21 : decode cX12_note 21 = .ok (.iload_n 1, 1) := by decide +kernel
theorem dX12_note_22 : decode cX12_note 22 = .ok (.aload_n 0, 1) := by decide +kernel
theorem dX12_note_23 : decode cX12_note 23 = .ok (.getfield 38, 3) := by decide +kernel
theorem dX12_note_26 : decode cX12_note 26 = .ok (.iload_n 1, 1) := by decide +kernel
theorem dX12_note_27 : decode cX12_note 27 = .ok (.bipush 9, 2) := by decide +kernel
theorem dX12_note_29 : decode cX12_note 29 = .ok (.iadd, 1) := by decide +kernel
theorem dX12_note_30 : decode cX12_note 30 = .ok (.iaload, 1) := by decide +kernel
theorem dX12_note_31 : decode cX12_note 31 = .ok (.iastore, 1) := by decide +kernel
theorem dX12_note_32 : decode cX12_note 32 = .ok (.iinc 1 1, 3) := by decide +kernel
theorem dX12_note_35 : decode cX12_note 35 = .ok (.goto (-24), 3) := by decide +kernel
theorem dX12_note_38 : decode cX12_note 38 = .ok (.aload_n 0, 1) := by decide +kernel
theorem dX12_note_39 : decode cX12_note 39 = .ok (.dup, 1) := by decide +kernel
theorem dX12_note_40 : decode cX12_note 40 = .ok (.getfield 118, 3) := by decide +kernel
theorem dX12_note_43 : decode cX12_note 43 = .ok (.iconst 1, 1) := by decide +kernel
theorem dX12_note_44 : decode cX12_note 44 = .ok (.isub, 1) := by decide +kernel
theorem dX12_note_45 : decode cX12_note 45 = .ok (.putfield 118, 3) := by decide +kernel
theorem dX12_note_48 : decode cX12_note 48 = .ok (.iconst 0, 1) := by decide +kernel
theorem dX12_note_49 : decode cX12_note 49 = .ok (.istore_n 1, 1) := by decide +kernel
theorem dX12_note_50 : decode cX12_note 50 = .ok (.iload_n 1, 1) := by decide +kernel
theorem dX12_note_51 : decode cX12_note 51 = .ok (.bipush 9, 2) := by decide +kernel
theorem dX12_note_53 : decode cX12_note 53 = .ok (.if_icmp .ge 29, 3) := by decide +kernel
theorem dX12_note_56 : decode cX12_note 56 = .ok (.aload_n 0, 1) := by decide +kernel
theorem dX12_note_57 : decode cX12_note 57 = .ok (.getfield 38, 3) := by decide +kernel
theorem dX12_note_60 : decode cX12_note 60 = .ok (.bipush 9, 2) := by decide +kernel
theorem dX12_note_62 : decode cX12_note 62 = .ok (.aload_n 0, 1) := by decide +kernel
theorem dX12_note_63 : decode cX12_note 63 = .ok (.getfield 118, 3) := by decide +kernel
theorem dX12_note_66 : decode cX12_note 66 = .ok (.imul, 1) := by decide +kernel
theorem dX12_note_67 : decode cX12_note 67 = .ok (.iload_n 1, 1) := by decide +kernel
theorem dX12_note_68 : decode cX12_note 68 = .ok (.iadd, 1) := by decide +kernel
theorem dX12_note_69 : decode cX12_note 69 = .ok (.aload_n 0, 1) := by decide +kernel
theorem dX12_note_70 : decode cX12_note 70 = .ok (.getfield 32, 3) := by decide +kernel
theorem dX12_note_73 : decode cX12_note 73 = .ok (.iload_n 1, 1) := by decide +kernel
theorem dX12_note_74 : decode cX12_note 74 = .ok (.iaload, 1) := by decide +kernel
theorem dX12_note_75 : decode cX12_note 75 = .ok (.iastore, 1) := by decide +kernel
theorem dX12_note_76 : decode cX12_note 76 = .ok (.iinc 1 1, 3) := by decide +kernel
theorem dX12_note_79 : decode cX12_note 79 = .ok (.goto (-29), 3) := by decide +kernel
theorem dX12_note_82 : decode cX12_note 82 = .ok (.aload_n 0, 1) := by decide +kernel
theorem dX12_note_83 : decode cX12_note 83 = .ok (.dup, 1) := by decide +kernel
theorem dX12_note_84 : decode cX12_note 84 = .ok (.getfield 118, 3) := by decide +kernel
theorem dX12_note_87 : decode cX12_note 87 = .ok (.iconst 1, 1) := by decide +kernel
theorem dX12_note_88 : decode cX12_note 88 = .ok (.iadd, 1) := by decide +kernel
theorem dX12_note_89 : decode cX12_note 89 = .ok (.putfield 118, 3) := by decide +kernel
theorem dX12_note_92 : decode cX12_note 92 = .ok (.return_, 1) := by decide +kernel
theorem dX12_goPrint_0 : decode cX12_goPrint 0 = .ok (.aload_n 1, 1) := by decide +kernel
theorem dX12_goPrint_1 : decode cX12_goPrint 1 = .ok (.iconst 0, 1) := by decide +kernel
theorem dX12_goPrint_2 : decode cX12_goPrint 2 = .ok (.aload_n 0, 1) := by decide +kernel
theorem dX12_goPrint_3 : decode cX12_goPrint 3 = .ok (.aload_n 1, 1) := by decide +kernel
theorem dX12_goPrint_4 : decode cX12_goPrint 4 = .ok (.iconst 0, 1) := by decide +kernel
theorem dX12_goPrint_5 : decode cX12_goPrint 5 = .ok (.iaload, 1) := by decide +kernel
theorem dX12_goPrint_6 : decode cX12_goPrint 6 = .ok (.aload_n 1, 1) := by decide +kernel
theorem dX12_goPrint_7 : decode cX12_goPrint 7 = .ok (.iconst 2, 1) := by decide +kernel
theorem dX12_goPrint_8 : decode cX12_goPrint 8 = .ok (.iload_n 2, 1) := by decide +kernel
theorem dX12_goPrint_9 : decode cX12_goPrint 9 = .ok (.iadd, 1) := by decide +kernel
theorem dX12_goPrint_10 : decode cX12_goPrint 10 = .ok (.iaload, 1) := by decide +kernel
theorem dX12_goPrint_11 : decode cX12_goPrint 11 = .ok (.iload_n 3, 1) := by decide +kernel
theorem dX12_goPrint_12 : decode cX12_goPrint 12 = .ok (.iload 4, 2) := by decide +kernel
theorem dX12_goPrint_14 : decode cX12_goPrint 14 = .ok (.invokevirtual 149, 3) := by decide +kernel
theorem dX12_goPrint_17 : decode cX12_goPrint 17 = .ok (.iastore, 1) := by decide +kernel
theorem dX12_goPrint_18 : decode cX12_goPrint 18 = .ok (.iconst 0, 1) := by decide +kernel
theorem dX12_goPrint_19 : decode cX12_goPrint 19 = .ok (.istore 5, 2) := by decide +kernel
theorem dX12_goPrint_21 : decode cX12_goPrint 21 = .ok (.iload 5, 2) := by decide +kernel
theorem dX12_goPrint_23 : decode cX12_goPrint 23 = .ok (.aload_n 0, 1) := by decide +kernel
theorem dX12_goPrint_24 : decode cX12_goPrint 24 = .ok (.getfield 69, 3) := by decide +kernel
theorem dX12_goPrint_27 : decode cX12_goPrint 27 = .ok (.if_icmp .ge 43, 3) := by decide +kernel
theorem dX12_goPrint_30 : decode cX12_goPrint 30 = .ok (.aload_n 0, 1) := by decide +kernel
theorem dX12_goPrint_31 : decode cX12_goPrint 31 = .ok (.aload_n 1, 1) := by decide +kernel
theorem dX12_goPrint_32 : decode cX12_goPrint 32 = .ok (.iload 5, 2) := by decide +kernel
theorem dX12_goPrint_34 : decode cX12_goPrint 34 = .ok (.invokevirtual 131, 3) := by decide +kernel
theorem dX12_goPrint_37 : decode cX12_goPrint 37 = .ok (.ifCond .eq 27, 3) := by decide +kernel
theorem dX12_goPrint_40 : decode cX12_goPrint 40 = .ok (.aload_n 1, 1) := by decide +kernel
theorem dX12_goPrint_41 : decode cX12_goPrint 41 = .ok (.iconst 5, 1) := by decide +kernel
theorem dX12_goPrint_42 : decode cX12_goPrint 42 = .ok (.iload 5, 2) := by decide +kernel
theorem dX12_goPrint_44 : decode cX12_goPrint 44 = .ok (.iadd, 1) := by decide +kernel
theorem dX12_goPrint_45 : decode cX12_goPrint 45 = .ok (.aload_n 0, 1) := by decide +kernel
theorem dX12_goPrint_46 : decode cX12_goPrint 46 = .ok (.aload_n 1, 1) := by decide +kernel
theorem dX12_goPrint_47 : decode cX12_goPrint 47 = .ok (.iconst 5, 1) := by decide +kernel
theorem dX12_goPrint_48 : decode cX12_goPrint 48 = .ok (.iload 5, 2) := by decide +kernel
theorem dX12_goPrint_50 : decode cX12_goPrint 50 = .ok (.iadd, 1) := by decide +kernel
theorem dX12_goPrint_51 : decode cX12_goPrint 51 = .ok (.iaload, 1) := by decide +kernel
theorem dX12_goPrint_52 : decode cX12_goPrint 52 = .ok (.aload_n 1, 1) := by decide +kernel
theorem dX12_goPrint_53 : decode cX12_goPrint 53 = .ok (.iconst 2, 1) := by decide +kernel
theorem dX12_goPrint_54 : decode cX12_goPrint 54 = .ok (.iload_n 2, 1) := by decide +kernel
theorem dX12_goPrint_55 : decode cX12_goPrint 55 = .ok (.iadd, 1) := by decide +kernel
theorem dX12_goPrint_56 : decode cX12_goPrint 56 = .ok (.iaload, 1) := by decide +kernel
theorem dX12_goPrint_57 : decode cX12_goPrint 57 = .ok (.iload_n 3, 1) := by decide +kernel
theorem dX12_goPrint_58 : decode cX12_goPrint 58 = .ok (.iload 4, 2) := by decide +kernel
theorem dX12_goPrint_60 : decode cX12_goPrint 60 = .ok (.invokevirtual 149, 3) := by decide +kernel
theorem dX12_goPrint_63 : decode cX12_goPrint 63 = .ok (.iastore, 1) := by decide +kernel
theorem dX12_goPrint_64 : decode cX12_goPrint 64 = .ok (.iinc 5 1, 3) := by decide +kernel
theorem dX12_goPrint_67 : decode cX12_goPrint 67 = .ok (.goto (-46), 3) := by decide +kernel
theorem dX12_goPrint_70 : decode cX12_goPrint 70 = .ok (.aload_n 1, 1) := by decide +kernel
theorem dX12_goPrint_71 : decode cX12_goPrint 71 = .ok (.iconst 1, 1) := by decide +kernel
theorem dX12_goPrint_72 : decode cX12_goPrint 72 = .ok (.dup2, 1) := by decide +kernel
theorem dX12_goPrint_73 : decode cX12_goPrint 73 = .ok (.iaload, 1) := by decide +kernel
theorem dX12_goPrint_74 : decode cX12_goPrint 74 = .ok (.iconst 1, 1) := by decide +kernel
theorem dX12_goPrint_75 : decode cX12_goPrint 75 = .ok (.iadd, 1) := by decide +kernel
theorem dX12_goPrint_76 : decode cX12_goPrint 76 = .ok (.iastore, 1) := by decide +kernel
theorem dX12_goPrint_77 : decode cX12_goPrint 77 = .ok (.return_, 1) := by decide +kernel
theorem dX12_print_0 : decode cX12_print 0 = .ok (.aload_n 0, 1) := by decide +kernel
theorem dX12_print_1 : decode cX12_print 1 = .ok (.iconst 0, 1) := by decide +kernel
theorem dX12_print_2 : decode cX12_print 2 = .ok (.putfield 57, 3) := by decide +kernel
theorem dX12_print_5 : decode cX12_print 5 = .ok (.aload_n 0, 1) := by decide +kernel
theorem dX12_print_6 : decode cX12_print 6 = .ok (.iload_n 1, 1) := by decide +kernel
theorem dX12_print_7 : decode cX12_print 7 = .ok (.invokevirtual 142, 3) := by decide +kernel
theorem dX12_print_10 : decode cX12_print 10 = .ok (.ifCond .eq 5, 3) := by decide +kernel
theorem dX12_print_13 : decode cX12_print 13 = .ok (.iconst (-1), 1) := by decide +kernel
theorem dX12_print_14 : decode cX12_print 14 = .ok (.ireturn, 1) := by decide +kernel
theorem dX12_print_15 : decode cX12_print 15 = .ok (.aload_n 0, 1) := by decide +kernel
theorem dX12_print_16 : decode cX12_print 16 = .ok (.iload_n 2, 1) := by decide +kernel
theorem dX12_print_17 : decode cX12_print 17 = .ok (.invokevirtual 153, 3) := by decide +kernel
theorem dX12_print_20 : decode cX12_print 20 = .ok (.ifCond .ne 10, 3) := by decide +kernel
theorem dX12_print_23 : decode cX12_print 23 = .ok (.iload_n 3, 1) := by decide +kernel
theorem dX12_print_24 : decode cX12_print 24 = .ok (.invokestatic 156, 3) := by decide +kernel
theorem dX12_print_27 : decode cX12_print 27 = .ok (.ifCond .eq 6, 3) := by decide +kernel
theorem dX12_print_30 : decode cX12_print 30 = .ok (.bipush (-2), 2) := by decide +kernel
theorem dX12_print_32 : decode cX12_print 32 = .ok (.ireturn, 1) := by decide +kernel
theorem dX12_print_33 : decode cX12_print 33 = .ok (.aload_n 0, 1) := by decide +kernel
theorem dX12_print_34 : decode cX12_print 34 = .ok (.invokevirtual 159, 3) := by decide +kernel
theorem dX12_print_37 : decode cX12_print 37 = .ok (.aload_n 0, 1) := by decide +kernel
theorem dX12_print_38 : decode cX12_print 38 = .ok (.aload_n 0, 1) := by decide +kernel
theorem dX12_print_39 : decode cX12_print 39 = .ok (.getfield 32, 3) := by decide +kernel
theorem dX12_print_42 : decode cX12_print 42 = .ok (.iload_n 1, 1) := by decide +kernel
theorem dX12_print_43 : decode cX12_print 43 = .ok (.iload_n 2, 1) := by decide +kernel
theorem dX12_print_44 : decode cX12_print 44 = .ok (.iload_n 3, 1) := by decide +kernel
theorem dX12_print_45 : decode cX12_print 45 = .ok (.invokevirtual 162, 3) := by decide +kernel
theorem dX12_print_48 : decode cX12_print 48 = .ok (.aload_n 0, 1) := by decide +kernel
theorem dX12_print_49 : decode cX12_print 49 = .ok (.aload_n 0, 1) := by decide +kernel
theorem dX12_print_50 : decode cX12_print 50 = .ok (.getfield 32, 3) := by decide +kernel
theorem dX12_print_53 : decode cX12_print 53 = .ok (.iconst 0, 1) := by decide +kernel
theorem dX12_print_54 : decode cX12_print 54 = .ok (.iaload, 1) := by decide +kernel
theorem dX12_print_55 : decode cX12_print 55 = .ok (.invokevirtual 135, 3) := by decide +kernel
theorem dX12_print_58 : decode cX12_print 58 = .ok (.ireturn, 1) := by decide +kernel
theorem dX12_quiet_0 : decode cX12_quiet 0 = .ok (.aload_n 0, 1) := by decide +kernel
theorem dX12_quiet_1 : decode cX12_quiet 1 = .ok (.iconst 0, 1) := by decide +kernel
theorem dX12_quiet_2 : decode cX12_quiet 2 = .ok (.putfield 57, 3) := by decide +kernel
theorem dX12_quiet_5 : decode cX12_quiet 5 = .ok (.aload_n 0, 1) := by decide +kernel
theorem dX12_quiet_6 : decode cX12_quiet 6 = .ok (.invokevirtual 159, 3) := by decide +kernel
theorem dX12_quiet_9 : decode cX12_quiet 9 = .ok (.aload_n 0, 1) := by decide +kernel
theorem dX12_quiet_10 : decode cX12_quiet 10 = .ok (.getfield 32, 3) := by decide +kernel
theorem dX12_quiet_13 : decode cX12_quiet 13 = .ok (.iconst 1, 1) := by decide +kernel
theorem dX12_quiet_14 : decode cX12_quiet 14 = .ok (.dup2, 1) := by decide +kernel
theorem dX12_quiet_15 : decode cX12_quiet 15 = .ok (.iaload, 1) := by decide +kernel
theorem dX12_quiet_16 : decode cX12_quiet 16 = .ok (.iconst 1, 1) := by decide +kernel
theorem dX12_quiet_17 : decode cX12_quiet 17 = .ok (.iadd, 1) := by decide +kernel
theorem dX12_quiet_18 : decode cX12_quiet 18 = .ok (.iastore, 1) := by decide +kernel
theorem dX12_quiet_19 : decode cX12_quiet 19 = .ok (.aload_n 0, 1) := by decide +kernel
theorem dX12_quiet_20 : decode cX12_quiet 20 = .ok (.getfield 32, 3) := by decide +kernel
theorem dX12_quiet_23 : decode cX12_quiet 23 = .ok (.iconst 1, 1) := by decide +kernel
theorem dX12_quiet_24 : decode cX12_quiet 24 = .ok (.iaload, 1) := by decide +kernel
theorem dX12_quiet_25 : decode cX12_quiet 25 = .ok (.ireturn, 1) := by decide +kernel
theorem dX12_tell_0 : decode cX12_tell 0 = .ok (.aload_n 0, 1) := by decide +kernel
theorem dX12_tell_1 : decode cX12_tell 1 = .ok (.iconst 0, 1) := by decide +kernel
theorem dX12_tell_2 : decode cX12_tell 2 = .ok (.putfield 57, 3) := by decide +kernel
theorem dX12_tell_5 : decode cX12_tell 5 = .ok (.aload_n 0, 1) := by decide +kernel
theorem dX12_tell_6 : decode cX12_tell 6 = .ok (.iload_n 1, 1) := by decide +kernel
theorem dX12_tell_7 : decode cX12_tell 7 = .ok (.invokevirtual 146, 3) := by decide +kernel
theorem dX12_tell_10 : decode cX12_tell 10 = .ok (.ifCond .ne 11, 3) := by decide +kernel
theorem dX12_tell_13 : decode cX12_tell 13 = .ok (.aload_n 0, 1) := by decide +kernel
theorem dX12_tell_14 : decode cX12_tell 14 = .ok (.iload_n 2, 1) := by decide +kernel
theorem dX12_tell_15 : decode cX12_tell 15 = .ok (.invokevirtual 146, 3) := by decide +kernel
theorem dX12_tell_18 : decode cX12_tell 18 = .ok (.ifCond .eq 5, 3) := by decide +kernel
theorem dX12_tell_21 : decode cX12_tell 21 = .ok (.iconst (-1), 1) := by decide +kernel
theorem dX12_tell_22 : decode cX12_tell 22 = .ok (.ireturn, 1) := by decide +kernel
theorem dX12_tell_23 : decode cX12_tell 23 = .ok (.iload_n 1, 1) := by decide +kernel
theorem dX12_tell_24 : decode cX12_tell 24 = .ok (.iload_n 2, 1) := by decide +kernel
theorem dX12_tell_25 : decode cX12_tell 25 = .ok (.if_icmp .ne 6, 3) := by decide +kernel
theorem dX12_tell_28 : decode cX12_tell 28 = .ok (.bipush (-2), 2) := by decide +kernel
theorem dX12_tell_30 : decode cX12_tell 30 = .ok (.ireturn, 1) := by decide +kernel
theorem dX12_tell_31 : decode cX12_tell 31 = .ok (.aload_n 0, 1) := by decide +kernel
theorem dX12_tell_32 : decode cX12_tell 32 = .ok (.getfield 32, 3) := by decide +kernel
theorem dX12_tell_35 : decode cX12_tell 35 = .ok (.iconst 5, 1) := by decide +kernel
theorem dX12_tell_36 : decode cX12_tell 36 = .ok (.iload_n 1, 1) := by decide +kernel
theorem dX12_tell_37 : decode cX12_tell 37 = .ok (.iadd, 1) := by decide +kernel
theorem dX12_tell_38 : decode cX12_tell 38 = .ok (.iaload, 1) := by decide +kernel
theorem dX12_tell_39 : decode cX12_tell 39 = .ok (.aload_n 0, 1) := by decide +kernel
theorem dX12_tell_40 : decode cX12_tell 40 = .ok (.getfield 32, 3) := by decide +kernel
theorem dX12_tell_43 : decode cX12_tell 43 = .ok (.iconst 5, 1) := by decide +kernel
theorem dX12_tell_44 : decode cX12_tell 44 = .ok (.iload_n 2, 1) := by decide +kernel
theorem dX12_tell_45 : decode cX12_tell 45 = .ok (.iadd, 1) := by decide +kernel
theorem dX12_tell_46 : decode cX12_tell 46 = .ok (.iaload, 1) := by decide +kernel
theorem dX12_tell_47 : decode cX12_tell 47 = .ok (.if_icmp .ne 6, 3) := by decide +kernel
theorem dX12_tell_50 : decode cX12_tell 50 = .ok (.bipush (-3), 2) := by decide +kernel
theorem dX12_tell_52 : decode cX12_tell 52 = .ok (.ireturn, 1) := by decide +kernel
theorem dX12_tell_53 : decode cX12_tell 53 = .ok (.aload_n 0, 1) := by decide +kernel
theorem dX12_tell_54 : decode cX12_tell 54 = .ok (.invokevirtual 159, 3) := by decide +kernel
theorem dX12_tell_57 : decode cX12_tell 57 = .ok (.aload_n 0, 1) := by decide +kernel
theorem dX12_tell_58 : decode cX12_tell 58 = .ok (.getfield 32, 3) := by decide +kernel
theorem dX12_tell_61 : decode cX12_tell 61 = .ok (.iconst 5, 1) := by decide +kernel
theorem dX12_tell_62 : decode cX12_tell 62 = .ok (.iload_n 1, 1) := by decide +kernel
theorem dX12_tell_63 : decode cX12_tell 63 = .ok (.iadd, 1) := by decide +kernel
theorem dX12_tell_64 : decode cX12_tell 64 = .ok (.aload_n 0, 1) := by decide +kernel
theorem dX12_tell_65 : decode cX12_tell 65 = .ok (.getfield 32, 3) := by decide +kernel
theorem dX12_tell_68 : decode cX12_tell 68 = .ok (.iconst 5, 1) := by decide +kernel
theorem dX12_tell_69 : decode cX12_tell 69 = .ok (.iload_n 2, 1) := by decide +kernel
theorem dX12_tell_70 : decode cX12_tell 70 = .ok (.iadd, 1) := by decide +kernel
theorem dX12_tell_71 : decode cX12_tell 71 = .ok (.iaload, 1) := by decide +kernel
theorem dX12_tell_72 : decode cX12_tell 72 = .ok (.iastore, 1) := by decide +kernel
theorem dX12_tell_73 : decode cX12_tell 73 = .ok (.aload_n 0, 1) := by decide +kernel
theorem dX12_tell_74 : decode cX12_tell 74 = .ok (.aload_n 0, 1) := by decide +kernel
theorem dX12_tell_75 : decode cX12_tell 75 = .ok (.getfield 32, 3) := by decide +kernel
theorem dX12_tell_78 : decode cX12_tell 78 = .ok (.iconst 5, 1) := by decide +kernel
theorem dX12_tell_79 : decode cX12_tell 79 = .ok (.iload_n 1, 1) := by decide +kernel
theorem dX12_tell_80 : decode cX12_tell 80 = .ok (.iadd, 1) := by decide +kernel
theorem dX12_tell_81 : decode cX12_tell 81 = .ok (.iaload, 1) := by decide +kernel
theorem dX12_tell_82 : decode cX12_tell 82 = .ok (.invokevirtual 135, 3) := by decide +kernel
theorem dX12_tell_85 : decode cX12_tell 85 = .ok (.ireturn, 1) := by decide +kernel
theorem dX12_learn_0 : decode cX12_learn 0 = .ok (.aload_n 0, 1) := by decide +kernel
theorem dX12_learn_1 : decode cX12_learn 1 = .ok (.iconst 0, 1) := by decide +kernel
theorem dX12_learn_2 : decode cX12_learn 2 = .ok (.putfield 57, 3) := by decide +kernel
theorem dX12_learn_5 : decode cX12_learn 5 = .ok (.aload_n 0, 1) := by decide +kernel
theorem dX12_learn_6 : decode cX12_learn 6 = .ok (.iload_n 1, 1) := by decide +kernel
theorem dX12_learn_7 : decode cX12_learn 7 = .ok (.invokevirtual 142, 3) := by decide +kernel
theorem dX12_learn_10 : decode cX12_learn 10 = .ok (.ifCond .eq 5, 3) := by decide +kernel
theorem dX12_learn_13 : decode cX12_learn 13 = .ok (.iconst (-1), 1) := by decide +kernel
theorem dX12_learn_14 : decode cX12_learn 14 = .ok (.ireturn, 1) := by decide +kernel
theorem dX12_learn_15 : decode cX12_learn 15 = .ok (.iload_n 2, 1) := by decide +kernel
theorem dX12_learn_16 : decode cX12_learn 16 = .ok (.i2l, 1) := by decide +kernel
theorem dX12_learn_17 : decode cX12_learn 17 = .ok (.lconst 0, 1) := by decide +kernel
theorem dX12_learn_18 : decode cX12_learn 18 = .ok (.ldc2_w 72, 3) := by decide +kernel
theorem dX12_learn_21 : decode cX12_learn 21 = .ok (.invokestatic 65, 3) := by decide +kernel
theorem dX12_learn_24 : decode cX12_learn 24 = .ok (.ifCond .ne 6, 3) := by decide +kernel
theorem dX12_learn_27 : decode cX12_learn 27 = .ok (.bipush (-2), 2) := by decide +kernel
theorem dX12_learn_29 : decode cX12_learn 29 = .ok (.ireturn, 1) := by decide +kernel
theorem dX12_learn_30 : decode cX12_learn 30 = .ok (.aload_n 0, 1) := by decide +kernel
theorem dX12_learn_31 : decode cX12_learn 31 = .ok (.getfield 32, 3) := by decide +kernel
theorem dX12_learn_34 : decode cX12_learn 34 = .ok (.iconst 2, 1) := by decide +kernel
theorem dX12_learn_35 : decode cX12_learn 35 = .ok (.iload_n 1, 1) := by decide +kernel
theorem dX12_learn_36 : decode cX12_learn 36 = .ok (.iadd, 1) := by decide +kernel
theorem dX12_learn_37 : decode cX12_learn 37 = .ok (.iaload, 1) := by decide +kernel
theorem dX12_learn_38 : decode cX12_learn 38 = .ok (.istore_n 3, 1) := by decide +kernel
theorem dX12_learn_39 : decode cX12_learn 39 = .ok (.iload_n 3, 1) := by decide +kernel
theorem dX12_learn_40 : decode cX12_learn 40 = .ok (.iload_n 2, 1) := by decide +kernel
theorem dX12_learn_41 : decode cX12_learn 41 = .ok (.if_icmp .ne 6, 3) := by decide +kernel
theorem dX12_learn_44 : decode cX12_learn 44 = .ok (.bipush (-3), 2) := by decide +kernel
theorem dX12_learn_46 : decode cX12_learn 46 = .ok (.ireturn, 1) := by decide +kernel
theorem dX12_learn_47 : decode cX12_learn 47 = .ok (.aload_n 0, 1) := by decide +kernel
theorem dX12_learn_48 : decode cX12_learn 48 = .ok (.invokevirtual 159, 3) := by decide +kernel
theorem dX12_learn_51 : decode cX12_learn 51 = .ok (.aload_n 0, 1) := by decide +kernel
theorem dX12_learn_52 : decode cX12_learn 52 = .ok (.getfield 32, 3) := by decide +kernel
theorem dX12_learn_55 : decode cX12_learn 55 = .ok (.iconst 2, 1) := by decide +kernel
theorem dX12_learn_56 : decode cX12_learn 56 = .ok (.iload_n 1, 1) := by decide +kernel
theorem dX12_learn_57 : decode cX12_learn 57 = .ok (.iadd, 1) := by decide +kernel
theorem dX12_learn_58 : decode cX12_learn 58 = .ok (.iload_n 2, 1) := by decide +kernel
theorem dX12_learn_59 : decode cX12_learn 59 = .ok (.iastore, 1) := by decide +kernel
theorem dX12_learn_60 : decode cX12_learn 60 = .ok (.iload_n 3, 1) := by decide +kernel
theorem dX12_learn_61 : decode cX12_learn 61 = .ok (.ireturn, 1) := by decide +kernel
theorem dX12_undo_0 : decode cX12_undo 0 = .ok (.aload_n 0, 1) := by decide +kernel
theorem dX12_undo_1 : decode cX12_undo 1 = .ok (.iconst 0, 1) := by decide +kernel
theorem dX12_undo_2 : decode cX12_undo 2 = .ok (.putfield 57, 3) := by decide +kernel
theorem dX12_undo_5 : decode cX12_undo 5 = .ok (.aload_n 0, 1) := by decide +kernel
theorem dX12_undo_6 : decode cX12_undo 6 = .ok (.getfield 118, 3) := by decide +kernel
theorem dX12_undo_9 : decode cX12_undo 9 = .ok (.ifCond .ne 6, 3) := by decide +kernel
theorem dX12_undo_12 : decode cX12_undo 12 = .ok (.bipush (-3), 2) := by decide +kernel
theorem dX12_undo_14 : decode cX12_undo 14 = .ok (.ireturn, 1) := by decide +kernel
theorem dX12_undo_15 : decode cX12_undo 15 = .ok (.aload_n 0, 1) := by decide +kernel
theorem dX12_undo_16 : decode cX12_undo 16 = .ok (.dup, 1) := by decide +kernel
theorem dX12_undo_17 : decode cX12_undo 17 = .ok (.getfield 118, 3) := by decide +kernel
theorem dX12_undo_20 : decode cX12_undo 20 = .ok (.iconst 1, 1) := by decide +kernel
theorem dX12_undo_21 : decode cX12_undo 21 = .ok (.isub, 1) := by decide +kernel
theorem dX12_undo_22 : decode cX12_undo 22 = .ok (.putfield 118, 3) := by decide +kernel
theorem dX12_undo_25 : decode cX12_undo 25 = .ok (.iconst 0, 1) := by decide +kernel
theorem dX12_undo_26 : decode cX12_undo 26 = .ok (.istore_n 1, 1) := by decide +kernel
theorem dX12_undo_27 : decode cX12_undo 27 = .ok (.iload_n 1, 1) := by decide +kernel
theorem dX12_undo_28 : decode cX12_undo 28 = .ok (.bipush 9, 2) := by decide +kernel
theorem dX12_undo_30 : decode cX12_undo 30 = .ok (.if_icmp .ge 29, 3) := by decide +kernel
theorem dX12_undo_33 : decode cX12_undo 33 = .ok (.aload_n 0, 1) := by decide +kernel
theorem dX12_undo_34 : decode cX12_undo 34 = .ok (.getfield 32, 3) := by decide +kernel
theorem dX12_undo_37 : decode cX12_undo 37 = .ok (.iload_n 1, 1) := by decide +kernel
theorem dX12_undo_38 : decode cX12_undo 38 = .ok (.aload_n 0, 1) := by decide +kernel
theorem dX12_undo_39 : decode cX12_undo 39 = .ok (.getfield 38, 3) := by decide +kernel
theorem dX12_undo_42 : decode cX12_undo 42 = .ok (.bipush 9, 2) := by decide +kernel
theorem dX12_undo_44 : decode cX12_undo 44 = .ok (.aload_n 0, 1) := by decide +kernel
theorem dX12_undo_45 : decode cX12_undo 45 = .ok (.getfield 118, 3) := by decide +kernel
theorem dX12_undo_48 : decode cX12_undo 48 = .ok (.imul, 1) := by decide +kernel
theorem dX12_undo_49 : decode cX12_undo 49 = .ok (.iload_n 1, 1) := by decide +kernel
theorem dX12_undo_50 : decode cX12_undo 50 = .ok (.iadd, 1) := by decide +kernel
theorem dX12_undo_51 : decode cX12_undo 51 = .ok (.iaload, 1) := by decide +kernel
theorem dX12_undo_52 : decode cX12_undo 52 = .ok (.iastore, 1) := by decide +kernel
theorem dX12_undo_53 : decode cX12_undo 53 = .ok (.iinc 1 1, 3) := by decide +kernel
theorem dX12_undo_56 : decode cX12_undo 56 = .ok (.goto (-29), 3) := by decide +kernel
theorem dX12_undo_59 : decode cX12_undo 59 = .ok (.aload_n 0, 1) := by decide +kernel
theorem dX12_undo_60 : decode cX12_undo 60 = .ok (.getfield 118, 3) := by decide +kernel
theorem dX12_undo_63 : decode cX12_undo 63 = .ok (.ireturn, 1) := by decide +kernel
theorem dX12_noNotice_0 : decode cX12_noNotice 0 = .ok (.aload_n 0, 1) := by decide +kernel
theorem dX12_noNotice_1 : decode cX12_noNotice 1 = .ok (.iload_n 1, 1) := by decide +kernel
theorem dX12_noNotice_2 : decode cX12_noNotice 2 = .ok (.bipush 100, 2) := by decide +kernel
theorem dX12_noNotice_4 : decode cX12_noNotice 4 = .ok (.idiv, 1) := by decide +kernel
theorem dX12_noNotice_5 : decode cX12_noNotice 5 = .ok (.invokevirtual 142, 3) := by decide +kernel
theorem dX12_noNotice_8 : decode cX12_noNotice 8 = .ok (.ifCond .ne 27, 3) := by decide +kernel
theorem dX12_noNotice_11 : decode cX12_noNotice 11 = .ok (.aload_n 0, 1) := by decide +kernel
theorem dX12_noNotice_12 : decode cX12_noNotice 12 = .ok (.iload_n 1, 1) := by decide +kernel
theorem dX12_noNotice_13 : decode cX12_noNotice 13 = .ok (.bipush 10, 2) := by decide +kernel
theorem dX12_noNotice_15 : decode cX12_noNotice 15 = .ok (.idiv, 1) := by decide +kernel
theorem dX12_noNotice_16 : decode cX12_noNotice 16 = .ok (.bipush 10, 2) := by decide +kernel
theorem dX12_noNotice_18 : decode cX12_noNotice 18 = .ok (.irem, 1) := by decide +kernel
theorem dX12_noNotice_19 : decode cX12_noNotice 19 = .ok (.invokevirtual 153, 3) := by decide +kernel
theorem dX12_noNotice_22 : decode cX12_noNotice 22 = .ok (.ifCond .ne 13, 3) := by decide +kernel
theorem dX12_noNotice_25 : decode cX12_noNotice 25 = .ok (.iload_n 1, 1) := by decide +kernel
theorem dX12_noNotice_26 : decode cX12_noNotice 26 = .ok (.bipush 10, 2) := by decide +kernel
theorem dX12_noNotice_28 : decode cX12_noNotice 28 = .ok (.irem, 1) := by decide +kernel
theorem dX12_noNotice_29 : decode cX12_noNotice 29 = .ok (.invokestatic 156, 3) := by decide +kernel
theorem dX12_noNotice_32 : decode cX12_noNotice 32 = .ok (.ifCond .eq 7, 3) := by decide +kernel
theorem dX12_noNotice_35 : decode cX12_noNotice 35 = .ok (.iconst 1, 1) := by decide +kernel
theorem dX12_noNotice_36 : decode cX12_noNotice 36 = .ok (.goto 4, 3) := by decide +kernel
theorem dX12_noNotice_39 : decode cX12_noNotice 39 = .ok (.iconst 0, 1) := by decide +kernel
theorem dX12_noNotice_40 : decode cX12_noNotice 40 = .ok (.ireturn, 1) := by decide +kernel
theorem dX12_threeOf_0 : decode cX12_threeOf 0 = .ok (.lload_n 1, 1) := by decide +kernel
theorem dX12_threeOf_1 : decode cX12_threeOf 1 = .ok (.iload_n 0, 1) := by decide +kernel
theorem dX12_threeOf_2 : decode cX12_threeOf 2 = .ok (.iconst 1, 1) := by decide +kernel
theorem dX12_threeOf_3 : decode cX12_threeOf 3 = .ok (.isub, 1) := by decide +kernel
theorem dX12_threeOf_4 : decode cX12_threeOf 4 = .ok (.iload_n 3, 1) := by decide +kernel
theorem dX12_threeOf_5 : decode cX12_threeOf 5 = .ok (.isub, 1) := by decide +kernel
theorem dX12_threeOf_6 : decode cX12_threeOf 6 = .ok (.invokestatic 166, 3) := by decide +kernel
theorem dX12_threeOf_9 : decode cX12_threeOf 9 = .ok (.ldiv, 1) := by decide +kernel
theorem dX12_threeOf_10 : decode cX12_threeOf 10 = .ok (.ldc2_w 60, 3) := by decide +kernel
theorem dX12_threeOf_13 : decode cX12_threeOf 13 = .ok (.lrem, 1) := by decide +kernel
theorem dX12_threeOf_14 : decode cX12_threeOf 14 = .ok (.l2i, 1) := by decide +kernel
theorem dX12_threeOf_15 : decode cX12_threeOf 15 = .ok (.ireturn, 1) := by decide +kernel
theorem dX12_noRow_0 : decode cX12_noRow 0 = .ok (.iload_n 1, 1) := by decide +kernel
theorem dX12_noRow_1 : decode cX12_noRow 1 = .ok (.i2l, 1) := by decide +kernel
theorem dX12_noRow_2 : decode cX12_noRow 2 = .ok (.lconst 1, 1) := by decide +kernel
theorem dX12_noRow_3 : decode cX12_noRow 3 = .ok (.iload_n 2, 1) := by decide +kernel
theorem dX12_noRow_4 : decode cX12_noRow 4 = .ok (.i2l, 1) := by decide +kernel
