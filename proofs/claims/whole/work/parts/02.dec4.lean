theorem dX9_init_0 : decode cX9_init 0 = .ok (.aload_n 0, 1) := by decide +kernel
theorem dX9_init_1 : decode cX9_init 1 = .ok (.invokespecial 1, 3) := by decide +kernel
theorem dX9_init_4 : decode cX9_init 4 = .ok (.aload_n 0, 1) := by decide +kernel
theorem dX9_init_5 : decode cX9_init 5 = .ok (.bipush 36, 2) := by decide +kernel
theorem dX9_init_7 : decode cX9_init 7 = .ok (.newarray .int, 2) := by decide +kernel
theorem dX9_init_9 : decode cX9_init 9 = .ok (.putfield 7, 3) := by decide +kernel
theorem dX9_init_12 : decode cX9_init 12 = .ok (.aload_n 0, 1) := by decide +kernel
theorem dX9_init_13 : decode cX9_init 13 = .ok (.iconst 5, 1) := by decide +kernel
theorem dX9_init_14 : decode cX9_init 14 = .ok (.newarray .int, 2) := by decide +kernel
theorem dX9_init_16 : decode cX9_init 16 = .ok (.putfield 13, 3) := by decide +kernel
theorem dX9_init_19 : decode cX9_init 19 = .ok (.aload_n 0, 1) := by decide +kernel
theorem dX9_init_20 : decode cX9_init 20 = .ok (.iconst 4, 1) := by decide +kernel
theorem dX9_init_21 : decode cX9_init 21 = .ok (.newarray .int, 2) := by decide +kernel
theorem dX9_init_23 : decode cX9_init 23 = .ok (.putfield 16, 3) := by decide +kernel
theorem dX9_init_26 : decode cX9_init 26 = .ok (.aload_n 0, 1) := by decide +kernel
theorem dX9_init_27 : decode cX9_init 27 = .ok (.iconst 5, 1) := by decide +kernel
theorem dX9_init_28 : decode cX9_init 28 = .ok (.newarray .int, 2) := by decide +kernel
theorem dX9_init_30 : decode cX9_init 30 = .ok (.putfield 19, 3) := by decide +kernel
theorem dX9_init_33 : decode cX9_init 33 = .ok (.aload_n 0, 1) := by decide +kernel
theorem dX9_init_34 : decode cX9_init 34 = .ok (.iconst 4, 1) := by decide +kernel
theorem dX9_init_35 : decode cX9_init 35 = .ok (.newarray .int, 2) := by decide +kernel
theorem dX9_init_37 : decode cX9_init 37 = .ok (.putfield 22, 3) := by decide +kernel
theorem dX9_init_40 : decode cX9_init 40 = .ok (.aload_n 0, 1) := by decide +kernel
theorem dX9_init_41 : decode cX9_init 41 = .ok (.bipush 21, 2) := by decide +kernel
theorem dX9_init_43 : decode cX9_init 43 = .ok (.newarray .int, 2) := by decide +kernel
theorem dX9_init_45 : decode cX9_init 45 = .ok (.putfield 25, 3) := by decide +kernel
theorem dX9_init_48 : decode cX9_init 48 = .ok (.aload_n 0, 1) := by decide +kernel
theorem dX9_init_49 : decode cX9_init 49 = .ok (.bipush 21, 2) := by decide +kernel
theorem dX9_init_51 : decode cX9_init 51 = .ok (.newarray .int, 2) := by decide +kernel
theorem dX9_init_53 : decode cX9_init 53 = .ok (.putfield 28, 3) := by decide +kernel
theorem dX9_init_56 : decode cX9_init 56 = .ok (.aload_n 0, 1) := by decide +kernel
theorem dX9_init_57 : decode cX9_init 57 = .ok (.sipush 294, 3) := by decide +kernel
theorem dX9_init_60 : decode cX9_init 60 = .ok (.newarray .int, 2) := by decide +kernel
theorem dX9_init_62 : decode cX9_init 62 = .ok (.putfield 31, 3) := by decide +kernel
theorem dX9_init_65 : decode cX9_init 65 = .ok (.aload_n 0, 1) := by decide +kernel
theorem dX9_init_66 : decode cX9_init 66 = .ok (.bipush 42, 2) := by decide +kernel
theorem dX9_init_68 : decode cX9_init 68 = .ok (.newarray .int, 2) := by decide +kernel
theorem dX9_init_70 : decode cX9_init 70 = .ok (.putfield 34, 3) := by decide +kernel
theorem dX9_init_73 : decode cX9_init 73 = .ok (.aload_n 0, 1) := by decide +kernel
theorem dX9_init_74 : decode cX9_init 74 = .ok (.iconst 2, 1) := by decide +kernel
theorem dX9_init_75 : decode cX9_init 75 = .ok (.newarray .boolean, 2) := by decide +kernel
theorem dX9_init_77 : decode cX9_init 77 = .ok (.putfield 37, 3) := by decide +kernel
theorem dX9_init_80 : decode cX9_init 80 = .ok (.aload_n 0, 1) := by decide +kernel
theorem dX9_init_81 : decode cX9_init 81 = .ok (.bipush 6, 2) := by decide +kernel
theorem dX9_init_83 : decode cX9_init 83 = .ok (.newarray .int, 2) := by decide +kernel
theorem dX9_init_85 : decode cX9_init 85 = .ok (.putfield 41, 3) := by decide +kernel
theorem dX9_init_88 : decode cX9_init 88 = .ok (.aload_n 0, 1) := by decide +kernel
theorem dX9_init_89 : decode cX9_init 89 = .ok (.bipush 6, 2) := by decide +kernel
theorem dX9_init_91 : decode cX9_init 91 = .ok (.newarray .int, 2) := by decide +kernel
theorem dX9_init_93 : decode cX9_init 93 = .ok (.putfield 44, 3) := by decide +kernel
theorem dX9_init_96 : decode cX9_init 96 = .ok (.aload_n 0, 1) := by decide +kernel
theorem dX9_init_97 : decode cX9_init 97 = .ok (.bipush 6, 2) := by decide +kernel
theorem dX9_init_99 : decode cX9_init 99 = .ok (.newarray .int, 2) := by decide +kernel
theorem dX9_init_101 : decode cX9_init 101 = .ok (.putfield 47, 3) := by decide +kernel
theorem dX9_init_104 : decode cX9_init 104 = .ok (.aload_n 0, 1) := by decide +kernel
theorem dX9_init_105 : decode cX9_init 105 = .ok (.bipush 8, 2) := by decide +kernel
theorem dX9_init_107 : decode cX9_init 107 = .ok (.newarray .int, 2) := by decide +kernel
theorem dX9_init_109 : decode cX9_init 109 = .ok (.putfield 50, 3) := by decide +kernel
theorem dX9_init_112 : decode cX9_init 112 = .ok (.aload_n 0, 1) := by decide +kernel
theorem dX9_init_113 : decode cX9_init 113 = .ok (.bipush 16, 2) := by decide +kernel
theorem dX9_init_115 : decode cX9_init 115 = .ok (.newarray .int, 2) := by decide +kernel
theorem dX9_init_117 : decode cX9_init 117 = .ok (.putfield 53, 3) := by decide +kernel
theorem dX9_init_120 : decode cX9_init 120 = .ok (.aload_n 0, 1) := by decide +kernel
theorem dX9_init_121 : decode cX9_init 121 = .ok (.iconst 5, 1) := by decide +kernel
theorem dX9_init_122 : decode cX9_init 122 = .ok (.newarray .int, 2) := by decide +kernel
theorem dX9_init_124 : decode cX9_init 124 = .ok (.putfield 56, 3) := by decide +kernel
theorem dX9_init_127 : decode cX9_init 127 = .ok (.return_, 1) := by decide +kernel
theorem dX9_in_0 : decode cX9_in 0 = .ok (.lload_n 0, 1) := by decide +kernel
theorem dX9_in_1 : decode cX9_in 1 = .ok (.lload_n 2, 1) := by decide +kernel
theorem dX9_in_2 : decode cX9_in 2 = .ok (.lcmp, 1) := by decide +kernel
theorem dX9_in_3 : decode cX9_in 3 = .ok (.ifCond .lt 14, 3) := by decide +kernel
theorem dX9_in_6 : decode cX9_in 6 = .ok (.lload_n 0, 1) := by decide +kernel
theorem dX9_in_7 : decode cX9_in 7 = .ok (.lload 4, 2) := by decide +kernel
theorem dX9_in_9 : decode cX9_in 9 = .ok (.lcmp, 1) := by decide +kernel
theorem dX9_in_10 : decode cX9_in 10 = .ok (.ifCond .gt 7, 3) := by decide +kernel
theorem dX9_in_13 : decode cX9_in 13 = .ok (.iconst 1, 1) := by decide +kernel
theorem dX9_in_14 : decode cX9_in 14 = .ok (.goto 4, 3) := by decide +kernel
theorem dX9_in_17 : decode cX9_in 17 = .ok (.iconst 0, 1) := by decide +kernel
theorem dX9_in_18 : decode cX9_in 18 = .ok (.ireturn, 1) := by decide +kernel
theorem dX9_has_0 : decode cX9_has 0 = .ok (.iload_n 0, 1) := by decide +kernel
theorem dX9_has_1 : decode cX9_has 1 = .ok (.iload_n 1, 1) := by decide +kernel
theorem dX9_has_2 : decode cX9_has 2 = .ok (.ishr, 1) := by decide +kernel
theorem dX9_has_3 : decode cX9_has 3 = .ok (.iconst 1, 1) := by decide +kernel
theorem dX9_has_4 : decode cX9_has 4 = .ok (.iand, 1) := by decide +kernel
theorem dX9_has_5 : decode cX9_has 5 = .ok (.iconst 1, 1) := by decide +kernel
theorem dX9_has_6 : decode cX9_has 6 = .ok (.if_icmp .ne 7, 3) := by decide +kernel
theorem dX9_has_9 : decode cX9_has 9 = .ok (.iconst 1, 1) := by decide +kernel
theorem dX9_has_10 : decode cX9_has 10 = .ok (.goto 4, 3) := by decide +kernel
theorem dX9_has_13 : decode cX9_has 13 = .ok (.iconst 0, 1) := by decide +kernel
theorem dX9_has_14 : decode cX9_has 14 = .ok (.ireturn, 1) := by decide +kernel
theorem dX9_many_0 : decode cX9_many 0 = .ok (.iconst 0, 1) := by decide +kernel
theorem dX9_many_1 : decode cX9_many 1 = .ok (.istore_n 1, 1) := by decide +kernel
theorem dX9_many_2 : decode cX9_many 2 = .ok (.iconst 0, 1) := by decide +kernel
theorem dX9_many_3 : decode cX9_many 3 = .ok (.istore_n 2, 1) := by decide +kernel
theorem dX9_many_4 : decode cX9_many 4 = .ok (.iload_n 2, 1) := by decide +kernel
theorem dX9_many_5 : decode cX9_many 5 = .ok (.iconst 5, 1) := by decide +kernel
theorem dX9_many_6 : decode cX9_many 6 = .ok (.if_icmp .ge 17, 3) := by decide +kernel
theorem dX9_many_9 : decode cX9_many 9 = .ok (.iload_n 1, 1) := by decide +kernel
theorem dX9_many_10 : decode cX9_many 10 = .ok (.iload_n 0, 1) := by decide +kernel
theorem dX9_many_11 : decode cX9_many 11 = .ok (.iload_n 2, 1) := by decide +kernel
theorem dX9_many_12 : decode cX9_many 12 = .ok (.ishr, 1) := by decide +kernel
theorem dX9_many_13 : decode cX9_many 13 = .ok (.iconst 1, 1) := by decide +kernel
theorem dX9_many_14 : decode cX9_many 14 = .ok (.iand, 1) := by decide +kernel
theorem dX9_many_15 : decode cX9_many 15 = .ok (.iadd, 1) := by decide +kernel
theorem dX9_many_16 : decode cX9_many 16 = .ok (.istore_n 1, 1) := by decide +kernel
theorem dX9_many_17 : decode cX9_many 17 = .ok (.iinc 2 1, 3) := by decide +kernel
theorem dX9_many_20 : decode cX9_many 20 = .ok (.goto (-16), 3) := by decide +kernel
theorem dX9_many_23 : decode cX9_many 23 = .ok (.iload_n 1, 1) := by decide +kernel
theorem dX9_many_24 : decode cX9_many 24 = .ok (.ireturn, 1) := by decide +kernel
theorem dX9_power_0 : decode cX9_power 0 = .ok (.iconst 1, 1) := by decide +kernel
theorem dX9_power_1 : decode cX9_power 1 = .ok (.istore_n 2, 1) := by decide +kernel
theorem dX9_power_2 : decode cX9_power 2 = .ok (.iconst 0, 1) := by decide +kernel
theorem dX9_power_3 : decode cX9_power 3 = .ok (.istore_n 3, 1) := by decide +kernel
theorem dX9_power_4 : decode cX9_power 4 = .ok (.iload_n 3, 1) := by decide +kernel
theorem dX9_power_5 : decode cX9_power 5 = .ok (.iload_n 1, 1) := by decide +kernel
theorem dX9_power_6 : decode cX9_power 6 = .ok (.if_icmp .ge 13, 3) := by decide +kernel
theorem dX9_power_9 : decode cX9_power 9 = .ok (.iload_n 2, 1) := by decide +kernel
theorem dX9_power_10 : decode cX9_power 10 = .ok (.iload_n 0, 1) := by decide +kernel
theorem dX9_power_11 : decode cX9_power 11 = .ok (.imul, 1) := by decide +kernel
theorem dX9_power_12 : decode cX9_power 12 = .ok (.istore_n 2, 1) := by decide +kernel
theorem dX9_power_13 : decode cX9_power 13 = .ok (.iinc 3 1, 3) := by decide +kernel
theorem dX9_power_16 : decode cX9_power 16 = .ok (.goto (-12), 3) := by decide +kernel
theorem dX9_power_19 : decode cX9_power 19 = .ok (.iload_n 2, 1) := by decide +kernel
theorem dX9_power_20 : decode cX9_power 20 = .ok (.ireturn, 1) := by decide +kernel
theorem dX9_noOne_0 : decode cX9_noOne 0 = .ok (.iload_n 1, 1) := by decide +kernel
theorem dX9_noOne_1 : decode cX9_noOne 1 = .ok (.i2l, 1) := by decide +kernel
theorem dX9_noOne_2 : decode cX9_noOne 2 = .ok (.lconst 0, 1) := by decide +kernel
theorem dX9_noOne_3 : decode cX9_noOne 3 = .ok (.aload_n 0, 1) := by decide +kernel
theorem dX9_noOne_4 : decode cX9_noOne 4 = .ok (.getfield 63, 3) := by decide +kernel
theorem dX9_noOne_7 : decode cX9_noOne 7 = .ok (.iconst 1, 1) := by decide +kernel
theorem dX9_noOne_8 : decode cX9_noOne 8 = .ok (.isub, 1) := by decide +kernel
theorem dX9_noOne_9 : decode cX9_noOne 9 = .ok (.i2l, 1) := by decide +kernel
theorem dX9_noOne_10 : decode cX9_noOne 10 = .ok (.invokestatic 66, 3) := by decide +kernel
theorem dX9_noOne_13 : decode cX9_noOne 13 = .ok (.ifCond .ne 7, 3) := by decide +kernel
theorem dX9_noOne_16 : decode cX9_noOne 16 = .ok (.iconst 1, 1) := by decide +kernel
theorem dX9_noOne_17 : decode cX9_noOne 17 = .ok (.goto 4, 3) := by decide +kernel
theorem dX9_noOne_20 : decode cX9_noOne 20 = .ok (.iconst 0, 1) := by decide +kernel
theorem dX9_noOne_21 : decode cX9_noOne 21 = .ok (.ireturn, 1) := by decide +kernel
theorem dX9_noBucket_0 : decode cX9_noBucket 0 = .ok (.iload_n 1, 1) := by decide +kernel
theorem dX9_noBucket_1 : decode cX9_noBucket 1 = .ok (.i2l, 1) := by decide +kernel
theorem dX9_noBucket_2 : decode cX9_noBucket 2 = .ok (.lconst 0, 1) := by decide +kernel
theorem dX9_noBucket_3 : decode cX9_noBucket 3 = .ok (.aload_n 0, 1) := by decide +kernel
theorem dX9_noBucket_4 : decode cX9_noBucket 4 = .ok (.getfield 70, 3) := by decide +kernel
theorem dX9_noBucket_7 : decode cX9_noBucket 7 = .ok (.iconst 1, 1) := by decide +kernel
theorem dX9_noBucket_8 : decode cX9_noBucket 8 = .ok (.isub, 1) := by decide +kernel
theorem dX9_noBucket_9 : decode cX9_noBucket 9 = .ok (.i2l, 1) := by decide +kernel
theorem dX9_noBucket_10 : decode cX9_noBucket 10 = .ok (.invokestatic 66, 3) := by decide +kernel
theorem dX9_noBucket_13 : decode cX9_noBucket 13 = .ok (.ifCond .ne 7, 3) := by decide +kernel
theorem dX9_noBucket_16 : decode cX9_noBucket 16 = .ok (.iconst 1, 1) := by decide +kernel
theorem dX9_noBucket_17 : decode cX9_noBucket 17 = .ok (.goto 4, 3) := by decide +kernel
theorem dX9_noBucket_20 : decode cX9_noBucket 20 = .ok (.iconst 0, 1) := by decide +kernel
theorem dX9_noBucket_21 : decode cX9_noBucket 21 = .ok (.ireturn, 1) := by decide +kernel
theorem dX9_write_0 : decode cX9_write 0 = .ok (.aload_n 0, 1) := by decide +kernel
theorem dX9_write_1 : decode cX9_write 1 = .ok (.iconst 0, 1) := by decide +kernel
theorem dX9_write_2 : decode cX9_write 2 = .ok (.putfield 59, 3) := by decide +kernel
theorem dX9_write_5 : decode cX9_write 5 = .ok (.iload_n 1, 1) := by decide +kernel
theorem dX9_write_6 : decode cX9_write 6 = .ok (.i2l, 1) := by decide +kernel
theorem dX9_write_7 : decode cX9_write 7 = .ok (.lconst 0, 1) := by decide +kernel
theorem dX9_write_8 : decode cX9_write 8 = .ok (.ldc2_w 73, 3) := by decide +kernel
theorem dX9_write_11 : decode cX9_write 11 = .ok (.invokestatic 66, 3) := by decide +kernel
theorem dX9_write_14 : decode cX9_write 14 = .ok (.ifCond .ne 6, 3) := by decide +kernel
theorem dX9_write_17 : decode cX9_write 17 = .ok (.bipush (-2), 2) := by decide +kernel
theorem dX9_write_19 : decode cX9_write 19 = .ok (.ireturn, 1) := by decide +kernel
theorem dX9_write_20 : decode cX9_write 20 = .ok (.aload_n 0, 1) := by decide +kernel
theorem dX9_write_21 : decode cX9_write 21 = .ok (.getfield 75, 3) := by decide +kernel
theorem dX9_write_24 : decode cX9_write 24 = .ok (.bipush 36, 2) := by decide +kernel
theorem dX9_write_26 : decode cX9_write 26 = .ok (.if_icmp .ne 6, 3) := by decide +kernel
theorem dX9_write_29 : decode cX9_write 29 = .ok (.bipush (-4), 2) := by decide +kernel
theorem dX9_write_31 : decode cX9_write 31 = .ok (.ireturn, 1) := by decide +kernel
theorem dX9_write_32 : decode cX9_write 32 = .ok (.aload_n 0, 1) := by decide +kernel
theorem dX9_write_33 : decode cX9_write 33 = .ok (.getfield 7, 3) := by decide +kernel
theorem dX9_write_36 : decode cX9_write 36 = .ok (.aload_n 0, 1) := by decide +kernel
theorem dX9_write_37 : decode cX9_write 37 = .ok (.getfield 75, 3) := by decide +kernel
theorem dX9_write_40 : decode cX9_write 40 = .ok (.iload_n 1, 1) := by decide +kernel
theorem dX9_write_41 : decode cX9_write 41 = .ok (.iastore, 1) := by decide +kernel
theorem dX9_write_42 : decode cX9_write 42 = .ok (.aload_n 0, 1) := by decide +kernel
theorem dX9_write_43 : decode cX9_write 43 = .ok (.dup, 1) := by decide +kernel
theorem dX9_write_44 : decode cX9_write 44 = .ok (.getfield 75, 3) := by decide +kernel
theorem dX9_write_47 : decode cX9_write 47 = .ok (.iconst 1, 1) := by decide +kernel
theorem dX9_write_48 : decode cX9_write 48 = .ok (.iadd, 1) := by decide +kernel
theorem dX9_write_49 : decode cX9_write 49 = .ok (.putfield 75, 3) := by decide +kernel
theorem dX9_write_52 : decode cX9_write 52 = .ok (.aload_n 0, 1) := by decide +kernel
theorem dX9_write_53 : decode cX9_write 53 = .ok (.getfield 75, 3) := by decide +kernel
theorem dX9_write_56 : decode cX9_write 56 = .ok (.ireturn, 1) := by decide +kernel
theorem dX9_wipe_0 : decode cX9_wipe 0 = .ok (.aload_n 0, 1) := by decide +kernel
theorem dX9_wipe_1 : decode cX9_wipe 1 = .ok (.iconst 0, 1) := by decide +kernel
theorem dX9_wipe_2 : decode cX9_wipe 2 = .ok (.putfield 59, 3) := by decide +kernel
theorem dX9_wipe_5 : decode cX9_wipe 5 = .ok (.aload_n 0, 1) := by decide +kernel
theorem dX9_wipe_6 : decode cX9_wipe 6 = .ok (.getfield 75, 3) := by decide +kernel
theorem dX9_wipe_9 : decode cX9_wipe 9 = .ok (.istore_n 1, 1) := by decide +kernel
theorem dX9_wipe_10 : decode cX9_wipe 10 = .ok (.aload_n 0, 1) := by decide +kernel
theorem dX9_wipe_11 : decode cX9_wipe 11 = .ok (.iconst 0, 1) := by decide +kernel
theorem dX9_wipe_12 : decode cX9_wipe 12 = .ok (.putfield 75, 3) := by decide +kernel
theorem dX9_wipe_15 : decode cX9_wipe 15 = .ok (.iload_n 1, 1) := by decide +kernel
theorem dX9_wipe_16 : decode cX9_wipe 16 = .ok (.ireturn, 1) := by decide +kernel
theorem dX9_figure_0 : decode cX9_figure 0 = .ok (.aload_n 0, 1) := by decide +kernel
theorem dX9_figure_1 : decode cX9_figure 1 = .ok (.getfield 78, 3) := by decide +kernel
theorem dX9_figure_4 : decode cX9_figure 4 = .ok (.aload_n 0, 1) := by decide +kernel
theorem dX9_figure_5 : decode cX9_figure 5 = .ok (.getfield 75, 3) := by decide +kernel
theorem dX9_figure_8 : decode cX9_figure 8 = .ok (.if_icmp .eq 26, 3) := by decide +kernel
theorem dX9_figure_11 : decode cX9_figure 11 = .ok (.aload_n 0, 1) := by decide +kernel
theorem dX9_figure_12 : decode cX9_figure 12 = .ok (.getfield 7, 3) := by decide +kernel
theorem dX9_figure_15 : decode cX9_figure 15 = .ok (.aload_n 0, 1) := by decide +kernel
theorem dX9_figure_16 : decode cX9_figure 16 = .ok (.getfield 78, 3) := by decide +kernel
theorem dX9_figure_19 : decode cX9_figure 19 = .ok (.iaload, 1) := by decide +kernel
theorem dX9_figure_20 : decode cX9_figure 20 = .ok (.bipush 48, 2) := by decide +kernel
theorem dX9_figure_22 : decode cX9_figure 22 = .ok (.isub, 1) := by decide +kernel
theorem dX9_figure_23 : decode cX9_figure 23 = .ok (.i2l, 1) := by decide +kernel
theorem dX9_figure_24 : decode cX9_figure 24 = .ok (.iload_n 1, 1) := by decide +kernel
theorem dX9_figure_25 : decode cX9_figure 25 = .ok (.i2l, 1) := by decide +kernel
theorem dX9_figure_26 : decode cX9_figure 26 = .ok (.iload_n 2, 1) := by decide +kernel
theorem dX9_figure_27 : decode cX9_figure 27 = .ok (.i2l, 1) := by decide +kernel
theorem dX9_figure_28 : decode cX9_figure 28 = .ok (.invokestatic 66, 3) := by decide +kernel
theorem dX9_figure_31 : decode cX9_figure 31 = .ok (.ifCond .ne 6, 3) := by decide +kernel
theorem dX9_figure_34 : decode cX9_figure 34 = .ok (.bipush (-9), 2) := by decide +kernel
theorem dX9_figure_36 : decode cX9_figure 36 = .ok (.ireturn, 1) := by decide +kernel
theorem dX9_figure_37 : decode cX9_figure 37 = .ok (.aload_n 0, 1) := by decide +kernel
theorem dX9_figure_38 : decode cX9_figure 38 = .ok (.dup, 1) := by decide +kernel
theorem dX9_figure_39 : decode cX9_figure 39 = .ok (.getfield 78, 3) := by decide +kernel
theorem dX9_figure_42 : decode cX9_figure 42 = .ok (.iconst 1, 1) := by decide +kernel
theorem dX9_figure_43 : decode cX9_figure 43 = .ok (.iadd, 1) := by decide +kernel
theorem dX9_figure_44 : decode cX9_figure 44 = .ok (.putfield 78, 3) := by decide +kernel
theorem dX9_figure_47 : decode cX9_figure 47 = .ok (.aload_n 0, 1) := by decide +kernel
theorem dX9_figure_48 : decode cX9_figure 48 = .ok (.getfield 7, 3) := by decide +kernel
theorem dX9_figure_51 : decode cX9_figure 51 = .ok (.aload_n 0, 1) := by decide +kernel
theorem dX9_figure_52 : decode cX9_figure 52 = .ok (.getfield 78, 3) := by decide +kernel
theorem dX9_figure_55 : decode cX9_figure 55 = .ok (.iconst 1, 1) := by decide +kernel
theorem dX9_figure_56 : decode cX9_figure 56 = .ok (.isub, 1) := by decide +kernel
theorem dX9_figure_57 : decode cX9_figure 57 = .ok (.iaload, 1) := by decide +kernel
theorem dX9_figure_58 : decode cX9_figure 58 = .ok (.bipush 48, 2) := by decide +kernel
theorem dX9_figure_60 : decode cX9_figure 60 = .ok (.isub, 1) := by decide +kernel
theorem dX9_figure_61 : decode cX9_figure 61 = .ok (.ireturn, 1) := by decide +kernel
theorem dX9_readPerson_0 : decode cX9_readPerson 0 = .ok (.aload_n 0, 1) := by decide +kernel
theorem dX9_readPerson_1 : decode cX9_readPerson 1 = .ok (.iconst 0, 1) := by decide +kernel
theorem dX9_readPerson_2 : decode cX9_readPerson 2 = .ok (.iconst 3, 1) := by decide +kernel
theorem dX9_readPerson_3 : decode cX9_readPerson 3 = .ok (.invokevirtual 81, 3) := by decide +kernel
theorem dX9_readPerson_6 : decode cX9_readPerson 6 = .ok (.istore_n 1, 1) := by decide +kernel
theorem dX9_readPerson_7 : decode cX9_readPerson 7 = .ok (.iload_n 1, 1) := by decide +kernel
theorem dX9_readPerson_8 : decode cX9_readPerson 8 = .ok (.bipush (-9), 2) := by decide +kernel
theorem dX9_readPerson_10 : decode cX9_readPerson 10 = .ok (.if_icmp .ne 5, 3) := by decide +kernel
theorem dX9_readPerson_13 : decode cX9_readPerson 13 = .ok (.iconst 0, 1) := by decide +kernel
theorem dX9_readPerson_14 : decode cX9_readPerson 14 = .ok (.ireturn, 1) := by decide +kernel
theorem dX9_readPerson_15 : decode cX9_readPerson 15 = .ok (.aload_n 0, 1) := by decide +kernel
theorem dX9_readPerson_16 : decode cX9_readPerson 16 = .ok (.getfield 19, 3) := by decide +kernel
theorem dX9_readPerson_19 : decode cX9_readPerson 19 = .ok (.aload_n 0, 1) := by decide +kernel
theorem dX9_readPerson_20 : decode cX9_readPerson 20 = .ok (.getfield 85, 3) := by decide +kernel
theorem dX9_readPerson_23 : decode cX9_readPerson 23 = .ok (.iload_n 1, 1) := by decide +kernel
theorem dX9_readPerson_24 : decode cX9_readPerson 24 = .ok (.iastore, 1) := by decide +kernel
theorem dX9_readPerson_25 : decode cX9_readPerson 25 = .ok (.aload_n 0, 1) := by decide +kernel
theorem dX9_readPerson_26 : decode cX9_readPerson 26 = .ok (.dup, 1) := by decide +kernel
theorem dX9_readPerson_27 : decode cX9_readPerson 27 = .ok (.getfield 85, 3) := by decide +kernel
theorem dX9_readPerson_30 : decode cX9_readPerson 30 = .ok (.iconst 1, 1) := by decide +kernel
theorem dX9_readPerson_31 : decode cX9_readPerson 31 = .ok (.iadd, 1) := by decide +kernel
theorem dX9_readPerson_32 : decode cX9_readPerson 32 = .ok (.putfield 85, 3) := by decide +kernel
theorem dX9_readPerson_35 : decode cX9_readPerson 35 = .ok (.iconst 1, 1) := by decide +kernel
theorem dX9_readPerson_36 : decode cX9_readPerson 36 = .ok (.ireturn, 1) := by decide +kernel
theorem dX9_readBucket_0 : decode cX9_readBucket 0 = .ok (.aload_n 0, 1) := by decide +kernel
theorem dX9_readBucket_1 : decode cX9_readBucket 1 = .ok (.iconst 1, 1) := by decide +kernel
theorem dX9_readBucket_2 : decode cX9_readBucket 2 = .ok (.bipush 9, 2) := by decide +kernel
theorem dX9_readBucket_4 : decode cX9_readBucket 4 = .ok (.invokevirtual 81, 3) := by decide +kernel
theorem dX9_readBucket_7 : decode cX9_readBucket 7 = .ok (.istore_n 1, 1) := by decide +kernel
theorem dX9_readBucket_8 : decode cX9_readBucket 8 = .ok (.iload_n 1, 1) := by decide +kernel
theorem dX9_readBucket_9 : decode cX9_readBucket 9 = .ok (.bipush (-9), 2) := by decide +kernel
theorem dX9_readBucket_11 : decode cX9_readBucket 11 = .ok (.if_icmp .ne 8, 3) := by decide +kernel
theorem dX9_readBucket_14 : decode cX9_readBucket 14 = .ok (.bipush (-9), 2) := by decide +kernel
theorem dX9_readBucket_16 : decode cX9_readBucket 16 = .ok (.goto 9, 3) := by decide +kernel
theorem dX9_readBucket_19 : decode cX9_readBucket 19 = .ok (.aload_n 0, 1) := by decide +kernel
theorem dX9_readBucket_20 : decode cX9_readBucket 20 = .ok (.iconst 0, 1) := by decide +kernel
theorem dX9_readBucket_21 : decode cX9_readBucket 21 = .ok (.iconst 1, 1) := by decide +kernel
theorem dX9_readBucket_22 : decode cX9_readBucket 22 = .ok (.invokevirtual 81, 3) := by decide +kernel
theorem dX9_readBucket_25 : decode cX9_readBucket 25 = .ok (.istore_n 2, 1) := by decide +kernel
theorem dX9_readBucket_26 : decode cX9_readBucket 26 = .ok (.iload_n 2, 1) := by decide +kernel
theorem dX9_readBucket_27 : decode cX9_readBucket 27 = .ok (.bipush (-9), 2) := by decide +kernel
theorem dX9_readBucket_29 : decode cX9_readBucket 29 = .ok (.if_icmp .ne 5, 3) := by decide +kernel
theorem dX9_readBucket_32 : decode cX9_readBucket 32 = .ok (.iconst 0, 1) := by decide +kernel
theorem dX9_readBucket_33 : decode cX9_readBucket 33 = .ok (.ireturn, 1) := by decide +kernel
theorem dX9_readBucket_34 : decode cX9_readBucket 34 = .ok (.aload_n 0, 1) := by decide +kernel
theorem dX9_readBucket_35 : decode cX9_readBucket 35 = .ok (.getfield 22, 3) := by decide +kernel
theorem dX9_readBucket_38 : decode cX9_readBucket 38 = .ok (.aload_n 0, 1) := by decide +kernel
theorem dX9_readBucket_39 : decode cX9_readBucket 39 = .ok (.getfield 88, 3) := by decide +kernel
theorem dX9_readBucket_42 : decode cX9_readBucket 42 = .ok (.iload_n 1, 1) := by decide +kernel
theorem dX9_readBucket_43 : decode cX9_readBucket 43 = .ok (.iastore, 1) := by decide +kernel
theorem dX9_readBucket_44 : decode cX9_readBucket 44 = .ok (.aload_n 0, 1) := by decide +kernel
theorem dX9_readBucket_45 : decode cX9_readBucket 45 = .ok (.dup, 1) := by decide +kernel
theorem dX9_readBucket_46 : decode cX9_readBucket 46 = .ok (.getfield 91, 3) := by decide +kernel
theorem dX9_readBucket_49 : decode cX9_readBucket 49 = .ok (.iload_n 2, 1) := by decide +kernel
theorem dX9_readBucket_50 : decode cX9_readBucket 50 = .ok (.aload_n 0, 1) := by decide +kernel
theorem dX9_readBucket_51 : decode cX9_readBucket 51 = .ok (.getfield 88, 3) := by decide +kernel
theorem dX9_readBucket_54 : decode cX9_readBucket 54 = .ok (.ishl, 1) := by decide +kernel
theorem dX9_readBucket_55 : decode cX9_readBucket 55 = .ok (.ior, 1) := by decide +kernel
theorem dX9_readBucket_56 : decode cX9_readBucket 56 = .ok (.putfield 91, 3) := by decide +kernel
theorem dX9_readBucket_59 : decode cX9_readBucket 59 = .ok (.aload_n 0, 1) := by decide +kernel
theorem dX9_readBucket_60 : decode cX9_readBucket 60 = .ok (.dup, 1) := by decide +kernel
theorem dX9_readBucket_61 : decode cX9_readBucket 61 = .ok (.getfield 88, 3) := by decide +kernel
theorem dX9_readBucket_64 : decode cX9_readBucket 64 = .ok (.iconst 1, 1) := by decide +kernel
theorem dX9_readBucket_65 : decode cX9_readBucket 65 = .ok (.iadd, 1) := by decide +kernel
theorem dX9_readBucket_66 : decode cX9_readBucket 66 = .ok (.putfield 88, 3) := by decide +kernel
theorem dX9_readBucket_69 : decode cX9_readBucket 69 = .ok (.iconst 1, 1) := by decide +kernel
theorem dX9_readBucket_70 : decode cX9_readBucket 70 = .ok (.ireturn, 1) := by decide +kernel
theorem dX9_readPart_0 : decode cX9_readPart 0 = .ok (.aload_n 0, 1) := by decide +kernel
theorem dX9_readPart_1 : decode cX9_readPart 1 = .ok (.getfield 7, 3) := by decide +kernel
theorem dX9_readPart_4 : decode cX9_readPart 4 = .ok (.aload_n 0, 1) := by decide +kernel
theorem dX9_readPart_5 : decode cX9_readPart 5 = .ok (.getfield 78, 3) := by decide +kernel
theorem dX9_readPart_8 : decode cX9_readPart 8 = .ok (.iaload, 1) := by decide +kernel
theorem dX9_readPart_9 : decode cX9_readPart 9 = .ok (.istore_n 1, 1) := by decide +kernel
theorem dX9_readPart_10 : decode cX9_readPart 10 = .ok (.aload_n 0, 1) := by decide +kernel
theorem dX9_readPart_11 : decode cX9_readPart 11 = .ok (.dup, 1) := by decide +kernel
theorem dX9_readPart_12 : decode cX9_readPart 12 = .ok (.getfield 78, 3) := by decide +kernel
theorem dX9_readPart_15 : decode cX9_readPart 15 = .ok (.iconst 1, 1) := by decide +kernel
theorem dX9_readPart_16 : decode cX9_readPart 16 = .ok (.iadd, 1) := by decide +kernel
theorem dX9_readPart_17 : decode cX9_readPart 17 = .ok (.putfield 78, 3) := by decide +kernel
theorem dX9_readPart_20 : decode cX9_readPart 20 = .ok (.iload_n 1, 1) := by decide +kernel
theorem dX9_readPart_21 : decode cX9_readPart 21 = .ok (.bipush 80, 2) := by decide +kernel
theorem dX9_readPart_23 : decode cX9_readPart 23 = .ok (.if_icmp .ne 16, 3) := by decide +kernel
theorem dX9_readPart_26 : decode cX9_readPart 26 = .ok (.aload_n 0, 1) := by decide +kernel
theorem dX9_readPart_27 : decode cX9_readPart 27 = .ok (.getfield 85, 3) := by decide +kernel
theorem dX9_readPart_30 : decode cX9_readPart 30 = .ok (.iconst 5, 1) := by decide +kernel
theorem dX9_readPart_31 : decode cX9_readPart 31 = .ok (.if_icmp .ge 8, 3) := by decide +kernel
theorem dX9_readPart_34 : decode cX9_readPart 34 = .ok (.aload_n 0, 1) := by decide +kernel
theorem dX9_readPart_35 : decode cX9_readPart 35 = .ok (.invokevirtual 94, 3) := by decide +kernel
theorem dX9_readPart_38 : decode cX9_readPart 38 = .ok (.ireturn, 1) := by decide +kernel
theorem dX9_readPart_39 : decode cX9_readPart 39 = .ok (.iload_n 1, 1) := by decide +kernel
theorem dX9_readPart_40 : decode cX9_readPart 40 = .ok (.bipush 66, 2) := by decide +kernel
theorem dX9_readPart_42 : decode cX9_readPart 42 = .ok (.if_icmp .ne 16, 3) := by decide +kernel
theorem dX9_readPart_45 : decode cX9_readPart 45 = .ok (.aload_n 0, 1) := by decide +kernel
theorem dX9_readPart_46 : decode cX9_readPart 46 = .ok (.getfield 88, 3) := by decide +kernel
theorem dX9_readPart_49 : decode cX9_readPart 49 = .ok (.iconst 4, 1) := by decide +kernel
theorem dX9_readPart_50 : decode cX9_readPart 50 = .ok (.if_icmp .ge 8, 3) := by decide +kernel
theorem dX9_readPart_53 : decode cX9_readPart 53 = .ok (.aload_n 0, 1) := by decide +kernel
theorem dX9_readPart_54 : decode cX9_readPart 54 = .ok (.invokevirtual 98, 3) := by decide +kernel
theorem dX9_readPart_57 : decode cX9_readPart 57 = .ok (.ireturn, 1) := by decide +kernel
theorem dX9_readPart_58 : decode cX9_readPart 58 = .ok (.aload_n 0, 1) := by decide +kernel
theorem dX9_readPart_59 : decode cX9_readPart 59 = .ok (.dup, 1) := by decide +kernel
theorem dX9_readPart_60 : decode cX9_readPart 60 = .ok (.getfield 78, 3) := by decide +kernel
theorem dX9_readPart_63 : decode cX9_readPart 63 = .ok (.iconst 1, 1) := by decide +kernel
theorem dX9_readPart_64 : decode cX9_readPart 64 = .ok (.isub, 1) := by decide +kernel
theorem dX9_readPart_65 : decode cX9_readPart 65 = .ok (.putfield 78, 3) := by decide +kernel
theorem dX9_readPart_68 : decode cX9_readPart 68 = .ok (.iconst 0, 1) := by decide +kernel
theorem dX9_readPart_69 : decode cX9_readPart 69 = .ok (.ireturn, 1) := by decide +kernel
theorem dX9_readHead_0 : decode cX9_readHead 0 = .ok (.aload_n 0, 1) := by decide +kernel
theorem dX9_readHead_1 : decode cX9_readHead 1 = .ok (.iconst 0, 1) := by decide +kernel
theorem dX9_readHead_2 : decode cX9_readHead 2 = .ok (.bipush 9, 2) := by decide +kernel
theorem dX9_readHead_4 : decode cX9_readHead 4 = .ok (.invokevirtual 81, 3) := by decide +kernel
theorem dX9_readHead_7 : decode cX9_readHead 7 = .ok (.istore_n 1, 1) := by decide +kernel
theorem dX9_readHead_8 : decode cX9_readHead 8 = .ok (.iload_n 1, 1) := by decide +kernel
theorem dX9_readHead_9 : decode cX9_readHead 9 = .ok (.bipush (-9), 2) := by decide +kernel
theorem dX9_readHead_11 : decode cX9_readHead 11 = .ok (.if_icmp .ne 8, 3) := by decide +kernel
theorem dX9_readHead_14 : decode cX9_readHead 14 = .ok (.bipush (-9), 2) := by decide +kernel
theorem dX9_readHead_16 : decode cX9_readHead 16 = .ok (.goto 10, 3) := by decide +kernel
theorem dX9_readHead_19 : decode cX9_readHead 19 = .ok (.aload_n 0, 1) := by decide +kernel
theorem dX9_readHead_20 : decode cX9_readHead 20 = .ok (.iconst 0, 1) := by decide +kernel
theorem dX9_readHead_21 : decode cX9_readHead 21 = .ok (.bipush 9, 2) := by decide +kernel
theorem dX9_readHead_23 : decode cX9_readHead 23 = .ok (.invokevirtual 81, 3) := by decide +kernel
theorem dX9_readHead_26 : decode cX9_readHead 26 = .ok (.istore_n 2, 1) := by decide +kernel
theorem dX9_readHead_27 : decode cX9_readHead 27 = .ok (.aload_n 0, 1) := by decide +kernel
theorem dX9_readHead_28 : decode cX9_readHead 28 = .ok (.iload_n 2, 1) := by decide +kernel
theorem dX9_readHead_29 : decode cX9_readHead 29 = .ok (.bipush (-9), 2) := by decide +kernel
theorem dX9_readHead_31 : decode cX9_readHead 31 = .ok (.if_icmp .ne 8, 3) := by decide +kernel
theorem dX9_readHead_34 : decode cX9_readHead 34 = .ok (.bipush (-9), 2) := by decide +kernel
theorem dX9_readHead_36 : decode cX9_readHead 36 = .ok (.goto 10, 3) := by decide +kernel
theorem dX9_readHead_39 : decode cX9_readHead 39 = .ok (.aload_n 0, 1) := by decide +kernel
theorem dX9_readHead_40 : decode cX9_readHead 40 = .ok (.iconst 0, 1) := by decide +kernel
theorem dX9_readHead_41 : decode cX9_readHead 41 = .ok (.bipush 9, 2) := by decide +kernel
theorem dX9_readHead_43 : decode cX9_readHead 43 = .ok (.invokevirtual 81, 3) := by decide +kernel
theorem dX9_readHead_46 : decode cX9_readHead 46 = .ok (.putfield 101, 3) := by decide +kernel
theorem dX9_readHead_49 : decode cX9_readHead 49 = .ok (.aload_n 0, 1) := by decide +kernel
theorem dX9_readHead_50 : decode cX9_readHead 50 = .ok (.aload_n 0, 1) := by decide +kernel
theorem dX9_readHead_51 : decode cX9_readHead 51 = .ok (.getfield 101, 3) := by decide +kernel
theorem dX9_readHead_54 : decode cX9_readHead 54 = .ok (.bipush (-9), 2) := by decide +kernel
theorem dX9_readHead_56 : decode cX9_readHead 56 = .ok (.if_icmp .ne 8, 3) := by decide +kernel
theorem dX9_readHead_59 : decode cX9_readHead 59 = .ok (.bipush (-9), 2) := by decide +kernel
theorem dX9_readHead_61 : decode cX9_readHead 61 = .ok (.goto 10, 3) := by decide +kernel
theorem dX9_readHead_64 : decode cX9_readHead 64 = .ok (.aload_n 0, 1) := by decide +kernel
theorem dX9_readHead_65 : decode cX9_readHead 65 = .ok (.iconst 0, 1) := by decide +kernel
theorem dX9_readHead_66 : decode cX9_readHead 66 = .ok (.bipush 9, 2) := by decide +kernel
theorem dX9_readHead_68 : decode cX9_readHead 68 = .ok (.invokevirtual 81, 3) := by decide +kernel
theorem dX9_readHead_71 : decode cX9_readHead 71 = .ok (.putfield 104, 3) := by decide +kernel
theorem dX9_readHead_74 : decode cX9_readHead 74 = .ok (.aload_n 0, 1) := by decide +kernel
theorem dX9_readHead_75 : decode cX9_readHead 75 = .ok (.bipush 10, 2) := by decide +kernel
theorem dX9_readHead_77 : decode cX9_readHead 77 = .ok (.iload_n 1, 1) := by decide +kernel
theorem dX9_readHead_78 : decode cX9_readHead 78 = .ok (.imul, 1) := by decide +kernel
theorem dX9_readHead_79 : decode cX9_readHead 79 = .ok (.iload_n 2, 1) := by decide +kernel
theorem dX9_readHead_80 : decode cX9_readHead 80 = .ok (.iadd, 1) := by decide +kernel
theorem dX9_readHead_81 : decode cX9_readHead 81 = .ok (.putfield 107, 3) := by decide +kernel
theorem dX9_readHead_84 : decode cX9_readHead 84 = .ok (.aload_n 0, 1) := by decide +kernel
theorem dX9_readHead_85 : decode cX9_readHead 85 = .ok (.getfield 104, 3) := by decide +kernel
theorem dX9_readHead_88 : decode cX9_readHead 88 = .ok (.bipush (-9), 2) := by decide +kernel
theorem dX9_readHead_90 : decode cX9_readHead 90 = .ok (.if_icmp .eq 7, 3) := by decide +kernel
theorem dX9_readHead_93 : decode cX9_readHead 93 = .ok (.iconst 1, 1) := by decide +kernel
theorem dX9_readHead_94 : decode cX9_readHead 94 = .ok (.goto 4, 3) := by decide +kernel
theorem dX9_readHead_97 : decode cX9_readHead 97 = .ok (.iconst 0, 1) := by decide +kernel
theorem dX9_readHead_98 : decode cX9_readHead 98 = .ok (.ireturn, 1) := by decide +kernel
theorem dX9_readNight_0 : decode cX9_readNight 0 = .ok (.aload_n 0, 1) := by decide +kernel
theorem dX9_readNight_1 : decode cX9_readNight 1 = .ok (.iconst 0, 1) := by decide +kernel
theorem dX9_readNight_2 : decode cX9_readNight 2 = .ok (.putfield 78, 3) := by decide +kernel
theorem dX9_readNight_5 : decode cX9_readNight 5 = .ok (.aload_n 0, 1) := by decide +kernel
theorem dX9_readNight_6 : decode cX9_readNight 6 = .ok (.iconst 0, 1) := by decide +kernel
theorem dX9_readNight_7 : decode cX9_readNight 7 = .ok (.putfield 85, 3) := by decide +kernel
theorem dX9_readNight_10 : decode cX9_readNight 10 = .ok (.aload_n 0, 1) := by decide +kernel
theorem dX9_readNight_11 : decode cX9_readNight 11 = .ok (.iconst 0, 1) := by decide +kernel
theorem dX9_readNight_12 : decode cX9_readNight 12 = .ok (.putfield 88, 3) := by decide +kernel
theorem dX9_readNight_15 : decode cX9_readNight 15 = .ok (.aload_n 0, 1) := by decide +kernel
theorem dX9_readNight_16 : decode cX9_readNight 16 = .ok (.iconst 0, 1) := by decide +kernel
theorem dX9_readNight_17 : decode cX9_readNight 17 = .ok (.putfield 91, 3) := by decide +kernel
theorem dX9_readNight_20 : decode cX9_readNight 20 = .ok (.aload_n 0, 1) := by decide +kernel
theorem dX9_readNight_21 : decode cX9_readNight 21 = .ok (.getfield 75, 3) := by decide +kernel
theorem dX9_readNight_24 : decode cX9_readNight 24 = .ok (.ifCond .eq 14, 3) := by decide +kernel
theorem dX9_readNight_27 : decode cX9_readNight 27 = .ok (.aload_n 0, 1) := by decide +kernel
theorem dX9_readNight_28 : decode cX9_readNight 28 = .ok (.getfield 7, 3) := by decide +kernel
theorem dX9_readNight_31 : decode cX9_readNight 31 = .ok (.iconst 0, 1) := by decide +kernel
theorem dX9_readNight_32 : decode cX9_readNight 32 = .ok (.iaload, 1) := by decide +kernel
theorem dX9_readNight_33 : decode cX9_readNight 33 = .ok (.bipush 87, 2) := by decide +kernel
theorem dX9_readNight_35 : decode cX9_readNight 35 = .ok (.if_icmp .eq 5, 3) := by decide +kernel
theorem dX9_readNight_38 : decode cX9_readNight 38 = .ok (.iconst 0, 1) := by decide +kernel
theorem dX9_readNight_39 : decode cX9_readNight 39 = .ok (.ireturn, 1) := by decide +kernel
theorem dX9_readNight_40 : decode cX9_readNight 40 = .ok (.aload_n 0, 1) := by decide +kernel
theorem dX9_readNight_41 : decode cX9_readNight 41 = .ok (.iconst 1, 1) := by decide +kernel
theorem dX9_readNight_42 : decode cX9_readNight 42 = .ok (.putfield 78, 3) := by decide +kernel
theorem dX9_readNight_45 : decode cX9_readNight 45 = .ok (.aload_n 0, 1) := by decide +kernel
theorem dX9_readNight_46 : decode cX9_readNight 46 = .ok (.invokevirtual 110, 3) := by decide +kernel
theorem dX9_readNight_49 : decode cX9_readNight 49 = .ok (.ifCond .ne 8, 3) := by decide +kernel
theorem dX9_readNight_52 : decode cX9_readNight 52 = .ok (.aload_n 0, 1) := by decide +kernel
theorem dX9_readNight_53 : decode cX9_readNight 53 = .ok (.getfield 78, 3) := by decide +kernel
theorem dX9_readNight_56 : decode cX9_readNight 56 = .ok (.ireturn, 1) := by decide +kernel
theorem dX9_readNight_57 : decode cX9_readNight 57 = .ok (.aload_n 0, 1) := by decide +kernel
theorem dX9_readNight_58 : decode cX9_readNight 58 = .ok (.getfield 78, 3) := by decide +kernel
theorem dX9_readNight_61 : decode cX9_readNight 61 = .ok (.aload_n 0, 1) := by decide +kernel
theorem dX9_readNight_62 : decode cX9_readNight 62 = .ok (.getfield 75, 3) := by decide +kernel
theorem dX9_readNight_65 : decode cX9_readNight 65 = .ok (.if_icmp .ge 15, 3) := by decide +kernel
theorem dX9_readNight_68 : decode cX9_readNight 68 = .ok (.aload_n 0, 1) := by decide +kernel
theorem dX9_readNight_69 : decode cX9_readNight 69 = .ok (.invokevirtual 113, 3) := by decide +kernel
theorem dX9_readNight_72 : decode cX9_readNight 72 = .ok (.ifCond .ne (-15), 3) := by decide +kernel
theorem dX9_readNight_75 : decode cX9_readNight 75 = .ok (.aload_n 0, 1) := by decide +kernel
theorem dX9_readNight_76 : decode cX9_readNight 76 = .ok (.getfield 78, 3) := by decide +kernel
theorem dX9_readNight_79 : decode cX9_readNight 79 = .ok (.ireturn, 1) := by decide +kernel
theorem dX9_readNight_80 : decode cX9_readNight 80 = .ok (.bipush (-9), 2) := by decide +kernel
theorem dX9_readNight_82 : decode cX9_readNight 82 = .ok (.ireturn, 1) := by decide +kernel
theorem dX9_fault_0 : decode cX9_fault 0 = .ok (.aload_n 0, 1) := by decide +kernel
theorem dX9_fault_1 : decode cX9_fault 1 = .ok (.iconst 0, 1) := by decide +kernel
theorem dX9_fault_2 : decode cX9_fault 2 = .ok (.putfield 59, 3) := by decide +kernel
theorem dX9_fault_5 : decode cX9_fault 5 = .ok (.aload_n 0, 1) := by decide +kernel
theorem dX9_fault_6 : decode cX9_fault 6 = .ok (.invokevirtual 116, 3) := by decide +kernel
theorem dX9_fault_9 : decode cX9_fault 9 = .ok (.ireturn, 1) := by decide +kernel
theorem dX9_night_0 : decode cX9_night 0 = .ok (.aload_n 0, 1) := by decide +kernel
theorem dX9_night_1 : decode cX9_night 1 = .ok (.iconst 0, 1) := by decide +kernel
theorem dX9_night_2 : decode cX9_night 2 = .ok (.putfield 59, 3) := by decide +kernel
theorem dX9_night_5 : decode cX9_night 5 = .ok (.aload_n 0, 1) := by decide +kernel
theorem dX9_night_6 : decode cX9_night 6 = .ok (.invokevirtual 116, 3) := by decide +kernel
theorem dX9_night_9 : decode cX9_night 9 = .ok (.bipush (-9), 2) := by decide +kernel
theorem dX9_night_11 : decode cX9_night 11 = .ok (.if_icmp .eq 6, 3) := by decide +kernel
theorem dX9_night_14 : decode cX9_night 14 = .ok (.bipush (-3), 2) := by decide +kernel
theorem dX9_night_16 : decode cX9_night 16 = .ok (.ireturn, 1) := by decide +kernel
theorem dX9_night_17 : decode cX9_night 17 = .ok (.aload_n 0, 1) := by decide +kernel
theorem dX9_night_18 : decode cX9_night 18 = .ok (.aload_n 0, 1) := by decide +kernel
theorem dX9_night_19 : decode cX9_night 19 = .ok (.getfield 101, 3) := by decide +kernel
theorem dX9_night_22 : decode cX9_night 22 = .ok (.putfield 120, 3) := by decide +kernel
theorem dX9_night_25 : decode cX9_night 25 = .ok (.aload_n 0, 1) := by decide +kernel
theorem dX9_night_26 : decode cX9_night 26 = .ok (.aload_n 0, 1) := by decide +kernel
theorem dX9_night_27 : decode cX9_night 27 = .ok (.getfield 104, 3) := by decide +kernel
theorem dX9_night_30 : decode cX9_night 30 = .ok (.putfield 123, 3) := by decide +kernel
theorem dX9_night_33 : decode cX9_night 33 = .ok (.aload_n 0, 1) := by decide +kernel
theorem dX9_night_34 : decode cX9_night 34 = .ok (.aload_n 0, 1) := by decide +kernel
theorem dX9_night_35 : decode cX9_night 35 = .ok (.getfield 85, 3) := by decide +kernel
theorem dX9_night_38 : decode cX9_night 38 = .ok (.putfield 63, 3) := by decide +kernel
theorem dX9_night_41 : decode cX9_night 41 = .ok (.aload_n 0, 1) := by decide +kernel
theorem dX9_night_42 : decode cX9_night 42 = .ok (.aload_n 0, 1) := by decide +kernel
theorem dX9_night_43 : decode cX9_night 43 = .ok (.getfield 88, 3) := by decide +kernel
theorem dX9_night_46 : decode cX9_night 46 = .ok (.putfield 70, 3) := by decide +kernel
theorem dX9_night_49 : decode cX9_night 49 = .ok (.iconst 0, 1) := by decide +kernel
theorem dX9_night_50 : decode cX9_night 50 = .ok (.istore_n 1, 1) := by decide +kernel
theorem dX9_night_51 : decode cX9_night 51 = .ok (.iload_n 1, 1) := by decide +kernel
theorem dX9_night_52 : decode cX9_night 52 = .ok (.bipush 21, 2) := by decide +kernel
theorem dX9_night_54 : decode cX9_night 54 = .ok (.if_icmp .ge 16, 3) := by decide +kernel
theorem dX9_night_57 : decode cX9_night 57 = .ok (.aload_n 0, 1) := by decide +kernel
theorem dX9_night_58 : decode cX9_night 58 = .ok (.getfield 25, 3) := by decide +kernel
theorem dX9_night_61 : decode cX9_night 61 = .ok (.iload_n 1, 1) := by decide +kernel
theorem dX9_night_62 : decode cX9_night 62 = .ok (.iconst 0, 1) := by decide +kernel
theorem dX9_night_63 : decode cX9_night 63 = .ok (.iastore, 1) := by decide +kernel
theorem dX9_night_64 : decode cX9_night 64 = .ok (.iinc 1 1, 3) := by decide +kernel
theorem dX9_night_67 : decode cX9_night 67 = .ok (.goto (-16), 3) := by decide +kernel
theorem dX9_night_70 : decode cX9_night 70 = .ok (.iconst 0, 1) := by decide +kernel
theorem dX9_night_71 : decode cX9_night 71 = .ok (.istore_n 1, 1) := by decide +kernel
theorem dX9_night_72 : decode cX9_night 72 = .ok (.iload_n 1, 1) := by decide +kernel
theorem dX9_night_73 : decode cX9_night 73 = .ok (.aload_n 0, 1) := by decide +kernel
theorem dX9_night_74 : decode cX9_night 74 = .ok (.getfield 63, 3) := by decide +kernel
theorem dX9_night_77 : decode cX9_night 77 = .ok (.if_icmp .ge 28, 3) := by decide +kernel
theorem dX9_night_80 : decode cX9_night 80 = .ok (.aload_n 0, 1) := by decide +kernel
theorem dX9_night_81 : decode cX9_night 81 = .ok (.getfield 13, 3) := by decide +kernel
theorem dX9_night_84 : decode cX9_night 84 = .ok (.iload_n 1, 1) := by decide +kernel
theorem dX9_night_85 : decode cX9_night 85 = .ok (.aload_n 0, 1) := by decide +kernel
theorem dX9_night_86 : decode cX9_night 86 = .ok (.getfield 19, 3) := by decide +kernel
theorem dX9_night_89 : decode cX9_night 89 = .ok (.iload_n 1, 1) := by decide +kernel
theorem dX9_night_90 : decode cX9_night 90 = .ok (.iaload, 1) := by decide +kernel
theorem dX9_night_91 : decode cX9_night 91 = .ok (.iastore, 1) := by decide +kernel
theorem dX9_night_92 : decode cX9_night 92 = .ok (.aload_n 0, 1) := by decide +kernel
theorem dX9_night_93 : decode cX9_night 93 = .ok (.getfield 25, 3) := by decide +kernel
theorem dX9_night_96 : decode cX9_night 96 = .ok (.iload_n 1, 1) := by decide +kernel
theorem dX9_night_97 : decode cX9_night 97 = .ok (.iload_n 1, 1) := by decide +kernel
theorem dX9_night_98 : decode cX9_night 98 = .ok (.iastore, 1) := by decide +kernel
theorem dX9_night_99 : decode cX9_night 99 = .ok (.iinc 1 1, 3) := by decide +kernel
theorem dX9_night_102 : decode cX9_night 102 = .ok (.goto (-30), 3) := by decide +kernel
theorem dX9_night_105 : decode cX9_night 105 = .ok (.iconst 0, 1) := by decide +kernel
theorem dX9_night_106 : decode cX9_night 106 = .ok (.istore_n 1, 1) := by decide +kernel
theorem dX9_night_107 : decode cX9_night 107 = .ok (.iload_n 1, 1) := by decide +kernel
theorem dX9_night_108 : decode cX9_night 108 = .ok (.aload_n 0, 1) := by decide +kernel
theorem dX9_night_109 : decode cX9_night 109 = .ok (.getfield 70, 3) := by decide +kernel
theorem dX9_night_112 : decode cX9_night 112 = .ok (.if_icmp .ge 31, 3) := by decide +kernel
theorem dX9_night_115 : decode cX9_night 115 = .ok (.aload_n 0, 1) := by decide +kernel
theorem dX9_night_116 : decode cX9_night 116 = .ok (.getfield 16, 3) := by decide +kernel
theorem dX9_night_119 : decode cX9_night 119 = .ok (.iload_n 1, 1) := by decide +kernel
theorem dX9_night_120 : decode cX9_night 120 = .ok (.aload_n 0, 1) := by decide +kernel
theorem dX9_night_121 : decode cX9_night 121 = .ok (.getfield 22, 3) := by decide +kernel
theorem dX9_night_124 : decode cX9_night 124 = .ok (.iload_n 1, 1) := by decide +kernel
theorem dX9_night_125 : decode cX9_night 125 = .ok (.iaload, 1) := by decide +kernel
theorem dX9_night_126 : decode cX9_night 126 = .ok (.iastore, 1) := by decide +kernel
theorem dX9_night_127 : decode cX9_night 127 = .ok (.aload_n 0, 1) := by decide +kernel
theorem dX9_night_128 : decode cX9_night 128 = .ok (.getfield 25, 3) := by decide +kernel
theorem dX9_night_131 : decode cX9_night 131 = .ok (.iconst 5, 1) := by decide +kernel
theorem dX9_night_132 : decode cX9_night 132 = .ok (.iload_n 1, 1) := by decide +kernel
theorem dX9_night_133 : decode cX9_night 133 = .ok (.iadd, 1) := by decide +kernel
theorem dX9_night_134 : decode cX9_night 134 = .ok (.bipush 8, 2) := by decide +kernel
theorem dX9_night_136 : decode cX9_night 136 = .ok (.iastore, 1) := by decide +kernel
theorem dX9_night_137 : decode cX9_night 137 = .ok (.iinc 1 1, 3) := by decide +kernel
theorem dX9_night_140 : decode cX9_night 140 = .ok (.goto (-33), 3) := by decide +kernel
theorem dX9_night_143 : decode cX9_night 143 = .ok (.aload_n 0, 1) := by decide +kernel
theorem dX9_night_144 : decode cX9_night 144 = .ok (.getfield 25, 3) := by decide +kernel
theorem dX9_night_147 : decode cX9_night 147 = .ok (.bipush 17, 2) := by decide +kernel
theorem dX9_night_149 : decode cX9_night 149 = .ok (.aload_n 0, 1) := by decide +kernel
theorem dX9_night_150 : decode cX9_night 150 = .ok (.getfield 91, 3) := by decide +kernel
theorem dX9_night_153 : decode cX9_night 153 = .ok (.iastore, 1) := by decide +kernel
theorem dX9_night_154 : decode cX9_night 154 = .ok (.aload_n 0, 1) := by decide +kernel
theorem dX9_night_155 : decode cX9_night 155 = .ok (.getfield 25, 3) := by decide +kernel
theorem dX9_night_158 : decode cX9_night 158 = .ok (.bipush 18, 2) := by decide +kernel
theorem dX9_night_160 : decode cX9_night 160 = .ok (.aload_n 0, 1) := by decide +kernel
theorem dX9_night_161 : decode cX9_night 161 = .ok (.getfield 107, 3) := by decide +kernel
theorem dX9_night_164 : decode cX9_night 164 = .ok (.iastore, 1) := by decide +kernel
theorem dX9_night_165 : decode cX9_night 165 = .ok (.aload_n 0, 1) := by decide +kernel
theorem dX9_night_166 : decode cX9_night 166 = .ok (.iconst 0, 1) := by decide +kernel
theorem dX9_night_167 : decode cX9_night 167 = .ok (.putfield 126, 3) := by decide +kernel
theorem dX9_night_170 : decode cX9_night 170 = .ok (.aload_n 0, 1) := by decide +kernel
theorem dX9_night_171 : decode cX9_night 171 = .ok (.getfield 37, 3) := by decide +kernel
theorem dX9_night_174 : decode cX9_night 174 = .ok (.iconst 0, 1) := by decide +kernel
theorem dX9_night_175 : decode cX9_night 175 = .ok (.iconst 0, 1) := by decide +kernel
theorem dX9_night_176 : decode cX9_night 176 = .ok (.bastore, 1) := by decide +kernel
theorem dX9_night_177 : decode cX9_night 177 = .ok (.aload_n 0, 1) := by decide +kernel
theorem dX9_night_178 : decode cX9_night 178 = .ok (.getfield 37, 3) := by decide +kernel
theorem dX9_night_181 : decode cX9_night 181 = .ok (.iconst 1, 1) := by decide +kernel
theorem dX9_night_182 : decode cX9_night 182 = .ok (.iconst 0, 1) := by decide +kernel
theorem dX9_night_183 : decode cX9_night 183 = .ok (.bastore, 1) := by decide +kernel
theorem dX9_night_184 : decode cX9_night 184 = .ok (.bipush 10, 2) := by decide +kernel
theorem dX9_night_186 : decode cX9_night 186 = .ok (.aload_n 0, 1) := by decide +kernel
theorem dX9_night_187 : decode cX9_night 187 = .ok (.getfield 63, 3) := by decide +kernel
theorem dX9_night_190 : decode cX9_night 190 = .ok (.imul, 1) := by decide +kernel
theorem dX9_night_191 : decode cX9_night 191 = .ok (.aload_n 0, 1) := by decide +kernel
theorem dX9_night_192 : decode cX9_night 192 = .ok (.getfield 70, 3) := by decide +kernel
theorem dX9_night_195 : decode cX9_night 195 = .ok (.iadd, 1) := by decide +kernel
theorem dX9_night_196 : decode cX9_night 196 = .ok (.ireturn, 1) := by decide +kernel
theorem dX9_heldAt_0 : decode cX9_heldAt 0 = .ok (.bipush (-9), 2) := by decide +kernel
theorem dX9_heldAt_2 : decode cX9_heldAt 2 = .ok (.istore_n 3, 1) := by decide +kernel
theorem dX9_heldAt_3 : decode cX9_heldAt 3 = .ok (.iconst 0, 1) := by decide +kernel
theorem dX9_heldAt_4 : decode cX9_heldAt 4 = .ok (.istore 4, 2) := by decide +kernel
theorem dX9_heldAt_6 : decode cX9_heldAt 6 = .ok (.iload 4, 2) := by decide +kernel
theorem dX9_heldAt_8 : decode cX9_heldAt 8 = .ok (.aload_n 0, 1) := by decide +kernel
theorem dX9_heldAt_9 : decode cX9_heldAt 9 = .ok (.getfield 70, 3) := by decide +kernel
theorem dX9_heldAt_12 : decode cX9_heldAt 12 = .ok (.if_icmp .ge 26, 3) := by decide +kernel
theorem dX9_heldAt_15 : decode cX9_heldAt 15 = .ok (.aload_n 1, 1) := by decide +kernel
theorem dX9_heldAt_16 : decode cX9_heldAt 16 = .ok (.iconst 5, 1) := by decide +kernel
theorem dX9_heldAt_17 : decode cX9_heldAt 17 = .ok (.iload 4, 2) := by decide +kernel
theorem dX9_heldAt_19 : decode cX9_heldAt 19 = .ok (.iadd, 1) := by decide +kernel
theorem dX9_heldAt_20 : decode cX9_heldAt 20 = .ok (.iaload, 1) := by decide +kernel
theorem dX9_heldAt_21 : decode cX9_heldAt 21 = .ok (.iload_n 2, 1) := by decide +kernel
theorem dX9_heldAt_22 : decode cX9_heldAt 22 = .ok (.if_icmp .ne 8, 3) := by decide +kernel
theorem dX9_heldAt_25 : decode cX9_heldAt 25 = .ok (.iload 4, 2) := by decide +kernel
theorem dX9_heldAt_27 : decode cX9_heldAt 27 = .ok (.goto 4, 3) := by decide +kernel
theorem dX9_heldAt_30 : decode cX9_heldAt 30 = .ok (.iload_n 3, 1) := by decide +kernel
theorem dX9_heldAt_31 : decode cX9_heldAt 31 = .ok (.istore_n 3, 1) := by decide +kernel
theorem dX9_heldAt_32 : decode cX9_heldAt 32 = .ok (.iinc 4 1, 3) := by decide +kernel
theorem dX9_heldAt_35 : decode cX9_heldAt 35 = .ok (.goto (-29), 3) := by decide +kernel
theorem dX9_heldAt_38 : decode cX9_heldAt 38 = .ok (.iload_n 3, 1) := by decide +kernel
theorem dX9_heldAt_39 : decode cX9_heldAt 39 = .ok (.ireturn, 1) := by decide +kernel
theorem dX9_works_0 : decode cX9_works 0 = .ok (.aload_n 1, 1) := by decide +kernel
theorem dX9_works_1 : decode cX9_works 1 = .ok (.iload_n 2, 1) := by decide +kernel
theorem dX9_works_2 : decode cX9_works 2 = .ok (.iaload, 1) := by decide +kernel
theorem dX9_works_3 : decode cX9_works 3 = .ok (.istore 4, 2) := by decide +kernel
theorem dX9_works_5 : decode cX9_works 5 = .ok (.iload_n 3, 1) := by decide +kernel
theorem dX9_works_6 : decode cX9_works 6 = .ok (.iload 4, 2) := by decide +kernel
theorem dX9_works_8 : decode cX9_works 8 = .ok (.invokestatic 129, 3) := by decide +kernel
theorem dX9_works_11 : decode cX9_works 11 = .ok (.ifCond .eq 27, 3) := by decide +kernel
theorem dX9_works_14 : decode cX9_works 14 = .ok (.aload_n 0, 1) := by decide +kernel
theorem dX9_works_15 : decode cX9_works 15 = .ok (.getfield 13, 3) := by decide +kernel
theorem dX9_works_18 : decode cX9_works 18 = .ok (.iload 4, 2) := by decide +kernel
theorem dX9_works_20 : decode cX9_works 20 = .ok (.iaload, 1) := by decide +kernel
theorem dX9_works_21 : decode cX9_works 21 = .ok (.iconst 2, 1) := by decide +kernel
theorem dX9_works_22 : decode cX9_works 22 = .ok (.if_icmp .ne 12, 3) := by decide +kernel
theorem dX9_works_25 : decode cX9_works 25 = .ok (.aload_n 1, 1) := by decide +kernel
theorem dX9_works_26 : decode cX9_works 26 = .ok (.bipush 20, 2) := by decide +kernel
theorem dX9_works_28 : decode cX9_works 28 = .ok (.iaload, 1) := by decide +kernel
theorem dX9_works_29 : decode cX9_works 29 = .ok (.iconst 2, 1) := by decide +kernel
theorem dX9_works_30 : decode cX9_works 30 = .ok (.irem, 1) := by decide +kernel
theorem dX9_works_31 : decode cX9_works 31 = .ok (.ifCond .ne 7, 3) := by decide +kernel
theorem dX9_works_34 : decode cX9_works 34 = .ok (.iconst 1, 1) := by decide +kernel
theorem dX9_works_35 : decode cX9_works 35 = .ok (.goto 4, 3) := by decide +kernel
theorem dX9_works_38 : decode cX9_works 38 = .ok (.iconst 0, 1) := by decide +kernel
theorem dX9_works_39 : decode cX9_works 39 = .ok (.ireturn, 1) := by decide +kernel
theorem dX9_isChild_0 : decode cX9_isChild 0 = .ok (.aload_n 0, 1) := by decide +kernel
theorem dX9_isChild_1 : decode cX9_isChild 1 = .ok (.getfield 13, 3) := by decide +kernel
theorem dX9_isChild_4 : decode cX9_isChild 4 = .ok (.aload_n 1, 1) := by decide +kernel
theorem dX9_isChild_5 : decode cX9_isChild 5 = .ok (.iload_n 2, 1) := by decide +kernel
theorem dX9_isChild_6 : decode cX9_isChild 6 = .ok (.iaload, 1) := by decide +kernel
theorem dX9_isChild_7 : decode cX9_isChild 7 = .ok (.iaload, 1) := by decide +kernel
theorem dX9_isChild_8 : decode cX9_isChild 8 = .ok (.iconst 3, 1) := by decide +kernel
theorem dX9_isChild_9 : decode cX9_isChild 9 = .ok (.if_icmp .ne 7, 3) := by decide +kernel
theorem dX9_isChild_12 : decode cX9_isChild 12 = .ok (.iconst 1, 1) := by decide +kernel
theorem dX9_isChild_13 : decode cX9_isChild 13 = .ok (.goto 4, 3) := by decide +kernel
theorem dX9_isChild_16 : decode cX9_isChild 16 = .ok (.iconst 0, 1) := by decide +kernel
theorem dX9_isChild_17 : decode cX9_isChild 17 = .ok (.ireturn, 1) := by decide +kernel
theorem dX9_sendBack_0 : decode cX9_sendBack 0 = .ok (.aload_n 1, 1) := by decide +kernel
theorem dX9_sendBack_1 : decode cX9_sendBack 1 = .ok (.bipush 9, 2) := by decide +kernel
theorem dX9_sendBack_3 : decode cX9_sendBack 3 = .ok (.iload_n 2, 1) := by decide +kernel
theorem dX9_sendBack_4 : decode cX9_sendBack 4 = .ok (.iadd, 1) := by decide +kernel
theorem dX9_sendBack_5 : decode cX9_sendBack 5 = .ok (.iconst 0, 1) := by decide +kernel
theorem dX9_sendBack_6 : decode cX9_sendBack 6 = .ok (.iastore, 1) := by decide +kernel
theorem dX9_sendBack_7 : decode cX9_sendBack 7 = .ok (.aload_n 1, 1) := by decide +kernel
theorem dX9_sendBack_8 : decode cX9_sendBack 8 = .ok (.bipush 13, 2) := by decide +kernel
theorem dX9_sendBack_10 : decode cX9_sendBack 10 = .ok (.iload_n 2, 1) := by decide +kernel
theorem dX9_sendBack_11 : decode cX9_sendBack 11 = .ok (.iadd, 1) := by decide +kernel
theorem dX9_sendBack_12 : decode cX9_sendBack 12 = .ok (.aload_n 0, 1) := by decide +kernel
theorem dX9_sendBack_13 : decode cX9_sendBack 13 = .ok (.getfield 123, 3) := by decide +kernel
theorem dX9_sendBack_16 : decode cX9_sendBack 16 = .ok (.iastore, 1) := by decide +kernel
theorem dX9_sendBack_17 : decode cX9_sendBack 17 = .ok (.aload_n 1, 1) := by decide +kernel
theorem dX9_sendBack_18 : decode cX9_sendBack 18 = .ok (.iconst 5, 1) := by decide +kernel
theorem dX9_sendBack_19 : decode cX9_sendBack 19 = .ok (.iload_n 2, 1) := by decide +kernel
theorem dX9_sendBack_20 : decode cX9_sendBack 20 = .ok (.iadd, 1) := by decide +kernel
theorem dX9_sendBack_21 : decode cX9_sendBack 21 = .ok (.aload_n 0, 1) := by decide +kernel
theorem dX9_sendBack_22 : decode cX9_sendBack 22 = .ok (.getfield 123, 3) := by decide +kernel
theorem dX9_sendBack_25 : decode cX9_sendBack 25 = .ok (.ifCond .ne 8, 3) := by decide +kernel
theorem dX9_sendBack_28 : decode cX9_sendBack 28 = .ok (.bipush 8, 2) := by decide +kernel
theorem dX9_sendBack_30 : decode cX9_sendBack 30 = .ok (.goto 5, 3) := by decide +kernel
theorem dX9_sendBack_33 : decode cX9_sendBack 33 = .ok (.bipush 9, 2) := by decide +kernel
theorem dX9_sendBack_35 : decode cX9_sendBack 35 = .ok (.iastore, 1) := by decide +kernel
theorem dX9_sendBack_36 : decode cX9_sendBack 36 = .ok (.return_, 1) := by decide +kernel
theorem dX9_throwsIt_0 : decode cX9_throwsIt 0 = .ok (.aload_n 0, 1) := by decide +kernel
theorem dX9_throwsIt_1 : decode cX9_throwsIt 1 = .ok (.getfield 63, 3) := by decide +kernel
theorem dX9_throwsIt_4 : decode cX9_throwsIt 4 = .ok (.ifCond .ne 8, 3) := by decide +kernel
theorem dX9_throwsIt_7 : decode cX9_throwsIt 7 = .ok (.bipush (-9), 2) := by decide +kernel
theorem dX9_throwsIt_9 : decode cX9_throwsIt 9 = .ok (.goto 14, 3) := by decide +kernel
theorem dX9_throwsIt_12 : decode cX9_throwsIt 12 = .ok (.aload_n 0, 1) := by decide +kernel
theorem dX9_throwsIt_13 : decode cX9_throwsIt 13 = .ok (.aload_n 1, 1) := by decide +kernel
theorem dX9_throwsIt_14 : decode cX9_throwsIt 14 = .ok (.aload_n 0, 1) := by decide +kernel
theorem dX9_throwsIt_15 : decode cX9_throwsIt 15 = .ok (.getfield 63, 3) := by decide +kernel
theorem dX9_throwsIt_18 : decode cX9_throwsIt 18 = .ok (.iconst 1, 1) := by decide +kernel
theorem dX9_throwsIt_19 : decode cX9_throwsIt 19 = .ok (.isub, 1) := by decide +kernel
theorem dX9_throwsIt_20 : decode cX9_throwsIt 20 = .ok (.invokevirtual 133, 3) := by decide +kernel
theorem dX9_throwsIt_23 : decode cX9_throwsIt 23 = .ok (.istore_n 3, 1) := by decide +kernel
theorem dX9_throwsIt_24 : decode cX9_throwsIt 24 = .ok (.iload_n 3, 1) := by decide +kernel
theorem dX9_throwsIt_25 : decode cX9_throwsIt 25 = .ok (.bipush (-9), 2) := by decide +kernel
theorem dX9_throwsIt_27 : decode cX9_throwsIt 27 = .ok (.if_icmp .eq 18, 3) := by decide +kernel
theorem dX9_throwsIt_30 : decode cX9_throwsIt 30 = .ok (.aload_n 0, 1) := by decide +kernel
theorem dX9_throwsIt_31 : decode cX9_throwsIt 31 = .ok (.aload_n 1, 1) := by decide +kernel
theorem dX9_throwsIt_32 : decode cX9_throwsIt 32 = .ok (.aload_n 0, 1) := by decide +kernel
theorem dX9_throwsIt_33 : decode cX9_throwsIt 33 = .ok (.getfield 63, 3) := by decide +kernel
theorem dX9_throwsIt_36 : decode cX9_throwsIt 36 = .ok (.iconst 1, 1) := by decide +kernel
theorem dX9_throwsIt_37 : decode cX9_throwsIt 37 = .ok (.isub, 1) := by decide +kernel
theorem dX9_throwsIt_38 : decode cX9_throwsIt 38 = .ok (.iload_n 2, 1) := by decide +kernel
theorem dX9_throwsIt_39 : decode cX9_throwsIt 39 = .ok (.invokevirtual 137, 3) := by decide +kernel
theorem dX9_throwsIt_42 : decode cX9_throwsIt 42 = .ok (.ifCond .ne 6, 3) := by decide +kernel
theorem dX9_throwsIt_45 : decode cX9_throwsIt 45 = .ok (.bipush (-9), 2) := by decide +kernel
theorem dX9_throwsIt_47 : decode cX9_throwsIt 47 = .ok (.ireturn, 1) := by decide +kernel
theorem dX9_throwsIt_48 : decode cX9_throwsIt 48 = .ok (.aload_n 1, 1) := by decide +kernel
theorem dX9_throwsIt_49 : decode cX9_throwsIt 49 = .ok (.bipush 9, 2) := by decide +kernel
theorem dX9_throwsIt_51 : decode cX9_throwsIt 51 = .ok (.iload_n 3, 1) := by decide +kernel
theorem dX9_throwsIt_52 : decode cX9_throwsIt 52 = .ok (.iadd, 1) := by decide +kernel
theorem dX9_throwsIt_53 : decode cX9_throwsIt 53 = .ok (.iaload, 1) := by decide +kernel
theorem dX9_throwsIt_54 : decode cX9_throwsIt 54 = .ok (.istore 4, 2) := by decide +kernel
theorem dX9_throwsIt_56 : decode cX9_throwsIt 56 = .ok (.aload_n 1, 1) := by decide +kernel
theorem dX9_throwsIt_57 : decode cX9_throwsIt 57 = .ok (.bipush 18, 2) := by decide +kernel
theorem dX9_throwsIt_59 : decode cX9_throwsIt 59 = .ok (.aload_n 1, 1) := by decide +kernel
theorem dX9_throwsIt_60 : decode cX9_throwsIt 60 = .ok (.bipush 18, 2) := by decide +kernel
theorem dX9_throwsIt_62 : decode cX9_throwsIt 62 = .ok (.iaload, 1) := by decide +kernel
theorem dX9_throwsIt_63 : decode cX9_throwsIt 63 = .ok (.iload 4, 2) := by decide +kernel
theorem dX9_throwsIt_65 : decode cX9_throwsIt 65 = .ok (.if_icmp .le 13, 3) := by decide +kernel
theorem dX9_throwsIt_68 : decode cX9_throwsIt 68 = .ok (.aload_n 1, 1) := by decide +kernel
theorem dX9_throwsIt_69 : decode cX9_throwsIt 69 = .ok (.bipush 18, 2) := by decide +kernel
theorem dX9_throwsIt_71 : decode cX9_throwsIt 71 = .ok (.iaload, 1) := by decide +kernel
theorem dX9_throwsIt_72 : decode cX9_throwsIt 72 = .ok (.iload 4, 2) := by decide +kernel
theorem dX9_throwsIt_74 : decode cX9_throwsIt 74 = .ok (.isub, 1) := by decide +kernel
theorem dX9_throwsIt_75 : decode cX9_throwsIt 75 = .ok (.goto 4, 3) := by decide +kernel
theorem dX9_throwsIt_78 : decode cX9_throwsIt 78 = .ok (.iconst 0, 1) := by decide +kernel
theorem dX9_throwsIt_79 : decode cX9_throwsIt 79 = .ok (.iastore, 1) := by decide +kernel
theorem dX9_throwsIt_80 : decode cX9_throwsIt 80 = .ok (.aload_n 1, 1) := by decide +kernel
theorem dX9_throwsIt_81 : decode cX9_throwsIt 81 = .ok (.bipush 19, 2) := by decide +kernel
theorem dX9_throwsIt_83 : decode cX9_throwsIt 83 = .ok (.dup2, 1) := by decide +kernel
theorem dX9_throwsIt_84 : decode cX9_throwsIt 84 = .ok (.iaload, 1) := by decide +kernel
theorem dX9_throwsIt_85 : decode cX9_throwsIt 85 = .ok (.iload 4, 2) := by decide +kernel
theorem dX9_throwsIt_87 : decode cX9_throwsIt 87 = .ok (.iadd, 1) := by decide +kernel
theorem dX9_throwsIt_88 : decode cX9_throwsIt 88 = .ok (.iastore, 1) := by decide +kernel
theorem dX9_throwsIt_89 : decode cX9_throwsIt 89 = .ok (.aload_n 1, 1) := by decide +kernel
theorem dX9_throwsIt_90 : decode cX9_throwsIt 90 = .ok (.iconst 5, 1) := by decide +kernel
theorem dX9_throwsIt_91 : decode cX9_throwsIt 91 = .ok (.iload_n 3, 1) := by decide +kernel
theorem dX9_throwsIt_92 : decode cX9_throwsIt 92 = .ok (.iadd, 1) := by decide +kernel
theorem dX9_throwsIt_93 : decode cX9_throwsIt 93 = .ok (.bipush 7, 2) := by decide +kernel
theorem dX9_throwsIt_95 : decode cX9_throwsIt 95 = .ok (.iastore, 1) := by decide +kernel
theorem dX9_throwsIt_96 : decode cX9_throwsIt 96 = .ok (.iload_n 3, 1) := by decide +kernel
theorem dX9_throwsIt_97 : decode cX9_throwsIt 97 = .ok (.ireturn, 1) := by decide +kernel
theorem dX9_handOn_0 : decode cX9_handOn 0 = .ok (.aload_n 0, 1) := by decide +kernel
theorem dX9_handOn_1 : decode cX9_handOn 1 = .ok (.aload_n 1, 1) := by decide +kernel
theorem dX9_handOn_2 : decode cX9_handOn 2 = .ok (.iload_n 2, 1) := by decide +kernel
theorem dX9_handOn_3 : decode cX9_handOn 3 = .ok (.invokevirtual 133, 3) := by decide +kernel
theorem dX9_handOn_6 : decode cX9_handOn 6 = .ok (.istore 4, 2) := by decide +kernel
theorem dX9_handOn_8 : decode cX9_handOn 8 = .ok (.iload 4, 2) := by decide +kernel
theorem dX9_handOn_10 : decode cX9_handOn 10 = .ok (.bipush (-9), 2) := by decide +kernel
theorem dX9_handOn_12 : decode cX9_handOn 12 = .ok (.if_icmp .eq 26, 3) := by decide +kernel
theorem dX9_handOn_15 : decode cX9_handOn 15 = .ok (.aload_n 0, 1) := by decide +kernel
theorem dX9_handOn_16 : decode cX9_handOn 16 = .ok (.aload_n 1, 1) := by decide +kernel
theorem dX9_handOn_17 : decode cX9_handOn 17 = .ok (.iload_n 2, 1) := by decide +kernel
theorem dX9_handOn_18 : decode cX9_handOn 18 = .ok (.iconst 1, 1) := by decide +kernel
theorem dX9_handOn_19 : decode cX9_handOn 19 = .ok (.iadd, 1) := by decide +kernel
theorem dX9_handOn_20 : decode cX9_handOn 20 = .ok (.invokevirtual 133, 3) := by decide +kernel
theorem dX9_handOn_23 : decode cX9_handOn 23 = .ok (.bipush (-9), 2) := by decide +kernel
theorem dX9_handOn_25 : decode cX9_handOn 25 = .ok (.if_icmp .ne 13, 3) := by decide +kernel
theorem dX9_handOn_28 : decode cX9_handOn 28 = .ok (.aload_n 0, 1) := by decide +kernel
theorem dX9_handOn_29 : decode cX9_handOn 29 = .ok (.aload_n 1, 1) := by decide +kernel
theorem dX9_handOn_30 : decode cX9_handOn 30 = .ok (.iload_n 2, 1) := by decide +kernel
theorem dX9_handOn_31 : decode cX9_handOn 31 = .ok (.iload_n 3, 1) := by decide +kernel
theorem dX9_handOn_32 : decode cX9_handOn 32 = .ok (.invokevirtual 137, 3) := by decide +kernel
theorem dX9_handOn_35 : decode cX9_handOn 35 = .ok (.ifCond .ne 4, 3) := by decide +kernel
theorem dX9_handOn_38 : decode cX9_handOn 38 = .ok (.return_, 1) := by decide +kernel
theorem dX9_handOn_39 : decode cX9_handOn 39 = .ok (.aload_n 1, 1) := by decide +kernel
theorem dX9_handOn_40 : decode cX9_handOn 40 = .ok (.bipush 9, 2) := by decide +kernel
theorem dX9_handOn_42 : decode cX9_handOn 42 = .ok (.iload 4, 2) := by decide +kernel
theorem dX9_handOn_44 : decode cX9_handOn 44 = .ok (.iadd, 1) := by decide +kernel
theorem dX9_handOn_45 : decode cX9_handOn 45 = .ok (.iaload, 1) := by decide +kernel
theorem dX9_handOn_46 : decode cX9_handOn 46 = .ok (.istore 5, 2) := by decide +kernel
theorem dX9_handOn_48 : decode cX9_handOn 48 = .ok (.iload 5, 2) := by decide +kernel
theorem dX9_handOn_50 : decode cX9_handOn 50 = .ok (.aload_n 0, 1) := by decide +kernel
theorem dX9_handOn_51 : decode cX9_handOn 51 = .ok (.getfield 13, 3) := by decide +kernel
theorem dX9_handOn_54 : decode cX9_handOn 54 = .ok (.aload_n 1, 1) := by decide +kernel
theorem dX9_handOn_55 : decode cX9_handOn 55 = .ok (.iload_n 2, 1) := by decide +kernel
theorem dX9_handOn_56 : decode cX9_handOn 56 = .ok (.iaload, 1) := by decide +kernel
theorem dX9_handOn_57 : decode cX9_handOn 57 = .ok (.iaload, 1) := by decide +kernel
theorem dX9_handOn_58 : decode cX9_handOn 58 = .ok (.iconst 1, 1) := by decide +kernel
theorem dX9_handOn_59 : decode cX9_handOn 59 = .ok (.if_icmp .ne 12, 3) := by decide +kernel
theorem dX9_handOn_62 : decode cX9_handOn 62 = .ok (.iload 5, 2) := by decide +kernel
theorem dX9_handOn_64 : decode cX9_handOn 64 = .ok (.ifCond .le 7, 3) := by decide +kernel
theorem dX9_handOn_67 : decode cX9_handOn 67 = .ok (.iconst 1, 1) := by decide +kernel
theorem dX9_handOn_68 : decode cX9_handOn 68 = .ok (.goto 4, 3) := by decide +kernel
theorem dX9_handOn_71 : decode cX9_handOn 71 = .ok (.iconst 0, 1) := by decide +kernel
theorem dX9_handOn_72 : decode cX9_handOn 72 = .ok (.isub, 1) := by decide +kernel
theorem dX9_handOn_73 : decode cX9_handOn 73 = .ok (.istore 5, 2) := by decide +kernel
theorem dX9_handOn_75 : decode cX9_handOn 75 = .ok (.aload_n 1, 1) := by decide +kernel
theorem dX9_handOn_76 : decode cX9_handOn 76 = .ok (.bipush 9, 2) := by decide +kernel
theorem dX9_handOn_78 : decode cX9_handOn 78 = .ok (.iload 4, 2) := by decide +kernel
theorem dX9_handOn_80 : decode cX9_handOn 80 = .ok (.iadd, 1) := by decide +kernel
theorem dX9_handOn_81 : decode cX9_handOn 81 = .ok (.aload_n 0, 1) := by decide +kernel
theorem dX9_handOn_82 : decode cX9_handOn 82 = .ok (.aload_n 1, 1) := by decide +kernel
theorem dX9_handOn_83 : decode cX9_handOn 83 = .ok (.iload_n 2, 1) := by decide +kernel
theorem dX9_handOn_84 : decode cX9_handOn 84 = .ok (.iconst 1, 1) := by decide +kernel
theorem dX9_handOn_85 : decode cX9_handOn 85 = .ok (.iadd, 1) := by decide +kernel
theorem dX9_handOn_86 : decode cX9_handOn 86 = .ok (.invokevirtual 141, 3) := by decide +kernel
theorem dX9_handOn_89 : decode cX9_handOn 89 = .ok (.ifCond .eq 13, 3) := by decide +kernel
theorem dX9_handOn_92 : decode cX9_handOn 92 = .ok (.iload 5, 2) := by decide +kernel
theorem dX9_handOn_94 : decode cX9_handOn 94 = .ok (.iconst 2, 1) := by decide +kernel
theorem dX9_handOn_95 : decode cX9_handOn 95 = .ok (.if_icmp .le 7, 3) := by decide +kernel
theorem dX9_handOn_98 : decode cX9_handOn 98 = .ok (.iconst 2, 1) := by decide +kernel
theorem dX9_handOn_99 : decode cX9_handOn 99 = .ok (.goto 5, 3) := by decide +kernel
theorem dX9_handOn_102 : decode cX9_handOn 102 = .ok (.iload 5, 2) := by decide +kernel
theorem dX9_handOn_104 : decode cX9_handOn 104 = .ok (.iastore, 1) := by decide +kernel
theorem dX9_handOn_105 : decode cX9_handOn 105 = .ok (.aload_n 1, 1) := by decide +kernel
theorem dX9_handOn_106 : decode cX9_handOn 106 = .ok (.iconst 5, 1) := by decide +kernel
theorem dX9_handOn_107 : decode cX9_handOn 107 = .ok (.iload 4, 2) := by decide +kernel
theorem dX9_handOn_109 : decode cX9_handOn 109 = .ok (.iadd, 1) := by decide +kernel
theorem dX9_handOn_110 : decode cX9_handOn 110 = .ok (.iload_n 2, 1) := by decide +kernel
theorem dX9_handOn_111 : decode cX9_handOn 111 = .ok (.iconst 1, 1) := by decide +kernel
theorem dX9_handOn_112 : decode cX9_handOn 112 = .ok (.iadd, 1) := by decide +kernel
theorem dX9_handOn_113 : decode cX9_handOn 113 = .ok (.iastore, 1) := by decide +kernel
theorem dX9_handOn_114 : decode cX9_handOn 114 = .ok (.return_, 1) := by decide +kernel
theorem dX9_fill_0 : decode cX9_fill 0 = .ok (.aload_n 0, 1) := by decide +kernel
theorem dX9_fill_1 : decode cX9_fill 1 = .ok (.aload_n 1, 1) := by decide +kernel
theorem dX9_fill_2 : decode cX9_fill 2 = .ok (.bipush 8, 2) := by decide +kernel
theorem dX9_fill_4 : decode cX9_fill 4 = .ok (.invokevirtual 133, 3) := by decide +kernel
theorem dX9_fill_7 : decode cX9_fill 7 = .ok (.istore_n 2, 1) := by decide +kernel
theorem dX9_fill_8 : decode cX9_fill 8 = .ok (.aload_n 0, 1) := by decide +kernel
theorem dX9_fill_9 : decode cX9_fill 9 = .ok (.getfield 70, 3) := by decide +kernel
theorem dX9_fill_12 : decode cX9_fill 12 = .ok (.iconst 1, 1) := by decide +kernel
theorem dX9_fill_13 : decode cX9_fill 13 = .ok (.isub, 1) := by decide +kernel
theorem dX9_fill_14 : decode cX9_fill 14 = .ok (.istore_n 3, 1) := by decide +kernel
theorem dX9_fill_15 : decode cX9_fill 15 = .ok (.iload_n 3, 1) := by decide +kernel
theorem dX9_fill_16 : decode cX9_fill 16 = .ok (.ifCond .lt 25, 3) := by decide +kernel
theorem dX9_fill_19 : decode cX9_fill 19 = .ok (.aload_n 1, 1) := by decide +kernel
theorem dX9_fill_20 : decode cX9_fill 20 = .ok (.iconst 5, 1) := by decide +kernel
theorem dX9_fill_21 : decode cX9_fill 21 = .ok (.iload_n 3, 1) := by decide +kernel
theorem dX9_fill_22 : decode cX9_fill 22 = .ok (.iadd, 1) := by decide +kernel
theorem dX9_fill_23 : decode cX9_fill 23 = .ok (.iaload, 1) := by decide +kernel
theorem dX9_fill_24 : decode cX9_fill 24 = .ok (.bipush 8, 2) := by decide +kernel
theorem dX9_fill_26 : decode cX9_fill 26 = .ok (.if_icmp .ne 7, 3) := by decide +kernel
theorem dX9_fill_29 : decode cX9_fill 29 = .ok (.iload_n 3, 1) := by decide +kernel
theorem dX9_fill_30 : decode cX9_fill 30 = .ok (.goto 4, 3) := by decide +kernel
theorem dX9_fill_33 : decode cX9_fill 33 = .ok (.iload_n 2, 1) := by decide +kernel
theorem dX9_fill_34 : decode cX9_fill 34 = .ok (.istore_n 2, 1) := by decide +kernel
theorem dX9_fill_35 : decode cX9_fill 35 = .ok (.iinc 3 (-1), 3) := by decide +kernel
theorem dX9_fill_38 : decode cX9_fill 38 = .ok (.goto (-23), 3) := by decide +kernel
theorem dX9_fill_41 : decode cX9_fill 41 = .ok (.aload_n 0, 1) := by decide +kernel
theorem dX9_fill_42 : decode cX9_fill 42 = .ok (.getfield 63, 3) := by decide +kernel
theorem dX9_fill_45 : decode cX9_fill 45 = .ok (.ifCond .eq 20, 3) := by decide +kernel
theorem dX9_fill_48 : decode cX9_fill 48 = .ok (.iload_n 2, 1) := by decide +kernel
theorem dX9_fill_49 : decode cX9_fill 49 = .ok (.bipush (-9), 2) := by decide +kernel
theorem dX9_fill_51 : decode cX9_fill 51 = .ok (.if_icmp .eq 14, 3) := by decide +kernel
theorem dX9_fill_54 : decode cX9_fill 54 = .ok (.aload_n 0, 1) := by decide +kernel
theorem dX9_fill_55 : decode cX9_fill 55 = .ok (.aload_n 1, 1) := by decide +kernel
theorem dX9_fill_56 : decode cX9_fill 56 = .ok (.iconst 0, 1) := by decide +kernel
theorem dX9_fill_57 : decode cX9_fill 57 = .ok (.invokevirtual 133, 3) := by decide +kernel
theorem dX9_fill_60 : decode cX9_fill 60 = .ok (.bipush (-9), 2) := by decide +kernel
theorem dX9_fill_62 : decode cX9_fill 62 = .ok (.if_icmp .eq 4, 3) := by decide +kernel
theorem dX9_fill_65 : decode cX9_fill 65 = .ok (.return_, 1) := by decide +kernel
theorem dX9_fill_66 : decode cX9_fill 66 = .ok (.aload_n 1, 1) := by decide +kernel
theorem dX9_fill_67 : decode cX9_fill 67 = .ok (.iconst 5, 1) := by decide +kernel
theorem dX9_fill_68 : decode cX9_fill 68 = .ok (.iload_n 2, 1) := by decide +kernel
theorem dX9_fill_69 : decode cX9_fill 69 = .ok (.iadd, 1) := by decide +kernel
theorem dX9_fill_70 : decode cX9_fill 70 = .ok (.iconst 0, 1) := by decide +kernel
theorem dX9_fill_71 : decode cX9_fill 71 = .ok (.iastore, 1) := by decide +kernel
theorem dX9_fill_72 : decode cX9_fill 72 = .ok (.aload_n 1, 1) := by decide +kernel
theorem dX9_fill_73 : decode cX9_fill 73 = .ok (.bipush 9, 2) := by decide +kernel
theorem dX9_fill_75 : decode cX9_fill 75 = .ok (.iload_n 2, 1) := by decide +kernel
theorem dX9_fill_76 : decode cX9_fill 76 = .ok (.iadd, 1) := by decide +kernel
theorem dX9_fill_77 : decode cX9_fill 77 = .ok (.aload_n 0, 1) := by decide +kernel
theorem dX9_fill_78 : decode cX9_fill 78 = .ok (.aload_n 1, 1) := by decide +kernel
theorem dX9_fill_79 : decode cX9_fill 79 = .ok (.iconst 0, 1) := by decide +kernel
theorem dX9_fill_80 : decode cX9_fill 80 = .ok (.invokevirtual 141, 3) := by decide +kernel
theorem dX9_fill_83 : decode cX9_fill 83 = .ok (.ifCond .eq 17, 3) := by decide +kernel
theorem dX9_fill_86 : decode cX9_fill 86 = .ok (.aload_n 0, 1) := by decide +kernel
theorem dX9_fill_87 : decode cX9_fill 87 = .ok (.getfield 16, 3) := by decide +kernel
theorem dX9_fill_90 : decode cX9_fill 90 = .ok (.iload_n 2, 1) := by decide +kernel
theorem dX9_fill_91 : decode cX9_fill 91 = .ok (.iaload, 1) := by decide +kernel
theorem dX9_fill_92 : decode cX9_fill 92 = .ok (.iconst 2, 1) := by decide +kernel
theorem dX9_fill_93 : decode cX9_fill 93 = .ok (.if_icmp .le 7, 3) := by decide +kernel
theorem dX9_fill_96 : decode cX9_fill 96 = .ok (.iconst 2, 1) := by decide +kernel
theorem dX9_fill_97 : decode cX9_fill 97 = .ok (.goto 9, 3) := by decide +kernel
theorem dX9_fill_100 : decode cX9_fill 100 = .ok (.aload_n 0, 1) := by decide +kernel
theorem dX9_fill_101 : decode cX9_fill 101 = .ok (.getfield 16, 3) := by decide +kernel
theorem dX9_fill_104 : decode cX9_fill 104 = .ok (.iload_n 2, 1) := by decide +kernel
theorem dX9_fill_105 : decode cX9_fill 105 = .ok (.iaload, 1) := by decide +kernel
theorem dX9_fill_106 : decode cX9_fill 106 = .ok (.iastore, 1) := by decide +kernel
theorem dX9_fill_107 : decode cX9_fill 107 = .ok (.return_, 1) := by decide +kernel
theorem dX9_leak_0 : decode cX9_leak 0 = .ok (.iconst 0, 1) := by decide +kernel
theorem dX9_leak_1 : decode cX9_leak 1 = .ok (.istore_n 2, 1) := by decide +kernel
theorem dX9_leak_2 : decode cX9_leak 2 = .ok (.iload_n 2, 1) := by decide +kernel
theorem dX9_leak_3 : decode cX9_leak 3 = .ok (.aload_n 0, 1) := by decide +kernel
theorem dX9_leak_4 : decode cX9_leak 4 = .ok (.getfield 70, 3) := by decide +kernel
theorem dX9_leak_7 : decode cX9_leak 7 = .ok (.if_icmp .ge 52, 3) := by decide +kernel
theorem dX9_leak_10 : decode cX9_leak 10 = .ok (.aload_n 1, 1) := by decide +kernel
theorem dX9_leak_11 : decode cX9_leak 11 = .ok (.bipush 9, 2) := by decide +kernel
theorem dX9_leak_13 : decode cX9_leak 13 = .ok (.iload_n 2, 1) := by decide +kernel
theorem dX9_leak_14 : decode cX9_leak 14 = .ok (.iadd, 1) := by decide +kernel
theorem dX9_leak_15 : decode cX9_leak 15 = .ok (.dup2, 1) := by decide +kernel
theorem dX9_leak_16 : decode cX9_leak 16 = .ok (.iaload, 1) := by decide +kernel
theorem dX9_leak_17 : decode cX9_leak 17 = .ok (.aload_n 1, 1) := by decide +kernel
theorem dX9_leak_18 : decode cX9_leak 18 = .ok (.iconst 5, 1) := by decide +kernel
theorem dX9_leak_19 : decode cX9_leak 19 = .ok (.iload_n 2, 1) := by decide +kernel
theorem dX9_leak_20 : decode cX9_leak 20 = .ok (.iadd, 1) := by decide +kernel
theorem dX9_leak_21 : decode cX9_leak 21 = .ok (.iaload, 1) := by decide +kernel
theorem dX9_leak_22 : decode cX9_leak 22 = .ok (.iconst 5, 1) := by decide +kernel
theorem dX9_leak_23 : decode cX9_leak 23 = .ok (.if_icmp .ge 27, 3) := by decide +kernel
theorem dX9_leak_26 : decode cX9_leak 26 = .ok (.aload_n 1, 1) := by decide +kernel
theorem dX9_leak_27 : decode cX9_leak 27 = .ok (.bipush 17, 2) := by decide +kernel
theorem dX9_leak_29 : decode cX9_leak 29 = .ok (.iaload, 1) := by decide +kernel
theorem dX9_leak_30 : decode cX9_leak 30 = .ok (.iload_n 2, 1) := by decide +kernel
theorem dX9_leak_31 : decode cX9_leak 31 = .ok (.invokestatic 129, 3) := by decide +kernel
theorem dX9_leak_34 : decode cX9_leak 34 = .ok (.ifCond .eq 16, 3) := by decide +kernel
theorem dX9_leak_37 : decode cX9_leak 37 = .ok (.aload_n 1, 1) := by decide +kernel
theorem dX9_leak_38 : decode cX9_leak 38 = .ok (.bipush 9, 2) := by decide +kernel
theorem dX9_leak_40 : decode cX9_leak 40 = .ok (.iload_n 2, 1) := by decide +kernel
theorem dX9_leak_41 : decode cX9_leak 41 = .ok (.iadd, 1) := by decide +kernel
theorem dX9_leak_42 : decode cX9_leak 42 = .ok (.iaload, 1) := by decide +kernel
theorem dX9_leak_43 : decode cX9_leak 43 = .ok (.ifCond .le 7, 3) := by decide +kernel
theorem dX9_leak_46 : decode cX9_leak 46 = .ok (.iconst 1, 1) := by decide +kernel
theorem dX9_leak_47 : decode cX9_leak 47 = .ok (.goto 4, 3) := by decide +kernel
theorem dX9_leak_50 : decode cX9_leak 50 = .ok (.iconst 0, 1) := by decide +kernel
theorem dX9_leak_51 : decode cX9_leak 51 = .ok (.isub, 1) := by decide +kernel
theorem dX9_leak_52 : decode cX9_leak 52 = .ok (.iastore, 1) := by decide +kernel
theorem dX9_leak_53 : decode cX9_leak 53 = .ok (.iinc 2 1, 3) := by decide +kernel
theorem dX9_leak_56 : decode cX9_leak 56 = .ok (.goto (-54), 3) := by decide +kernel
theorem dX9_leak_59 : decode cX9_leak 59 = .ok (.return_, 1) := by decide +kernel
theorem dX9_comeBack_0 : decode cX9_comeBack 0 = .ok (.iconst 0, 1) := by decide +kernel
theorem dX9_comeBack_1 : decode cX9_comeBack 1 = .ok (.istore_n 2, 1) := by decide +kernel
theorem dX9_comeBack_2 : decode cX9_comeBack 2 = .ok (.iload_n 2, 1) := by decide +kernel
theorem dX9_comeBack_3 : decode cX9_comeBack 3 = .ok (.aload_n 0, 1) := by decide +kernel
theorem dX9_comeBack_4 : decode cX9_comeBack 4 = .ok (.getfield 70, 3) := by decide +kernel
theorem dX9_comeBack_7 : decode cX9_comeBack 7 = .ok (.if_icmp .ge 50, 3) := by decide +kernel
theorem dX9_comeBack_10 : decode cX9_comeBack 10 = .ok (.aload_n 1, 1) := by decide +kernel
theorem dX9_comeBack_11 : decode cX9_comeBack 11 = .ok (.iconst 5, 1) := by decide +kernel
theorem dX9_comeBack_12 : decode cX9_comeBack 12 = .ok (.iload_n 2, 1) := by decide +kernel
theorem dX9_comeBack_13 : decode cX9_comeBack 13 = .ok (.iadd, 1) := by decide +kernel
theorem dX9_comeBack_14 : decode cX9_comeBack 14 = .ok (.iaload, 1) := by decide +kernel
theorem dX9_comeBack_15 : decode cX9_comeBack 15 = .ok (.bipush 9, 2) := by decide +kernel
theorem dX9_comeBack_17 : decode cX9_comeBack 17 = .ok (.if_icmp .ne 34, 3) := by decide +kernel
theorem dX9_comeBack_20 : decode cX9_comeBack 20 = .ok (.aload_n 1, 1) := by decide +kernel
theorem dX9_comeBack_21 : decode cX9_comeBack 21 = .ok (.bipush 13, 2) := by decide +kernel
theorem dX9_comeBack_23 : decode cX9_comeBack 23 = .ok (.iload_n 2, 1) := by decide +kernel
theorem dX9_comeBack_24 : decode cX9_comeBack 24 = .ok (.iadd, 1) := by decide +kernel
theorem dX9_comeBack_25 : decode cX9_comeBack 25 = .ok (.dup2, 1) := by decide +kernel
