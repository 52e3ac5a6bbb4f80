theorem dX9_line_40 : decode cX9_line 40 = .ok (.aload_n 0, 1) := by decide +kernel
theorem dX9_line_41 : decode cX9_line 41 = .ok (.getfield 56, 3) := by decide +kernel
theorem dX9_line_44 : decode cX9_line 44 = .ok (.iload_n 3, 1) := by decide +kernel
theorem dX9_line_45 : decode cX9_line 45 = .ok (.iload_n 3, 1) := by decide +kernel
theorem dX9_line_46 : decode cX9_line 46 = .ok (.iastore, 1) := by decide +kernel
theorem dX9_line_47 : decode cX9_line 47 = .ok (.iinc 3 1, 3) := by decide +kernel
theorem dX9_line_50 : decode cX9_line 50 = .ok (.goto (-18), 3) := by decide +kernel
theorem dX9_line_53 : decode cX9_line 53 = .ok (.aload_n 0, 1) := by decide +kernel
theorem dX9_line_54 : decode cX9_line 54 = .ok (.bipush (-9), 2) := by decide +kernel
theorem dX9_line_56 : decode cX9_line 56 = .ok (.putfield 211, 3) := by decide +kernel
theorem dX9_line_59 : decode cX9_line 59 = .ok (.aload_n 0, 1) := by decide +kernel
theorem dX9_line_60 : decode cX9_line 60 = .ok (.bipush (-9), 2) := by decide +kernel
theorem dX9_line_62 : decode cX9_line 62 = .ok (.putfield 214, 3) := by decide +kernel
theorem dX9_line_65 : decode cX9_line 65 = .ok (.iconst 1, 1) := by decide +kernel
theorem dX9_line_66 : decode cX9_line 66 = .ok (.istore_n 3, 1) := by decide +kernel
theorem dX9_line_67 : decode cX9_line 67 = .ok (.iload_n 3, 1) := by decide +kernel
theorem dX9_line_68 : decode cX9_line 68 = .ok (.ifCond .eq 87, 3) := by decide +kernel
theorem dX9_line_71 : decode cX9_line 71 = .ok (.aload_n 0, 1) := by decide +kernel
theorem dX9_line_72 : decode cX9_line 72 = .ok (.invokevirtual 202, 3) := by decide +kernel
theorem dX9_line_75 : decode cX9_line 75 = .ok (.iconst 0, 1) := by decide +kernel
theorem dX9_line_76 : decode cX9_line 76 = .ok (.istore 4, 2) := by decide +kernel
theorem dX9_line_78 : decode cX9_line 78 = .ok (.iload 4, 2) := by decide +kernel
theorem dX9_line_80 : decode cX9_line 80 = .ok (.aload_n 0, 1) := by decide +kernel
theorem dX9_line_81 : decode cX9_line 81 = .ok (.getfield 63, 3) := by decide +kernel
theorem dX9_line_84 : decode cX9_line 84 = .ok (.if_icmp .ge 23, 3) := by decide +kernel
theorem dX9_line_87 : decode cX9_line 87 = .ok (.aload_n 0, 1) := by decide +kernel
theorem dX9_line_88 : decode cX9_line 88 = .ok (.getfield 28, 3) := by decide +kernel
theorem dX9_line_91 : decode cX9_line 91 = .ok (.iload 4, 2) := by decide +kernel
theorem dX9_line_93 : decode cX9_line 93 = .ok (.aload_n 0, 1) := by decide +kernel
theorem dX9_line_94 : decode cX9_line 94 = .ok (.getfield 56, 3) := by decide +kernel
theorem dX9_line_97 : decode cX9_line 97 = .ok (.iload 4, 2) := by decide +kernel
theorem dX9_line_99 : decode cX9_line 99 = .ok (.iaload, 1) := by decide +kernel
theorem dX9_line_100 : decode cX9_line 100 = .ok (.iastore, 1) := by decide +kernel
theorem dX9_line_101 : decode cX9_line 101 = .ok (.iinc 4 1, 3) := by decide +kernel
theorem dX9_line_104 : decode cX9_line 104 = .ok (.goto (-26), 3) := by decide +kernel
theorem dX9_line_107 : decode cX9_line 107 = .ok (.aload_n 0, 1) := by decide +kernel
theorem dX9_line_108 : decode cX9_line 108 = .ok (.iload_n 1, 1) := by decide +kernel
theorem dX9_line_109 : decode cX9_line 109 = .ok (.bipush 31, 2) := by decide +kernel
theorem dX9_line_111 : decode cX9_line 111 = .ok (.invokevirtual 205, 3) := by decide +kernel
theorem dX9_line_114 : decode cX9_line 114 = .ok (.aload_n 0, 1) := by decide +kernel
theorem dX9_line_115 : decode cX9_line 115 = .ok (.getfield 28, 3) := by decide +kernel
theorem dX9_line_118 : decode cX9_line 118 = .ok (.bipush 19, 2) := by decide +kernel
theorem dX9_line_120 : decode cX9_line 120 = .ok (.iaload, 1) := by decide +kernel
theorem dX9_line_121 : decode cX9_line 121 = .ok (.aload_n 0, 1) := by decide +kernel
theorem dX9_line_122 : decode cX9_line 122 = .ok (.getfield 211, 3) := by decide +kernel
theorem dX9_line_125 : decode cX9_line 125 = .ok (.if_icmp .le 22, 3) := by decide +kernel
theorem dX9_line_128 : decode cX9_line 128 = .ok (.aload_n 0, 1) := by decide +kernel
theorem dX9_line_129 : decode cX9_line 129 = .ok (.aload_n 0, 1) := by decide +kernel
theorem dX9_line_130 : decode cX9_line 130 = .ok (.getfield 28, 3) := by decide +kernel
theorem dX9_line_133 : decode cX9_line 133 = .ok (.bipush 19, 2) := by decide +kernel
theorem dX9_line_135 : decode cX9_line 135 = .ok (.iaload, 1) := by decide +kernel
theorem dX9_line_136 : decode cX9_line 136 = .ok (.putfield 211, 3) := by decide +kernel
theorem dX9_line_139 : decode cX9_line 139 = .ok (.aload_n 0, 1) := by decide +kernel
theorem dX9_line_140 : decode cX9_line 140 = .ok (.aload_n 0, 1) := by decide +kernel
theorem dX9_line_141 : decode cX9_line 141 = .ok (.invokevirtual 220, 3) := by decide +kernel
theorem dX9_line_144 : decode cX9_line 144 = .ok (.putfield 214, 3) := by decide +kernel
theorem dX9_line_147 : decode cX9_line 147 = .ok (.aload_n 0, 1) := by decide +kernel
theorem dX9_line_148 : decode cX9_line 148 = .ok (.invokevirtual 223, 3) := by decide +kernel
theorem dX9_line_151 : decode cX9_line 151 = .ok (.istore_n 3, 1) := by decide +kernel
theorem dX9_line_152 : decode cX9_line 152 = .ok (.goto (-85), 3) := by decide +kernel
theorem dX9_line_155 : decode cX9_line 155 = .ok (.iload_n 2, 1) := by decide +kernel
theorem dX9_line_156 : decode cX9_line 156 = .ok (.ifCond .ne 10, 3) := by decide +kernel
theorem dX9_line_159 : decode cX9_line 159 = .ok (.aload_n 0, 1) := by decide +kernel
theorem dX9_line_160 : decode cX9_line 160 = .ok (.getfield 211, 3) := by decide +kernel
theorem dX9_line_163 : decode cX9_line 163 = .ok (.goto 7, 3) := by decide +kernel
theorem dX9_line_166 : decode cX9_line 166 = .ok (.aload_n 0, 1) := by decide +kernel
theorem dX9_line_167 : decode cX9_line 167 = .ok (.getfield 214, 3) := by decide +kernel
theorem dX9_line_170 : decode cX9_line 170 = .ok (.ireturn, 1) := by decide +kernel
theorem dX9_longPower_0 : decode cX9_longPower 0 = .ok (.lconst 1, 1) := by decide +kernel
theorem dX9_longPower_1 : decode cX9_longPower 1 = .ok (.lstore_n 3, 1) := by decide +kernel
theorem dX9_longPower_2 : decode cX9_longPower 2 = .ok (.iconst 0, 1) := by decide +kernel
theorem dX9_longPower_3 : decode cX9_longPower 3 = .ok (.istore 5, 2) := by decide +kernel
theorem dX9_longPower_5 : decode cX9_longPower 5 = .ok (.iload 5, 2) := by decide +kernel
theorem dX9_longPower_7 : decode cX9_longPower 7 = .ok (.iload_n 2, 1) := by decide +kernel
theorem dX9_longPower_8 : decode cX9_longPower 8 = .ok (.if_icmp .ge 13, 3) := by decide +kernel
theorem dX9_longPower_11 : decode cX9_longPower 11 = .ok (.lload_n 3, 1) := by decide +kernel
theorem dX9_longPower_12 : decode cX9_longPower 12 = .ok (.lload_n 0, 1) := by decide +kernel
theorem dX9_longPower_13 : decode cX9_longPower 13 = .ok (.lmul, 1) := by decide +kernel
theorem dX9_longPower_14 : decode cX9_longPower 14 = .ok (.lstore_n 3, 1) := by decide +kernel
theorem dX9_longPower_15 : decode cX9_longPower 15 = .ok (.iinc 5 1, 3) := by decide +kernel
theorem dX9_longPower_18 : decode cX9_longPower 18 = .ok (.goto (-13), 3) := by decide +kernel
theorem dX9_longPower_21 : decode cX9_longPower 21 = .ok (.lload_n 3, 1) := by decide +kernel
theorem dX9_longPower_22 : decode cX9_longPower 22 = .ok (.lreturn, 1) := by decide +kernel
theorem dX9_changes_0 : decode cX9_changes 0 = .ok (.aload_n 0, 1) := by decide +kernel
theorem dX9_changes_1 : decode cX9_changes 1 = .ok (.iload_n 1, 1) := by decide +kernel
theorem dX9_changes_2 : decode cX9_changes 2 = .ok (.invokevirtual 177, 3) := by decide +kernel
theorem dX9_changes_5 : decode cX9_changes 5 = .ok (.ifCond .ne 20, 3) := by decide +kernel
theorem dX9_changes_8 : decode cX9_changes 8 = .ok (.aload_n 0, 1) := by decide +kernel
theorem dX9_changes_9 : decode cX9_changes 9 = .ok (.iload_n 2, 1) := by decide +kernel
theorem dX9_changes_10 : decode cX9_changes 10 = .ok (.invokevirtual 177, 3) := by decide +kernel
theorem dX9_changes_13 : decode cX9_changes 13 = .ok (.ifCond .ne 12, 3) := by decide +kernel
theorem dX9_changes_16 : decode cX9_changes 16 = .ok (.iload_n 1, 1) := by decide +kernel
theorem dX9_changes_17 : decode cX9_changes 17 = .ok (.iload_n 2, 1) := by decide +kernel
theorem dX9_changes_18 : decode cX9_changes 18 = .ok (.if_icmp .eq 7, 3) := by decide +kernel
theorem dX9_changes_21 : decode cX9_changes 21 = .ok (.iconst 1, 1) := by decide +kernel
theorem dX9_changes_22 : decode cX9_changes 22 = .ok (.goto 4, 3) := by decide +kernel
theorem dX9_changes_25 : decode cX9_changes 25 = .ok (.iconst 0, 1) := by decide +kernel
theorem dX9_changes_26 : decode cX9_changes 26 = .ok (.istore_n 3, 1) := by decide +kernel
theorem dX9_changes_27 : decode cX9_changes 27 = .ok (.iload_n 3, 1) := by decide +kernel
theorem dX9_changes_28 : decode cX9_changes 28 = .ok (.ifCond .eq 13, 3) := by decide +kernel
theorem dX9_changes_31 : decode cX9_changes 31 = .ok (.aload_n 0, 1) := by decide +kernel
theorem dX9_changes_32 : decode cX9_changes 32 = .ok (.aload_n 0, 1) := by decide +kernel
theorem dX9_changes_33 : decode cX9_changes 33 = .ok (.getfield 28, 3) := by decide +kernel
theorem dX9_changes_36 : decode cX9_changes 36 = .ok (.iload_n 1, 1) := by decide +kernel
theorem dX9_changes_37 : decode cX9_changes 37 = .ok (.iload_n 2, 1) := by decide +kernel
theorem dX9_changes_38 : decode cX9_changes 38 = .ok (.invokevirtual 193, 3) := by decide +kernel
theorem dX9_changes_41 : decode cX9_changes 41 = .ok (.iload_n 3, 1) := by decide +kernel
theorem dX9_changes_42 : decode cX9_changes 42 = .ok (.ireturn, 1) := by decide +kernel
theorem dX9_mends_0 : decode cX9_mends 0 = .ok (.aload_n 0, 1) := by decide +kernel
theorem dX9_mends_1 : decode cX9_mends 1 = .ok (.iload_n 1, 1) := by decide +kernel
theorem dX9_mends_2 : decode cX9_mends 2 = .ok (.invokevirtual 184, 3) := by decide +kernel
theorem dX9_mends_5 : decode cX9_mends 5 = .ok (.ifCond .ne 21, 3) := by decide +kernel
theorem dX9_mends_8 : decode cX9_mends 8 = .ok (.aload_n 0, 1) := by decide +kernel
theorem dX9_mends_9 : decode cX9_mends 9 = .ok (.getfield 28, 3) := by decide +kernel
theorem dX9_mends_12 : decode cX9_mends 12 = .ok (.bipush 17, 2) := by decide +kernel
theorem dX9_mends_14 : decode cX9_mends 14 = .ok (.iaload, 1) := by decide +kernel
theorem dX9_mends_15 : decode cX9_mends 15 = .ok (.iload_n 1, 1) := by decide +kernel
theorem dX9_mends_16 : decode cX9_mends 16 = .ok (.invokestatic 129, 3) := by decide +kernel
theorem dX9_mends_19 : decode cX9_mends 19 = .ok (.ifCond .eq 7, 3) := by decide +kernel
theorem dX9_mends_22 : decode cX9_mends 22 = .ok (.iconst 1, 1) := by decide +kernel
theorem dX9_mends_23 : decode cX9_mends 23 = .ok (.goto 4, 3) := by decide +kernel
theorem dX9_mends_26 : decode cX9_mends 26 = .ok (.iconst 0, 1) := by decide +kernel
theorem dX9_mends_27 : decode cX9_mends 27 = .ok (.istore_n 2, 1) := by decide +kernel
theorem dX9_mends_28 : decode cX9_mends 28 = .ok (.iload_n 2, 1) := by decide +kernel
theorem dX9_mends_29 : decode cX9_mends 29 = .ok (.ifCond .eq 18, 3) := by decide +kernel
theorem dX9_mends_32 : decode cX9_mends 32 = .ok (.aload_n 0, 1) := by decide +kernel
theorem dX9_mends_33 : decode cX9_mends 33 = .ok (.getfield 28, 3) := by decide +kernel
theorem dX9_mends_36 : decode cX9_mends 36 = .ok (.bipush 17, 2) := by decide +kernel
theorem dX9_mends_38 : decode cX9_mends 38 = .ok (.dup2, 1) := by decide +kernel
theorem dX9_mends_39 : decode cX9_mends 39 = .ok (.iaload, 1) := by decide +kernel
theorem dX9_mends_40 : decode cX9_mends 40 = .ok (.iconst 1, 1) := by decide +kernel
theorem dX9_mends_41 : decode cX9_mends 41 = .ok (.iload_n 1, 1) := by decide +kernel
theorem dX9_mends_42 : decode cX9_mends 42 = .ok (.ishl, 1) := by decide +kernel
theorem dX9_mends_43 : decode cX9_mends 43 = .ok (.iconst (-1), 1) := by decide +kernel
theorem dX9_mends_44 : decode cX9_mends 44 = .ok (.ixor, 1) := by decide +kernel
theorem dX9_mends_45 : decode cX9_mends 45 = .ok (.iand, 1) := by decide +kernel
theorem dX9_mends_46 : decode cX9_mends 46 = .ok (.iastore, 1) := by decide +kernel
theorem dX9_mends_47 : decode cX9_mends 47 = .ok (.iload_n 2, 1) := by decide +kernel
theorem dX9_mends_48 : decode cX9_mends 48 = .ok (.ireturn, 1) := by decide +kernel
theorem dX9_drops_0 : decode cX9_drops 0 = .ok (.aload_n 0, 1) := by decide +kernel
theorem dX9_drops_1 : decode cX9_drops 1 = .ok (.iload_n 1, 1) := by decide +kernel
theorem dX9_drops_2 : decode cX9_drops 2 = .ok (.invokevirtual 184, 3) := by decide +kernel
theorem dX9_drops_5 : decode cX9_drops 5 = .ok (.ifCond .ne 19, 3) := by decide +kernel
theorem dX9_drops_8 : decode cX9_drops 8 = .ok (.aload_n 0, 1) := by decide +kernel
theorem dX9_drops_9 : decode cX9_drops 9 = .ok (.getfield 28, 3) := by decide +kernel
theorem dX9_drops_12 : decode cX9_drops 12 = .ok (.iconst 5, 1) := by decide +kernel
theorem dX9_drops_13 : decode cX9_drops 13 = .ok (.iload_n 1, 1) := by decide +kernel
theorem dX9_drops_14 : decode cX9_drops 14 = .ok (.iadd, 1) := by decide +kernel
theorem dX9_drops_15 : decode cX9_drops 15 = .ok (.iaload, 1) := by decide +kernel
theorem dX9_drops_16 : decode cX9_drops 16 = .ok (.iconst 5, 1) := by decide +kernel
theorem dX9_drops_17 : decode cX9_drops 17 = .ok (.if_icmp .ge 7, 3) := by decide +kernel
theorem dX9_drops_20 : decode cX9_drops 20 = .ok (.iconst 1, 1) := by decide +kernel
theorem dX9_drops_21 : decode cX9_drops 21 = .ok (.goto 4, 3) := by decide +kernel
theorem dX9_drops_24 : decode cX9_drops 24 = .ok (.iconst 0, 1) := by decide +kernel
theorem dX9_drops_25 : decode cX9_drops 25 = .ok (.istore_n 2, 1) := by decide +kernel
theorem dX9_drops_26 : decode cX9_drops 26 = .ok (.iload_n 2, 1) := by decide +kernel
theorem dX9_drops_27 : decode cX9_drops 27 = .ok (.ifCond .eq 12, 3) := by decide +kernel
theorem dX9_drops_30 : decode cX9_drops 30 = .ok (.aload_n 0, 1) := by decide +kernel
theorem dX9_drops_31 : decode cX9_drops 31 = .ok (.aload_n 0, 1) := by decide +kernel
theorem dX9_drops_32 : decode cX9_drops 32 = .ok (.getfield 28, 3) := by decide +kernel
theorem dX9_drops_35 : decode cX9_drops 35 = .ok (.iload_n 1, 1) := by decide +kernel
theorem dX9_drops_36 : decode cX9_drops 36 = .ok (.invokevirtual 162, 3) := by decide +kernel
theorem dX9_drops_39 : decode cX9_drops 39 = .ok (.iload_n 2, 1) := by decide +kernel
theorem dX9_drops_40 : decode cX9_drops 40 = .ok (.ireturn, 1) := by decide +kernel
theorem dX9_does_0 : decode cX9_does 0 = .ok (.iload_n 1, 1) := by decide +kernel
theorem dX9_does_1 : decode cX9_does 1 = .ok (.bipush 100, 2) := by decide +kernel
theorem dX9_does_3 : decode cX9_does 3 = .ok (.idiv, 1) := by decide +kernel
theorem dX9_does_4 : decode cX9_does 4 = .ok (.istore_n 2, 1) := by decide +kernel
theorem dX9_does_5 : decode cX9_does 5 = .ok (.iload_n 1, 1) := by decide +kernel
theorem dX9_does_6 : decode cX9_does 6 = .ok (.bipush 10, 2) := by decide +kernel
theorem dX9_does_8 : decode cX9_does 8 = .ok (.idiv, 1) := by decide +kernel
theorem dX9_does_9 : decode cX9_does 9 = .ok (.bipush 10, 2) := by decide +kernel
theorem dX9_does_11 : decode cX9_does 11 = .ok (.irem, 1) := by decide +kernel
theorem dX9_does_12 : decode cX9_does 12 = .ok (.istore_n 3, 1) := by decide +kernel
theorem dX9_does_13 : decode cX9_does 13 = .ok (.iload_n 1, 1) := by decide +kernel
theorem dX9_does_14 : decode cX9_does 14 = .ok (.bipush 10, 2) := by decide +kernel
theorem dX9_does_16 : decode cX9_does 16 = .ok (.irem, 1) := by decide +kernel
theorem dX9_does_17 : decode cX9_does 17 = .ok (.istore 4, 2) := by decide +kernel
theorem dX9_does_19 : decode cX9_does 19 = .ok (.iload_n 1, 1) := by decide +kernel
theorem dX9_does_20 : decode cX9_does 20 = .ok (.ifCond .ne 16, 3) := by decide +kernel
theorem dX9_does_23 : decode cX9_does 23 = .ok (.aload_n 0, 1) := by decide +kernel
theorem dX9_does_24 : decode cX9_does 24 = .ok (.aload_n 0, 1) := by decide +kernel
theorem dX9_does_25 : decode cX9_does 25 = .ok (.getfield 28, 3) := by decide +kernel
theorem dX9_does_28 : decode cX9_does 28 = .ok (.bipush 31, 2) := by decide +kernel
theorem dX9_does_30 : decode cX9_does 30 = .ok (.invokevirtual 190, 3) := by decide +kernel
theorem dX9_does_33 : decode cX9_does 33 = .ok (.pop, 1) := by decide +kernel
theorem dX9_does_34 : decode cX9_does 34 = .ok (.iconst 1, 1) := by decide +kernel
theorem dX9_does_35 : decode cX9_does 35 = .ok (.ireturn, 1) := by decide +kernel
theorem dX9_does_36 : decode cX9_does 36 = .ok (.iload_n 2, 1) := by decide +kernel
theorem dX9_does_37 : decode cX9_does 37 = .ok (.tableswitch 157 1 5 #[35, 43, 62, 81, 117], 35) := by decide +kernel
theorem dX9_does_72 : decode cX9_does 72 = .ok (.aload_n 0, 1) := by decide +kernel
theorem dX9_does_73 : decode cX9_does 73 = .ok (.iload_n 3, 1) := by decide +kernel
theorem dX9_does_74 : decode cX9_does 74 = .ok (.iload 4, 2) := by decide +kernel
theorem dX9_does_76 : decode cX9_does 76 = .ok (.invokevirtual 226, 3) := by decide +kernel
theorem dX9_does_79 : decode cX9_does 79 = .ok (.ireturn, 1) := by decide +kernel
theorem dX9_does_80 : decode cX9_does 80 = .ok (.iload_n 3, 1) := by decide +kernel
theorem dX9_does_81 : decode cX9_does 81 = .ok (.ifCond .ne 16, 3) := by decide +kernel
theorem dX9_does_84 : decode cX9_does 84 = .ok (.aload_n 0, 1) := by decide +kernel
theorem dX9_does_85 : decode cX9_does 85 = .ok (.iload 4, 2) := by decide +kernel
theorem dX9_does_87 : decode cX9_does 87 = .ok (.invokevirtual 229, 3) := by decide +kernel
theorem dX9_does_90 : decode cX9_does 90 = .ok (.ifCond .eq 7, 3) := by decide +kernel
theorem dX9_does_93 : decode cX9_does 93 = .ok (.iconst 1, 1) := by decide +kernel
theorem dX9_does_94 : decode cX9_does 94 = .ok (.goto 4, 3) := by decide +kernel
theorem dX9_does_97 : decode cX9_does 97 = .ok (.iconst 0, 1) := by decide +kernel
theorem dX9_does_98 : decode cX9_does 98 = .ok (.ireturn, 1) := by decide +kernel
theorem dX9_does_99 : decode cX9_does 99 = .ok (.iload_n 3, 1) := by decide +kernel
theorem dX9_does_100 : decode cX9_does 100 = .ok (.ifCond .ne 16, 3) := by decide +kernel
theorem dX9_does_103 : decode cX9_does 103 = .ok (.aload_n 0, 1) := by decide +kernel
theorem dX9_does_104 : decode cX9_does 104 = .ok (.iload 4, 2) := by decide +kernel
theorem dX9_does_106 : decode cX9_does 106 = .ok (.invokevirtual 232, 3) := by decide +kernel
theorem dX9_does_109 : decode cX9_does 109 = .ok (.ifCond .eq 7, 3) := by decide +kernel
theorem dX9_does_112 : decode cX9_does 112 = .ok (.iconst 1, 1) := by decide +kernel
theorem dX9_does_113 : decode cX9_does 113 = .ok (.goto 4, 3) := by decide +kernel
theorem dX9_does_116 : decode cX9_does 116 = .ok (.iconst 0, 1) := by decide +kernel
theorem dX9_does_117 : decode cX9_does 117 = .ok (.ireturn, 1) := by decide +kernel
theorem dX9_does_118 : decode cX9_does 118 = .ok (.aload_n 0, 1) := by decide +kernel
theorem dX9_does_119 : decode cX9_does 119 = .ok (.iload_n 3, 1) := by decide +kernel
theorem dX9_does_120 : decode cX9_does 120 = .ok (.invokevirtual 177, 3) := by decide +kernel
theorem dX9_does_123 : decode cX9_does 123 = .ok (.ifCond .ne 29, 3) := by decide +kernel
theorem dX9_does_126 : decode cX9_does 126 = .ok (.aload_n 0, 1) := by decide +kernel
theorem dX9_does_127 : decode cX9_does 127 = .ok (.iload 4, 2) := by decide +kernel
theorem dX9_does_129 : decode cX9_does 129 = .ok (.invokevirtual 184, 3) := by decide +kernel
theorem dX9_does_132 : decode cX9_does 132 = .ok (.ifCond .ne 20, 3) := by decide +kernel
theorem dX9_does_135 : decode cX9_does 135 = .ok (.aload_n 0, 1) := by decide +kernel
theorem dX9_does_136 : decode cX9_does 136 = .ok (.getfield 28, 3) := by decide +kernel
theorem dX9_does_139 : decode cX9_does 139 = .ok (.iconst 5, 1) := by decide +kernel
theorem dX9_does_140 : decode cX9_does 140 = .ok (.iload 4, 2) := by decide +kernel
theorem dX9_does_142 : decode cX9_does 142 = .ok (.iadd, 1) := by decide +kernel
theorem dX9_does_143 : decode cX9_does 143 = .ok (.iaload, 1) := by decide +kernel
theorem dX9_does_144 : decode cX9_does 144 = .ok (.iload_n 3, 1) := by decide +kernel
theorem dX9_does_145 : decode cX9_does 145 = .ok (.if_icmp .ne 7, 3) := by decide +kernel
theorem dX9_does_148 : decode cX9_does 148 = .ok (.iconst 1, 1) := by decide +kernel
theorem dX9_does_149 : decode cX9_does 149 = .ok (.goto 4, 3) := by decide +kernel
theorem dX9_does_152 : decode cX9_does 152 = .ok (.iconst 0, 1) := by decide +kernel
theorem dX9_does_153 : decode cX9_does 153 = .ok (.ireturn, 1) := by decide +kernel
theorem dX9_does_154 : decode cX9_does 154 = .ok (.aload_n 0, 1) := by decide +kernel
theorem dX9_does_155 : decode cX9_does 155 = .ok (.iload_n 3, 1) := by decide +kernel
theorem dX9_does_156 : decode cX9_does 156 = .ok (.invokevirtual 184, 3) := by decide +kernel
theorem dX9_does_159 : decode cX9_does 159 = .ok (.ifCond .ne 33, 3) := by decide +kernel
theorem dX9_does_162 : decode cX9_does 162 = .ok (.aload_n 0, 1) := by decide +kernel
theorem dX9_does_163 : decode cX9_does 163 = .ok (.getfield 28, 3) := by decide +kernel
theorem dX9_does_166 : decode cX9_does 166 = .ok (.iconst 5, 1) := by decide +kernel
theorem dX9_does_167 : decode cX9_does 167 = .ok (.iload_n 3, 1) := by decide +kernel
theorem dX9_does_168 : decode cX9_does 168 = .ok (.iadd, 1) := by decide +kernel
theorem dX9_does_169 : decode cX9_does 169 = .ok (.iaload, 1) := by decide +kernel
theorem dX9_does_170 : decode cX9_does 170 = .ok (.iconst 5, 1) := by decide +kernel
theorem dX9_does_171 : decode cX9_does 171 = .ok (.if_icmp .ge 21, 3) := by decide +kernel
theorem dX9_does_174 : decode cX9_does 174 = .ok (.aload_n 0, 1) := by decide +kernel
theorem dX9_does_175 : decode cX9_does 175 = .ok (.getfield 28, 3) := by decide +kernel
theorem dX9_does_178 : decode cX9_does 178 = .ok (.bipush 9, 2) := by decide +kernel
theorem dX9_does_180 : decode cX9_does 180 = .ok (.iload_n 3, 1) := by decide +kernel
theorem dX9_does_181 : decode cX9_does 181 = .ok (.iadd, 1) := by decide +kernel
theorem dX9_does_182 : decode cX9_does 182 = .ok (.iaload, 1) := by decide +kernel
theorem dX9_does_183 : decode cX9_does 183 = .ok (.iload 4, 2) := by decide +kernel
theorem dX9_does_185 : decode cX9_does 185 = .ok (.if_icmp .lt 7, 3) := by decide +kernel
theorem dX9_does_188 : decode cX9_does 188 = .ok (.iconst 1, 1) := by decide +kernel
theorem dX9_does_189 : decode cX9_does 189 = .ok (.goto 4, 3) := by decide +kernel
theorem dX9_does_192 : decode cX9_does 192 = .ok (.iconst 0, 1) := by decide +kernel
theorem dX9_does_193 : decode cX9_does 193 = .ok (.ireturn, 1) := by decide +kernel
theorem dX9_does_194 : decode cX9_does 194 = .ok (.iload_n 2, 1) := by decide +kernel
theorem dX9_does_195 : decode cX9_does 195 = .ok (.bipush 6, 2) := by decide +kernel
theorem dX9_does_197 : decode cX9_does 197 = .ok (.if_icmp .ne 24, 3) := by decide +kernel
theorem dX9_does_200 : decode cX9_does 200 = .ok (.aload_n 0, 1) := by decide +kernel
theorem dX9_does_201 : decode cX9_does 201 = .ok (.getfield 28, 3) := by decide +kernel
theorem dX9_does_204 : decode cX9_does 204 = .ok (.bipush 18, 2) := by decide +kernel
theorem dX9_does_206 : decode cX9_does 206 = .ok (.iaload, 1) := by decide +kernel
theorem dX9_does_207 : decode cX9_does 207 = .ok (.bipush 10, 2) := by decide +kernel
theorem dX9_does_209 : decode cX9_does 209 = .ok (.iload_n 3, 1) := by decide +kernel
theorem dX9_does_210 : decode cX9_does 210 = .ok (.imul, 1) := by decide +kernel
theorem dX9_does_211 : decode cX9_does 211 = .ok (.iload 4, 2) := by decide +kernel
theorem dX9_does_213 : decode cX9_does 213 = .ok (.iadd, 1) := by decide +kernel
theorem dX9_does_214 : decode cX9_does 214 = .ok (.if_icmp .gt 7, 3) := by decide +kernel
theorem dX9_does_217 : decode cX9_does 217 = .ok (.iconst 1, 1) := by decide +kernel
theorem dX9_does_218 : decode cX9_does 218 = .ok (.goto 4, 3) := by decide +kernel
theorem dX9_does_221 : decode cX9_does 221 = .ok (.iconst 0, 1) := by decide +kernel
theorem dX9_does_222 : decode cX9_does 222 = .ok (.ireturn, 1) := by decide +kernel
theorem dX9_judge_0 : decode cX9_judge 0 = .ok (.aload_n 0, 1) := by decide +kernel
theorem dX9_judge_1 : decode cX9_judge 1 = .ok (.iconst 0, 1) := by decide +kernel
theorem dX9_judge_2 : decode cX9_judge 2 = .ok (.putfield 59, 3) := by decide +kernel
theorem dX9_judge_5 : decode cX9_judge 5 = .ok (.iload_n 1, 1) := by decide +kernel
theorem dX9_judge_6 : decode cX9_judge 6 = .ok (.i2l, 1) := by decide +kernel
theorem dX9_judge_7 : decode cX9_judge 7 = .ok (.lconst 1, 1) := by decide +kernel
theorem dX9_judge_8 : decode cX9_judge 8 = .ok (.ldc2_w 235, 3) := by decide +kernel
theorem dX9_judge_11 : decode cX9_judge 11 = .ok (.invokestatic 66, 3) := by decide +kernel
theorem dX9_judge_14 : decode cX9_judge 14 = .ok (.ifCond .eq 20, 3) := by decide +kernel
theorem dX9_judge_17 : decode cX9_judge 17 = .ok (.lload_n 2, 1) := by decide +kernel
theorem dX9_judge_18 : decode cX9_judge 18 = .ok (.lconst 0, 1) := by decide +kernel
theorem dX9_judge_19 : decode cX9_judge 19 = .ok (.ldc2_w 237, 3) := by decide +kernel
theorem dX9_judge_22 : decode cX9_judge 22 = .ok (.iload_n 1, 1) := by decide +kernel
theorem dX9_judge_23 : decode cX9_judge 23 = .ok (.invokestatic 239, 3) := by decide +kernel
theorem dX9_judge_26 : decode cX9_judge 26 = .ok (.lconst 1, 1) := by decide +kernel
theorem dX9_judge_27 : decode cX9_judge 27 = .ok (.lsub, 1) := by decide +kernel
theorem dX9_judge_28 : decode cX9_judge 28 = .ok (.invokestatic 66, 3) := by decide +kernel
theorem dX9_judge_31 : decode cX9_judge 31 = .ok (.ifCond .ne 6, 3) := by decide +kernel
theorem dX9_judge_34 : decode cX9_judge 34 = .ok (.bipush (-2), 2) := by decide +kernel
theorem dX9_judge_36 : decode cX9_judge 36 = .ok (.ireturn, 1) := by decide +kernel
theorem dX9_judge_37 : decode cX9_judge 37 = .ok (.aload_n 0, 1) := by decide +kernel
theorem dX9_judge_38 : decode cX9_judge 38 = .ok (.invokevirtual 202, 3) := by decide +kernel
theorem dX9_judge_41 : decode cX9_judge 41 = .ok (.iconst 0, 1) := by decide +kernel
theorem dX9_judge_42 : decode cX9_judge 42 = .ok (.istore 4, 2) := by decide +kernel
theorem dX9_judge_44 : decode cX9_judge 44 = .ok (.iload 4, 2) := by decide +kernel
theorem dX9_judge_46 : decode cX9_judge 46 = .ok (.iload_n 1, 1) := by decide +kernel
theorem dX9_judge_47 : decode cX9_judge 47 = .ok (.if_icmp .ge 38, 3) := by decide +kernel
theorem dX9_judge_50 : decode cX9_judge 50 = .ok (.aload_n 0, 1) := by decide +kernel
theorem dX9_judge_51 : decode cX9_judge 51 = .ok (.lload_n 2, 1) := by decide +kernel
theorem dX9_judge_52 : decode cX9_judge 52 = .ok (.ldc2_w 237, 3) := by decide +kernel
theorem dX9_judge_55 : decode cX9_judge 55 = .ok (.iload_n 1, 1) := by decide +kernel
theorem dX9_judge_56 : decode cX9_judge 56 = .ok (.iconst 1, 1) := by decide +kernel
theorem dX9_judge_57 : decode cX9_judge 57 = .ok (.isub, 1) := by decide +kernel
theorem dX9_judge_58 : decode cX9_judge 58 = .ok (.iload 4, 2) := by decide +kernel
theorem dX9_judge_60 : decode cX9_judge 60 = .ok (.isub, 1) := by decide +kernel
theorem dX9_judge_61 : decode cX9_judge 61 = .ok (.invokestatic 239, 3) := by decide +kernel
theorem dX9_judge_64 : decode cX9_judge 64 = .ok (.ldiv, 1) := by decide +kernel
theorem dX9_judge_65 : decode cX9_judge 65 = .ok (.ldc2_w 237, 3) := by decide +kernel
theorem dX9_judge_68 : decode cX9_judge 68 = .ok (.lrem, 1) := by decide +kernel
theorem dX9_judge_69 : decode cX9_judge 69 = .ok (.l2i, 1) := by decide +kernel
theorem dX9_judge_70 : decode cX9_judge 70 = .ok (.invokevirtual 243, 3) := by decide +kernel
theorem dX9_judge_73 : decode cX9_judge 73 = .ok (.ifCond .ne 6, 3) := by decide +kernel
theorem dX9_judge_76 : decode cX9_judge 76 = .ok (.iload 4, 2) := by decide +kernel
theorem dX9_judge_78 : decode cX9_judge 78 = .ok (.ireturn, 1) := by decide +kernel
theorem dX9_judge_79 : decode cX9_judge 79 = .ok (.iinc 4 1, 3) := by decide +kernel
theorem dX9_judge_82 : decode cX9_judge 82 = .ok (.goto (-38), 3) := by decide +kernel
theorem dX9_judge_85 : decode cX9_judge 85 = .ok (.bipush (-9), 2) := by decide +kernel
theorem dX9_judge_87 : decode cX9_judge 87 = .ok (.ireturn, 1) := by decide +kernel
theorem dX9_ways_0 : decode cX9_ways 0 = .ok (.iconst 1, 1) := by decide +kernel
theorem dX9_ways_1 : decode cX9_ways 1 = .ok (.istore_n 1, 1) := by decide +kernel
theorem dX9_ways_2 : decode cX9_ways 2 = .ok (.iconst 2, 1) := by decide +kernel
theorem dX9_ways_3 : decode cX9_ways 3 = .ok (.istore_n 2, 1) := by decide +kernel
theorem dX9_ways_4 : decode cX9_ways 4 = .ok (.iload_n 2, 1) := by decide +kernel
theorem dX9_ways_5 : decode cX9_ways 5 = .ok (.iload_n 0, 1) := by decide +kernel
theorem dX9_ways_6 : decode cX9_ways 6 = .ok (.if_icmp .gt 13, 3) := by decide +kernel
theorem dX9_ways_9 : decode cX9_ways 9 = .ok (.iload_n 1, 1) := by decide +kernel
theorem dX9_ways_10 : decode cX9_ways 10 = .ok (.iload_n 2, 1) := by decide +kernel
theorem dX9_ways_11 : decode cX9_ways 11 = .ok (.imul, 1) := by decide +kernel
theorem dX9_ways_12 : decode cX9_ways 12 = .ok (.istore_n 1, 1) := by decide +kernel
theorem dX9_ways_13 : decode cX9_ways 13 = .ok (.iinc 2 1, 3) := by decide +kernel
theorem dX9_ways_16 : decode cX9_ways 16 = .ok (.goto (-12), 3) := by decide +kernel
theorem dX9_ways_19 : decode cX9_ways 19 = .ok (.iload_n 1, 1) := by decide +kernel
theorem dX9_ways_20 : decode cX9_ways 20 = .ok (.ireturn, 1) := by decide +kernel
theorem dX9_divisor_0 : decode cX9_divisor 0 = .ok (.iload_n 0, 1) := by decide +kernel
theorem dX9_divisor_1 : decode cX9_divisor 1 = .ok (.ifCond .ge 8, 3) := by decide +kernel
theorem dX9_divisor_4 : decode cX9_divisor 4 = .ok (.iload_n 0, 1) := by decide +kernel
theorem dX9_divisor_5 : decode cX9_divisor 5 = .ok (.ineg, 1) := by decide +kernel
theorem dX9_divisor_6 : decode cX9_divisor 6 = .ok (.goto 4, 3) := by decide +kernel
theorem dX9_divisor_9 : decode cX9_divisor 9 = .ok (.iload_n 0, 1) := by decide +kernel
theorem dX9_divisor_10 : decode cX9_divisor 10 = .ok (.istore_n 2, 1) := by decide +kernel
theorem dX9_divisor_11 : decode cX9_divisor 11 = .ok (.iload_n 1, 1) := by decide +kernel
theorem dX9_divisor_12 : decode cX9_divisor 12 = .ok (.istore_n 3, 1) := by decide +kernel
theorem dX9_divisor_13 : decode cX9_divisor 13 = .ok (.iload_n 3, 1) := by decide +kernel
theorem dX9_divisor_14 : decode cX9_divisor 14 = .ok (.ifCond .eq 16, 3) := by decide +kernel
theorem dX9_divisor_17 : decode cX9_divisor 17 = .ok (.iload_n 2, 1) := by decide +kernel
theorem dX9_divisor_18 : decode cX9_divisor 18 = .ok (.iload_n 3, 1) := by decide +kernel
theorem dX9_divisor_19 : decode cX9_divisor 19 = .ok (.irem, 1) := by decide +kernel
theorem dX9_divisor_20 : decode cX9_divisor 20 = .ok (.istore 4, 2) := by decide +kernel
theorem dX9_divisor_22 : decode cX9_divisor 22 = .ok (.iload_n 3, 1) := by decide +kernel
theorem dX9_divisor_23 : decode cX9_divisor 23 = .ok (.istore_n 2, 1) := by decide +kernel
theorem dX9_divisor_24 : decode cX9_divisor 24 = .ok (.iload 4, 2) := by decide +kernel
theorem dX9_divisor_26 : decode cX9_divisor 26 = .ok (.istore_n 3, 1) := by decide +kernel
theorem dX9_divisor_27 : decode cX9_divisor 27 = .ok (.goto (-14), 3) := by decide +kernel
theorem dX9_divisor_30 : decode cX9_divisor 30 = .ok (.iload_n 2, 1) := by decide +kernel
theorem dX9_divisor_31 : decode cX9_divisor 31 = .ok (.ireturn, 1) := by decide +kernel
theorem dX9_fraction_0 : decode cX9_fraction 0 = .ok (.iload_n 0, 1) := by decide +kernel
theorem dX9_fraction_1 : decode cX9_fraction 1 = .ok (.iload_n 1, 1) := by decide +kernel
theorem dX9_fraction_2 : decode cX9_fraction 2 = .ok (.invokestatic 246, 3) := by decide +kernel
theorem dX9_fraction_5 : decode cX9_fraction 5 = .ok (.istore_n 3, 1) := by decide +kernel
theorem dX9_fraction_6 : decode cX9_fraction 6 = .ok (.iload_n 2, 1) := by decide +kernel
theorem dX9_fraction_7 : decode cX9_fraction 7 = .ok (.ifCond .eq 9, 3) := by decide +kernel
theorem dX9_fraction_10 : decode cX9_fraction 10 = .ok (.iload_n 0, 1) := by decide +kernel
theorem dX9_fraction_11 : decode cX9_fraction 11 = .ok (.iload_n 3, 1) := by decide +kernel
theorem dX9_fraction_12 : decode cX9_fraction 12 = .ok (.idiv, 1) := by decide +kernel
theorem dX9_fraction_13 : decode cX9_fraction 13 = .ok (.goto 6, 3) := by decide +kernel
theorem dX9_fraction_16 : decode cX9_fraction 16 = .ok (.iload_n 1, 1) := by decide +kernel
theorem dX9_fraction_17 : decode cX9_fraction 17 = .ok (.iload_n 3, 1) := by decide +kernel
theorem dX9_fraction_18 : decode cX9_fraction 18 = .ok (.idiv, 1) := by decide +kernel
theorem dX9_fraction_19 : decode cX9_fraction 19 = .ok (.ireturn, 1) := by decide +kernel
theorem dX9_share_0 : decode cX9_share 0 = .ok (.aload_n 0, 1) := by decide +kernel
theorem dX9_share_1 : decode cX9_share 1 = .ok (.iconst 0, 1) := by decide +kernel
theorem dX9_share_2 : decode cX9_share 2 = .ok (.putfield 59, 3) := by decide +kernel
theorem dX9_share_5 : decode cX9_share 5 = .ok (.aload_n 0, 1) := by decide +kernel
theorem dX9_share_6 : decode cX9_share 6 = .ok (.iload_n 1, 1) := by decide +kernel
theorem dX9_share_7 : decode cX9_share 7 = .ok (.invokevirtual 184, 3) := by decide +kernel
theorem dX9_share_10 : decode cX9_share 10 = .ok (.ifCond .eq 5, 3) := by decide +kernel
theorem dX9_share_13 : decode cX9_share 13 = .ok (.iconst (-1), 1) := by decide +kernel
theorem dX9_share_14 : decode cX9_share 14 = .ok (.ireturn, 1) := by decide +kernel
theorem dX9_share_15 : decode cX9_share 15 = .ok (.iconst 0, 1) := by decide +kernel
theorem dX9_share_16 : decode cX9_share 16 = .ok (.istore_n 3, 1) := by decide +kernel
theorem dX9_share_17 : decode cX9_share 17 = .ok (.iload_n 3, 1) := by decide +kernel
theorem dX9_share_18 : decode cX9_share 18 = .ok (.iconst 1, 1) := by decide +kernel
theorem dX9_share_19 : decode cX9_share 19 = .ok (.aload_n 0, 1) := by decide +kernel
theorem dX9_share_20 : decode cX9_share 20 = .ok (.getfield 70, 3) := by decide +kernel
theorem dX9_share_23 : decode cX9_share 23 = .ok (.ishl, 1) := by decide +kernel
theorem dX9_share_24 : decode cX9_share 24 = .ok (.if_icmp .ge 92, 3) := by decide +kernel
theorem dX9_share_27 : decode cX9_share 27 = .ok (.aload_n 0, 1) := by decide +kernel
theorem dX9_share_28 : decode cX9_share 28 = .ok (.invokevirtual 202, 3) := by decide +kernel
theorem dX9_share_31 : decode cX9_share 31 = .ok (.iconst 0, 1) := by decide +kernel
theorem dX9_share_32 : decode cX9_share 32 = .ok (.istore 4, 2) := by decide +kernel
theorem dX9_share_34 : decode cX9_share 34 = .ok (.iload 4, 2) := by decide +kernel
theorem dX9_share_36 : decode cX9_share 36 = .ok (.aload_n 0, 1) := by decide +kernel
theorem dX9_share_37 : decode cX9_share 37 = .ok (.getfield 70, 3) := by decide +kernel
theorem dX9_share_40 : decode cX9_share 40 = .ok (.if_icmp .ge 41, 3) := by decide +kernel
theorem dX9_share_43 : decode cX9_share 43 = .ok (.aload_n 0, 1) := by decide +kernel
theorem dX9_share_44 : decode cX9_share 44 = .ok (.getfield 28, 3) := by decide +kernel
theorem dX9_share_47 : decode cX9_share 47 = .ok (.iconst 5, 1) := by decide +kernel
theorem dX9_share_48 : decode cX9_share 48 = .ok (.iload 4, 2) := by decide +kernel
theorem dX9_share_50 : decode cX9_share 50 = .ok (.iadd, 1) := by decide +kernel
theorem dX9_share_51 : decode cX9_share 51 = .ok (.iload_n 3, 1) := by decide +kernel
theorem dX9_share_52 : decode cX9_share 52 = .ok (.iload 4, 2) := by decide +kernel
theorem dX9_share_54 : decode cX9_share 54 = .ok (.invokestatic 129, 3) := by decide +kernel
theorem dX9_share_57 : decode cX9_share 57 = .ok (.ifCond .eq 15, 3) := by decide +kernel
theorem dX9_share_60 : decode cX9_share 60 = .ok (.aload_n 0, 1) := by decide +kernel
theorem dX9_share_61 : decode cX9_share 61 = .ok (.getfield 28, 3) := by decide +kernel
theorem dX9_share_64 : decode cX9_share 64 = .ok (.iconst 5, 1) := by decide +kernel
theorem dX9_share_65 : decode cX9_share 65 = .ok (.iload 4, 2) := by decide +kernel
theorem dX9_share_67 : decode cX9_share 67 = .ok (.iadd, 1) := by decide +kernel
theorem dX9_share_68 : decode cX9_share 68 = .ok (.iaload, 1) := by decide +kernel
theorem dX9_share_69 : decode cX9_share 69 = .ok (.goto 5, 3) := by decide +kernel
theorem dX9_share_72 : decode cX9_share 72 = .ok (.bipush 7, 2) := by decide +kernel
theorem dX9_share_74 : decode cX9_share 74 = .ok (.iastore, 1) := by decide +kernel
theorem dX9_share_75 : decode cX9_share 75 = .ok (.iinc 4 1, 3) := by decide +kernel
theorem dX9_share_78 : decode cX9_share 78 = .ok (.goto (-44), 3) := by decide +kernel
theorem dX9_share_81 : decode cX9_share 81 = .ok (.aload_n 0, 1) := by decide +kernel
theorem dX9_share_82 : decode cX9_share 82 = .ok (.bipush 12, 2) := by decide +kernel
theorem dX9_share_84 : decode cX9_share 84 = .ok (.bipush 31, 2) := by decide +kernel
theorem dX9_share_86 : decode cX9_share 86 = .ok (.invokevirtual 205, 3) := by decide +kernel
theorem dX9_share_89 : decode cX9_share 89 = .ok (.aload_n 0, 1) := by decide +kernel
theorem dX9_share_90 : decode cX9_share 90 = .ok (.getfield 53, 3) := by decide +kernel
theorem dX9_share_93 : decode cX9_share 93 = .ok (.iload_n 3, 1) := by decide +kernel
theorem dX9_share_94 : decode cX9_share 94 = .ok (.aload_n 0, 1) := by decide +kernel
theorem dX9_share_95 : decode cX9_share 95 = .ok (.getfield 28, 3) := by decide +kernel
theorem dX9_share_98 : decode cX9_share 98 = .ok (.bipush 19, 2) := by decide +kernel
theorem dX9_share_100 : decode cX9_share 100 = .ok (.iaload, 1) := by decide +kernel
theorem dX9_share_101 : decode cX9_share 101 = .ok (.aload_n 0, 1) := by decide +kernel
theorem dX9_share_102 : decode cX9_share 102 = .ok (.getfield 25, 3) := by decide +kernel
theorem dX9_share_105 : decode cX9_share 105 = .ok (.bipush 19, 2) := by decide +kernel
theorem dX9_share_107 : decode cX9_share 107 = .ok (.iaload, 1) := by decide +kernel
theorem dX9_share_108 : decode cX9_share 108 = .ok (.isub, 1) := by decide +kernel
theorem dX9_share_109 : decode cX9_share 109 = .ok (.iastore, 1) := by decide +kernel
theorem dX9_share_110 : decode cX9_share 110 = .ok (.iinc 3 1, 3) := by decide +kernel
theorem dX9_share_113 : decode cX9_share 113 = .ok (.goto (-96), 3) := by decide +kernel
theorem dX9_share_116 : decode cX9_share 116 = .ok (.iconst 0, 1) := by decide +kernel
theorem dX9_share_117 : decode cX9_share 117 = .ok (.istore_n 3, 1) := by decide +kernel
theorem dX9_share_118 : decode cX9_share 118 = .ok (.iconst 0, 1) := by decide +kernel
theorem dX9_share_119 : decode cX9_share 119 = .ok (.istore 4, 2) := by decide +kernel
theorem dX9_share_121 : decode cX9_share 121 = .ok (.iload 4, 2) := by decide +kernel
theorem dX9_share_123 : decode cX9_share 123 = .ok (.iconst 1, 1) := by decide +kernel
theorem dX9_share_124 : decode cX9_share 124 = .ok (.aload_n 0, 1) := by decide +kernel
theorem dX9_share_125 : decode cX9_share 125 = .ok (.getfield 70, 3) := by decide +kernel
theorem dX9_share_128 : decode cX9_share 128 = .ok (.ishl, 1) := by decide +kernel
theorem dX9_share_129 : decode cX9_share 129 = .ok (.if_icmp .ge 66, 3) := by decide +kernel
theorem dX9_share_132 : decode cX9_share 132 = .ok (.iload 4, 2) := by decide +kernel
theorem dX9_share_134 : decode cX9_share 134 = .ok (.iload_n 1, 1) := by decide +kernel
theorem dX9_share_135 : decode cX9_share 135 = .ok (.invokestatic 129, 3) := by decide +kernel
theorem dX9_share_138 : decode cX9_share 138 = .ok (.ifCond .ne 51, 3) := by decide +kernel
theorem dX9_share_141 : decode cX9_share 141 = .ok (.iload 4, 2) := by decide +kernel
theorem dX9_share_143 : decode cX9_share 143 = .ok (.invokestatic 196, 3) := by decide +kernel
theorem dX9_share_146 : decode cX9_share 146 = .ok (.istore 5, 2) := by decide +kernel
theorem dX9_share_148 : decode cX9_share 148 = .ok (.iload_n 3, 1) := by decide +kernel
theorem dX9_share_149 : decode cX9_share 149 = .ok (.iload 5, 2) := by decide +kernel
theorem dX9_share_151 : decode cX9_share 151 = .ok (.invokestatic 249, 3) := by decide +kernel
theorem dX9_share_154 : decode cX9_share 154 = .ok (.aload_n 0, 1) := by decide +kernel
theorem dX9_share_155 : decode cX9_share 155 = .ok (.getfield 70, 3) := by decide +kernel
theorem dX9_share_158 : decode cX9_share 158 = .ok (.iconst 1, 1) := by decide +kernel
theorem dX9_share_159 : decode cX9_share 159 = .ok (.isub, 1) := by decide +kernel
theorem dX9_share_160 : decode cX9_share 160 = .ok (.iload 5, 2) := by decide +kernel
theorem dX9_share_162 : decode cX9_share 162 = .ok (.isub, 1) := by decide +kernel
theorem dX9_share_163 : decode cX9_share 163 = .ok (.invokestatic 249, 3) := by decide +kernel
theorem dX9_share_166 : decode cX9_share 166 = .ok (.imul, 1) := by decide +kernel
theorem dX9_share_167 : decode cX9_share 167 = .ok (.aload_n 0, 1) := by decide +kernel
theorem dX9_share_168 : decode cX9_share 168 = .ok (.getfield 53, 3) := by decide +kernel
theorem dX9_share_171 : decode cX9_share 171 = .ok (.iload 4, 2) := by decide +kernel
theorem dX9_share_173 : decode cX9_share 173 = .ok (.iconst 1, 1) := by decide +kernel
theorem dX9_share_174 : decode cX9_share 174 = .ok (.iload_n 1, 1) := by decide +kernel
theorem dX9_share_175 : decode cX9_share 175 = .ok (.ishl, 1) := by decide +kernel
theorem dX9_share_176 : decode cX9_share 176 = .ok (.ior, 1) := by decide +kernel
theorem dX9_share_177 : decode cX9_share 177 = .ok (.iaload, 1) := by decide +kernel
theorem dX9_share_178 : decode cX9_share 178 = .ok (.aload_n 0, 1) := by decide +kernel
theorem dX9_share_179 : decode cX9_share 179 = .ok (.getfield 53, 3) := by decide +kernel
theorem dX9_share_182 : decode cX9_share 182 = .ok (.iload 4, 2) := by decide +kernel
theorem dX9_share_184 : decode cX9_share 184 = .ok (.iaload, 1) := by decide +kernel
theorem dX9_share_185 : decode cX9_share 185 = .ok (.isub, 1) := by decide +kernel
theorem dX9_share_186 : decode cX9_share 186 = .ok (.imul, 1) := by decide +kernel
theorem dX9_share_187 : decode cX9_share 187 = .ok (.iadd, 1) := by decide +kernel
theorem dX9_share_188 : decode cX9_share 188 = .ok (.istore_n 3, 1) := by decide +kernel
theorem dX9_share_189 : decode cX9_share 189 = .ok (.iinc 4 1, 3) := by decide +kernel
theorem dX9_share_192 : decode cX9_share 192 = .ok (.goto (-71), 3) := by decide +kernel
theorem dX9_share_195 : decode cX9_share 195 = .ok (.iload_n 3, 1) := by decide +kernel
theorem dX9_share_196 : decode cX9_share 196 = .ok (.aload_n 0, 1) := by decide +kernel
theorem dX9_share_197 : decode cX9_share 197 = .ok (.getfield 70, 3) := by decide +kernel
theorem dX9_share_200 : decode cX9_share 200 = .ok (.invokestatic 249, 3) := by decide +kernel
theorem dX9_share_203 : decode cX9_share 203 = .ok (.iload_n 2, 1) := by decide +kernel
theorem dX9_share_204 : decode cX9_share 204 = .ok (.invokestatic 252, 3) := by decide +kernel
theorem dX9_share_207 : decode cX9_share 207 = .ok (.ireturn, 1) := by decide +kernel
theorem dX9_see_0 : decode cX9_see 0 = .ok (.aload_n 0, 1) := by decide +kernel
theorem dX9_see_1 : decode cX9_see 1 = .ok (.iconst 0, 1) := by decide +kernel
theorem dX9_see_2 : decode cX9_see 2 = .ok (.putfield 59, 3) := by decide +kernel
theorem dX9_see_5 : decode cX9_see 5 = .ok (.iload_n 1, 1) := by decide +kernel
theorem dX9_see_6 : decode cX9_see 6 = .ok (.i2l, 1) := by decide +kernel
theorem dX9_see_7 : decode cX9_see 7 = .ok (.lconst 0, 1) := by decide +kernel
theorem dX9_see_8 : decode cX9_see 8 = .ok (.ldc2_w 256, 3) := by decide +kernel
theorem dX9_see_11 : decode cX9_see 11 = .ok (.invokestatic 66, 3) := by decide +kernel
theorem dX9_see_14 : decode cX9_see 14 = .ok (.ifCond .eq 25, 3) := by decide +kernel
theorem dX9_see_17 : decode cX9_see 17 = .ok (.iload_n 2, 1) := by decide +kernel
theorem dX9_see_18 : decode cX9_see 18 = .ok (.i2l, 1) := by decide +kernel
theorem dX9_see_19 : decode cX9_see 19 = .ok (.lconst 0, 1) := by decide +kernel
theorem dX9_see_20 : decode cX9_see 20 = .ok (.ldc2_w 258, 3) := by decide +kernel
theorem dX9_see_23 : decode cX9_see 23 = .ok (.invokestatic 66, 3) := by decide +kernel
theorem dX9_see_26 : decode cX9_see 26 = .ok (.ifCond .eq 13, 3) := by decide +kernel
theorem dX9_see_29 : decode cX9_see 29 = .ok (.iload_n 3, 1) := by decide +kernel
theorem dX9_see_30 : decode cX9_see 30 = .ok (.i2l, 1) := by decide +kernel
theorem dX9_see_31 : decode cX9_see 31 = .ok (.lconst 0, 1) := by decide +kernel
theorem dX9_see_32 : decode cX9_see 32 = .ok (.lconst 1, 1) := by decide +kernel
theorem dX9_see_33 : decode cX9_see 33 = .ok (.invokestatic 66, 3) := by decide +kernel
theorem dX9_see_36 : decode cX9_see 36 = .ok (.ifCond .ne 6, 3) := by decide +kernel
theorem dX9_see_39 : decode cX9_see 39 = .ok (.bipush (-2), 2) := by decide +kernel
theorem dX9_see_41 : decode cX9_see 41 = .ok (.ireturn, 1) := by decide +kernel
theorem dX9_see_42 : decode cX9_see 42 = .ok (.aload_n 0, 1) := by decide +kernel
theorem dX9_see_43 : decode cX9_see 43 = .ok (.getfield 174, 3) := by decide +kernel
theorem dX9_see_46 : decode cX9_see 46 = .ok (.bipush 6, 2) := by decide +kernel
theorem dX9_see_48 : decode cX9_see 48 = .ok (.if_icmp .ne 6, 3) := by decide +kernel
theorem dX9_see_51 : decode cX9_see 51 = .ok (.bipush (-4), 2) := by decide +kernel
theorem dX9_see_53 : decode cX9_see 53 = .ok (.ireturn, 1) := by decide +kernel
theorem dX9_see_54 : decode cX9_see 54 = .ok (.aload_n 0, 1) := by decide +kernel
theorem dX9_see_55 : decode cX9_see 55 = .ok (.getfield 41, 3) := by decide +kernel
theorem dX9_see_58 : decode cX9_see 58 = .ok (.aload_n 0, 1) := by decide +kernel
theorem dX9_see_59 : decode cX9_see 59 = .ok (.getfield 174, 3) := by decide +kernel
theorem dX9_see_62 : decode cX9_see 62 = .ok (.iload_n 1, 1) := by decide +kernel
theorem dX9_see_63 : decode cX9_see 63 = .ok (.iastore, 1) := by decide +kernel
theorem dX9_see_64 : decode cX9_see 64 = .ok (.aload_n 0, 1) := by decide +kernel
theorem dX9_see_65 : decode cX9_see 65 = .ok (.getfield 44, 3) := by decide +kernel
theorem dX9_see_68 : decode cX9_see 68 = .ok (.aload_n 0, 1) := by decide +kernel
theorem dX9_see_69 : decode cX9_see 69 = .ok (.getfield 174, 3) := by decide +kernel
theorem dX9_see_72 : decode cX9_see 72 = .ok (.iload_n 2, 1) := by decide +kernel
theorem dX9_see_73 : decode cX9_see 73 = .ok (.iastore, 1) := by decide +kernel
theorem dX9_see_74 : decode cX9_see 74 = .ok (.aload_n 0, 1) := by decide +kernel
theorem dX9_see_75 : decode cX9_see 75 = .ok (.getfield 47, 3) := by decide +kernel
theorem dX9_see_78 : decode cX9_see 78 = .ok (.aload_n 0, 1) := by decide +kernel
theorem dX9_see_79 : decode cX9_see 79 = .ok (.getfield 174, 3) := by decide +kernel
theorem dX9_see_82 : decode cX9_see 82 = .ok (.iload_n 3, 1) := by decide +kernel
theorem dX9_see_83 : decode cX9_see 83 = .ok (.iastore, 1) := by decide +kernel
theorem dX9_see_84 : decode cX9_see 84 = .ok (.aload_n 0, 1) := by decide +kernel
theorem dX9_see_85 : decode cX9_see 85 = .ok (.dup, 1) := by decide +kernel
theorem dX9_see_86 : decode cX9_see 86 = .ok (.getfield 174, 3) := by decide +kernel
theorem dX9_see_89 : decode cX9_see 89 = .ok (.iconst 1, 1) := by decide +kernel
theorem dX9_see_90 : decode cX9_see 90 = .ok (.iadd, 1) := by decide +kernel
theorem dX9_see_91 : decode cX9_see 91 = .ok (.putfield 174, 3) := by decide +kernel
theorem dX9_see_94 : decode cX9_see 94 = .ok (.aload_n 0, 1) := by decide +kernel
theorem dX9_see_95 : decode cX9_see 95 = .ok (.getfield 174, 3) := by decide +kernel
theorem dX9_see_98 : decode cX9_see 98 = .ok (.ireturn, 1) := by decide +kernel
theorem dX9_unsee_0 : decode cX9_unsee 0 = .ok (.aload_n 0, 1) := by decide +kernel
theorem dX9_unsee_1 : decode cX9_unsee 1 = .ok (.iconst 0, 1) := by decide +kernel
theorem dX9_unsee_2 : decode cX9_unsee 2 = .ok (.putfield 59, 3) := by decide +kernel
theorem dX9_unsee_5 : decode cX9_unsee 5 = .ok (.aload_n 0, 1) := by decide +kernel
theorem dX9_unsee_6 : decode cX9_unsee 6 = .ok (.getfield 174, 3) := by decide +kernel
theorem dX9_unsee_9 : decode cX9_unsee 9 = .ok (.istore_n 1, 1) := by decide +kernel
theorem dX9_unsee_10 : decode cX9_unsee 10 = .ok (.aload_n 0, 1) := by decide +kernel
theorem dX9_unsee_11 : decode cX9_unsee 11 = .ok (.iconst 0, 1) := by decide +kernel
theorem dX9_unsee_12 : decode cX9_unsee 12 = .ok (.putfield 174, 3) := by decide +kernel
theorem dX9_unsee_15 : decode cX9_unsee 15 = .ok (.iload_n 1, 1) := by decide +kernel
theorem dX9_unsee_16 : decode cX9_unsee 16 = .ok (.ireturn, 1) := by decide +kernel
theorem dX9_fireBy_0 : decode cX9_fireBy 0 = .ok (.iload_n 0, 1) := by decide +kernel
theorem dX9_fireBy_1 : decode cX9_fireBy 1 = .ok (.ifCond .ne 7, 3) := by decide +kernel
theorem dX9_fireBy_4 : decode cX9_fireBy 4 = .ok (.iconst 0, 1) := by decide +kernel
theorem dX9_fireBy_5 : decode cX9_fireBy 5 = .ok (.goto 8, 3) := by decide +kernel
theorem dX9_fireBy_8 : decode cX9_fireBy 8 = .ok (.iload_n 0, 1) := by decide +kernel
theorem dX9_fireBy_9 : decode cX9_fireBy 9 = .ok (.iload_n 1, 1) := by decide +kernel
theorem dX9_fireBy_10 : decode cX9_fireBy 10 = .ok (.iload_n 2, 1) := by decide +kernel
theorem dX9_fireBy_11 : decode cX9_fireBy 11 = .ok (.imul, 1) := by decide +kernel
theorem dX9_fireBy_12 : decode cX9_fireBy 12 = .ok (.iadd, 1) := by decide +kernel
theorem dX9_fireBy_13 : decode cX9_fireBy 13 = .ok (.istore_n 3, 1) := by decide +kernel
theorem dX9_fireBy_14 : decode cX9_fireBy 14 = .ok (.iload_n 3, 1) := by decide +kernel
theorem dX9_fireBy_15 : decode cX9_fireBy 15 = .ok (.bipush 99, 2) := by decide +kernel
theorem dX9_fireBy_17 : decode cX9_fireBy 17 = .ok (.if_icmp .le 8, 3) := by decide +kernel
theorem dX9_fireBy_20 : decode cX9_fireBy 20 = .ok (.bipush 99, 2) := by decide +kernel
theorem dX9_fireBy_22 : decode cX9_fireBy 22 = .ok (.goto 4, 3) := by decide +kernel
theorem dX9_fireBy_25 : decode cX9_fireBy 25 = .ok (.iload_n 3, 1) := by decide +kernel
theorem dX9_fireBy_26 : decode cX9_fireBy 26 = .ok (.ireturn, 1) := by decide +kernel
theorem dX9_fires_0 : decode cX9_fires 0 = .ok (.aload_n 0, 1) := by decide +kernel
theorem dX9_fires_1 : decode cX9_fires 1 = .ok (.iconst 0, 1) := by decide +kernel
theorem dX9_fires_2 : decode cX9_fires 2 = .ok (.putfield 59, 3) := by decide +kernel
theorem dX9_fires_5 : decode cX9_fires 5 = .ok (.iload_n 1, 1) := by decide +kernel
theorem dX9_fires_6 : decode cX9_fires 6 = .ok (.i2l, 1) := by decide +kernel
theorem dX9_fires_7 : decode cX9_fires 7 = .ok (.lconst 0, 1) := by decide +kernel
theorem dX9_fires_8 : decode cX9_fires 8 = .ok (.lconst 1, 1) := by decide +kernel
theorem dX9_fires_9 : decode cX9_fires 9 = .ok (.invokestatic 66, 3) := by decide +kernel
theorem dX9_fires_12 : decode cX9_fires 12 = .ok (.ifCond .ne 6, 3) := by decide +kernel
theorem dX9_fires_15 : decode cX9_fires 15 = .ok (.bipush (-2), 2) := by decide +kernel
theorem dX9_fires_17 : decode cX9_fires 17 = .ok (.ireturn, 1) := by decide +kernel
theorem dX9_fires_18 : decode cX9_fires 18 = .ok (.aload_n 0, 1) := by decide +kernel
theorem dX9_fires_19 : decode cX9_fires 19 = .ok (.iconst 0, 1) := by decide +kernel
theorem dX9_fires_20 : decode cX9_fires 20 = .ok (.putfield 260, 3) := by decide +kernel
theorem dX9_fires_23 : decode cX9_fires 23 = .ok (.aload_n 0, 1) := by decide +kernel
theorem dX9_fires_24 : decode cX9_fires 24 = .ok (.bipush (-9), 2) := by decide +kernel
theorem dX9_fires_26 : decode cX9_fires 26 = .ok (.putfield 263, 3) := by decide +kernel
theorem dX9_fires_29 : decode cX9_fires 29 = .ok (.iconst 0, 1) := by decide +kernel
theorem dX9_fires_30 : decode cX9_fires 30 = .ok (.istore_n 2, 1) := by decide +kernel
theorem dX9_fires_31 : decode cX9_fires 31 = .ok (.iload_n 2, 1) := by decide +kernel
theorem dX9_fires_32 : decode cX9_fires 32 = .ok (.bipush 100, 2) := by decide +kernel
theorem dX9_fires_34 : decode cX9_fires 34 = .ok (.if_icmp .ge 132, 3) := by decide +kernel
theorem dX9_fires_37 : decode cX9_fires 37 = .ok (.iconst 1, 1) := by decide +kernel
theorem dX9_fires_38 : decode cX9_fires 38 = .ok (.istore_n 3, 1) := by decide +kernel
theorem dX9_fires_39 : decode cX9_fires 39 = .ok (.iconst 0, 1) := by decide +kernel
theorem dX9_fires_40 : decode cX9_fires 40 = .ok (.istore 4, 2) := by decide +kernel
theorem dX9_fires_42 : decode cX9_fires 42 = .ok (.iload 4, 2) := by decide +kernel
theorem dX9_fires_44 : decode cX9_fires 44 = .ok (.aload_n 0, 1) := by decide +kernel
theorem dX9_fires_45 : decode cX9_fires 45 = .ok (.getfield 174, 3) := by decide +kernel
theorem dX9_fires_48 : decode cX9_fires 48 = .ok (.if_icmp .ge 71, 3) := by decide +kernel
theorem dX9_fires_51 : decode cX9_fires 51 = .ok (.iload_n 3, 1) := by decide +kernel
theorem dX9_fires_52 : decode cX9_fires 52 = .ok (.ifCond .eq 59, 3) := by decide +kernel
theorem dX9_fires_55 : decode cX9_fires 55 = .ok (.iload_n 2, 1) := by decide +kernel
theorem dX9_fires_56 : decode cX9_fires 56 = .ok (.bipush 10, 2) := by decide +kernel
theorem dX9_fires_58 : decode cX9_fires 58 = .ok (.idiv, 1) := by decide +kernel
theorem dX9_fires_59 : decode cX9_fires 59 = .ok (.iload_n 2, 1) := by decide +kernel
theorem dX9_fires_60 : decode cX9_fires 60 = .ok (.bipush 10, 2) := by decide +kernel
theorem dX9_fires_62 : decode cX9_fires 62 = .ok (.irem, 1) := by decide +kernel
theorem dX9_fires_63 : decode cX9_fires 63 = .ok (.aload_n 0, 1) := by decide +kernel
theorem dX9_fires_64 : decode cX9_fires 64 = .ok (.getfield 41, 3) := by decide +kernel
theorem dX9_fires_67 : decode cX9_fires 67 = .ok (.iload 4, 2) := by decide +kernel
theorem dX9_fires_69 : decode cX9_fires 69 = .ok (.iaload, 1) := by decide +kernel
theorem dX9_fires_70 : decode cX9_fires 70 = .ok (.invokestatic 266, 3) := by decide +kernel
theorem dX9_fires_73 : decode cX9_fires 73 = .ok (.aload_n 0, 1) := by decide +kernel
theorem dX9_fires_74 : decode cX9_fires 74 = .ok (.getfield 44, 3) := by decide +kernel
theorem dX9_fires_77 : decode cX9_fires 77 = .ok (.iload 4, 2) := by decide +kernel
theorem dX9_fires_79 : decode cX9_fires 79 = .ok (.iaload, 1) := by decide +kernel
theorem dX9_fires_80 : decode cX9_fires 80 = .ok (.if_icmp .lt 7, 3) := by decide +kernel
theorem dX9_fires_83 : decode cX9_fires 83 = .ok (.iconst 1, 1) := by decide +kernel
theorem dX9_fires_84 : decode cX9_fires 84 = .ok (.goto 4, 3) := by decide +kernel
theorem dX9_fires_87 : decode cX9_fires 87 = .ok (.iconst 0, 1) := by decide +kernel
theorem dX9_fires_88 : decode cX9_fires 88 = .ok (.aload_n 0, 1) := by decide +kernel
theorem dX9_fires_89 : decode cX9_fires 89 = .ok (.getfield 47, 3) := by decide +kernel
theorem dX9_fires_92 : decode cX9_fires 92 = .ok (.iload 4, 2) := by decide +kernel
theorem dX9_fires_94 : decode cX9_fires 94 = .ok (.iaload, 1) := by decide +kernel
theorem dX9_fires_95 : decode cX9_fires 95 = .ok (.iconst 1, 1) := by decide +kernel
theorem dX9_fires_96 : decode cX9_fires 96 = .ok (.if_icmp .ne 7, 3) := by decide +kernel
theorem dX9_fires_99 : decode cX9_fires 99 = .ok (.iconst 1, 1) := by decide +kernel
theorem dX9_fires_100 : decode cX9_fires 100 = .ok (.goto 4, 3) := by decide +kernel
theorem dX9_fires_103 : decode cX9_fires 103 = .ok (.iconst 0, 1) := by decide +kernel
theorem dX9_fires_104 : decode cX9_fires 104 = .ok (.if_icmp .ne 7, 3) := by decide +kernel
theorem dX9_fires_107 : decode cX9_fires 107 = .ok (.iconst 1, 1) := by decide +kernel
theorem dX9_fires_108 : decode cX9_fires 108 = .ok (.goto 4, 3) := by decide +kernel
theorem dX9_fires_111 : decode cX9_fires 111 = .ok (.iconst 0, 1) := by decide +kernel
theorem dX9_fires_112 : decode cX9_fires 112 = .ok (.istore_n 3, 1) := by decide +kernel
theorem dX9_fires_113 : decode cX9_fires 113 = .ok (.iinc 4 1, 3) := by decide +kernel
theorem dX9_fires_116 : decode cX9_fires 116 = .ok (.goto (-74), 3) := by decide +kernel
theorem dX9_fires_119 : decode cX9_fires 119 = .ok (.aload_n 0, 1) := by decide +kernel
theorem dX9_fires_120 : decode cX9_fires 120 = .ok (.iload_n 3, 1) := by decide +kernel
theorem dX9_fires_121 : decode cX9_fires 121 = .ok (.ifCond .eq 14, 3) := by decide +kernel
theorem dX9_fires_124 : decode cX9_fires 124 = .ok (.aload_n 0, 1) := by decide +kernel
theorem dX9_fires_125 : decode cX9_fires 125 = .ok (.getfield 260, 3) := by decide +kernel
theorem dX9_fires_128 : decode cX9_fires 128 = .ok (.ifCond .ne 7, 3) := by decide +kernel
theorem dX9_fires_131 : decode cX9_fires 131 = .ok (.iload_n 2, 1) := by decide +kernel
theorem dX9_fires_132 : decode cX9_fires 132 = .ok (.goto 7, 3) := by decide +kernel
theorem dX9_fires_135 : decode cX9_fires 135 = .ok (.aload_n 0, 1) := by decide +kernel
theorem dX9_fires_136 : decode cX9_fires 136 = .ok (.getfield 263, 3) := by decide +kernel
theorem dX9_fires_139 : decode cX9_fires 139 = .ok (.putfield 263, 3) := by decide +kernel
theorem dX9_fires_142 : decode cX9_fires 142 = .ok (.aload_n 0, 1) := by decide +kernel
theorem dX9_fires_143 : decode cX9_fires 143 = .ok (.dup, 1) := by decide +kernel
theorem dX9_fires_144 : decode cX9_fires 144 = .ok (.getfield 260, 3) := by decide +kernel
theorem dX9_fires_147 : decode cX9_fires 147 = .ok (.iload_n 3, 1) := by decide +kernel
theorem dX9_fires_148 : decode cX9_fires 148 = .ok (.ifCond .eq 7, 3) := by decide +kernel
theorem dX9_fires_151 : decode cX9_fires 151 = .ok (.iconst 1, 1) := by decide +kernel
theorem dX9_fires_152 : decode cX9_fires 152 = .ok (.goto 4, 3) := by decide +kernel
theorem dX9_fires_155 : decode cX9_fires 155 = .ok (.iconst 0, 1) := by decide +kernel
theorem dX9_fires_156 : decode cX9_fires 156 = .ok (.iadd, 1) := by decide +kernel
theorem dX9_fires_157 : decode cX9_fires 157 = .ok (.putfield 260, 3) := by decide +kernel
theorem dX9_fires_160 : decode cX9_fires 160 = .ok (.iinc 2 1, 3) := by decide +kernel
theorem dX9_fires_163 : decode cX9_fires 163 = .ok (.goto (-132), 3) := by decide +kernel
theorem dX9_fires_166 : decode cX9_fires 166 = .ok (.iload_n 1, 1) := by decide +kernel
theorem dX9_fires_167 : decode cX9_fires 167 = .ok (.ifCond .ne 10, 3) := by decide +kernel
theorem dX9_fires_170 : decode cX9_fires 170 = .ok (.aload_n 0, 1) := by decide +kernel
theorem dX9_fires_171 : decode cX9_fires 171 = .ok (.getfield 260, 3) := by decide +kernel
theorem dX9_fires_174 : decode cX9_fires 174 = .ok (.goto 7, 3) := by decide +kernel
theorem dX9_fires_177 : decode cX9_fires 177 = .ok (.aload_n 0, 1) := by decide +kernel
theorem dX9_fires_178 : decode cX9_fires 178 = .ok (.getfield 263, 3) := by decide +kernel
theorem dX9_fires_181 : decode cX9_fires 181 = .ok (.ireturn, 1) := by decide +kernel
theorem dX9_rests_0 : decode cX9_rests 0 = .ok (.aload_n 0, 1) := by decide +kernel
theorem dX9_rests_1 : decode cX9_rests 1 = .ok (.iconst 0, 1) := by decide +kernel
theorem dX9_rests_2 : decode cX9_rests 2 = .ok (.putfield 59, 3) := by decide +kernel
theorem dX9_rests_5 : decode cX9_rests 5 = .ok (.aload_n 0, 1) := by decide +kernel
theorem dX9_rests_6 : decode cX9_rests 6 = .ok (.iload_n 1, 1) := by decide +kernel
theorem dX9_rests_7 : decode cX9_rests 7 = .ok (.invokevirtual 177, 3) := by decide +kernel
theorem dX9_rests_10 : decode cX9_rests 10 = .ok (.ifCond .ne 11, 3) := by decide +kernel
theorem dX9_rests_13 : decode cX9_rests 13 = .ok (.aload_n 0, 1) := by decide +kernel
theorem dX9_rests_14 : decode cX9_rests 14 = .ok (.iload_n 2, 1) := by decide +kernel
theorem dX9_rests_15 : decode cX9_rests 15 = .ok (.invokevirtual 177, 3) := by decide +kernel
theorem dX9_rests_18 : decode cX9_rests 18 = .ok (.ifCond .eq 5, 3) := by decide +kernel
theorem dX9_rests_21 : decode cX9_rests 21 = .ok (.iconst (-1), 1) := by decide +kernel
theorem dX9_rests_22 : decode cX9_rests 22 = .ok (.ireturn, 1) := by decide +kernel
theorem dX9_rests_23 : decode cX9_rests 23 = .ok (.iload_n 1, 1) := by decide +kernel
theorem dX9_rests_24 : decode cX9_rests 24 = .ok (.iload_n 2, 1) := by decide +kernel
theorem dX9_rests_25 : decode cX9_rests 25 = .ok (.if_icmp .eq 13, 3) := by decide +kernel
theorem dX9_rests_28 : decode cX9_rests 28 = .ok (.iload_n 3, 1) := by decide +kernel
theorem dX9_rests_29 : decode cX9_rests 29 = .ok (.i2l, 1) := by decide +kernel
theorem dX9_rests_30 : decode cX9_rests 30 = .ok (.lconst 0, 1) := by decide +kernel
theorem dX9_rests_31 : decode cX9_rests 31 = .ok (.lconst 1, 1) := by decide +kernel
theorem dX9_rests_32 : decode cX9_rests 32 = .ok (.invokestatic 66, 3) := by decide +kernel
theorem dX9_rests_35 : decode cX9_rests 35 = .ok (.ifCond .ne 6, 3) := by decide +kernel
theorem dX9_rests_38 : decode cX9_rests 38 = .ok (.bipush (-2), 2) := by decide +kernel
theorem dX9_rests_40 : decode cX9_rests 40 = .ok (.ireturn, 1) := by decide +kernel
theorem dX9_rests_41 : decode cX9_rests 41 = .ok (.iconst 0, 1) := by decide +kernel
theorem dX9_rests_42 : decode cX9_rests 42 = .ok (.istore 4, 2) := by decide +kernel
theorem dX9_rests_44 : decode cX9_rests 44 = .ok (.iload 4, 2) := by decide +kernel
theorem dX9_rests_46 : decode cX9_rests 46 = .ok (.iconst 4, 1) := by decide +kernel
theorem dX9_rests_47 : decode cX9_rests 47 = .ok (.if_icmp .ge 112, 3) := by decide +kernel
theorem dX9_rests_50 : decode cX9_rests 50 = .ok (.aload_n 0, 1) := by decide +kernel
theorem dX9_rests_51 : decode cX9_rests 51 = .ok (.invokevirtual 202, 3) := by decide +kernel
theorem dX9_rests_54 : decode cX9_rests 54 = .ok (.aload_n 0, 1) := by decide +kernel
theorem dX9_rests_55 : decode cX9_rests 55 = .ok (.bipush 8, 2) := by decide +kernel
theorem dX9_rests_57 : decode cX9_rests 57 = .ok (.bipush 31, 2) := by decide +kernel
theorem dX9_rests_59 : decode cX9_rests 59 = .ok (.iload 4, 2) := by decide +kernel
theorem dX9_rests_61 : decode cX9_rests 61 = .ok (.iconst 1, 1) := by decide +kernel
theorem dX9_rests_62 : decode cX9_rests 62 = .ok (.if_icmp .le 7, 3) := by decide +kernel
theorem dX9_rests_65 : decode cX9_rests 65 = .ok (.iconst 0, 1) := by decide +kernel
theorem dX9_rests_66 : decode cX9_rests 66 = .ok (.goto 6, 3) := by decide +kernel
theorem dX9_rests_69 : decode cX9_rests 69 = .ok (.iconst 1, 1) := by decide +kernel
theorem dX9_rests_70 : decode cX9_rests 70 = .ok (.iload_n 1, 1) := by decide +kernel
theorem dX9_rests_71 : decode cX9_rests 71 = .ok (.ishl, 1) := by decide +kernel
theorem dX9_rests_72 : decode cX9_rests 72 = .ok (.iconst (-1), 1) := by decide +kernel
theorem dX9_rests_73 : decode cX9_rests 73 = .ok (.ixor, 1) := by decide +kernel
theorem dX9_rests_74 : decode cX9_rests 74 = .ok (.iand, 1) := by decide +kernel
theorem dX9_rests_75 : decode cX9_rests 75 = .ok (.iload 4, 2) := by decide +kernel
theorem dX9_rests_77 : decode cX9_rests 77 = .ok (.iconst 2, 1) := by decide +kernel
theorem dX9_rests_78 : decode cX9_rests 78 = .ok (.irem, 1) := by decide +kernel
theorem dX9_rests_79 : decode cX9_rests 79 = .ok (.iconst 1, 1) := by decide +kernel
theorem dX9_rests_80 : decode cX9_rests 80 = .ok (.if_icmp .ne 7, 3) := by decide +kernel
theorem dX9_rests_83 : decode cX9_rests 83 = .ok (.iconst 0, 1) := by decide +kernel
theorem dX9_rests_84 : decode cX9_rests 84 = .ok (.goto 6, 3) := by decide +kernel
theorem dX9_rests_87 : decode cX9_rests 87 = .ok (.iconst 1, 1) := by decide +kernel
theorem dX9_rests_88 : decode cX9_rests 88 = .ok (.iload_n 2, 1) := by decide +kernel
theorem dX9_rests_89 : decode cX9_rests 89 = .ok (.ishl, 1) := by decide +kernel
theorem dX9_rests_90 : decode cX9_rests 90 = .ok (.iconst (-1), 1) := by decide +kernel
theorem dX9_rests_91 : decode cX9_rests 91 = .ok (.ixor, 1) := by decide +kernel
theorem dX9_rests_92 : decode cX9_rests 92 = .ok (.iand, 1) := by decide +kernel
theorem dX9_rests_93 : decode cX9_rests 93 = .ok (.invokevirtual 205, 3) := by decide +kernel
theorem dX9_rests_96 : decode cX9_rests 96 = .ok (.aload_n 0, 1) := by decide +kernel
theorem dX9_rests_97 : decode cX9_rests 97 = .ok (.getfield 28, 3) := by decide +kernel
theorem dX9_rests_100 : decode cX9_rests 100 = .ok (.bipush 19, 2) := by decide +kernel
theorem dX9_rests_102 : decode cX9_rests 102 = .ok (.iaload, 1) := by decide +kernel
theorem dX9_rests_103 : decode cX9_rests 103 = .ok (.aload_n 0, 1) := by decide +kernel
theorem dX9_rests_104 : decode cX9_rests 104 = .ok (.getfield 25, 3) := by decide +kernel
theorem dX9_rests_107 : decode cX9_rests 107 = .ok (.bipush 19, 2) := by decide +kernel
theorem dX9_rests_109 : decode cX9_rests 109 = .ok (.iaload, 1) := by decide +kernel
theorem dX9_rests_110 : decode cX9_rests 110 = .ok (.isub, 1) := by decide +kernel
theorem dX9_rests_111 : decode cX9_rests 111 = .ok (.istore 5, 2) := by decide +kernel
theorem dX9_rests_113 : decode cX9_rests 113 = .ok (.aload_n 0, 1) := by decide +kernel
theorem dX9_rests_114 : decode cX9_rests 114 = .ok (.getfield 50, 3) := by decide +kernel
theorem dX9_rests_117 : decode cX9_rests 117 = .ok (.iconst 2, 1) := by decide +kernel
theorem dX9_rests_118 : decode cX9_rests 118 = .ok (.iload 4, 2) := by decide +kernel
theorem dX9_rests_120 : decode cX9_rests 120 = .ok (.imul, 1) := by decide +kernel
theorem dX9_rests_121 : decode cX9_rests 121 = .ok (.iload 5, 2) := by decide +kernel
theorem dX9_rests_123 : decode cX9_rests 123 = .ok (.bipush 6, 2) := by decide +kernel
theorem dX9_rests_125 : decode cX9_rests 125 = .ok (.iload 4, 2) := by decide +kernel
theorem dX9_rests_127 : decode cX9_rests 127 = .ok (.iconst 2, 1) := by decide +kernel
theorem dX9_rests_128 : decode cX9_rests 128 = .ok (.idiv, 1) := by decide +kernel
theorem dX9_rests_129 : decode cX9_rests 129 = .ok (.imul, 1) := by decide +kernel
theorem dX9_rests_130 : decode cX9_rests 130 = .ok (.isub, 1) := by decide +kernel
theorem dX9_rests_131 : decode cX9_rests 131 = .ok (.iastore, 1) := by decide +kernel
theorem dX9_rests_132 : decode cX9_rests 132 = .ok (.aload_n 0, 1) := by decide +kernel
theorem dX9_rests_133 : decode cX9_rests 133 = .ok (.getfield 50, 3) := by decide +kernel
theorem dX9_rests_136 : decode cX9_rests 136 = .ok (.iconst 2, 1) := by decide +kernel
theorem dX9_rests_137 : decode cX9_rests 137 = .ok (.iload 4, 2) := by decide +kernel
theorem dX9_rests_139 : decode cX9_rests 139 = .ok (.imul, 1) := by decide +kernel
theorem dX9_rests_140 : decode cX9_rests 140 = .ok (.iconst 1, 1) := by decide +kernel
theorem dX9_rests_141 : decode cX9_rests 141 = .ok (.iadd, 1) := by decide +kernel
theorem dX9_rests_142 : decode cX9_rests 142 = .ok (.iload 5, 2) := by decide +kernel
theorem dX9_rests_144 : decode cX9_rests 144 = .ok (.bipush 6, 2) := by decide +kernel
theorem dX9_rests_146 : decode cX9_rests 146 = .ok (.iload 4, 2) := by decide +kernel
theorem dX9_rests_148 : decode cX9_rests 148 = .ok (.iconst 2, 1) := by decide +kernel
theorem dX9_rests_149 : decode cX9_rests 149 = .ok (.irem, 1) := by decide +kernel
theorem dX9_rests_150 : decode cX9_rests 150 = .ok (.imul, 1) := by decide +kernel
theorem dX9_rests_151 : decode cX9_rests 151 = .ok (.isub, 1) := by decide +kernel
theorem dX9_rests_152 : decode cX9_rests 152 = .ok (.iastore, 1) := by decide +kernel
theorem dX9_rests_153 : decode cX9_rests 153 = .ok (.iinc 4 1, 3) := by decide +kernel
theorem dX9_rests_156 : decode cX9_rests 156 = .ok (.goto (-112), 3) := by decide +kernel
theorem dX9_rests_159 : decode cX9_rests 159 = .ok (.aload_n 0, 1) := by decide +kernel
theorem dX9_rests_160 : decode cX9_rests 160 = .ok (.iconst 0, 1) := by decide +kernel
theorem dX9_rests_161 : decode cX9_rests 161 = .ok (.putfield 270, 3) := by decide +kernel
theorem dX9_rests_164 : decode cX9_rests 164 = .ok (.aload_n 0, 1) := by decide +kernel
theorem dX9_rests_165 : decode cX9_rests 165 = .ok (.bipush (-9), 2) := by decide +kernel
theorem dX9_rests_167 : decode cX9_rests 167 = .ok (.putfield 273, 3) := by decide +kernel
theorem dX9_rests_170 : decode cX9_rests 170 = .ok (.iconst 0, 1) := by decide +kernel
theorem dX9_rests_171 : decode cX9_rests 171 = .ok (.istore 4, 2) := by decide +kernel
theorem dX9_rests_173 : decode cX9_rests 173 = .ok (.iload 4, 2) := by decide +kernel
theorem dX9_rests_175 : decode cX9_rests 175 = .ok (.iconst 4, 1) := by decide +kernel
theorem dX9_rests_176 : decode cX9_rests 176 = .ok (.if_icmp .ge 120, 3) := by decide +kernel
theorem dX9_rests_179 : decode cX9_rests 179 = .ok (.aload_n 0, 1) := by decide +kernel
theorem dX9_rests_180 : decode cX9_rests 180 = .ok (.getfield 50, 3) := by decide +kernel
theorem dX9_rests_183 : decode cX9_rests 183 = .ok (.iconst 2, 1) := by decide +kernel
theorem dX9_rests_184 : decode cX9_rests 184 = .ok (.iload 4, 2) := by decide +kernel
theorem dX9_rests_186 : decode cX9_rests 186 = .ok (.iconst 2, 1) := by decide +kernel
theorem dX9_rests_187 : decode cX9_rests 187 = .ok (.ixor, 1) := by decide +kernel
theorem dX9_rests_188 : decode cX9_rests 188 = .ok (.imul, 1) := by decide +kernel
theorem dX9_rests_189 : decode cX9_rests 189 = .ok (.iaload, 1) := by decide +kernel
theorem dX9_rests_190 : decode cX9_rests 190 = .ok (.aload_n 0, 1) := by decide +kernel
theorem dX9_rests_191 : decode cX9_rests 191 = .ok (.getfield 50, 3) := by decide +kernel
theorem dX9_rests_194 : decode cX9_rests 194 = .ok (.iconst 2, 1) := by decide +kernel
theorem dX9_rests_195 : decode cX9_rests 195 = .ok (.iload 4, 2) := by decide +kernel
theorem dX9_rests_197 : decode cX9_rests 197 = .ok (.imul, 1) := by decide +kernel
theorem dX9_rests_198 : decode cX9_rests 198 = .ok (.iaload, 1) := by decide +kernel
theorem dX9_rests_199 : decode cX9_rests 199 = .ok (.if_icmp .gt 34, 3) := by decide +kernel
theorem dX9_rests_202 : decode cX9_rests 202 = .ok (.aload_n 0, 1) := by decide +kernel
theorem dX9_rests_203 : decode cX9_rests 203 = .ok (.getfield 50, 3) := by decide +kernel
theorem dX9_rests_206 : decode cX9_rests 206 = .ok (.iconst 2, 1) := by decide +kernel
theorem dX9_rests_207 : decode cX9_rests 207 = .ok (.iload 4, 2) := by decide +kernel
theorem dX9_rests_209 : decode cX9_rests 209 = .ok (.iconst 1, 1) := by decide +kernel
theorem dX9_rests_210 : decode cX9_rests 210 = .ok (.ixor, 1) := by decide +kernel
theorem dX9_rests_211 : decode cX9_rests 211 = .ok (.imul, 1) := by decide +kernel
theorem dX9_rests_212 : decode cX9_rests 212 = .ok (.iconst 1, 1) := by decide +kernel
theorem dX9_rests_213 : decode cX9_rests 213 = .ok (.iadd, 1) := by decide +kernel
theorem dX9_rests_214 : decode cX9_rests 214 = .ok (.iaload, 1) := by decide +kernel
theorem dX9_rests_215 : decode cX9_rests 215 = .ok (.aload_n 0, 1) := by decide +kernel
theorem dX9_rests_216 : decode cX9_rests 216 = .ok (.getfield 50, 3) := by decide +kernel
theorem dX9_rests_219 : decode cX9_rests 219 = .ok (.iconst 2, 1) := by decide +kernel
theorem dX9_rests_220 : decode cX9_rests 220 = .ok (.iload 4, 2) := by decide +kernel
theorem dX9_rests_222 : decode cX9_rests 222 = .ok (.imul, 1) := by decide +kernel
theorem dX9_rests_223 : decode cX9_rests 223 = .ok (.iconst 1, 1) := by decide +kernel
theorem dX9_rests_224 : decode cX9_rests 224 = .ok (.iadd, 1) := by decide +kernel
theorem dX9_rests_225 : decode cX9_rests 225 = .ok (.iaload, 1) := by decide +kernel
theorem dX9_rests_226 : decode cX9_rests 226 = .ok (.if_icmp .gt 7, 3) := by decide +kernel
theorem dX9_rests_229 : decode cX9_rests 229 = .ok (.iconst 1, 1) := by decide +kernel
theorem dX9_rests_230 : decode cX9_rests 230 = .ok (.goto 4, 3) := by decide +kernel
theorem dX9_rests_233 : decode cX9_rests 233 = .ok (.iconst 0, 1) := by decide +kernel
theorem dX9_rests_234 : decode cX9_rests 234 = .ok (.istore 5, 2) := by decide +kernel
theorem dX9_rests_236 : decode cX9_rests 236 = .ok (.aload_n 0, 1) := by decide +kernel
theorem dX9_rests_237 : decode cX9_rests 237 = .ok (.iload 5, 2) := by decide +kernel
theorem dX9_rests_239 : decode cX9_rests 239 = .ok (.ifCond .eq 25, 3) := by decide +kernel
theorem dX9_rests_242 : decode cX9_rests 242 = .ok (.aload_n 0, 1) := by decide +kernel
theorem dX9_rests_243 : decode cX9_rests 243 = .ok (.getfield 270, 3) := by decide +kernel
theorem dX9_rests_246 : decode cX9_rests 246 = .ok (.ifCond .ne 18, 3) := by decide +kernel
theorem dX9_rests_249 : decode cX9_rests 249 = .ok (.bipush 10, 2) := by decide +kernel
theorem dX9_rests_251 : decode cX9_rests 251 = .ok (.iload 4, 2) := by decide +kernel
theorem dX9_rests_253 : decode cX9_rests 253 = .ok (.iconst 2, 1) := by decide +kernel
theorem dX9_rests_254 : decode cX9_rests 254 = .ok (.idiv, 1) := by decide +kernel
theorem dX9_rests_255 : decode cX9_rests 255 = .ok (.imul, 1) := by decide +kernel
theorem dX9_rests_256 : decode cX9_rests 256 = .ok (.iload 4, 2) := by decide +kernel
theorem dX9_rests_258 : decode cX9_rests 258 = .ok (.iconst 2, 1) := by decide +kernel
theorem dX9_rests_259 : decode cX9_rests 259 = .ok (.irem, 1) := by decide +kernel
theorem dX9_rests_260 : decode cX9_rests 260 = .ok (.iadd, 1) := by decide +kernel
theorem dX9_rests_261 : decode cX9_rests 261 = .ok (.goto 7, 3) := by decide +kernel
theorem dX9_rests_264 : decode cX9_rests 264 = .ok (.aload_n 0, 1) := by decide +kernel
theorem dX9_rests_265 : decode cX9_rests 265 = .ok (.getfield 273, 3) := by decide +kernel
theorem dX9_rests_268 : decode cX9_rests 268 = .ok (.putfield 273, 3) := by decide +kernel
theorem dX9_rests_271 : decode cX9_rests 271 = .ok (.aload_n 0, 1) := by decide +kernel
theorem dX9_rests_272 : decode cX9_rests 272 = .ok (.dup, 1) := by decide +kernel
theorem dX9_rests_273 : decode cX9_rests 273 = .ok (.getfield 270, 3) := by decide +kernel
theorem dX9_rests_276 : decode cX9_rests 276 = .ok (.iload 5, 2) := by decide +kernel
theorem dX9_rests_278 : decode cX9_rests 278 = .ok (.ifCond .eq 7, 3) := by decide +kernel
theorem dX9_rests_281 : decode cX9_rests 281 = .ok (.iconst 1, 1) := by decide +kernel
theorem dX9_rests_282 : decode cX9_rests 282 = .ok (.goto 4, 3) := by decide +kernel
theorem dX9_rests_285 : decode cX9_rests 285 = .ok (.iconst 0, 1) := by decide +kernel
theorem dX9_rests_286 : decode cX9_rests 286 = .ok (.iadd, 1) := by decide +kernel
theorem dX9_rests_287 : decode cX9_rests 287 = .ok (.putfield 270, 3) := by decide +kernel
theorem dX9_rests_290 : decode cX9_rests 290 = .ok (.iinc 4 1, 3) := by decide +kernel
theorem dX9_rests_293 : decode cX9_rests 293 = .ok (.goto (-120), 3) := by decide +kernel
theorem dX9_rests_296 : decode cX9_rests 296 = .ok (.iload_n 3, 1) := by decide +kernel
theorem dX9_rests_297 : decode cX9_rests 297 = .ok (.ifCond .ne 10, 3) := by decide +kernel
theorem dX9_rests_300 : decode cX9_rests 300 = .ok (.aload_n 0, 1) := by decide +kernel
theorem dX9_rests_301 : decode cX9_rests 301 = .ok (.getfield 270, 3) := by decide +kernel
theorem dX9_rests_304 : decode cX9_rests 304 = .ok (.goto 7, 3) := by decide +kernel
theorem dX9_rests_307 : decode cX9_rests 307 = .ok (.aload_n 0, 1) := by decide +kernel
theorem dX9_rests_308 : decode cX9_rests 308 = .ok (.getfield 273, 3) := by decide +kernel
theorem dX9_rests_311 : decode cX9_rests 311 = .ok (.ireturn, 1) := by decide +kernel
theorem dX9_falls_0 : decode cX9_falls 0 = .ok (.aload_n 0, 1) := by decide +kernel
theorem dX9_falls_1 : decode cX9_falls 1 = .ok (.iconst 0, 1) := by decide +kernel
theorem dX9_falls_2 : decode cX9_falls 2 = .ok (.putfield 59, 3) := by decide +kernel
theorem dX9_falls_5 : decode cX9_falls 5 = .ok (.iload_n 1, 1) := by decide +kernel
theorem dX9_falls_6 : decode cX9_falls 6 = .ok (.i2l, 1) := by decide +kernel
theorem dX9_falls_7 : decode cX9_falls 7 = .ok (.lconst 0, 1) := by decide +kernel
theorem dX9_falls_8 : decode cX9_falls 8 = .ok (.ldc2_w 258, 3) := by decide +kernel
theorem dX9_falls_11 : decode cX9_falls 11 = .ok (.invokestatic 66, 3) := by decide +kernel
theorem dX9_falls_14 : decode cX9_falls 14 = .ok (.ifCond .eq 15, 3) := by decide +kernel
theorem dX9_falls_17 : decode cX9_falls 17 = .ok (.iload_n 2, 1) := by decide +kernel
theorem dX9_falls_18 : decode cX9_falls 18 = .ok (.i2l, 1) := by decide +kernel
theorem dX9_falls_19 : decode cX9_falls 19 = .ok (.lconst 0, 1) := by decide +kernel
theorem dX9_falls_20 : decode cX9_falls 20 = .ok (.ldc2_w 276, 3) := by decide +kernel
theorem dX9_falls_23 : decode cX9_falls 23 = .ok (.invokestatic 66, 3) := by decide +kernel
theorem dX9_falls_26 : decode cX9_falls 26 = .ok (.ifCond .ne 6, 3) := by decide +kernel
theorem dX9_falls_29 : decode cX9_falls 29 = .ok (.bipush (-2), 2) := by decide +kernel
theorem dX9_falls_31 : decode cX9_falls 31 = .ok (.ireturn, 1) := by decide +kernel
theorem dX9_falls_32 : decode cX9_falls 32 = .ok (.aload_n 0, 1) := by decide +kernel
theorem dX9_falls_33 : decode cX9_falls 33 = .ok (.aload_n 0, 1) := by decide +kernel
theorem dX9_falls_34 : decode cX9_falls 34 = .ok (.getfield 25, 3) := by decide +kernel
theorem dX9_falls_37 : decode cX9_falls 37 = .ok (.iconst 0, 1) := by decide +kernel
theorem dX9_falls_38 : decode cX9_falls 38 = .ok (.iconst 4, 1) := by decide +kernel
theorem dX9_falls_39 : decode cX9_falls 39 = .ok (.invokevirtual 170, 3) := by decide +kernel
theorem dX9_falls_42 : decode cX9_falls 42 = .ok (.istore 4, 2) := by decide +kernel
theorem dX9_falls_44 : decode cX9_falls 44 = .ok (.iload 4, 2) := by decide +kernel
theorem dX9_falls_46 : decode cX9_falls 46 = .ok (.invokestatic 196, 3) := by decide +kernel
theorem dX9_falls_49 : decode cX9_falls 49 = .ok (.istore 5, 2) := by decide +kernel
theorem dX9_falls_51 : decode cX9_falls 51 = .ok (.iconst 0, 1) := by decide +kernel
theorem dX9_falls_52 : decode cX9_falls 52 = .ok (.istore 6, 2) := by decide +kernel
theorem dX9_falls_54 : decode cX9_falls 54 = .ok (.iconst 0, 1) := by decide +kernel
theorem dX9_falls_55 : decode cX9_falls 55 = .ok (.istore 7, 2) := by decide +kernel
theorem dX9_falls_57 : decode cX9_falls 57 = .ok (.iload 7, 2) := by decide +kernel
theorem dX9_falls_59 : decode cX9_falls 59 = .ok (.iconst 1, 1) := by decide +kernel
theorem dX9_falls_60 : decode cX9_falls 60 = .ok (.aload_n 0, 1) := by decide +kernel
theorem dX9_falls_61 : decode cX9_falls 61 = .ok (.getfield 70, 3) := by decide +kernel
theorem dX9_falls_64 : decode cX9_falls 64 = .ok (.ishl, 1) := by decide +kernel
theorem dX9_falls_65 : decode cX9_falls 65 = .ok (.if_icmp .ge 123, 3) := by decide +kernel
theorem dX9_falls_68 : decode cX9_falls 68 = .ok (.iload 7, 2) := by decide +kernel
theorem dX9_falls_70 : decode cX9_falls 70 = .ok (.iload 4, 2) := by decide +kernel
