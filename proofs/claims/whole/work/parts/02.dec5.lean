theorem dX9_comeBack_26 : decode cX9_comeBack 26 = .ok (.iaload, 1) := by decide +kernel
theorem dX9_comeBack_27 : decode cX9_comeBack 27 = .ok (.iconst 1, 1) := by decide +kernel
theorem dX9_comeBack_28 : decode cX9_comeBack 28 = .ok (.isub, 1) := by decide +kernel
theorem dX9_comeBack_29 : decode cX9_comeBack 29 = .ok (.iastore, 1) := by decide +kernel
theorem dX9_comeBack_30 : decode cX9_comeBack 30 = .ok (.aload_n 1, 1) := by decide +kernel
theorem dX9_comeBack_31 : decode cX9_comeBack 31 = .ok (.iconst 5, 1) := by decide +kernel
theorem dX9_comeBack_32 : decode cX9_comeBack 32 = .ok (.iload_n 2, 1) := by decide +kernel
theorem dX9_comeBack_33 : decode cX9_comeBack 33 = .ok (.iadd, 1) := by decide +kernel
theorem dX9_comeBack_34 : decode cX9_comeBack 34 = .ok (.aload_n 1, 1) := by decide +kernel
theorem dX9_comeBack_35 : decode cX9_comeBack 35 = .ok (.bipush 13, 2) := by decide +kernel
theorem dX9_comeBack_37 : decode cX9_comeBack 37 = .ok (.iload_n 2, 1) := by decide +kernel
theorem dX9_comeBack_38 : decode cX9_comeBack 38 = .ok (.iadd, 1) := by decide +kernel
theorem dX9_comeBack_39 : decode cX9_comeBack 39 = .ok (.iaload, 1) := by decide +kernel
theorem dX9_comeBack_40 : decode cX9_comeBack 40 = .ok (.ifCond .ne 8, 3) := by decide +kernel
theorem dX9_comeBack_43 : decode cX9_comeBack 43 = .ok (.bipush 8, 2) := by decide +kernel
theorem dX9_comeBack_45 : decode cX9_comeBack 45 = .ok (.goto 5, 3) := by decide +kernel
theorem dX9_comeBack_48 : decode cX9_comeBack 48 = .ok (.bipush 9, 2) := by decide +kernel
theorem dX9_comeBack_50 : decode cX9_comeBack 50 = .ok (.iastore, 1) := by decide +kernel
theorem dX9_comeBack_51 : decode cX9_comeBack 51 = .ok (.iinc 2 1, 3) := by decide +kernel
theorem dX9_comeBack_54 : decode cX9_comeBack 54 = .ok (.goto (-52), 3) := by decide +kernel
theorem dX9_comeBack_57 : decode cX9_comeBack 57 = .ok (.return_, 1) := by decide +kernel
theorem dX9_goBeat_0 : decode cX9_goBeat 0 = .ok (.aload_n 1, 1) := by decide +kernel
theorem dX9_goBeat_1 : decode cX9_goBeat 1 = .ok (.bipush 19, 2) := by decide +kernel
theorem dX9_goBeat_3 : decode cX9_goBeat 3 = .ok (.iaload, 1) := by decide +kernel
theorem dX9_goBeat_4 : decode cX9_goBeat 4 = .ok (.istore_n 3, 1) := by decide +kernel
theorem dX9_goBeat_5 : decode cX9_goBeat 5 = .ok (.aload_n 0, 1) := by decide +kernel
theorem dX9_goBeat_6 : decode cX9_goBeat 6 = .ok (.aload_n 1, 1) := by decide +kernel
theorem dX9_goBeat_7 : decode cX9_goBeat 7 = .ok (.iload_n 2, 1) := by decide +kernel
theorem dX9_goBeat_8 : decode cX9_goBeat 8 = .ok (.invokevirtual 145, 3) := by decide +kernel
theorem dX9_goBeat_11 : decode cX9_goBeat 11 = .ok (.istore 4, 2) := by decide +kernel
theorem dX9_goBeat_13 : decode cX9_goBeat 13 = .ok (.aload_n 0, 1) := by decide +kernel
theorem dX9_goBeat_14 : decode cX9_goBeat 14 = .ok (.getfield 63, 3) := by decide +kernel
theorem dX9_goBeat_17 : decode cX9_goBeat 17 = .ok (.iconst 2, 1) := by decide +kernel
theorem dX9_goBeat_18 : decode cX9_goBeat 18 = .ok (.isub, 1) := by decide +kernel
theorem dX9_goBeat_19 : decode cX9_goBeat 19 = .ok (.istore 5, 2) := by decide +kernel
theorem dX9_goBeat_21 : decode cX9_goBeat 21 = .ok (.iload 5, 2) := by decide +kernel
theorem dX9_goBeat_23 : decode cX9_goBeat 23 = .ok (.ifCond .lt 17, 3) := by decide +kernel
theorem dX9_goBeat_26 : decode cX9_goBeat 26 = .ok (.aload_n 0, 1) := by decide +kernel
theorem dX9_goBeat_27 : decode cX9_goBeat 27 = .ok (.aload_n 1, 1) := by decide +kernel
theorem dX9_goBeat_28 : decode cX9_goBeat 28 = .ok (.iload 5, 2) := by decide +kernel
theorem dX9_goBeat_30 : decode cX9_goBeat 30 = .ok (.iload_n 2, 1) := by decide +kernel
theorem dX9_goBeat_31 : decode cX9_goBeat 31 = .ok (.invokevirtual 148, 3) := by decide +kernel
theorem dX9_goBeat_34 : decode cX9_goBeat 34 = .ok (.iinc 5 (-1), 3) := by decide +kernel
theorem dX9_goBeat_37 : decode cX9_goBeat 37 = .ok (.goto (-16), 3) := by decide +kernel
theorem dX9_goBeat_40 : decode cX9_goBeat 40 = .ok (.aload_n 0, 1) := by decide +kernel
theorem dX9_goBeat_41 : decode cX9_goBeat 41 = .ok (.aload_n 1, 1) := by decide +kernel
theorem dX9_goBeat_42 : decode cX9_goBeat 42 = .ok (.invokevirtual 152, 3) := by decide +kernel
theorem dX9_goBeat_45 : decode cX9_goBeat 45 = .ok (.aload_n 0, 1) := by decide +kernel
theorem dX9_goBeat_46 : decode cX9_goBeat 46 = .ok (.aload_n 1, 1) := by decide +kernel
theorem dX9_goBeat_47 : decode cX9_goBeat 47 = .ok (.invokevirtual 156, 3) := by decide +kernel
theorem dX9_goBeat_50 : decode cX9_goBeat 50 = .ok (.aload_n 0, 1) := by decide +kernel
theorem dX9_goBeat_51 : decode cX9_goBeat 51 = .ok (.aload_n 1, 1) := by decide +kernel
theorem dX9_goBeat_52 : decode cX9_goBeat 52 = .ok (.invokevirtual 159, 3) := by decide +kernel
theorem dX9_goBeat_55 : decode cX9_goBeat 55 = .ok (.iload 4, 2) := by decide +kernel
theorem dX9_goBeat_57 : decode cX9_goBeat 57 = .ok (.bipush (-9), 2) := by decide +kernel
theorem dX9_goBeat_59 : decode cX9_goBeat 59 = .ok (.if_icmp .eq 10, 3) := by decide +kernel
theorem dX9_goBeat_62 : decode cX9_goBeat 62 = .ok (.aload_n 0, 1) := by decide +kernel
theorem dX9_goBeat_63 : decode cX9_goBeat 63 = .ok (.aload_n 1, 1) := by decide +kernel
theorem dX9_goBeat_64 : decode cX9_goBeat 64 = .ok (.iload 4, 2) := by decide +kernel
theorem dX9_goBeat_66 : decode cX9_goBeat 66 = .ok (.invokevirtual 162, 3) := by decide +kernel
theorem dX9_goBeat_69 : decode cX9_goBeat 69 = .ok (.aload_n 1, 1) := by decide +kernel
theorem dX9_goBeat_70 : decode cX9_goBeat 70 = .ok (.bipush 18, 2) := by decide +kernel
theorem dX9_goBeat_72 : decode cX9_goBeat 72 = .ok (.iaload, 1) := by decide +kernel
theorem dX9_goBeat_73 : decode cX9_goBeat 73 = .ok (.ifCond .ne 7, 3) := by decide +kernel
theorem dX9_goBeat_76 : decode cX9_goBeat 76 = .ok (.iconst 0, 1) := by decide +kernel
theorem dX9_goBeat_77 : decode cX9_goBeat 77 = .ok (.goto 12, 3) := by decide +kernel
theorem dX9_goBeat_80 : decode cX9_goBeat 80 = .ok (.aload_n 1, 1) := by decide +kernel
theorem dX9_goBeat_81 : decode cX9_goBeat 81 = .ok (.bipush 18, 2) := by decide +kernel
theorem dX9_goBeat_83 : decode cX9_goBeat 83 = .ok (.iaload, 1) := by decide +kernel
theorem dX9_goBeat_84 : decode cX9_goBeat 84 = .ok (.aload_n 0, 1) := by decide +kernel
theorem dX9_goBeat_85 : decode cX9_goBeat 85 = .ok (.getfield 120, 3) := by decide +kernel
theorem dX9_goBeat_88 : decode cX9_goBeat 88 = .ok (.iadd, 1) := by decide +kernel
theorem dX9_goBeat_89 : decode cX9_goBeat 89 = .ok (.istore 5, 2) := by decide +kernel
theorem dX9_goBeat_91 : decode cX9_goBeat 91 = .ok (.aload_n 1, 1) := by decide +kernel
theorem dX9_goBeat_92 : decode cX9_goBeat 92 = .ok (.bipush 18, 2) := by decide +kernel
theorem dX9_goBeat_94 : decode cX9_goBeat 94 = .ok (.iload 5, 2) := by decide +kernel
theorem dX9_goBeat_96 : decode cX9_goBeat 96 = .ok (.bipush 99, 2) := by decide +kernel
theorem dX9_goBeat_98 : decode cX9_goBeat 98 = .ok (.if_icmp .le 8, 3) := by decide +kernel
theorem dX9_goBeat_101 : decode cX9_goBeat 101 = .ok (.bipush 99, 2) := by decide +kernel
theorem dX9_goBeat_103 : decode cX9_goBeat 103 = .ok (.goto 5, 3) := by decide +kernel
theorem dX9_goBeat_106 : decode cX9_goBeat 106 = .ok (.iload 5, 2) := by decide +kernel
theorem dX9_goBeat_108 : decode cX9_goBeat 108 = .ok (.iastore, 1) := by decide +kernel
theorem dX9_goBeat_109 : decode cX9_goBeat 109 = .ok (.aload_n 1, 1) := by decide +kernel
theorem dX9_goBeat_110 : decode cX9_goBeat 110 = .ok (.bipush 20, 2) := by decide +kernel
theorem dX9_goBeat_112 : decode cX9_goBeat 112 = .ok (.dup2, 1) := by decide +kernel
theorem dX9_goBeat_113 : decode cX9_goBeat 113 = .ok (.iaload, 1) := by decide +kernel
theorem dX9_goBeat_114 : decode cX9_goBeat 114 = .ok (.iconst 1, 1) := by decide +kernel
theorem dX9_goBeat_115 : decode cX9_goBeat 115 = .ok (.iadd, 1) := by decide +kernel
theorem dX9_goBeat_116 : decode cX9_goBeat 116 = .ok (.iastore, 1) := by decide +kernel
theorem dX9_goBeat_117 : decode cX9_goBeat 117 = .ok (.aload_n 1, 1) := by decide +kernel
theorem dX9_goBeat_118 : decode cX9_goBeat 118 = .ok (.bipush 19, 2) := by decide +kernel
theorem dX9_goBeat_120 : decode cX9_goBeat 120 = .ok (.iaload, 1) := by decide +kernel
theorem dX9_goBeat_121 : decode cX9_goBeat 121 = .ok (.iload_n 3, 1) := by decide +kernel
theorem dX9_goBeat_122 : decode cX9_goBeat 122 = .ok (.isub, 1) := by decide +kernel
theorem dX9_goBeat_123 : decode cX9_goBeat 123 = .ok (.ireturn, 1) := by decide +kernel
theorem dX9_bucketsAt_0 : decode cX9_bucketsAt 0 = .ok (.iconst 0, 1) := by decide +kernel
theorem dX9_bucketsAt_1 : decode cX9_bucketsAt 1 = .ok (.istore 4, 2) := by decide +kernel
theorem dX9_bucketsAt_3 : decode cX9_bucketsAt 3 = .ok (.iconst 0, 1) := by decide +kernel
theorem dX9_bucketsAt_4 : decode cX9_bucketsAt 4 = .ok (.istore 5, 2) := by decide +kernel
theorem dX9_bucketsAt_6 : decode cX9_bucketsAt 6 = .ok (.iload 5, 2) := by decide +kernel
theorem dX9_bucketsAt_8 : decode cX9_bucketsAt 8 = .ok (.aload_n 0, 1) := by decide +kernel
theorem dX9_bucketsAt_9 : decode cX9_bucketsAt 9 = .ok (.getfield 70, 3) := by decide +kernel
theorem dX9_bucketsAt_12 : decode cX9_bucketsAt 12 = .ok (.if_icmp .ge 39, 3) := by decide +kernel
theorem dX9_bucketsAt_15 : decode cX9_bucketsAt 15 = .ok (.iload 4, 2) := by decide +kernel
theorem dX9_bucketsAt_17 : decode cX9_bucketsAt 17 = .ok (.aload_n 1, 1) := by decide +kernel
theorem dX9_bucketsAt_18 : decode cX9_bucketsAt 18 = .ok (.iconst 5, 1) := by decide +kernel
theorem dX9_bucketsAt_19 : decode cX9_bucketsAt 19 = .ok (.iload 5, 2) := by decide +kernel
theorem dX9_bucketsAt_21 : decode cX9_bucketsAt 21 = .ok (.iadd, 1) := by decide +kernel
theorem dX9_bucketsAt_22 : decode cX9_bucketsAt 22 = .ok (.iaload, 1) := by decide +kernel
theorem dX9_bucketsAt_23 : decode cX9_bucketsAt 23 = .ok (.i2l, 1) := by decide +kernel
theorem dX9_bucketsAt_24 : decode cX9_bucketsAt 24 = .ok (.iload_n 2, 1) := by decide +kernel
theorem dX9_bucketsAt_25 : decode cX9_bucketsAt 25 = .ok (.i2l, 1) := by decide +kernel
theorem dX9_bucketsAt_26 : decode cX9_bucketsAt 26 = .ok (.iload_n 3, 1) := by decide +kernel
theorem dX9_bucketsAt_27 : decode cX9_bucketsAt 27 = .ok (.i2l, 1) := by decide +kernel
theorem dX9_bucketsAt_28 : decode cX9_bucketsAt 28 = .ok (.invokestatic 66, 3) := by decide +kernel
theorem dX9_bucketsAt_31 : decode cX9_bucketsAt 31 = .ok (.ifCond .eq 10, 3) := by decide +kernel
theorem dX9_bucketsAt_34 : decode cX9_bucketsAt 34 = .ok (.iconst 1, 1) := by decide +kernel
theorem dX9_bucketsAt_35 : decode cX9_bucketsAt 35 = .ok (.iload 5, 2) := by decide +kernel
theorem dX9_bucketsAt_37 : decode cX9_bucketsAt 37 = .ok (.ishl, 1) := by decide +kernel
theorem dX9_bucketsAt_38 : decode cX9_bucketsAt 38 = .ok (.goto 4, 3) := by decide +kernel
theorem dX9_bucketsAt_41 : decode cX9_bucketsAt 41 = .ok (.iconst 0, 1) := by decide +kernel
theorem dX9_bucketsAt_42 : decode cX9_bucketsAt 42 = .ok (.ior, 1) := by decide +kernel
theorem dX9_bucketsAt_43 : decode cX9_bucketsAt 43 = .ok (.istore 4, 2) := by decide +kernel
theorem dX9_bucketsAt_45 : decode cX9_bucketsAt 45 = .ok (.iinc 5 1, 3) := by decide +kernel
theorem dX9_bucketsAt_48 : decode cX9_bucketsAt 48 = .ok (.goto (-42), 3) := by decide +kernel
theorem dX9_bucketsAt_51 : decode cX9_bucketsAt 51 = .ok (.iload 4, 2) := by decide +kernel
theorem dX9_bucketsAt_53 : decode cX9_bucketsAt 53 = .ok (.ireturn, 1) := by decide +kernel
theorem dX9_standsWith_0 : decode cX9_standsWith 0 = .ok (.iconst 0, 1) := by decide +kernel
theorem dX9_standsWith_1 : decode cX9_standsWith 1 = .ok (.istore_n 2, 1) := by decide +kernel
theorem dX9_standsWith_2 : decode cX9_standsWith 2 = .ok (.iconst 0, 1) := by decide +kernel
theorem dX9_standsWith_3 : decode cX9_standsWith 3 = .ok (.istore_n 3, 1) := by decide +kernel
theorem dX9_standsWith_4 : decode cX9_standsWith 4 = .ok (.iload_n 3, 1) := by decide +kernel
theorem dX9_standsWith_5 : decode cX9_standsWith 5 = .ok (.aload_n 0, 1) := by decide +kernel
theorem dX9_standsWith_6 : decode cX9_standsWith 6 = .ok (.getfield 70, 3) := by decide +kernel
theorem dX9_standsWith_9 : decode cX9_standsWith 9 = .ok (.if_icmp .ge 32, 3) := by decide +kernel
theorem dX9_standsWith_12 : decode cX9_standsWith 12 = .ok (.iload_n 2, 1) := by decide +kernel
theorem dX9_standsWith_13 : decode cX9_standsWith 13 = .ok (.aload_n 1, 1) := by decide +kernel
theorem dX9_standsWith_14 : decode cX9_standsWith 14 = .ok (.iconst 5, 1) := by decide +kernel
theorem dX9_standsWith_15 : decode cX9_standsWith 15 = .ok (.iload_n 3, 1) := by decide +kernel
theorem dX9_standsWith_16 : decode cX9_standsWith 16 = .ok (.iadd, 1) := by decide +kernel
theorem dX9_standsWith_17 : decode cX9_standsWith 17 = .ok (.iaload, 1) := by decide +kernel
theorem dX9_standsWith_18 : decode cX9_standsWith 18 = .ok (.iconst 5, 1) := by decide +kernel
theorem dX9_standsWith_19 : decode cX9_standsWith 19 = .ok (.if_icmp .ge 13, 3) := by decide +kernel
theorem dX9_standsWith_22 : decode cX9_standsWith 22 = .ok (.iconst 1, 1) := by decide +kernel
theorem dX9_standsWith_23 : decode cX9_standsWith 23 = .ok (.aload_n 1, 1) := by decide +kernel
theorem dX9_standsWith_24 : decode cX9_standsWith 24 = .ok (.iconst 5, 1) := by decide +kernel
theorem dX9_standsWith_25 : decode cX9_standsWith 25 = .ok (.iload_n 3, 1) := by decide +kernel
theorem dX9_standsWith_26 : decode cX9_standsWith 26 = .ok (.iadd, 1) := by decide +kernel
theorem dX9_standsWith_27 : decode cX9_standsWith 27 = .ok (.iaload, 1) := by decide +kernel
theorem dX9_standsWith_28 : decode cX9_standsWith 28 = .ok (.ishl, 1) := by decide +kernel
theorem dX9_standsWith_29 : decode cX9_standsWith 29 = .ok (.goto 4, 3) := by decide +kernel
theorem dX9_standsWith_32 : decode cX9_standsWith 32 = .ok (.iconst 0, 1) := by decide +kernel
theorem dX9_standsWith_33 : decode cX9_standsWith 33 = .ok (.ior, 1) := by decide +kernel
theorem dX9_standsWith_34 : decode cX9_standsWith 34 = .ok (.istore_n 2, 1) := by decide +kernel
theorem dX9_standsWith_35 : decode cX9_standsWith 35 = .ok (.iinc 3 1, 3) := by decide +kernel
theorem dX9_standsWith_38 : decode cX9_standsWith 38 = .ok (.goto (-34), 3) := by decide +kernel
theorem dX9_standsWith_41 : decode cX9_standsWith 41 = .ok (.iload_n 2, 1) := by decide +kernel
theorem dX9_standsWith_42 : decode cX9_standsWith 42 = .ok (.ireturn, 1) := by decide +kernel
theorem dX9_about_0 : decode cX9_about 0 = .ok (.aload_n 0, 1) := by decide +kernel
theorem dX9_about_1 : decode cX9_about 1 = .ok (.iconst 0, 1) := by decide +kernel
theorem dX9_about_2 : decode cX9_about 2 = .ok (.putfield 59, 3) := by decide +kernel
theorem dX9_about_5 : decode cX9_about 5 = .ok (.iload_n 1, 1) := by decide +kernel
theorem dX9_about_6 : decode cX9_about 6 = .ok (.tableswitch 172 0 13 #[70, 75, 80, 88, 93, 98, 106, 114, 123, 136, 149, 157, 162, 167], 70) := by decide +kernel
theorem dX9_about_76 : decode cX9_about 76 = .ok (.aload_n 0, 1) := by decide +kernel
theorem dX9_about_77 : decode cX9_about 77 = .ok (.getfield 63, 3) := by decide +kernel
theorem dX9_about_80 : decode cX9_about 80 = .ok (.ireturn, 1) := by decide +kernel
theorem dX9_about_81 : decode cX9_about 81 = .ok (.aload_n 0, 1) := by decide +kernel
theorem dX9_about_82 : decode cX9_about 82 = .ok (.getfield 70, 3) := by decide +kernel
theorem dX9_about_85 : decode cX9_about 85 = .ok (.ireturn, 1) := by decide +kernel
theorem dX9_about_86 : decode cX9_about 86 = .ok (.aload_n 0, 1) := by decide +kernel
theorem dX9_about_87 : decode cX9_about 87 = .ok (.getfield 25, 3) := by decide +kernel
theorem dX9_about_90 : decode cX9_about 90 = .ok (.bipush 18, 2) := by decide +kernel
theorem dX9_about_92 : decode cX9_about 92 = .ok (.iaload, 1) := by decide +kernel
theorem dX9_about_93 : decode cX9_about 93 = .ok (.ireturn, 1) := by decide +kernel
theorem dX9_about_94 : decode cX9_about 94 = .ok (.aload_n 0, 1) := by decide +kernel
theorem dX9_about_95 : decode cX9_about 95 = .ok (.getfield 120, 3) := by decide +kernel
theorem dX9_about_98 : decode cX9_about 98 = .ok (.ireturn, 1) := by decide +kernel
theorem dX9_about_99 : decode cX9_about 99 = .ok (.aload_n 0, 1) := by decide +kernel
theorem dX9_about_100 : decode cX9_about 100 = .ok (.getfield 123, 3) := by decide +kernel
theorem dX9_about_103 : decode cX9_about 103 = .ok (.ireturn, 1) := by decide +kernel
theorem dX9_about_104 : decode cX9_about 104 = .ok (.aload_n 0, 1) := by decide +kernel
theorem dX9_about_105 : decode cX9_about 105 = .ok (.getfield 25, 3) := by decide +kernel
theorem dX9_about_108 : decode cX9_about 108 = .ok (.bipush 20, 2) := by decide +kernel
theorem dX9_about_110 : decode cX9_about 110 = .ok (.iaload, 1) := by decide +kernel
theorem dX9_about_111 : decode cX9_about 111 = .ok (.ireturn, 1) := by decide +kernel
theorem dX9_about_112 : decode cX9_about 112 = .ok (.aload_n 0, 1) := by decide +kernel
theorem dX9_about_113 : decode cX9_about 113 = .ok (.getfield 25, 3) := by decide +kernel
theorem dX9_about_116 : decode cX9_about 116 = .ok (.bipush 19, 2) := by decide +kernel
theorem dX9_about_118 : decode cX9_about 118 = .ok (.iaload, 1) := by decide +kernel
theorem dX9_about_119 : decode cX9_about 119 = .ok (.ireturn, 1) := by decide +kernel
theorem dX9_about_120 : decode cX9_about 120 = .ok (.aload_n 0, 1) := by decide +kernel
theorem dX9_about_121 : decode cX9_about 121 = .ok (.aload_n 0, 1) := by decide +kernel
theorem dX9_about_122 : decode cX9_about 122 = .ok (.getfield 25, 3) := by decide +kernel
theorem dX9_about_125 : decode cX9_about 125 = .ok (.invokevirtual 166, 3) := by decide +kernel
theorem dX9_about_128 : decode cX9_about 128 = .ok (.ireturn, 1) := by decide +kernel
theorem dX9_about_129 : decode cX9_about 129 = .ok (.aload_n 0, 1) := by decide +kernel
theorem dX9_about_130 : decode cX9_about 130 = .ok (.aload_n 0, 1) := by decide +kernel
theorem dX9_about_131 : decode cX9_about 131 = .ok (.getfield 25, 3) := by decide +kernel
theorem dX9_about_134 : decode cX9_about 134 = .ok (.bipush 8, 2) := by decide +kernel
theorem dX9_about_136 : decode cX9_about 136 = .ok (.bipush 8, 2) := by decide +kernel
theorem dX9_about_138 : decode cX9_about 138 = .ok (.invokevirtual 170, 3) := by decide +kernel
theorem dX9_about_141 : decode cX9_about 141 = .ok (.ireturn, 1) := by decide +kernel
theorem dX9_about_142 : decode cX9_about 142 = .ok (.aload_n 0, 1) := by decide +kernel
theorem dX9_about_143 : decode cX9_about 143 = .ok (.aload_n 0, 1) := by decide +kernel
theorem dX9_about_144 : decode cX9_about 144 = .ok (.getfield 25, 3) := by decide +kernel
theorem dX9_about_147 : decode cX9_about 147 = .ok (.bipush 9, 2) := by decide +kernel
theorem dX9_about_149 : decode cX9_about 149 = .ok (.bipush 9, 2) := by decide +kernel
theorem dX9_about_151 : decode cX9_about 151 = .ok (.invokevirtual 170, 3) := by decide +kernel
theorem dX9_about_154 : decode cX9_about 154 = .ok (.ireturn, 1) := by decide +kernel
theorem dX9_about_155 : decode cX9_about 155 = .ok (.aload_n 0, 1) := by decide +kernel
theorem dX9_about_156 : decode cX9_about 156 = .ok (.getfield 25, 3) := by decide +kernel
theorem dX9_about_159 : decode cX9_about 159 = .ok (.bipush 17, 2) := by decide +kernel
theorem dX9_about_161 : decode cX9_about 161 = .ok (.iaload, 1) := by decide +kernel
theorem dX9_about_162 : decode cX9_about 162 = .ok (.ireturn, 1) := by decide +kernel
theorem dX9_about_163 : decode cX9_about 163 = .ok (.aload_n 0, 1) := by decide +kernel
theorem dX9_about_164 : decode cX9_about 164 = .ok (.getfield 126, 3) := by decide +kernel
theorem dX9_about_167 : decode cX9_about 167 = .ok (.ireturn, 1) := by decide +kernel
theorem dX9_about_168 : decode cX9_about 168 = .ok (.aload_n 0, 1) := by decide +kernel
theorem dX9_about_169 : decode cX9_about 169 = .ok (.getfield 174, 3) := by decide +kernel
theorem dX9_about_172 : decode cX9_about 172 = .ok (.ireturn, 1) := by decide +kernel
theorem dX9_about_173 : decode cX9_about 173 = .ok (.aload_n 0, 1) := by decide +kernel
theorem dX9_about_174 : decode cX9_about 174 = .ok (.getfield 75, 3) := by decide +kernel
theorem dX9_about_177 : decode cX9_about 177 = .ok (.ireturn, 1) := by decide +kernel
theorem dX9_about_178 : decode cX9_about 178 = .ok (.bipush (-2), 2) := by decide +kernel
theorem dX9_about_180 : decode cX9_about 180 = .ok (.ireturn, 1) := by decide +kernel
theorem dX9_standOf_0 : decode cX9_standOf 0 = .ok (.bipush (-9), 2) := by decide +kernel
theorem dX9_standOf_2 : decode cX9_standOf 2 = .ok (.istore_n 3, 1) := by decide +kernel
theorem dX9_standOf_3 : decode cX9_standOf 3 = .ok (.iconst 0, 1) := by decide +kernel
theorem dX9_standOf_4 : decode cX9_standOf 4 = .ok (.istore 4, 2) := by decide +kernel
theorem dX9_standOf_6 : decode cX9_standOf 6 = .ok (.iload 4, 2) := by decide +kernel
theorem dX9_standOf_8 : decode cX9_standOf 8 = .ok (.iload_n 2, 1) := by decide +kernel
theorem dX9_standOf_9 : decode cX9_standOf 9 = .ok (.if_icmp .ge 24, 3) := by decide +kernel
theorem dX9_standOf_12 : decode cX9_standOf 12 = .ok (.aload_n 0, 1) := by decide +kernel
theorem dX9_standOf_13 : decode cX9_standOf 13 = .ok (.iload 4, 2) := by decide +kernel
theorem dX9_standOf_15 : decode cX9_standOf 15 = .ok (.iaload, 1) := by decide +kernel
theorem dX9_standOf_16 : decode cX9_standOf 16 = .ok (.iload_n 1, 1) := by decide +kernel
theorem dX9_standOf_17 : decode cX9_standOf 17 = .ok (.if_icmp .ne 8, 3) := by decide +kernel
theorem dX9_standOf_20 : decode cX9_standOf 20 = .ok (.iload 4, 2) := by decide +kernel
theorem dX9_standOf_22 : decode cX9_standOf 22 = .ok (.goto 4, 3) := by decide +kernel
theorem dX9_standOf_25 : decode cX9_standOf 25 = .ok (.iload_n 3, 1) := by decide +kernel
theorem dX9_standOf_26 : decode cX9_standOf 26 = .ok (.istore_n 3, 1) := by decide +kernel
theorem dX9_standOf_27 : decode cX9_standOf 27 = .ok (.iinc 4 1, 3) := by decide +kernel
theorem dX9_standOf_30 : decode cX9_standOf 30 = .ok (.goto (-24), 3) := by decide +kernel
theorem dX9_standOf_33 : decode cX9_standOf 33 = .ok (.iload_n 3, 1) := by decide +kernel
theorem dX9_standOf_34 : decode cX9_standOf 34 = .ok (.ireturn, 1) := by decide +kernel
theorem dX9_person_0 : decode cX9_person 0 = .ok (.aload_n 0, 1) := by decide +kernel
theorem dX9_person_1 : decode cX9_person 1 = .ok (.iconst 0, 1) := by decide +kernel
theorem dX9_person_2 : decode cX9_person 2 = .ok (.putfield 59, 3) := by decide +kernel
theorem dX9_person_5 : decode cX9_person 5 = .ok (.aload_n 0, 1) := by decide +kernel
theorem dX9_person_6 : decode cX9_person 6 = .ok (.iload_n 1, 1) := by decide +kernel
theorem dX9_person_7 : decode cX9_person 7 = .ok (.invokevirtual 177, 3) := by decide +kernel
theorem dX9_person_10 : decode cX9_person 10 = .ok (.ifCond .eq 5, 3) := by decide +kernel
theorem dX9_person_13 : decode cX9_person 13 = .ok (.iconst (-1), 1) := by decide +kernel
theorem dX9_person_14 : decode cX9_person 14 = .ok (.ireturn, 1) := by decide +kernel
theorem dX9_person_15 : decode cX9_person 15 = .ok (.iload_n 2, 1) := by decide +kernel
theorem dX9_person_16 : decode cX9_person 16 = .ok (.lookupswitch 48 #[(0, 28), (1, 35)], 28) := by decide +kernel
theorem dX9_person_44 : decode cX9_person 44 = .ok (.aload_n 0, 1) := by decide +kernel
theorem dX9_person_45 : decode cX9_person 45 = .ok (.getfield 13, 3) := by decide +kernel
theorem dX9_person_48 : decode cX9_person 48 = .ok (.iload_n 1, 1) := by decide +kernel
theorem dX9_person_49 : decode cX9_person 49 = .ok (.iaload, 1) := by decide +kernel
theorem dX9_person_50 : decode cX9_person 50 = .ok (.ireturn, 1) := by decide +kernel
theorem dX9_person_51 : decode cX9_person 51 = .ok (.aload_n 0, 1) := by decide +kernel
theorem dX9_person_52 : decode cX9_person 52 = .ok (.getfield 25, 3) := by decide +kernel
theorem dX9_person_55 : decode cX9_person 55 = .ok (.iload_n 1, 1) := by decide +kernel
theorem dX9_person_56 : decode cX9_person 56 = .ok (.aload_n 0, 1) := by decide +kernel
theorem dX9_person_57 : decode cX9_person 57 = .ok (.getfield 63, 3) := by decide +kernel
theorem dX9_person_60 : decode cX9_person 60 = .ok (.invokestatic 181, 3) := by decide +kernel
theorem dX9_person_63 : decode cX9_person 63 = .ok (.ireturn, 1) := by decide +kernel
theorem dX9_person_64 : decode cX9_person 64 = .ok (.bipush (-2), 2) := by decide +kernel
theorem dX9_person_66 : decode cX9_person 66 = .ok (.ireturn, 1) := by decide +kernel
theorem dX9_stand_0 : decode cX9_stand 0 = .ok (.aload_n 0, 1) := by decide +kernel
theorem dX9_stand_1 : decode cX9_stand 1 = .ok (.iconst 0, 1) := by decide +kernel
theorem dX9_stand_2 : decode cX9_stand 2 = .ok (.putfield 59, 3) := by decide +kernel
theorem dX9_stand_5 : decode cX9_stand 5 = .ok (.aload_n 0, 1) := by decide +kernel
theorem dX9_stand_6 : decode cX9_stand 6 = .ok (.iload_n 1, 1) := by decide +kernel
theorem dX9_stand_7 : decode cX9_stand 7 = .ok (.invokevirtual 177, 3) := by decide +kernel
theorem dX9_stand_10 : decode cX9_stand 10 = .ok (.ifCond .eq 5, 3) := by decide +kernel
theorem dX9_stand_13 : decode cX9_stand 13 = .ok (.iconst (-1), 1) := by decide +kernel
theorem dX9_stand_14 : decode cX9_stand 14 = .ok (.ireturn, 1) := by decide +kernel
theorem dX9_stand_15 : decode cX9_stand 15 = .ok (.iload_n 2, 1) := by decide +kernel
theorem dX9_stand_16 : decode cX9_stand 16 = .ok (.lookupswitch 45 #[(0, 28), (1, 35)], 28) := by decide +kernel
theorem dX9_stand_44 : decode cX9_stand 44 = .ok (.aload_n 0, 1) := by decide +kernel
theorem dX9_stand_45 : decode cX9_stand 45 = .ok (.getfield 25, 3) := by decide +kernel
theorem dX9_stand_48 : decode cX9_stand 48 = .ok (.iload_n 1, 1) := by decide +kernel
theorem dX9_stand_49 : decode cX9_stand 49 = .ok (.iaload, 1) := by decide +kernel
theorem dX9_stand_50 : decode cX9_stand 50 = .ok (.ireturn, 1) := by decide +kernel
theorem dX9_stand_51 : decode cX9_stand 51 = .ok (.aload_n 0, 1) := by decide +kernel
theorem dX9_stand_52 : decode cX9_stand 52 = .ok (.aload_n 0, 1) := by decide +kernel
theorem dX9_stand_53 : decode cX9_stand 53 = .ok (.getfield 25, 3) := by decide +kernel
theorem dX9_stand_56 : decode cX9_stand 56 = .ok (.iload_n 1, 1) := by decide +kernel
theorem dX9_stand_57 : decode cX9_stand 57 = .ok (.invokevirtual 133, 3) := by decide +kernel
theorem dX9_stand_60 : decode cX9_stand 60 = .ok (.ireturn, 1) := by decide +kernel
theorem dX9_stand_61 : decode cX9_stand 61 = .ok (.bipush (-2), 2) := by decide +kernel
theorem dX9_stand_63 : decode cX9_stand 63 = .ok (.ireturn, 1) := by decide +kernel
theorem dX9_bucket_0 : decode cX9_bucket 0 = .ok (.aload_n 0, 1) := by decide +kernel
theorem dX9_bucket_1 : decode cX9_bucket 1 = .ok (.iconst 0, 1) := by decide +kernel
theorem dX9_bucket_2 : decode cX9_bucket 2 = .ok (.putfield 59, 3) := by decide +kernel
theorem dX9_bucket_5 : decode cX9_bucket 5 = .ok (.aload_n 0, 1) := by decide +kernel
theorem dX9_bucket_6 : decode cX9_bucket 6 = .ok (.iload_n 1, 1) := by decide +kernel
theorem dX9_bucket_7 : decode cX9_bucket 7 = .ok (.invokevirtual 184, 3) := by decide +kernel
theorem dX9_bucket_10 : decode cX9_bucket 10 = .ok (.ifCond .eq 5, 3) := by decide +kernel
theorem dX9_bucket_13 : decode cX9_bucket 13 = .ok (.iconst (-1), 1) := by decide +kernel
theorem dX9_bucket_14 : decode cX9_bucket 14 = .ok (.ireturn, 1) := by decide +kernel
theorem dX9_bucket_15 : decode cX9_bucket 15 = .ok (.iload_n 2, 1) := by decide +kernel
theorem dX9_bucket_16 : decode cX9_bucket 16 = .ok (.tableswitch 117 0 4 #[36, 43, 55, 64, 90], 36) := by decide +kernel
theorem dX9_bucket_52 : decode cX9_bucket 52 = .ok (.aload_n 0, 1) := by decide +kernel
theorem dX9_bucket_53 : decode cX9_bucket 53 = .ok (.getfield 16, 3) := by decide +kernel
theorem dX9_bucket_56 : decode cX9_bucket 56 = .ok (.iload_n 1, 1) := by decide +kernel
theorem dX9_bucket_57 : decode cX9_bucket 57 = .ok (.iaload, 1) := by decide +kernel
theorem dX9_bucket_58 : decode cX9_bucket 58 = .ok (.ireturn, 1) := by decide +kernel
theorem dX9_bucket_59 : decode cX9_bucket 59 = .ok (.aload_n 0, 1) := by decide +kernel
theorem dX9_bucket_60 : decode cX9_bucket 60 = .ok (.getfield 25, 3) := by decide +kernel
theorem dX9_bucket_63 : decode cX9_bucket 63 = .ok (.bipush 17, 2) := by decide +kernel
theorem dX9_bucket_65 : decode cX9_bucket 65 = .ok (.iaload, 1) := by decide +kernel
theorem dX9_bucket_66 : decode cX9_bucket 66 = .ok (.iload_n 1, 1) := by decide +kernel
theorem dX9_bucket_67 : decode cX9_bucket 67 = .ok (.ishr, 1) := by decide +kernel
theorem dX9_bucket_68 : decode cX9_bucket 68 = .ok (.iconst 1, 1) := by decide +kernel
theorem dX9_bucket_69 : decode cX9_bucket 69 = .ok (.iand, 1) := by decide +kernel
theorem dX9_bucket_70 : decode cX9_bucket 70 = .ok (.ireturn, 1) := by decide +kernel
theorem dX9_bucket_71 : decode cX9_bucket 71 = .ok (.aload_n 0, 1) := by decide +kernel
theorem dX9_bucket_72 : decode cX9_bucket 72 = .ok (.getfield 25, 3) := by decide +kernel
theorem dX9_bucket_75 : decode cX9_bucket 75 = .ok (.iconst 5, 1) := by decide +kernel
theorem dX9_bucket_76 : decode cX9_bucket 76 = .ok (.iload_n 1, 1) := by decide +kernel
theorem dX9_bucket_77 : decode cX9_bucket 77 = .ok (.iadd, 1) := by decide +kernel
theorem dX9_bucket_78 : decode cX9_bucket 78 = .ok (.iaload, 1) := by decide +kernel
theorem dX9_bucket_79 : decode cX9_bucket 79 = .ok (.ireturn, 1) := by decide +kernel
theorem dX9_bucket_80 : decode cX9_bucket 80 = .ok (.aload_n 0, 1) := by decide +kernel
theorem dX9_bucket_81 : decode cX9_bucket 81 = .ok (.getfield 25, 3) := by decide +kernel
theorem dX9_bucket_84 : decode cX9_bucket 84 = .ok (.iconst 5, 1) := by decide +kernel
theorem dX9_bucket_85 : decode cX9_bucket 85 = .ok (.iload_n 1, 1) := by decide +kernel
theorem dX9_bucket_86 : decode cX9_bucket 86 = .ok (.iadd, 1) := by decide +kernel
theorem dX9_bucket_87 : decode cX9_bucket 87 = .ok (.iaload, 1) := by decide +kernel
theorem dX9_bucket_88 : decode cX9_bucket 88 = .ok (.iconst 5, 1) := by decide +kernel
theorem dX9_bucket_89 : decode cX9_bucket 89 = .ok (.if_icmp .ge 15, 3) := by decide +kernel
theorem dX9_bucket_92 : decode cX9_bucket 92 = .ok (.aload_n 0, 1) := by decide +kernel
theorem dX9_bucket_93 : decode cX9_bucket 93 = .ok (.getfield 25, 3) := by decide +kernel
theorem dX9_bucket_96 : decode cX9_bucket 96 = .ok (.bipush 9, 2) := by decide +kernel
theorem dX9_bucket_98 : decode cX9_bucket 98 = .ok (.iload_n 1, 1) := by decide +kernel
theorem dX9_bucket_99 : decode cX9_bucket 99 = .ok (.iadd, 1) := by decide +kernel
theorem dX9_bucket_100 : decode cX9_bucket 100 = .ok (.iaload, 1) := by decide +kernel
theorem dX9_bucket_101 : decode cX9_bucket 101 = .ok (.goto 4, 3) := by decide +kernel
theorem dX9_bucket_104 : decode cX9_bucket 104 = .ok (.iconst 0, 1) := by decide +kernel
theorem dX9_bucket_105 : decode cX9_bucket 105 = .ok (.ireturn, 1) := by decide +kernel
theorem dX9_bucket_106 : decode cX9_bucket 106 = .ok (.aload_n 0, 1) := by decide +kernel
theorem dX9_bucket_107 : decode cX9_bucket 107 = .ok (.getfield 25, 3) := by decide +kernel
theorem dX9_bucket_110 : decode cX9_bucket 110 = .ok (.iconst 5, 1) := by decide +kernel
theorem dX9_bucket_111 : decode cX9_bucket 111 = .ok (.iload_n 1, 1) := by decide +kernel
theorem dX9_bucket_112 : decode cX9_bucket 112 = .ok (.iadd, 1) := by decide +kernel
theorem dX9_bucket_113 : decode cX9_bucket 113 = .ok (.iaload, 1) := by decide +kernel
theorem dX9_bucket_114 : decode cX9_bucket 114 = .ok (.bipush 9, 2) := by decide +kernel
theorem dX9_bucket_116 : decode cX9_bucket 116 = .ok (.if_icmp .ne 15, 3) := by decide +kernel
theorem dX9_bucket_119 : decode cX9_bucket 119 = .ok (.aload_n 0, 1) := by decide +kernel
theorem dX9_bucket_120 : decode cX9_bucket 120 = .ok (.getfield 25, 3) := by decide +kernel
theorem dX9_bucket_123 : decode cX9_bucket 123 = .ok (.bipush 13, 2) := by decide +kernel
theorem dX9_bucket_125 : decode cX9_bucket 125 = .ok (.iload_n 1, 1) := by decide +kernel
theorem dX9_bucket_126 : decode cX9_bucket 126 = .ok (.iadd, 1) := by decide +kernel
theorem dX9_bucket_127 : decode cX9_bucket 127 = .ok (.iaload, 1) := by decide +kernel
theorem dX9_bucket_128 : decode cX9_bucket 128 = .ok (.goto 4, 3) := by decide +kernel
theorem dX9_bucket_131 : decode cX9_bucket 131 = .ok (.iconst 0, 1) := by decide +kernel
theorem dX9_bucket_132 : decode cX9_bucket 132 = .ok (.ireturn, 1) := by decide +kernel
theorem dX9_bucket_133 : decode cX9_bucket 133 = .ok (.bipush (-2), 2) := by decide +kernel
theorem dX9_bucket_135 : decode cX9_bucket 135 = .ok (.ireturn, 1) := by decide +kernel
theorem dX9_note_0 : decode cX9_note 0 = .ok (.aload_n 0, 1) := by decide +kernel
theorem dX9_note_1 : decode cX9_note 1 = .ok (.getfield 126, 3) := by decide +kernel
theorem dX9_note_4 : decode cX9_note 4 = .ok (.bipush 14, 2) := by decide +kernel
theorem dX9_note_6 : decode cX9_note 6 = .ok (.if_icmp .ne 43, 3) := by decide +kernel
theorem dX9_note_9 : decode cX9_note 9 = .ok (.iconst 0, 1) := by decide +kernel
theorem dX9_note_10 : decode cX9_note 10 = .ok (.istore_n 1, 1) := by decide +kernel
theorem dX9_note_11 : decode cX9_note 11 = .ok (.iload_n 1, 1) := by decide +kernel
theorem dX9_note_12 : decode cX9_note 12 = .ok (.sipush 273, 3) := by decide +kernel
theorem dX9_note_15 : decode cX9_note 15 = .ok (.if_icmp .ge 24, 3) := by decide +kernel
theorem dX9_note_18 : decode cX9_note 18 = .ok (.aload_n 0, 1) := by decide +kernel
theorem dX9_note_19 : decode cX9_note 19 = .ok (.getfield 31, 3) := by decide +kernel
theorem dX9_note_22 : decode cX9_note 22 = .ok (.iload_n 1, 1) := by decide +kernel
theorem dX9_note_23 : decode cX9_note 23 = .ok (.aload_n 0, 1) := by decide +kernel
theorem dX9_note_24 : decode cX9_note 24 = .ok (.getfield 31, 3) := by decide +kernel
theorem dX9_note_27 : decode cX9_note 27 = .ok (.iload_n 1, 1) := by decide +kernel
theorem dX9_note_28 : decode cX9_note 28 = .ok (.bipush 21, 2) := by decide +kernel
theorem dX9_note_30 : decode cX9_note 30 = .ok (.iadd, 1) := by decide +kernel
theorem dX9_note_31 : decode cX9_note 31 = .ok (.iaload, 1) := by decide +kernel
theorem dX9_note_32 : decode cX9_note 32 = .ok (.iastore, 1) := by decide +kernel
theorem dX9_note_33 : decode cX9_note 33 = .ok (.iinc 1 1, 3) := by decide +kernel
theorem dX9_note_36 : decode cX9_note 36 = .ok (.goto (-25), 3) := by decide +kernel
theorem dX9_note_39 : decode cX9_note 39 = .ok (.aload_n 0, 1) := by decide +kernel
theorem dX9_note_40 : decode cX9_note 40 = .ok (.dup, 1) := by decide +kernel
theorem dX9_note_41 : decode cX9_note 41 = .ok (.getfield 126, 3) := by decide +kernel
theorem dX9_note_44 : decode cX9_note 44 = .ok (.iconst 1, 1) := by decide +kernel
theorem dX9_note_45 : decode cX9_note 45 = .ok (.isub, 1) := by decide +kernel
theorem dX9_note_46 : decode cX9_note 46 = .ok (.putfield 126, 3) := by decide +kernel
theorem dX9_note_49 : decode cX9_note 49 = .ok (.iconst 0, 1) := by decide +kernel
theorem dX9_note_50 : decode cX9_note 50 = .ok (.istore_n 1, 1) := by decide +kernel
theorem dX9_note_51 : decode cX9_note 51 = .ok (.iload_n 1, 1) := by decide +kernel
theorem dX9_note_52 : decode cX9_note 52 = .ok (.bipush 21, 2) := by decide +kernel
theorem dX9_note_54 : decode cX9_note 54 = .ok (.if_icmp .ge 29, 3) := by decide +kernel
theorem dX9_note_57 : decode cX9_note 57 = .ok (.aload_n 0, 1) := by decide +kernel
theorem dX9_note_58 : decode cX9_note 58 = .ok (.getfield 31, 3) := by decide +kernel
theorem dX9_note_61 : decode cX9_note 61 = .ok (.bipush 21, 2) := by decide +kernel
theorem dX9_note_63 : decode cX9_note 63 = .ok (.aload_n 0, 1) := by decide +kernel
theorem dX9_note_64 : decode cX9_note 64 = .ok (.getfield 126, 3) := by decide +kernel
theorem dX9_note_67 : decode cX9_note 67 = .ok (.imul, 1) := by decide +kernel
theorem dX9_note_68 : decode cX9_note 68 = .ok (.iload_n 1, 1) := by decide +kernel
theorem dX9_note_69 : decode cX9_note 69 = .ok (.iadd, 1) := by decide +kernel
theorem dX9_note_70 : decode cX9_note 70 = .ok (.aload_n 0, 1) := by decide +kernel
theorem dX9_note_71 : decode cX9_note 71 = .ok (.getfield 25, 3) := by decide +kernel
theorem dX9_note_74 : decode cX9_note 74 = .ok (.iload_n 1, 1) := by decide +kernel
theorem dX9_note_75 : decode cX9_note 75 = .ok (.iaload, 1) := by decide +kernel
theorem dX9_note_76 : decode cX9_note 76 = .ok (.iastore, 1) := by decide +kernel
theorem dX9_note_77 : decode cX9_note 77 = .ok (.iinc 1 1, 3) := by decide +kernel
theorem dX9_note_80 : decode cX9_note 80 = .ok (.goto (-29), 3) := by decide +kernel
theorem dX9_note_83 : decode cX9_note 83 = .ok (.aload_n 0, 1) := by decide +kernel
theorem dX9_note_84 : decode cX9_note 84 = .ok (.dup, 1) := by decide +kernel
theorem dX9_note_85 : decode cX9_note 85 = .ok (.getfield 126, 3) := by decide +kernel
theorem dX9_note_88 : decode cX9_note 88 = .ok (.iconst 1, 1) := by decide +kernel
theorem dX9_note_89 : decode cX9_note 89 = .ok (.iadd, 1) := by decide +kernel
theorem dX9_note_90 : decode cX9_note 90 = .ok (.putfield 126, 3) := by decide +kernel
theorem dX9_note_93 : decode cX9_note 93 = .ok (.return_, 1) := by decide +kernel
theorem dX9_beat_0 : decode cX9_beat 0 = .ok (.aload_n 0, 1) := by decide +kernel
theorem dX9_beat_1 : decode cX9_beat 1 = .ok (.iconst 0, 1) := by decide +kernel
theorem dX9_beat_2 : decode cX9_beat 2 = .ok (.putfield 59, 3) := by decide +kernel
theorem dX9_beat_5 : decode cX9_beat 5 = .ok (.aload_n 0, 1) := by decide +kernel
theorem dX9_beat_6 : decode cX9_beat 6 = .ok (.invokevirtual 187, 3) := by decide +kernel
theorem dX9_beat_9 : decode cX9_beat 9 = .ok (.aload_n 0, 1) := by decide +kernel
theorem dX9_beat_10 : decode cX9_beat 10 = .ok (.aload_n 0, 1) := by decide +kernel
theorem dX9_beat_11 : decode cX9_beat 11 = .ok (.getfield 25, 3) := by decide +kernel
theorem dX9_beat_14 : decode cX9_beat 14 = .ok (.bipush 31, 2) := by decide +kernel
theorem dX9_beat_16 : decode cX9_beat 16 = .ok (.invokevirtual 190, 3) := by decide +kernel
theorem dX9_beat_19 : decode cX9_beat 19 = .ok (.ireturn, 1) := by decide +kernel
theorem dX9_goChange_0 : decode cX9_goChange 0 = .ok (.aload_n 1, 1) := by decide +kernel
theorem dX9_goChange_1 : decode cX9_goChange 1 = .ok (.iload_n 2, 1) := by decide +kernel
theorem dX9_goChange_2 : decode cX9_goChange 2 = .ok (.aload_n 0, 1) := by decide +kernel
theorem dX9_goChange_3 : decode cX9_goChange 3 = .ok (.getfield 63, 3) := by decide +kernel
theorem dX9_goChange_6 : decode cX9_goChange 6 = .ok (.invokestatic 181, 3) := by decide +kernel
theorem dX9_goChange_9 : decode cX9_goChange 9 = .ok (.istore 4, 2) := by decide +kernel
theorem dX9_goChange_11 : decode cX9_goChange 11 = .ok (.aload_n 1, 1) := by decide +kernel
theorem dX9_goChange_12 : decode cX9_goChange 12 = .ok (.iload_n 3, 1) := by decide +kernel
theorem dX9_goChange_13 : decode cX9_goChange 13 = .ok (.aload_n 0, 1) := by decide +kernel
theorem dX9_goChange_14 : decode cX9_goChange 14 = .ok (.getfield 63, 3) := by decide +kernel
theorem dX9_goChange_17 : decode cX9_goChange 17 = .ok (.invokestatic 181, 3) := by decide +kernel
theorem dX9_goChange_20 : decode cX9_goChange 20 = .ok (.istore 5, 2) := by decide +kernel
theorem dX9_goChange_22 : decode cX9_goChange 22 = .ok (.aload_n 1, 1) := by decide +kernel
theorem dX9_goChange_23 : decode cX9_goChange 23 = .ok (.iload 4, 2) := by decide +kernel
theorem dX9_goChange_25 : decode cX9_goChange 25 = .ok (.iload_n 3, 1) := by decide +kernel
theorem dX9_goChange_26 : decode cX9_goChange 26 = .ok (.iastore, 1) := by decide +kernel
theorem dX9_goChange_27 : decode cX9_goChange 27 = .ok (.aload_n 1, 1) := by decide +kernel
theorem dX9_goChange_28 : decode cX9_goChange 28 = .ok (.iload 5, 2) := by decide +kernel
theorem dX9_goChange_30 : decode cX9_goChange 30 = .ok (.iload_n 2, 1) := by decide +kernel
theorem dX9_goChange_31 : decode cX9_goChange 31 = .ok (.iastore, 1) := by decide +kernel
theorem dX9_goChange_32 : decode cX9_goChange 32 = .ok (.return_, 1) := by decide +kernel
theorem dX9_change_0 : decode cX9_change 0 = .ok (.aload_n 0, 1) := by decide +kernel
theorem dX9_change_1 : decode cX9_change 1 = .ok (.iconst 0, 1) := by decide +kernel
theorem dX9_change_2 : decode cX9_change 2 = .ok (.putfield 59, 3) := by decide +kernel
theorem dX9_change_5 : decode cX9_change 5 = .ok (.aload_n 0, 1) := by decide +kernel
theorem dX9_change_6 : decode cX9_change 6 = .ok (.iload_n 1, 1) := by decide +kernel
theorem dX9_change_7 : decode cX9_change 7 = .ok (.invokevirtual 177, 3) := by decide +kernel
theorem dX9_change_10 : decode cX9_change 10 = .ok (.ifCond .ne 11, 3) := by decide +kernel
theorem dX9_change_13 : decode cX9_change 13 = .ok (.aload_n 0, 1) := by decide +kernel
theorem dX9_change_14 : decode cX9_change 14 = .ok (.iload_n 2, 1) := by decide +kernel
theorem dX9_change_15 : decode cX9_change 15 = .ok (.invokevirtual 177, 3) := by decide +kernel
theorem dX9_change_18 : decode cX9_change 18 = .ok (.ifCond .eq 5, 3) := by decide +kernel
theorem dX9_change_21 : decode cX9_change 21 = .ok (.iconst (-1), 1) := by decide +kernel
theorem dX9_change_22 : decode cX9_change 22 = .ok (.ireturn, 1) := by decide +kernel
theorem dX9_change_23 : decode cX9_change 23 = .ok (.iload_n 1, 1) := by decide +kernel
theorem dX9_change_24 : decode cX9_change 24 = .ok (.iload_n 2, 1) := by decide +kernel
theorem dX9_change_25 : decode cX9_change 25 = .ok (.if_icmp .ne 6, 3) := by decide +kernel
theorem dX9_change_28 : decode cX9_change 28 = .ok (.bipush (-2), 2) := by decide +kernel
theorem dX9_change_30 : decode cX9_change 30 = .ok (.ireturn, 1) := by decide +kernel
theorem dX9_change_31 : decode cX9_change 31 = .ok (.aload_n 0, 1) := by decide +kernel
theorem dX9_change_32 : decode cX9_change 32 = .ok (.invokevirtual 187, 3) := by decide +kernel
theorem dX9_change_35 : decode cX9_change 35 = .ok (.aload_n 0, 1) := by decide +kernel
theorem dX9_change_36 : decode cX9_change 36 = .ok (.aload_n 0, 1) := by decide +kernel
theorem dX9_change_37 : decode cX9_change 37 = .ok (.getfield 25, 3) := by decide +kernel
theorem dX9_change_40 : decode cX9_change 40 = .ok (.iload_n 1, 1) := by decide +kernel
theorem dX9_change_41 : decode cX9_change 41 = .ok (.iload_n 2, 1) := by decide +kernel
theorem dX9_change_42 : decode cX9_change 42 = .ok (.invokevirtual 193, 3) := by decide +kernel
theorem dX9_change_45 : decode cX9_change 45 = .ok (.aload_n 0, 1) := by decide +kernel
theorem dX9_change_46 : decode cX9_change 46 = .ok (.getfield 25, 3) := by decide +kernel
theorem dX9_change_49 : decode cX9_change 49 = .ok (.iload_n 1, 1) := by decide +kernel
theorem dX9_change_50 : decode cX9_change 50 = .ok (.aload_n 0, 1) := by decide +kernel
theorem dX9_change_51 : decode cX9_change 51 = .ok (.getfield 63, 3) := by decide +kernel
theorem dX9_change_54 : decode cX9_change 54 = .ok (.invokestatic 181, 3) := by decide +kernel
theorem dX9_change_57 : decode cX9_change 57 = .ok (.ireturn, 1) := by decide +kernel
theorem dX9_mend_0 : decode cX9_mend 0 = .ok (.aload_n 0, 1) := by decide +kernel
theorem dX9_mend_1 : decode cX9_mend 1 = .ok (.iconst 0, 1) := by decide +kernel
theorem dX9_mend_2 : decode cX9_mend 2 = .ok (.putfield 59, 3) := by decide +kernel
theorem dX9_mend_5 : decode cX9_mend 5 = .ok (.aload_n 0, 1) := by decide +kernel
theorem dX9_mend_6 : decode cX9_mend 6 = .ok (.iload_n 1, 1) := by decide +kernel
theorem dX9_mend_7 : decode cX9_mend 7 = .ok (.invokevirtual 184, 3) := by decide +kernel
theorem dX9_mend_10 : decode cX9_mend 10 = .ok (.ifCond .eq 5, 3) := by decide +kernel
theorem dX9_mend_13 : decode cX9_mend 13 = .ok (.iconst (-1), 1) := by decide +kernel
theorem dX9_mend_14 : decode cX9_mend 14 = .ok (.ireturn, 1) := by decide +kernel
theorem dX9_mend_15 : decode cX9_mend 15 = .ok (.aload_n 0, 1) := by decide +kernel
theorem dX9_mend_16 : decode cX9_mend 16 = .ok (.getfield 25, 3) := by decide +kernel
theorem dX9_mend_19 : decode cX9_mend 19 = .ok (.bipush 17, 2) := by decide +kernel
theorem dX9_mend_21 : decode cX9_mend 21 = .ok (.iaload, 1) := by decide +kernel
theorem dX9_mend_22 : decode cX9_mend 22 = .ok (.iload_n 1, 1) := by decide +kernel
theorem dX9_mend_23 : decode cX9_mend 23 = .ok (.invokestatic 129, 3) := by decide +kernel
theorem dX9_mend_26 : decode cX9_mend 26 = .ok (.ifCond .ne 6, 3) := by decide +kernel
theorem dX9_mend_29 : decode cX9_mend 29 = .ok (.bipush (-3), 2) := by decide +kernel
theorem dX9_mend_31 : decode cX9_mend 31 = .ok (.ireturn, 1) := by decide +kernel
theorem dX9_mend_32 : decode cX9_mend 32 = .ok (.aload_n 0, 1) := by decide +kernel
theorem dX9_mend_33 : decode cX9_mend 33 = .ok (.invokevirtual 187, 3) := by decide +kernel
theorem dX9_mend_36 : decode cX9_mend 36 = .ok (.aload_n 0, 1) := by decide +kernel
theorem dX9_mend_37 : decode cX9_mend 37 = .ok (.getfield 25, 3) := by decide +kernel
theorem dX9_mend_40 : decode cX9_mend 40 = .ok (.bipush 17, 2) := by decide +kernel
theorem dX9_mend_42 : decode cX9_mend 42 = .ok (.dup2, 1) := by decide +kernel
theorem dX9_mend_43 : decode cX9_mend 43 = .ok (.iaload, 1) := by decide +kernel
theorem dX9_mend_44 : decode cX9_mend 44 = .ok (.iconst 1, 1) := by decide +kernel
theorem dX9_mend_45 : decode cX9_mend 45 = .ok (.iload_n 1, 1) := by decide +kernel
theorem dX9_mend_46 : decode cX9_mend 46 = .ok (.ishl, 1) := by decide +kernel
theorem dX9_mend_47 : decode cX9_mend 47 = .ok (.iconst (-1), 1) := by decide +kernel
theorem dX9_mend_48 : decode cX9_mend 48 = .ok (.ixor, 1) := by decide +kernel
theorem dX9_mend_49 : decode cX9_mend 49 = .ok (.iand, 1) := by decide +kernel
theorem dX9_mend_50 : decode cX9_mend 50 = .ok (.iastore, 1) := by decide +kernel
theorem dX9_mend_51 : decode cX9_mend 51 = .ok (.aload_n 0, 1) := by decide +kernel
theorem dX9_mend_52 : decode cX9_mend 52 = .ok (.getfield 25, 3) := by decide +kernel
theorem dX9_mend_55 : decode cX9_mend 55 = .ok (.bipush 17, 2) := by decide +kernel
theorem dX9_mend_57 : decode cX9_mend 57 = .ok (.iaload, 1) := by decide +kernel
theorem dX9_mend_58 : decode cX9_mend 58 = .ok (.invokestatic 196, 3) := by decide +kernel
theorem dX9_mend_61 : decode cX9_mend 61 = .ok (.ireturn, 1) := by decide +kernel
theorem dX9_drop_0 : decode cX9_drop 0 = .ok (.aload_n 0, 1) := by decide +kernel
theorem dX9_drop_1 : decode cX9_drop 1 = .ok (.iconst 0, 1) := by decide +kernel
theorem dX9_drop_2 : decode cX9_drop 2 = .ok (.putfield 59, 3) := by decide +kernel
theorem dX9_drop_5 : decode cX9_drop 5 = .ok (.aload_n 0, 1) := by decide +kernel
theorem dX9_drop_6 : decode cX9_drop 6 = .ok (.iload_n 1, 1) := by decide +kernel
theorem dX9_drop_7 : decode cX9_drop 7 = .ok (.invokevirtual 184, 3) := by decide +kernel
theorem dX9_drop_10 : decode cX9_drop 10 = .ok (.ifCond .eq 5, 3) := by decide +kernel
theorem dX9_drop_13 : decode cX9_drop 13 = .ok (.iconst (-1), 1) := by decide +kernel
theorem dX9_drop_14 : decode cX9_drop 14 = .ok (.ireturn, 1) := by decide +kernel
theorem dX9_drop_15 : decode cX9_drop 15 = .ok (.aload_n 0, 1) := by decide +kernel
theorem dX9_drop_16 : decode cX9_drop 16 = .ok (.getfield 25, 3) := by decide +kernel
theorem dX9_drop_19 : decode cX9_drop 19 = .ok (.iconst 5, 1) := by decide +kernel
theorem dX9_drop_20 : decode cX9_drop 20 = .ok (.iload_n 1, 1) := by decide +kernel
theorem dX9_drop_21 : decode cX9_drop 21 = .ok (.iadd, 1) := by decide +kernel
theorem dX9_drop_22 : decode cX9_drop 22 = .ok (.iaload, 1) := by decide +kernel
theorem dX9_drop_23 : decode cX9_drop 23 = .ok (.iconst 5, 1) := by decide +kernel
theorem dX9_drop_24 : decode cX9_drop 24 = .ok (.if_icmp .lt 6, 3) := by decide +kernel
theorem dX9_drop_27 : decode cX9_drop 27 = .ok (.bipush (-3), 2) := by decide +kernel
theorem dX9_drop_29 : decode cX9_drop 29 = .ok (.ireturn, 1) := by decide +kernel
theorem dX9_drop_30 : decode cX9_drop 30 = .ok (.aload_n 0, 1) := by decide +kernel
theorem dX9_drop_31 : decode cX9_drop 31 = .ok (.invokevirtual 187, 3) := by decide +kernel
theorem dX9_drop_34 : decode cX9_drop 34 = .ok (.aload_n 0, 1) := by decide +kernel
theorem dX9_drop_35 : decode cX9_drop 35 = .ok (.getfield 25, 3) := by decide +kernel
theorem dX9_drop_38 : decode cX9_drop 38 = .ok (.bipush 9, 2) := by decide +kernel
theorem dX9_drop_40 : decode cX9_drop 40 = .ok (.iload_n 1, 1) := by decide +kernel
theorem dX9_drop_41 : decode cX9_drop 41 = .ok (.iadd, 1) := by decide +kernel
theorem dX9_drop_42 : decode cX9_drop 42 = .ok (.iaload, 1) := by decide +kernel
theorem dX9_drop_43 : decode cX9_drop 43 = .ok (.istore_n 2, 1) := by decide +kernel
theorem dX9_drop_44 : decode cX9_drop 44 = .ok (.aload_n 0, 1) := by decide +kernel
theorem dX9_drop_45 : decode cX9_drop 45 = .ok (.aload_n 0, 1) := by decide +kernel
theorem dX9_drop_46 : decode cX9_drop 46 = .ok (.getfield 25, 3) := by decide +kernel
theorem dX9_drop_49 : decode cX9_drop 49 = .ok (.iload_n 1, 1) := by decide +kernel
theorem dX9_drop_50 : decode cX9_drop 50 = .ok (.invokevirtual 162, 3) := by decide +kernel
theorem dX9_drop_53 : decode cX9_drop 53 = .ok (.iload_n 2, 1) := by decide +kernel
theorem dX9_drop_54 : decode cX9_drop 54 = .ok (.ireturn, 1) := by decide +kernel
theorem dX9_undo_0 : decode cX9_undo 0 = .ok (.aload_n 0, 1) := by decide +kernel
theorem dX9_undo_1 : decode cX9_undo 1 = .ok (.iconst 0, 1) := by decide +kernel
theorem dX9_undo_2 : decode cX9_undo 2 = .ok (.putfield 59, 3) := by decide +kernel
theorem dX9_undo_5 : decode cX9_undo 5 = .ok (.aload_n 0, 1) := by decide +kernel
theorem dX9_undo_6 : decode cX9_undo 6 = .ok (.getfield 126, 3) := by decide +kernel
theorem dX9_undo_9 : decode cX9_undo 9 = .ok (.ifCond .ne 6, 3) := by decide +kernel
theorem dX9_undo_12 : decode cX9_undo 12 = .ok (.bipush (-3), 2) := by decide +kernel
theorem dX9_undo_14 : decode cX9_undo 14 = .ok (.ireturn, 1) := by decide +kernel
theorem dX9_undo_15 : decode cX9_undo 15 = .ok (.aload_n 0, 1) := by decide +kernel
theorem dX9_undo_16 : decode cX9_undo 16 = .ok (.dup, 1) := by decide +kernel
theorem dX9_undo_17 : decode cX9_undo 17 = .ok (.getfield 126, 3) := by decide +kernel
theorem dX9_undo_20 : decode cX9_undo 20 = .ok (.iconst 1, 1) := by decide +kernel
theorem dX9_undo_21 : decode cX9_undo 21 = .ok (.isub, 1) := by decide +kernel
theorem dX9_undo_22 : decode cX9_undo 22 = .ok (.putfield 126, 3) := by decide +kernel
theorem dX9_undo_25 : decode cX9_undo 25 = .ok (.iconst 0, 1) := by decide +kernel
theorem dX9_undo_26 : decode cX9_undo 26 = .ok (.istore_n 1, 1) := by decide +kernel
theorem dX9_undo_27 : decode cX9_undo 27 = .ok (.iload_n 1, 1) := by decide +kernel
theorem dX9_undo_28 : decode cX9_undo 28 = .ok (.bipush 21, 2) := by decide +kernel
theorem dX9_undo_30 : decode cX9_undo 30 = .ok (.if_icmp .ge 29, 3) := by decide +kernel
theorem dX9_undo_33 : decode cX9_undo 33 = .ok (.aload_n 0, 1) := by decide +kernel
theorem dX9_undo_34 : decode cX9_undo 34 = .ok (.getfield 25, 3) := by decide +kernel
theorem dX9_undo_37 : decode cX9_undo 37 = .ok (.iload_n 1, 1) := by decide +kernel
theorem dX9_undo_38 : decode cX9_undo 38 = .ok (.aload_n 0, 1) := by decide +kernel
theorem dX9_undo_39 : decode cX9_undo 39 = .ok (.getfield 31, 3) := by decide +kernel
theorem dX9_undo_42 : decode cX9_undo 42 = .ok (.bipush 21, 2) := by decide +kernel
theorem dX9_undo_44 : decode cX9_undo 44 = .ok (.aload_n 0, 1) := by decide +kernel
theorem dX9_undo_45 : decode cX9_undo 45 = .ok (.getfield 126, 3) := by decide +kernel
theorem dX9_undo_48 : decode cX9_undo 48 = .ok (.imul, 1) := by decide +kernel
theorem dX9_undo_49 : decode cX9_undo 49 = .ok (.iload_n 1, 1) := by decide +kernel
theorem dX9_undo_50 : decode cX9_undo 50 = .ok (.iadd, 1) := by decide +kernel
theorem dX9_undo_51 : decode cX9_undo 51 = .ok (.iaload, 1) := by decide +kernel
theorem dX9_undo_52 : decode cX9_undo 52 = .ok (.iastore, 1) := by decide +kernel
theorem dX9_undo_53 : decode cX9_undo 53 = .ok (.iinc 1 1, 3) := by decide +kernel
theorem dX9_undo_56 : decode cX9_undo 56 = .ok (.goto (-29), 3) := by decide +kernel
theorem dX9_undo_59 : decode cX9_undo 59 = .ok (.aload_n 0, 1) := by decide +kernel
theorem dX9_undo_60 : decode cX9_undo 60 = .ok (.getfield 126, 3) := by decide +kernel
theorem dX9_undo_63 : decode cX9_undo 63 = .ok (.ireturn, 1) := by decide +kernel
theorem dX9_begin_0 : decode cX9_begin 0 = .ok (.iconst 0, 1) := by decide +kernel
theorem dX9_begin_1 : decode cX9_begin 1 = .ok (.istore_n 1, 1) := by decide +kernel
theorem dX9_begin_2 : decode cX9_begin 2 = .ok (.iload_n 1, 1) := by decide +kernel
theorem dX9_begin_3 : decode cX9_begin 3 = .ok (.bipush 21, 2) := by decide +kernel
theorem dX9_begin_5 : decode cX9_begin 5 = .ok (.if_icmp .ge 21, 3) := by decide +kernel
theorem dX9_begin_8 : decode cX9_begin 8 = .ok (.aload_n 0, 1) := by decide +kernel
theorem dX9_begin_9 : decode cX9_begin 9 = .ok (.getfield 28, 3) := by decide +kernel
theorem dX9_begin_12 : decode cX9_begin 12 = .ok (.iload_n 1, 1) := by decide +kernel
theorem dX9_begin_13 : decode cX9_begin 13 = .ok (.aload_n 0, 1) := by decide +kernel
theorem dX9_begin_14 : decode cX9_begin 14 = .ok (.getfield 25, 3) := by decide +kernel
theorem dX9_begin_17 : decode cX9_begin 17 = .ok (.iload_n 1, 1) := by decide +kernel
theorem dX9_begin_18 : decode cX9_begin 18 = .ok (.iaload, 1) := by decide +kernel
theorem dX9_begin_19 : decode cX9_begin 19 = .ok (.iastore, 1) := by decide +kernel
theorem dX9_begin_20 : decode cX9_begin 20 = .ok (.iinc 1 1, 3) := by decide +kernel
theorem dX9_begin_23 : decode cX9_begin 23 = .ok (.goto (-21), 3) := by decide +kernel
theorem dX9_begin_26 : decode cX9_begin 26 = .ok (.return_, 1) := by decide +kernel
theorem dX9_goBeats_0 : decode cX9_goBeats 0 = .ok (.iconst 0, 1) := by decide +kernel
theorem dX9_goBeats_1 : decode cX9_goBeats 1 = .ok (.istore_n 3, 1) := by decide +kernel
theorem dX9_goBeats_2 : decode cX9_goBeats 2 = .ok (.iload_n 3, 1) := by decide +kernel
theorem dX9_goBeats_3 : decode cX9_goBeats 3 = .ok (.iload_n 1, 1) := by decide +kernel
theorem dX9_goBeats_4 : decode cX9_goBeats 4 = .ok (.if_icmp .ge 19, 3) := by decide +kernel
theorem dX9_goBeats_7 : decode cX9_goBeats 7 = .ok (.aload_n 0, 1) := by decide +kernel
theorem dX9_goBeats_8 : decode cX9_goBeats 8 = .ok (.aload_n 0, 1) := by decide +kernel
theorem dX9_goBeats_9 : decode cX9_goBeats 9 = .ok (.getfield 28, 3) := by decide +kernel
theorem dX9_goBeats_12 : decode cX9_goBeats 12 = .ok (.iload_n 2, 1) := by decide +kernel
theorem dX9_goBeats_13 : decode cX9_goBeats 13 = .ok (.invokevirtual 190, 3) := by decide +kernel
theorem dX9_goBeats_16 : decode cX9_goBeats 16 = .ok (.pop, 1) := by decide +kernel
theorem dX9_goBeats_17 : decode cX9_goBeats 17 = .ok (.iinc 3 1, 3) := by decide +kernel
theorem dX9_goBeats_20 : decode cX9_goBeats 20 = .ok (.goto (-18), 3) := by decide +kernel
theorem dX9_goBeats_23 : decode cX9_goBeats 23 = .ok (.return_, 1) := by decide +kernel
theorem dX9_later_0 : decode cX9_later 0 = .ok (.aload_n 0, 1) := by decide +kernel
theorem dX9_later_1 : decode cX9_later 1 = .ok (.iconst 0, 1) := by decide +kernel
theorem dX9_later_2 : decode cX9_later 2 = .ok (.putfield 59, 3) := by decide +kernel
theorem dX9_later_5 : decode cX9_later 5 = .ok (.iload_n 1, 1) := by decide +kernel
theorem dX9_later_6 : decode cX9_later 6 = .ok (.i2l, 1) := by decide +kernel
theorem dX9_later_7 : decode cX9_later 7 = .ok (.lconst 0, 1) := by decide +kernel
theorem dX9_later_8 : decode cX9_later 8 = .ok (.ldc2_w 200, 3) := by decide +kernel
theorem dX9_later_11 : decode cX9_later 11 = .ok (.invokestatic 66, 3) := by decide +kernel
theorem dX9_later_14 : decode cX9_later 14 = .ok (.ifCond .eq 13, 3) := by decide +kernel
theorem dX9_later_17 : decode cX9_later 17 = .ok (.iload_n 2, 1) := by decide +kernel
theorem dX9_later_18 : decode cX9_later 18 = .ok (.i2l, 1) := by decide +kernel
theorem dX9_later_19 : decode cX9_later 19 = .ok (.lconst 0, 1) := by decide +kernel
theorem dX9_later_20 : decode cX9_later 20 = .ok (.lconst 1, 1) := by decide +kernel
theorem dX9_later_21 : decode cX9_later 21 = .ok (.invokestatic 66, 3) := by decide +kernel
theorem dX9_later_24 : decode cX9_later 24 = .ok (.ifCond .ne 6, 3) := by decide +kernel
theorem dX9_later_27 : decode cX9_later 27 = .ok (.bipush (-2), 2) := by decide +kernel
theorem dX9_later_29 : decode cX9_later 29 = .ok (.ireturn, 1) := by decide +kernel
theorem dX9_later_30 : decode cX9_later 30 = .ok (.aload_n 0, 1) := by decide +kernel
theorem dX9_later_31 : decode cX9_later 31 = .ok (.invokevirtual 202, 3) := by decide +kernel
theorem dX9_later_34 : decode cX9_later 34 = .ok (.aload_n 0, 1) := by decide +kernel
theorem dX9_later_35 : decode cX9_later 35 = .ok (.iload_n 1, 1) := by decide +kernel
theorem dX9_later_36 : decode cX9_later 36 = .ok (.bipush 31, 2) := by decide +kernel
theorem dX9_later_38 : decode cX9_later 38 = .ok (.invokevirtual 205, 3) := by decide +kernel
theorem dX9_later_41 : decode cX9_later 41 = .ok (.aload_n 0, 1) := by decide +kernel
theorem dX9_later_42 : decode cX9_later 42 = .ok (.getfield 28, 3) := by decide +kernel
theorem dX9_later_45 : decode cX9_later 45 = .ok (.iload_n 2, 1) := by decide +kernel
theorem dX9_later_46 : decode cX9_later 46 = .ok (.ifCond .ne 8, 3) := by decide +kernel
theorem dX9_later_49 : decode cX9_later 49 = .ok (.bipush 18, 2) := by decide +kernel
theorem dX9_later_51 : decode cX9_later 51 = .ok (.goto 5, 3) := by decide +kernel
theorem dX9_later_54 : decode cX9_later 54 = .ok (.bipush 19, 2) := by decide +kernel
theorem dX9_later_56 : decode cX9_later 56 = .ok (.iaload, 1) := by decide +kernel
theorem dX9_later_57 : decode cX9_later 57 = .ok (.ireturn, 1) := by decide +kernel
theorem dX9_out_0 : decode cX9_out 0 = .ok (.aload_n 0, 1) := by decide +kernel
theorem dX9_out_1 : decode cX9_out 1 = .ok (.iconst 0, 1) := by decide +kernel
theorem dX9_out_2 : decode cX9_out 2 = .ok (.putfield 59, 3) := by decide +kernel
theorem dX9_out_5 : decode cX9_out 5 = .ok (.aload_n 0, 1) := by decide +kernel
theorem dX9_out_6 : decode cX9_out 6 = .ok (.invokevirtual 202, 3) := by decide +kernel
theorem dX9_out_9 : decode cX9_out 9 = .ok (.iconst 0, 1) := by decide +kernel
theorem dX9_out_10 : decode cX9_out 10 = .ok (.istore_n 1, 1) := by decide +kernel
theorem dX9_out_11 : decode cX9_out 11 = .ok (.iload_n 1, 1) := by decide +kernel
theorem dX9_out_12 : decode cX9_out 12 = .ok (.bipush 60, 2) := by decide +kernel
theorem dX9_out_14 : decode cX9_out 14 = .ok (.if_icmp .gt 32, 3) := by decide +kernel
theorem dX9_out_17 : decode cX9_out 17 = .ok (.aload_n 0, 1) := by decide +kernel
theorem dX9_out_18 : decode cX9_out 18 = .ok (.getfield 28, 3) := by decide +kernel
theorem dX9_out_21 : decode cX9_out 21 = .ok (.bipush 18, 2) := by decide +kernel
theorem dX9_out_23 : decode cX9_out 23 = .ok (.iaload, 1) := by decide +kernel
theorem dX9_out_24 : decode cX9_out 24 = .ok (.ifCond .ne 5, 3) := by decide +kernel
theorem dX9_out_27 : decode cX9_out 27 = .ok (.iload_n 1, 1) := by decide +kernel
theorem dX9_out_28 : decode cX9_out 28 = .ok (.ireturn, 1) := by decide +kernel
theorem dX9_out_29 : decode cX9_out 29 = .ok (.aload_n 0, 1) := by decide +kernel
theorem dX9_out_30 : decode cX9_out 30 = .ok (.aload_n 0, 1) := by decide +kernel
theorem dX9_out_31 : decode cX9_out 31 = .ok (.getfield 28, 3) := by decide +kernel
theorem dX9_out_34 : decode cX9_out 34 = .ok (.bipush 31, 2) := by decide +kernel
theorem dX9_out_36 : decode cX9_out 36 = .ok (.invokevirtual 190, 3) := by decide +kernel
theorem dX9_out_39 : decode cX9_out 39 = .ok (.pop, 1) := by decide +kernel
theorem dX9_out_40 : decode cX9_out 40 = .ok (.iinc 1 1, 3) := by decide +kernel
theorem dX9_out_43 : decode cX9_out 43 = .ok (.goto (-32), 3) := by decide +kernel
theorem dX9_out_46 : decode cX9_out 46 = .ok (.bipush (-9), 2) := by decide +kernel
theorem dX9_out_48 : decode cX9_out 48 = .ok (.ireturn, 1) := by decide +kernel
theorem dX9_swap_0 : decode cX9_swap 0 = .ok (.aload_n 0, 1) := by decide +kernel
theorem dX9_swap_1 : decode cX9_swap 1 = .ok (.iconst 0, 1) := by decide +kernel
theorem dX9_swap_2 : decode cX9_swap 2 = .ok (.putfield 59, 3) := by decide +kernel
theorem dX9_swap_5 : decode cX9_swap 5 = .ok (.iload_n 1, 1) := by decide +kernel
theorem dX9_swap_6 : decode cX9_swap 6 = .ok (.i2l, 1) := by decide +kernel
theorem dX9_swap_7 : decode cX9_swap 7 = .ok (.lconst 1, 1) := by decide +kernel
theorem dX9_swap_8 : decode cX9_swap 8 = .ok (.ldc2_w 209, 3) := by decide +kernel
theorem dX9_swap_11 : decode cX9_swap 11 = .ok (.invokestatic 66, 3) := by decide +kernel
theorem dX9_swap_14 : decode cX9_swap 14 = .ok (.ifCond .eq 13, 3) := by decide +kernel
theorem dX9_swap_17 : decode cX9_swap 17 = .ok (.iload_n 2, 1) := by decide +kernel
theorem dX9_swap_18 : decode cX9_swap 18 = .ok (.i2l, 1) := by decide +kernel
theorem dX9_swap_19 : decode cX9_swap 19 = .ok (.lconst 0, 1) := by decide +kernel
theorem dX9_swap_20 : decode cX9_swap 20 = .ok (.lconst 1, 1) := by decide +kernel
theorem dX9_swap_21 : decode cX9_swap 21 = .ok (.invokestatic 66, 3) := by decide +kernel
theorem dX9_swap_24 : decode cX9_swap 24 = .ok (.ifCond .ne 6, 3) := by decide +kernel
theorem dX9_swap_27 : decode cX9_swap 27 = .ok (.bipush (-2), 2) := by decide +kernel
theorem dX9_swap_29 : decode cX9_swap 29 = .ok (.ireturn, 1) := by decide +kernel
theorem dX9_swap_30 : decode cX9_swap 30 = .ok (.aload_n 0, 1) := by decide +kernel
theorem dX9_swap_31 : decode cX9_swap 31 = .ok (.invokevirtual 202, 3) := by decide +kernel
theorem dX9_swap_34 : decode cX9_swap 34 = .ok (.aload_n 0, 1) := by decide +kernel
theorem dX9_swap_35 : decode cX9_swap 35 = .ok (.iload_n 1, 1) := by decide +kernel
theorem dX9_swap_36 : decode cX9_swap 36 = .ok (.bipush 31, 2) := by decide +kernel
theorem dX9_swap_38 : decode cX9_swap 38 = .ok (.invokevirtual 205, 3) := by decide +kernel
theorem dX9_swap_41 : decode cX9_swap 41 = .ok (.aload_n 0, 1) := by decide +kernel
theorem dX9_swap_42 : decode cX9_swap 42 = .ok (.aload_n 0, 1) := by decide +kernel
theorem dX9_swap_43 : decode cX9_swap 43 = .ok (.getfield 28, 3) := by decide +kernel
theorem dX9_swap_46 : decode cX9_swap 46 = .ok (.bipush 19, 2) := by decide +kernel
theorem dX9_swap_48 : decode cX9_swap 48 = .ok (.iaload, 1) := by decide +kernel
theorem dX9_swap_49 : decode cX9_swap 49 = .ok (.putfield 211, 3) := by decide +kernel
theorem dX9_swap_52 : decode cX9_swap 52 = .ok (.aload_n 0, 1) := by decide +kernel
theorem dX9_swap_53 : decode cX9_swap 53 = .ok (.bipush 99, 2) := by decide +kernel
theorem dX9_swap_55 : decode cX9_swap 55 = .ok (.putfield 214, 3) := by decide +kernel
theorem dX9_swap_58 : decode cX9_swap 58 = .ok (.iconst 0, 1) := by decide +kernel
theorem dX9_swap_59 : decode cX9_swap 59 = .ok (.istore_n 3, 1) := by decide +kernel
theorem dX9_swap_60 : decode cX9_swap 60 = .ok (.iload_n 3, 1) := by decide +kernel
theorem dX9_swap_61 : decode cX9_swap 61 = .ok (.aload_n 0, 1) := by decide +kernel
theorem dX9_swap_62 : decode cX9_swap 62 = .ok (.getfield 63, 3) := by decide +kernel
theorem dX9_swap_65 : decode cX9_swap 65 = .ok (.if_icmp .ge 87, 3) := by decide +kernel
theorem dX9_swap_68 : decode cX9_swap 68 = .ok (.iload_n 3, 1) := by decide +kernel
theorem dX9_swap_69 : decode cX9_swap 69 = .ok (.iconst 1, 1) := by decide +kernel
theorem dX9_swap_70 : decode cX9_swap 70 = .ok (.iadd, 1) := by decide +kernel
theorem dX9_swap_71 : decode cX9_swap 71 = .ok (.istore 4, 2) := by decide +kernel
theorem dX9_swap_73 : decode cX9_swap 73 = .ok (.iload 4, 2) := by decide +kernel
theorem dX9_swap_75 : decode cX9_swap 75 = .ok (.aload_n 0, 1) := by decide +kernel
theorem dX9_swap_76 : decode cX9_swap 76 = .ok (.getfield 63, 3) := by decide +kernel
theorem dX9_swap_79 : decode cX9_swap 79 = .ok (.if_icmp .ge 67, 3) := by decide +kernel
theorem dX9_swap_82 : decode cX9_swap 82 = .ok (.aload_n 0, 1) := by decide +kernel
theorem dX9_swap_83 : decode cX9_swap 83 = .ok (.invokevirtual 202, 3) := by decide +kernel
theorem dX9_swap_86 : decode cX9_swap 86 = .ok (.aload_n 0, 1) := by decide +kernel
theorem dX9_swap_87 : decode cX9_swap 87 = .ok (.aload_n 0, 1) := by decide +kernel
theorem dX9_swap_88 : decode cX9_swap 88 = .ok (.getfield 28, 3) := by decide +kernel
theorem dX9_swap_91 : decode cX9_swap 91 = .ok (.iload_n 3, 1) := by decide +kernel
theorem dX9_swap_92 : decode cX9_swap 92 = .ok (.iload 4, 2) := by decide +kernel
theorem dX9_swap_94 : decode cX9_swap 94 = .ok (.invokevirtual 193, 3) := by decide +kernel
theorem dX9_swap_97 : decode cX9_swap 97 = .ok (.aload_n 0, 1) := by decide +kernel
theorem dX9_swap_98 : decode cX9_swap 98 = .ok (.iload_n 1, 1) := by decide +kernel
theorem dX9_swap_99 : decode cX9_swap 99 = .ok (.bipush 31, 2) := by decide +kernel
theorem dX9_swap_101 : decode cX9_swap 101 = .ok (.invokevirtual 205, 3) := by decide +kernel
theorem dX9_swap_104 : decode cX9_swap 104 = .ok (.aload_n 0, 1) := by decide +kernel
theorem dX9_swap_105 : decode cX9_swap 105 = .ok (.getfield 28, 3) := by decide +kernel
theorem dX9_swap_108 : decode cX9_swap 108 = .ok (.bipush 19, 2) := by decide +kernel
theorem dX9_swap_110 : decode cX9_swap 110 = .ok (.iaload, 1) := by decide +kernel
theorem dX9_swap_111 : decode cX9_swap 111 = .ok (.aload_n 0, 1) := by decide +kernel
theorem dX9_swap_112 : decode cX9_swap 112 = .ok (.getfield 211, 3) := by decide +kernel
theorem dX9_swap_115 : decode cX9_swap 115 = .ok (.if_icmp .le 25, 3) := by decide +kernel
theorem dX9_swap_118 : decode cX9_swap 118 = .ok (.aload_n 0, 1) := by decide +kernel
theorem dX9_swap_119 : decode cX9_swap 119 = .ok (.aload_n 0, 1) := by decide +kernel
theorem dX9_swap_120 : decode cX9_swap 120 = .ok (.getfield 28, 3) := by decide +kernel
theorem dX9_swap_123 : decode cX9_swap 123 = .ok (.bipush 19, 2) := by decide +kernel
theorem dX9_swap_125 : decode cX9_swap 125 = .ok (.iaload, 1) := by decide +kernel
theorem dX9_swap_126 : decode cX9_swap 126 = .ok (.putfield 211, 3) := by decide +kernel
theorem dX9_swap_129 : decode cX9_swap 129 = .ok (.aload_n 0, 1) := by decide +kernel
theorem dX9_swap_130 : decode cX9_swap 130 = .ok (.bipush 10, 2) := by decide +kernel
theorem dX9_swap_132 : decode cX9_swap 132 = .ok (.iload_n 3, 1) := by decide +kernel
theorem dX9_swap_133 : decode cX9_swap 133 = .ok (.imul, 1) := by decide +kernel
theorem dX9_swap_134 : decode cX9_swap 134 = .ok (.iload 4, 2) := by decide +kernel
theorem dX9_swap_136 : decode cX9_swap 136 = .ok (.iadd, 1) := by decide +kernel
theorem dX9_swap_137 : decode cX9_swap 137 = .ok (.putfield 214, 3) := by decide +kernel
theorem dX9_swap_140 : decode cX9_swap 140 = .ok (.iinc 4 1, 3) := by decide +kernel
theorem dX9_swap_143 : decode cX9_swap 143 = .ok (.goto (-70), 3) := by decide +kernel
theorem dX9_swap_146 : decode cX9_swap 146 = .ok (.iinc 3 1, 3) := by decide +kernel
theorem dX9_swap_149 : decode cX9_swap 149 = .ok (.goto (-89), 3) := by decide +kernel
theorem dX9_swap_152 : decode cX9_swap 152 = .ok (.iload_n 2, 1) := by decide +kernel
theorem dX9_swap_153 : decode cX9_swap 153 = .ok (.ifCond .ne 10, 3) := by decide +kernel
theorem dX9_swap_156 : decode cX9_swap 156 = .ok (.aload_n 0, 1) := by decide +kernel
theorem dX9_swap_157 : decode cX9_swap 157 = .ok (.getfield 211, 3) := by decide +kernel
theorem dX9_swap_160 : decode cX9_swap 160 = .ok (.goto 7, 3) := by decide +kernel
theorem dX9_swap_163 : decode cX9_swap 163 = .ok (.aload_n 0, 1) := by decide +kernel
theorem dX9_swap_164 : decode cX9_swap 164 = .ok (.getfield 214, 3) := by decide +kernel
theorem dX9_swap_167 : decode cX9_swap 167 = .ok (.ireturn, 1) := by decide +kernel
theorem dX9_nextLine_0 : decode cX9_nextLine 0 = .ok (.aload_n 0, 1) := by decide +kernel
theorem dX9_nextLine_1 : decode cX9_nextLine 1 = .ok (.getfield 63, 3) := by decide +kernel
theorem dX9_nextLine_4 : decode cX9_nextLine 4 = .ok (.iconst 2, 1) := by decide +kernel
theorem dX9_nextLine_5 : decode cX9_nextLine 5 = .ok (.isub, 1) := by decide +kernel
theorem dX9_nextLine_6 : decode cX9_nextLine 6 = .ok (.istore_n 1, 1) := by decide +kernel
theorem dX9_nextLine_7 : decode cX9_nextLine 7 = .ok (.iload_n 1, 1) := by decide +kernel
theorem dX9_nextLine_8 : decode cX9_nextLine 8 = .ok (.ifCond .lt 26, 3) := by decide +kernel
theorem dX9_nextLine_11 : decode cX9_nextLine 11 = .ok (.aload_n 0, 1) := by decide +kernel
theorem dX9_nextLine_12 : decode cX9_nextLine 12 = .ok (.getfield 56, 3) := by decide +kernel
theorem dX9_nextLine_15 : decode cX9_nextLine 15 = .ok (.iload_n 1, 1) := by decide +kernel
theorem dX9_nextLine_16 : decode cX9_nextLine 16 = .ok (.iaload, 1) := by decide +kernel
theorem dX9_nextLine_17 : decode cX9_nextLine 17 = .ok (.aload_n 0, 1) := by decide +kernel
theorem dX9_nextLine_18 : decode cX9_nextLine 18 = .ok (.getfield 56, 3) := by decide +kernel
theorem dX9_nextLine_21 : decode cX9_nextLine 21 = .ok (.iload_n 1, 1) := by decide +kernel
theorem dX9_nextLine_22 : decode cX9_nextLine 22 = .ok (.iconst 1, 1) := by decide +kernel
theorem dX9_nextLine_23 : decode cX9_nextLine 23 = .ok (.iadd, 1) := by decide +kernel
theorem dX9_nextLine_24 : decode cX9_nextLine 24 = .ok (.iaload, 1) := by decide +kernel
theorem dX9_nextLine_25 : decode cX9_nextLine 25 = .ok (.if_icmp .le 9, 3) := by decide +kernel
theorem dX9_nextLine_28 : decode cX9_nextLine 28 = .ok (.iinc 1 (-1), 3) := by decide +kernel
theorem dX9_nextLine_31 : decode cX9_nextLine 31 = .ok (.goto (-24), 3) := by decide +kernel
theorem dX9_nextLine_34 : decode cX9_nextLine 34 = .ok (.iload_n 1, 1) := by decide +kernel
theorem dX9_nextLine_35 : decode cX9_nextLine 35 = .ok (.ifCond .ge 5, 3) := by decide +kernel
theorem dX9_nextLine_38 : decode cX9_nextLine 38 = .ok (.iconst 0, 1) := by decide +kernel
theorem dX9_nextLine_39 : decode cX9_nextLine 39 = .ok (.ireturn, 1) := by decide +kernel
theorem dX9_nextLine_40 : decode cX9_nextLine 40 = .ok (.aload_n 0, 1) := by decide +kernel
theorem dX9_nextLine_41 : decode cX9_nextLine 41 = .ok (.getfield 63, 3) := by decide +kernel
theorem dX9_nextLine_44 : decode cX9_nextLine 44 = .ok (.iconst 1, 1) := by decide +kernel
theorem dX9_nextLine_45 : decode cX9_nextLine 45 = .ok (.isub, 1) := by decide +kernel
theorem dX9_nextLine_46 : decode cX9_nextLine 46 = .ok (.istore_n 2, 1) := by decide +kernel
theorem dX9_nextLine_47 : decode cX9_nextLine 47 = .ok (.aload_n 0, 1) := by decide +kernel
theorem dX9_nextLine_48 : decode cX9_nextLine 48 = .ok (.getfield 56, 3) := by decide +kernel
theorem dX9_nextLine_51 : decode cX9_nextLine 51 = .ok (.iload_n 2, 1) := by decide +kernel
theorem dX9_nextLine_52 : decode cX9_nextLine 52 = .ok (.iaload, 1) := by decide +kernel
theorem dX9_nextLine_53 : decode cX9_nextLine 53 = .ok (.aload_n 0, 1) := by decide +kernel
theorem dX9_nextLine_54 : decode cX9_nextLine 54 = .ok (.getfield 56, 3) := by decide +kernel
theorem dX9_nextLine_57 : decode cX9_nextLine 57 = .ok (.iload_n 1, 1) := by decide +kernel
theorem dX9_nextLine_58 : decode cX9_nextLine 58 = .ok (.iaload, 1) := by decide +kernel
theorem dX9_nextLine_59 : decode cX9_nextLine 59 = .ok (.if_icmp .ge 9, 3) := by decide +kernel
theorem dX9_nextLine_62 : decode cX9_nextLine 62 = .ok (.iinc 2 (-1), 3) := by decide +kernel
theorem dX9_nextLine_65 : decode cX9_nextLine 65 = .ok (.goto (-18), 3) := by decide +kernel
theorem dX9_nextLine_68 : decode cX9_nextLine 68 = .ok (.aload_n 0, 1) := by decide +kernel
theorem dX9_nextLine_69 : decode cX9_nextLine 69 = .ok (.iload_n 1, 1) := by decide +kernel
theorem dX9_nextLine_70 : decode cX9_nextLine 70 = .ok (.iload_n 2, 1) := by decide +kernel
theorem dX9_nextLine_71 : decode cX9_nextLine 71 = .ok (.invokevirtual 217, 3) := by decide +kernel
theorem dX9_nextLine_74 : decode cX9_nextLine 74 = .ok (.iload_n 1, 1) := by decide +kernel
theorem dX9_nextLine_75 : decode cX9_nextLine 75 = .ok (.iconst 1, 1) := by decide +kernel
theorem dX9_nextLine_76 : decode cX9_nextLine 76 = .ok (.iadd, 1) := by decide +kernel
theorem dX9_nextLine_77 : decode cX9_nextLine 77 = .ok (.istore_n 3, 1) := by decide +kernel
theorem dX9_nextLine_78 : decode cX9_nextLine 78 = .ok (.aload_n 0, 1) := by decide +kernel
theorem dX9_nextLine_79 : decode cX9_nextLine 79 = .ok (.getfield 63, 3) := by decide +kernel
theorem dX9_nextLine_82 : decode cX9_nextLine 82 = .ok (.iconst 1, 1) := by decide +kernel
theorem dX9_nextLine_83 : decode cX9_nextLine 83 = .ok (.isub, 1) := by decide +kernel
theorem dX9_nextLine_84 : decode cX9_nextLine 84 = .ok (.istore 4, 2) := by decide +kernel
theorem dX9_nextLine_86 : decode cX9_nextLine 86 = .ok (.iload_n 3, 1) := by decide +kernel
theorem dX9_nextLine_87 : decode cX9_nextLine 87 = .ok (.iload 4, 2) := by decide +kernel
theorem dX9_nextLine_89 : decode cX9_nextLine 89 = .ok (.if_icmp .ge 19, 3) := by decide +kernel
theorem dX9_nextLine_92 : decode cX9_nextLine 92 = .ok (.aload_n 0, 1) := by decide +kernel
theorem dX9_nextLine_93 : decode cX9_nextLine 93 = .ok (.iload_n 3, 1) := by decide +kernel
theorem dX9_nextLine_94 : decode cX9_nextLine 94 = .ok (.iload 4, 2) := by decide +kernel
theorem dX9_nextLine_96 : decode cX9_nextLine 96 = .ok (.invokevirtual 217, 3) := by decide +kernel
theorem dX9_nextLine_99 : decode cX9_nextLine 99 = .ok (.iinc 3 1, 3) := by decide +kernel
theorem dX9_nextLine_102 : decode cX9_nextLine 102 = .ok (.iinc 4 (-1), 3) := by decide +kernel
theorem dX9_nextLine_105 : decode cX9_nextLine 105 = .ok (.goto (-19), 3) := by decide +kernel
theorem dX9_nextLine_108 : decode cX9_nextLine 108 = .ok (.iconst 1, 1) := by decide +kernel
theorem dX9_nextLine_109 : decode cX9_nextLine 109 = .ok (.ireturn, 1) := by decide +kernel
theorem dX9_turnLine_0 : decode cX9_turnLine 0 = .ok (.aload_n 0, 1) := by decide +kernel
theorem dX9_turnLine_1 : decode cX9_turnLine 1 = .ok (.getfield 56, 3) := by decide +kernel
theorem dX9_turnLine_4 : decode cX9_turnLine 4 = .ok (.iload_n 1, 1) := by decide +kernel
theorem dX9_turnLine_5 : decode cX9_turnLine 5 = .ok (.iaload, 1) := by decide +kernel
theorem dX9_turnLine_6 : decode cX9_turnLine 6 = .ok (.istore_n 3, 1) := by decide +kernel
theorem dX9_turnLine_7 : decode cX9_turnLine 7 = .ok (.aload_n 0, 1) := by decide +kernel
theorem dX9_turnLine_8 : decode cX9_turnLine 8 = .ok (.getfield 56, 3) := by decide +kernel
theorem dX9_turnLine_11 : decode cX9_turnLine 11 = .ok (.iload_n 1, 1) := by decide +kernel
theorem dX9_turnLine_12 : decode cX9_turnLine 12 = .ok (.aload_n 0, 1) := by decide +kernel
theorem dX9_turnLine_13 : decode cX9_turnLine 13 = .ok (.getfield 56, 3) := by decide +kernel
theorem dX9_turnLine_16 : decode cX9_turnLine 16 = .ok (.iload_n 2, 1) := by decide +kernel
theorem dX9_turnLine_17 : decode cX9_turnLine 17 = .ok (.iaload, 1) := by decide +kernel
theorem dX9_turnLine_18 : decode cX9_turnLine 18 = .ok (.iastore, 1) := by decide +kernel
theorem dX9_turnLine_19 : decode cX9_turnLine 19 = .ok (.aload_n 0, 1) := by decide +kernel
theorem dX9_turnLine_20 : decode cX9_turnLine 20 = .ok (.getfield 56, 3) := by decide +kernel
theorem dX9_turnLine_23 : decode cX9_turnLine 23 = .ok (.iload_n 2, 1) := by decide +kernel
theorem dX9_turnLine_24 : decode cX9_turnLine 24 = .ok (.iload_n 3, 1) := by decide +kernel
theorem dX9_turnLine_25 : decode cX9_turnLine 25 = .ok (.iastore, 1) := by decide +kernel
theorem dX9_turnLine_26 : decode cX9_turnLine 26 = .ok (.return_, 1) := by decide +kernel
theorem dX9_lineFigures_0 : decode cX9_lineFigures 0 = .ok (.iconst 0, 1) := by decide +kernel
theorem dX9_lineFigures_1 : decode cX9_lineFigures 1 = .ok (.istore_n 1, 1) := by decide +kernel
theorem dX9_lineFigures_2 : decode cX9_lineFigures 2 = .ok (.iconst 0, 1) := by decide +kernel
theorem dX9_lineFigures_3 : decode cX9_lineFigures 3 = .ok (.istore_n 2, 1) := by decide +kernel
theorem dX9_lineFigures_4 : decode cX9_lineFigures 4 = .ok (.iload_n 2, 1) := by decide +kernel
theorem dX9_lineFigures_5 : decode cX9_lineFigures 5 = .ok (.aload_n 0, 1) := by decide +kernel
theorem dX9_lineFigures_6 : decode cX9_lineFigures 6 = .ok (.getfield 63, 3) := by decide +kernel
theorem dX9_lineFigures_9 : decode cX9_lineFigures 9 = .ok (.if_icmp .ge 23, 3) := by decide +kernel
theorem dX9_lineFigures_12 : decode cX9_lineFigures 12 = .ok (.bipush 10, 2) := by decide +kernel
theorem dX9_lineFigures_14 : decode cX9_lineFigures 14 = .ok (.iload_n 1, 1) := by decide +kernel
theorem dX9_lineFigures_15 : decode cX9_lineFigures 15 = .ok (.imul, 1) := by decide +kernel
theorem dX9_lineFigures_16 : decode cX9_lineFigures 16 = .ok (.aload_n 0, 1) := by decide +kernel
theorem dX9_lineFigures_17 : decode cX9_lineFigures 17 = .ok (.getfield 56, 3) := by decide +kernel
theorem dX9_lineFigures_20 : decode cX9_lineFigures 20 = .ok (.iload_n 2, 1) := by decide +kernel
theorem dX9_lineFigures_21 : decode cX9_lineFigures 21 = .ok (.iaload, 1) := by decide +kernel
theorem dX9_lineFigures_22 : decode cX9_lineFigures 22 = .ok (.iadd, 1) := by decide +kernel
theorem dX9_lineFigures_23 : decode cX9_lineFigures 23 = .ok (.iconst 1, 1) := by decide +kernel
theorem dX9_lineFigures_24 : decode cX9_lineFigures 24 = .ok (.iadd, 1) := by decide +kernel
theorem dX9_lineFigures_25 : decode cX9_lineFigures 25 = .ok (.istore_n 1, 1) := by decide +kernel
theorem dX9_lineFigures_26 : decode cX9_lineFigures 26 = .ok (.iinc 2 1, 3) := by decide +kernel
theorem dX9_lineFigures_29 : decode cX9_lineFigures 29 = .ok (.goto (-25), 3) := by decide +kernel
theorem dX9_lineFigures_32 : decode cX9_lineFigures 32 = .ok (.iload_n 1, 1) := by decide +kernel
theorem dX9_lineFigures_33 : decode cX9_lineFigures 33 = .ok (.ireturn, 1) := by decide +kernel
theorem dX9_line_0 : decode cX9_line 0 = .ok (.aload_n 0, 1) := by decide +kernel
theorem dX9_line_1 : decode cX9_line 1 = .ok (.iconst 0, 1) := by decide +kernel
theorem dX9_line_2 : decode cX9_line 2 = .ok (.putfield 59, 3) := by decide +kernel
theorem dX9_line_5 : decode cX9_line 5 = .ok (.iload_n 1, 1) := by decide +kernel
theorem dX9_line_6 : decode cX9_line 6 = .ok (.i2l, 1) := by decide +kernel
theorem dX9_line_7 : decode cX9_line 7 = .ok (.lconst 1, 1) := by decide +kernel
theorem dX9_line_8 : decode cX9_line 8 = .ok (.ldc2_w 209, 3) := by decide +kernel
theorem dX9_line_11 : decode cX9_line 11 = .ok (.invokestatic 66, 3) := by decide +kernel
theorem dX9_line_14 : decode cX9_line 14 = .ok (.ifCond .eq 13, 3) := by decide +kernel
theorem dX9_line_17 : decode cX9_line 17 = .ok (.iload_n 2, 1) := by decide +kernel
theorem dX9_line_18 : decode cX9_line 18 = .ok (.i2l, 1) := by decide +kernel
theorem dX9_line_19 : decode cX9_line 19 = .ok (.lconst 0, 1) := by decide +kernel
theorem dX9_line_20 : decode cX9_line 20 = .ok (.lconst 1, 1) := by decide +kernel
theorem dX9_line_21 : decode cX9_line 21 = .ok (.invokestatic 66, 3) := by decide +kernel
theorem dX9_line_24 : decode cX9_line 24 = .ok (.ifCond .ne 6, 3) := by decide +kernel
theorem dX9_line_27 : decode cX9_line 27 = .ok (.bipush (-2), 2) := by decide +kernel
theorem dX9_line_29 : decode cX9_line 29 = .ok (.ireturn, 1) := by decide +kernel
theorem dX9_line_30 : decode cX9_line 30 = .ok (.iconst 0, 1) := by decide +kernel
theorem dX9_line_31 : decode cX9_line 31 = .ok (.istore_n 3, 1) := by decide +kernel
theorem dX9_line_32 : decode cX9_line 32 = .ok (.iload_n 3, 1) := by decide +kernel
theorem dX9_line_33 : decode cX9_line 33 = .ok (.aload_n 0, 1) := by decide +kernel
theorem dX9_line_34 : decode cX9_line 34 = .ok (.getfield 63, 3) := by decide +kernel
theorem dX9_line_37 : decode cX9_line 37 = .ok (.if_icmp .ge 16, 3) := by decide +kernel
