theorem dX3_init_0 : decode cX3_init 0 = .ok (.aload_n 0, 1) := by decide +kernel
theorem dX3_init_1 : decode cX3_init 1 = .ok (.invokespecial 3, 3) := by decide +kernel
theorem dX3_init_4 : decode cX3_init 4 = .ok (.aload_n 0, 1) := by decide +kernel
theorem dX3_init_5 : decode cX3_init 5 = .ok (.iconst 5, 1) := by decide +kernel
theorem dX3_init_6 : decode cX3_init 6 = .ok (.newarray .int, 2) := by decide +kernel
theorem dX3_init_8 : decode cX3_init 8 = .ok (.putfield 9, 3) := by decide +kernel
theorem dX3_init_11 : decode cX3_init 11 = .ok (.aload_n 0, 1) := by decide +kernel
theorem dX3_init_12 : decode cX3_init 12 = .ok (.iconst 4, 1) := by decide +kernel
theorem dX3_init_13 : decode cX3_init 13 = .ok (.newarray .int, 2) := by decide +kernel
theorem dX3_init_15 : decode cX3_init 15 = .ok (.putfield 15, 3) := by decide +kernel
theorem dX3_init_18 : decode cX3_init 18 = .ok (.aload_n 0, 1) := by decide +kernel
theorem dX3_init_19 : decode cX3_init 19 = .ok (.iconst 4, 1) := by decide +kernel
theorem dX3_init_20 : decode cX3_init 20 = .ok (.newarray .int, 2) := by decide +kernel
theorem dX3_init_22 : decode cX3_init 22 = .ok (.putfield 18, 3) := by decide +kernel
theorem dX3_init_25 : decode cX3_init 25 = .ok (.aload_n 0, 1) := by decide +kernel
theorem dX3_init_26 : decode cX3_init 26 = .ok (.iconst 4, 1) := by decide +kernel
theorem dX3_init_27 : decode cX3_init 27 = .ok (.newarray .int, 2) := by decide +kernel
theorem dX3_init_29 : decode cX3_init 29 = .ok (.putfield 21, 3) := by decide +kernel
theorem dX3_init_32 : decode cX3_init 32 = .ok (.aload_n 0, 1) := by decide +kernel
theorem dX3_init_33 : decode cX3_init 33 = .ok (.aload_n 1, 1) := by decide +kernel
theorem dX3_init_34 : decode cX3_init 34 = .ok (.putfield 24, 3) := by decide +kernel
theorem dX3_init_37 : decode cX3_init 37 = .ok (.aload_n 0, 1) := by decide +kernel
theorem dX3_init_38 : decode cX3_init 38 = .ok (.invokevirtual 28, 3) := by decide +kernel
theorem dX3_init_41 : decode cX3_init 41 = .ok (.return_, 1) := by decide +kernel
theorem dX3_setUp_0 : decode cX3_setUp 0 = .ok (.iconst 0, 1) := by decide +kernel
theorem dX3_setUp_1 : decode cX3_setUp 1 = .ok (.istore_n 1, 1) := by decide +kernel
theorem dX3_setUp_2 : decode cX3_setUp 2 = .ok (.iload_n 1, 1) := by decide +kernel
theorem dX3_setUp_3 : decode cX3_setUp 3 = .ok (.aload_n 0, 1) := by decide +kernel
theorem dX3_setUp_4 : decode cX3_setUp 4 = .ok (.getfield 9, 3) := by decide +kernel
theorem dX3_setUp_7 : decode cX3_setUp 7 = .ok (.arraylength, 1) := by decide +kernel
theorem dX3_setUp_8 : decode cX3_setUp 8 = .ok (.if_icmp .ge 16, 3) := by decide +kernel
theorem dX3_setUp_11 : decode cX3_setUp 11 = .ok (.aload_n 0, 1) := by decide +kernel
theorem dX3_setUp_12 : decode cX3_setUp 12 = .ok (.getfield 9, 3) := by decide +kernel
theorem dX3_setUp_15 : decode cX3_setUp 15 = .ok (.iload_n 1, 1) := by decide +kernel
theorem dX3_setUp_16 : decode cX3_setUp 16 = .ok (.iload_n 1, 1) := by decide +kernel
theorem dX3_setUp_17 : decode cX3_setUp 17 = .ok (.iastore, 1) := by decide +kernel
theorem dX3_setUp_18 : decode cX3_setUp 18 = .ok (.iinc 1 1, 3) := by decide +kernel
theorem dX3_setUp_21 : decode cX3_setUp 21 = .ok (.goto (-19), 3) := by decide +kernel
theorem dX3_setUp_24 : decode cX3_setUp 24 = .ok (.iconst 0, 1) := by decide +kernel
theorem dX3_setUp_25 : decode cX3_setUp 25 = .ok (.istore_n 1, 1) := by decide +kernel
theorem dX3_setUp_26 : decode cX3_setUp 26 = .ok (.iload_n 1, 1) := by decide +kernel
theorem dX3_setUp_27 : decode cX3_setUp 27 = .ok (.aload_n 0, 1) := by decide +kernel
theorem dX3_setUp_28 : decode cX3_setUp 28 = .ok (.getfield 15, 3) := by decide +kernel
theorem dX3_setUp_31 : decode cX3_setUp 31 = .ok (.arraylength, 1) := by decide +kernel
theorem dX3_setUp_32 : decode cX3_setUp 32 = .ok (.if_icmp .ge 33, 3) := by decide +kernel
theorem dX3_setUp_35 : decode cX3_setUp 35 = .ok (.aload_n 0, 1) := by decide +kernel
theorem dX3_setUp_36 : decode cX3_setUp 36 = .ok (.getfield 15, 3) := by decide +kernel
theorem dX3_setUp_39 : decode cX3_setUp 39 = .ok (.iload_n 1, 1) := by decide +kernel
theorem dX3_setUp_40 : decode cX3_setUp 40 = .ok (.iload_n 1, 1) := by decide +kernel
theorem dX3_setUp_41 : decode cX3_setUp 41 = .ok (.aload_n 0, 1) := by decide +kernel
theorem dX3_setUp_42 : decode cX3_setUp 42 = .ok (.getfield 24, 3) := by decide +kernel
theorem dX3_setUp_45 : decode cX3_setUp 45 = .ok (.getfield 31, 3) := by decide +kernel
theorem dX3_setUp_48 : decode cX3_setUp 48 = .ok (.if_icmp .ge 8, 3) := by decide +kernel
theorem dX3_setUp_51 : decode cX3_setUp 51 = .ok (.bipush 8, 2) := by decide +kernel
theorem dX3_setUp_53 : decode cX3_setUp 53 = .ok (.goto 5, 3) := by decide +kernel
theorem dX3_setUp_56 : decode cX3_setUp 56 = .ok (.bipush 10, 2) := by decide +kernel
theorem dX3_setUp_58 : decode cX3_setUp 58 = .ok (.iastore, 1) := by decide +kernel
theorem dX3_setUp_59 : decode cX3_setUp 59 = .ok (.iinc 1 1, 3) := by decide +kernel
theorem dX3_setUp_62 : decode cX3_setUp 62 = .ok (.goto (-36), 3) := by decide +kernel
theorem dX3_setUp_65 : decode cX3_setUp 65 = .ok (.iconst 0, 1) := by decide +kernel
theorem dX3_setUp_66 : decode cX3_setUp 66 = .ok (.istore_n 1, 1) := by decide +kernel
theorem dX3_setUp_67 : decode cX3_setUp 67 = .ok (.iload_n 1, 1) := by decide +kernel
theorem dX3_setUp_68 : decode cX3_setUp 68 = .ok (.aload_n 0, 1) := by decide +kernel
theorem dX3_setUp_69 : decode cX3_setUp 69 = .ok (.getfield 18, 3) := by decide +kernel
theorem dX3_setUp_72 : decode cX3_setUp 72 = .ok (.arraylength, 1) := by decide +kernel
theorem dX3_setUp_73 : decode cX3_setUp 73 = .ok (.if_icmp .ge 16, 3) := by decide +kernel
theorem dX3_setUp_76 : decode cX3_setUp 76 = .ok (.aload_n 0, 1) := by decide +kernel
theorem dX3_setUp_77 : decode cX3_setUp 77 = .ok (.getfield 18, 3) := by decide +kernel
theorem dX3_setUp_80 : decode cX3_setUp 80 = .ok (.iload_n 1, 1) := by decide +kernel
theorem dX3_setUp_81 : decode cX3_setUp 81 = .ok (.iconst 0, 1) := by decide +kernel
theorem dX3_setUp_82 : decode cX3_setUp 82 = .ok (.iastore, 1) := by decide +kernel
theorem dX3_setUp_83 : decode cX3_setUp 83 = .ok (.iinc 1 1, 3) := by decide +kernel
theorem dX3_setUp_86 : decode cX3_setUp 86 = .ok (.goto (-19), 3) := by decide +kernel
theorem dX3_setUp_89 : decode cX3_setUp 89 = .ok (.iconst 0, 1) := by decide +kernel
theorem dX3_setUp_90 : decode cX3_setUp 90 = .ok (.istore_n 1, 1) := by decide +kernel
theorem dX3_setUp_91 : decode cX3_setUp 91 = .ok (.iload_n 1, 1) := by decide +kernel
theorem dX3_setUp_92 : decode cX3_setUp 92 = .ok (.aload_n 0, 1) := by decide +kernel
theorem dX3_setUp_93 : decode cX3_setUp 93 = .ok (.getfield 21, 3) := by decide +kernel
theorem dX3_setUp_96 : decode cX3_setUp 96 = .ok (.arraylength, 1) := by decide +kernel
theorem dX3_setUp_97 : decode cX3_setUp 97 = .ok (.if_icmp .ge 16, 3) := by decide +kernel
theorem dX3_setUp_100 : decode cX3_setUp 100 = .ok (.aload_n 0, 1) := by decide +kernel
theorem dX3_setUp_101 : decode cX3_setUp 101 = .ok (.getfield 21, 3) := by decide +kernel
theorem dX3_setUp_104 : decode cX3_setUp 104 = .ok (.iload_n 1, 1) := by decide +kernel
theorem dX3_setUp_105 : decode cX3_setUp 105 = .ok (.iconst 0, 1) := by decide +kernel
theorem dX3_setUp_106 : decode cX3_setUp 106 = .ok (.iastore, 1) := by decide +kernel
theorem dX3_setUp_107 : decode cX3_setUp 107 = .ok (.iinc 1 1, 3) := by decide +kernel
theorem dX3_setUp_110 : decode cX3_setUp 110 = .ok (.goto (-19), 3) := by decide +kernel
theorem dX3_setUp_113 : decode cX3_setUp 113 = .ok (.aload_n 0, 1) := by decide +kernel
theorem dX3_setUp_114 : decode cX3_setUp 114 = .ok (.aload_n 0, 1) := by decide +kernel
theorem dX3_setUp_115 : decode cX3_setUp 115 = .ok (.getfield 24, 3) := by decide +kernel
theorem dX3_setUp_118 : decode cX3_setUp 118 = .ok (.getfield 37, 3) := by decide +kernel
theorem dX3_setUp_121 : decode cX3_setUp 121 = .ok (.putfield 40, 3) := by decide +kernel
theorem dX3_setUp_124 : decode cX3_setUp 124 = .ok (.aload_n 0, 1) := by decide +kernel
theorem dX3_setUp_125 : decode cX3_setUp 125 = .ok (.aload_n 0, 1) := by decide +kernel
theorem dX3_setUp_126 : decode cX3_setUp 126 = .ok (.getfield 24, 3) := by decide +kernel
theorem dX3_setUp_129 : decode cX3_setUp 129 = .ok (.getfield 41, 3) := by decide +kernel
theorem dX3_setUp_132 : decode cX3_setUp 132 = .ok (.putfield 44, 3) := by decide +kernel
theorem dX3_setUp_135 : decode cX3_setUp 135 = .ok (.aload_n 0, 1) := by decide +kernel
theorem dX3_setUp_136 : decode cX3_setUp 136 = .ok (.iconst 0, 1) := by decide +kernel
theorem dX3_setUp_137 : decode cX3_setUp 137 = .ok (.putfield 45, 3) := by decide +kernel
theorem dX3_setUp_140 : decode cX3_setUp 140 = .ok (.aload_n 0, 1) := by decide +kernel
theorem dX3_setUp_141 : decode cX3_setUp 141 = .ok (.iconst 0, 1) := by decide +kernel
theorem dX3_setUp_142 : decode cX3_setUp 142 = .ok (.putfield 48, 3) := by decide +kernel
theorem dX3_setUp_145 : decode cX3_setUp 145 = .ok (.aload_n 0, 1) := by decide +kernel
theorem dX3_setUp_146 : decode cX3_setUp 146 = .ok (.iconst 0, 1) := by decide +kernel
theorem dX3_setUp_147 : decode cX3_setUp 147 = .ok (.putfield 51, 3) := by decide +kernel
theorem dX3_setUp_150 : decode cX3_setUp 150 = .ok (.return_, 1) := by decide +kernel
theorem dX3_copyFrom_0 : decode cX3_copyFrom 0 = .ok (.aload_n 1, 1) := by decide +kernel
theorem dX3_copyFrom_1 : decode cX3_copyFrom 1 = .ok (.getfield 9, 3) := by decide +kernel
theorem dX3_copyFrom_4 : decode cX3_copyFrom 4 = .ok (.iconst 0, 1) := by decide +kernel
theorem dX3_copyFrom_5 : decode cX3_copyFrom 5 = .ok (.aload_n 0, 1) := by decide +kernel
theorem dX3_copyFrom_6 : decode cX3_copyFrom 6 = .ok (.getfield 9, 3) := by decide +kernel
theorem dX3_copyFrom_9 : decode cX3_copyFrom 9 = .ok (.iconst 0, 1) := by decide +kernel
theorem dX3_copyFrom_10 : decode cX3_copyFrom 10 = .ok (.iconst 5, 1) := by decide +kernel
theorem dX3_copyFrom_11 : decode cX3_copyFrom 11 = .ok (.invokestatic 54, 3) := by decide +kernel
theorem dX3_copyFrom_14 : decode cX3_copyFrom 14 = .ok (.aload_n 1, 1) := by decide +kernel
theorem dX3_copyFrom_15 : decode cX3_copyFrom 15 = .ok (.getfield 15, 3) := by decide +kernel
theorem dX3_copyFrom_18 : decode cX3_copyFrom 18 = .ok (.iconst 0, 1) := by decide +kernel
theorem dX3_copyFrom_19 : decode cX3_copyFrom 19 = .ok (.aload_n 0, 1) := by decide +kernel
theorem dX3_copyFrom_20 : decode cX3_copyFrom 20 = .ok (.getfield 15, 3) := by decide +kernel
theorem dX3_copyFrom_23 : decode cX3_copyFrom 23 = .ok (.iconst 0, 1) := by decide +kernel
theorem dX3_copyFrom_24 : decode cX3_copyFrom 24 = .ok (.iconst 4, 1) := by decide +kernel
theorem dX3_copyFrom_25 : decode cX3_copyFrom 25 = .ok (.invokestatic 54, 3) := by decide +kernel
theorem dX3_copyFrom_28 : decode cX3_copyFrom 28 = .ok (.aload_n 1, 1) := by decide +kernel
theorem dX3_copyFrom_29 : decode cX3_copyFrom 29 = .ok (.getfield 18, 3) := by decide +kernel
theorem dX3_copyFrom_32 : decode cX3_copyFrom 32 = .ok (.iconst 0, 1) := by decide +kernel
theorem dX3_copyFrom_33 : decode cX3_copyFrom 33 = .ok (.aload_n 0, 1) := by decide +kernel
theorem dX3_copyFrom_34 : decode cX3_copyFrom 34 = .ok (.getfield 18, 3) := by decide +kernel
theorem dX3_copyFrom_37 : decode cX3_copyFrom 37 = .ok (.iconst 0, 1) := by decide +kernel
theorem dX3_copyFrom_38 : decode cX3_copyFrom 38 = .ok (.iconst 4, 1) := by decide +kernel
theorem dX3_copyFrom_39 : decode cX3_copyFrom 39 = .ok (.invokestatic 54, 3) := by decide +kernel
theorem dX3_copyFrom_42 : decode cX3_copyFrom 42 = .ok (.aload_n 1, 1) := by decide +kernel
theorem dX3_copyFrom_43 : decode cX3_copyFrom 43 = .ok (.getfield 21, 3) := by decide +kernel
theorem dX3_copyFrom_46 : decode cX3_copyFrom 46 = .ok (.iconst 0, 1) := by decide +kernel
theorem dX3_copyFrom_47 : decode cX3_copyFrom 47 = .ok (.aload_n 0, 1) := by decide +kernel
theorem dX3_copyFrom_48 : decode cX3_copyFrom 48 = .ok (.getfield 21, 3) := by decide +kernel
theorem dX3_copyFrom_51 : decode cX3_copyFrom 51 = .ok (.iconst 0, 1) := by decide +kernel
theorem dX3_copyFrom_52 : decode cX3_copyFrom 52 = .ok (.iconst 4, 1) := by decide +kernel
theorem dX3_copyFrom_53 : decode cX3_copyFrom 53 = .ok (.invokestatic 54, 3) := by decide +kernel
theorem dX3_copyFrom_56 : decode cX3_copyFrom 56 = .ok (.aload_n 0, 1) := by decide +kernel
theorem dX3_copyFrom_57 : decode cX3_copyFrom 57 = .ok (.aload_n 1, 1) := by decide +kernel
theorem dX3_copyFrom_58 : decode cX3_copyFrom 58 = .ok (.getfield 40, 3) := by decide +kernel
theorem dX3_copyFrom_61 : decode cX3_copyFrom 61 = .ok (.putfield 40, 3) := by decide +kernel
theorem dX3_copyFrom_64 : decode cX3_copyFrom 64 = .ok (.aload_n 0, 1) := by decide +kernel
theorem dX3_copyFrom_65 : decode cX3_copyFrom 65 = .ok (.aload_n 1, 1) := by decide +kernel
theorem dX3_copyFrom_66 : decode cX3_copyFrom 66 = .ok (.getfield 44, 3) := by decide +kernel
theorem dX3_copyFrom_69 : decode cX3_copyFrom 69 = .ok (.putfield 44, 3) := by decide +kernel
theorem dX3_copyFrom_72 : decode cX3_copyFrom 72 = .ok (.aload_n 0, 1) := by decide +kernel
theorem dX3_copyFrom_73 : decode cX3_copyFrom 73 = .ok (.aload_n 1, 1) := by decide +kernel
theorem dX3_copyFrom_74 : decode cX3_copyFrom 74 = .ok (.getfield 45, 3) := by decide +kernel
theorem dX3_copyFrom_77 : decode cX3_copyFrom 77 = .ok (.putfield 45, 3) := by decide +kernel
theorem dX3_copyFrom_80 : decode cX3_copyFrom 80 = .ok (.aload_n 0, 1) := by decide +kernel
theorem dX3_copyFrom_81 : decode cX3_copyFrom 81 = .ok (.aload_n 1, 1) := by decide +kernel
theorem dX3_copyFrom_82 : decode cX3_copyFrom 82 = .ok (.getfield 48, 3) := by decide +kernel
theorem dX3_copyFrom_85 : decode cX3_copyFrom 85 = .ok (.putfield 48, 3) := by decide +kernel
theorem dX3_copyFrom_88 : decode cX3_copyFrom 88 = .ok (.aload_n 0, 1) := by decide +kernel
theorem dX3_copyFrom_89 : decode cX3_copyFrom 89 = .ok (.aload_n 1, 1) := by decide +kernel
theorem dX3_copyFrom_90 : decode cX3_copyFrom 90 = .ok (.getfield 51, 3) := by decide +kernel
theorem dX3_copyFrom_93 : decode cX3_copyFrom 93 = .ok (.putfield 51, 3) := by decide +kernel
theorem dX3_copyFrom_96 : decode cX3_copyFrom 96 = .ok (.return_, 1) := by decide +kernel
theorem dX3_standOf_0 : decode cX3_standOf 0 = .ok (.iconst 0, 1) := by decide +kernel
theorem dX3_standOf_1 : decode cX3_standOf 1 = .ok (.istore_n 2, 1) := by decide +kernel
theorem dX3_standOf_2 : decode cX3_standOf 2 = .ok (.iload_n 2, 1) := by decide +kernel
theorem dX3_standOf_3 : decode cX3_standOf 3 = .ok (.aload_n 0, 1) := by decide +kernel
theorem dX3_standOf_4 : decode cX3_standOf 4 = .ok (.getfield 9, 3) := by decide +kernel
theorem dX3_standOf_7 : decode cX3_standOf 7 = .ok (.arraylength, 1) := by decide +kernel
theorem dX3_standOf_8 : decode cX3_standOf 8 = .ok (.if_icmp .ge 21, 3) := by decide +kernel
theorem dX3_standOf_11 : decode cX3_standOf 11 = .ok (.aload_n 0, 1) := by decide +kernel
theorem dX3_standOf_12 : decode cX3_standOf 12 = .ok (.getfield 9, 3) := by decide +kernel
theorem dX3_standOf_15 : decode cX3_standOf 15 = .ok (.iload_n 2, 1) := by decide +kernel
theorem dX3_standOf_16 : decode cX3_standOf 16 = .ok (.iaload, 1) := by decide +kernel
theorem dX3_standOf_17 : decode cX3_standOf 17 = .ok (.iload_n 1, 1) := by decide +kernel
theorem dX3_standOf_18 : decode cX3_standOf 18 = .ok (.if_icmp .ne 5, 3) := by decide +kernel
theorem dX3_standOf_21 : decode cX3_standOf 21 = .ok (.iload_n 2, 1) := by decide +kernel
theorem dX3_standOf_22 : decode cX3_standOf 22 = .ok (.ireturn, 1) := by decide +kernel
theorem dX3_standOf_23 : decode cX3_standOf 23 = .ok (.iinc 2 1, 3) := by decide +kernel
theorem dX3_standOf_26 : decode cX3_standOf 26 = .ok (.goto (-24), 3) := by decide +kernel
theorem dX3_standOf_29 : decode cX3_standOf 29 = .ok (.bipush (-9), 2) := by decide +kernel
theorem dX3_standOf_31 : decode cX3_standOf 31 = .ok (.ireturn, 1) := by decide +kernel
theorem dX3_leastBucketAt_0 : decode cX3_leastBucketAt 0 = .ok (.iconst 0, 1) := by decide +kernel
theorem dX3_leastBucketAt_1 : decode cX3_leastBucketAt 1 = .ok (.istore_n 2, 1) := by decide +kernel
theorem dX3_leastBucketAt_2 : decode cX3_leastBucketAt 2 = .ok (.iload_n 2, 1) := by decide +kernel
theorem dX3_leastBucketAt_3 : decode cX3_leastBucketAt 3 = .ok (.aload_n 0, 1) := by decide +kernel
theorem dX3_leastBucketAt_4 : decode cX3_leastBucketAt 4 = .ok (.getfield 15, 3) := by decide +kernel
theorem dX3_leastBucketAt_7 : decode cX3_leastBucketAt 7 = .ok (.arraylength, 1) := by decide +kernel
theorem dX3_leastBucketAt_8 : decode cX3_leastBucketAt 8 = .ok (.if_icmp .ge 21, 3) := by decide +kernel
theorem dX3_leastBucketAt_11 : decode cX3_leastBucketAt 11 = .ok (.aload_n 0, 1) := by decide +kernel
theorem dX3_leastBucketAt_12 : decode cX3_leastBucketAt 12 = .ok (.getfield 15, 3) := by decide +kernel
theorem dX3_leastBucketAt_15 : decode cX3_leastBucketAt 15 = .ok (.iload_n 2, 1) := by decide +kernel
theorem dX3_leastBucketAt_16 : decode cX3_leastBucketAt 16 = .ok (.iaload, 1) := by decide +kernel
theorem dX3_leastBucketAt_17 : decode cX3_leastBucketAt 17 = .ok (.iload_n 1, 1) := by decide +kernel
theorem dX3_leastBucketAt_18 : decode cX3_leastBucketAt 18 = .ok (.if_icmp .ne 5, 3) := by decide +kernel
theorem dX3_leastBucketAt_21 : decode cX3_leastBucketAt 21 = .ok (.iload_n 2, 1) := by decide +kernel
theorem dX3_leastBucketAt_22 : decode cX3_leastBucketAt 22 = .ok (.ireturn, 1) := by decide +kernel
theorem dX3_leastBucketAt_23 : decode cX3_leastBucketAt 23 = .ok (.iinc 2 1, 3) := by decide +kernel
theorem dX3_leastBucketAt_26 : decode cX3_leastBucketAt 26 = .ok (.goto (-24), 3) := by decide +kernel
theorem dX3_leastBucketAt_29 : decode cX3_leastBucketAt 29 = .ok (.bipush (-9), 2) := by decide +kernel
theorem dX3_leastBucketAt_31 : decode cX3_leastBucketAt 31 = .ok (.ireturn, 1) := by decide +kernel
theorem dX3_bucketsAt_0 : decode cX3_bucketsAt 0 = .ok (.iconst 0, 1) := by decide +kernel
theorem dX3_bucketsAt_1 : decode cX3_bucketsAt 1 = .ok (.istore_n 2, 1) := by decide +kernel
theorem dX3_bucketsAt_2 : decode cX3_bucketsAt 2 = .ok (.iconst 0, 1) := by decide +kernel
theorem dX3_bucketsAt_3 : decode cX3_bucketsAt 3 = .ok (.istore_n 3, 1) := by decide +kernel
theorem dX3_bucketsAt_4 : decode cX3_bucketsAt 4 = .ok (.iload_n 3, 1) := by decide +kernel
theorem dX3_bucketsAt_5 : decode cX3_bucketsAt 5 = .ok (.aload_n 0, 1) := by decide +kernel
theorem dX3_bucketsAt_6 : decode cX3_bucketsAt 6 = .ok (.getfield 15, 3) := by decide +kernel
theorem dX3_bucketsAt_9 : decode cX3_bucketsAt 9 = .ok (.arraylength, 1) := by decide +kernel
theorem dX3_bucketsAt_10 : decode cX3_bucketsAt 10 = .ok (.if_icmp .ge 25, 3) := by decide +kernel
theorem dX3_bucketsAt_13 : decode cX3_bucketsAt 13 = .ok (.aload_n 0, 1) := by decide +kernel
theorem dX3_bucketsAt_14 : decode cX3_bucketsAt 14 = .ok (.getfield 15, 3) := by decide +kernel
theorem dX3_bucketsAt_17 : decode cX3_bucketsAt 17 = .ok (.iload_n 3, 1) := by decide +kernel
theorem dX3_bucketsAt_18 : decode cX3_bucketsAt 18 = .ok (.iaload, 1) := by decide +kernel
theorem dX3_bucketsAt_19 : decode cX3_bucketsAt 19 = .ok (.iload_n 1, 1) := by decide +kernel
theorem dX3_bucketsAt_20 : decode cX3_bucketsAt 20 = .ok (.if_icmp .ne 9, 3) := by decide +kernel
theorem dX3_bucketsAt_23 : decode cX3_bucketsAt 23 = .ok (.iload_n 2, 1) := by decide +kernel
theorem dX3_bucketsAt_24 : decode cX3_bucketsAt 24 = .ok (.iconst 1, 1) := by decide +kernel
theorem dX3_bucketsAt_25 : decode cX3_bucketsAt 25 = .ok (.iload_n 3, 1) := by decide +kernel
theorem dX3_bucketsAt_26 : decode cX3_bucketsAt 26 = .ok (.ishl, 1) := by decide +kernel
theorem dX3_bucketsAt_27 : decode cX3_bucketsAt 27 = .ok (.ior, 1) := by decide +kernel
theorem dX3_bucketsAt_28 : decode cX3_bucketsAt 28 = .ok (.istore_n 2, 1) := by decide +kernel
theorem dX3_bucketsAt_29 : decode cX3_bucketsAt 29 = .ok (.iinc 3 1, 3) := by decide +kernel
theorem dX3_bucketsAt_32 : decode cX3_bucketsAt 32 = .ok (.goto (-28), 3) := by decide +kernel
theorem dX3_bucketsAt_35 : decode cX3_bucketsAt 35 = .ok (.iload_n 2, 1) := by decide +kernel
theorem dX3_bucketsAt_36 : decode cX3_bucketsAt 36 = .ok (.ireturn, 1) := by decide +kernel
theorem dX3_holdingStands_0 : decode cX3_holdingStands 0 = .ok (.iconst 0, 1) := by decide +kernel
theorem dX3_holdingStands_1 : decode cX3_holdingStands 1 = .ok (.istore_n 1, 1) := by decide +kernel
theorem dX3_holdingStands_2 : decode cX3_holdingStands 2 = .ok (.iconst 0, 1) := by decide +kernel
theorem dX3_holdingStands_3 : decode cX3_holdingStands 3 = .ok (.istore_n 2, 1) := by decide +kernel
theorem dX3_holdingStands_4 : decode cX3_holdingStands 4 = .ok (.iload_n 2, 1) := by decide +kernel
theorem dX3_holdingStands_5 : decode cX3_holdingStands 5 = .ok (.aload_n 0, 1) := by decide +kernel
theorem dX3_holdingStands_6 : decode cX3_holdingStands 6 = .ok (.getfield 15, 3) := by decide +kernel
theorem dX3_holdingStands_9 : decode cX3_holdingStands 9 = .ok (.arraylength, 1) := by decide +kernel
theorem dX3_holdingStands_10 : decode cX3_holdingStands 10 = .ok (.if_icmp .ge 30, 3) := by decide +kernel
theorem dX3_holdingStands_13 : decode cX3_holdingStands 13 = .ok (.aload_n 0, 1) := by decide +kernel
theorem dX3_holdingStands_14 : decode cX3_holdingStands 14 = .ok (.getfield 15, 3) := by decide +kernel
theorem dX3_holdingStands_17 : decode cX3_holdingStands 17 = .ok (.iload_n 2, 1) := by decide +kernel
theorem dX3_holdingStands_18 : decode cX3_holdingStands 18 = .ok (.iaload, 1) := by decide +kernel
theorem dX3_holdingStands_19 : decode cX3_holdingStands 19 = .ok (.iconst 5, 1) := by decide +kernel
theorem dX3_holdingStands_20 : decode cX3_holdingStands 20 = .ok (.if_icmp .ge 14, 3) := by decide +kernel
theorem dX3_holdingStands_23 : decode cX3_holdingStands 23 = .ok (.iload_n 1, 1) := by decide +kernel
theorem dX3_holdingStands_24 : decode cX3_holdingStands 24 = .ok (.iconst 1, 1) := by decide +kernel
theorem dX3_holdingStands_25 : decode cX3_holdingStands 25 = .ok (.aload_n 0, 1) := by decide +kernel
theorem dX3_holdingStands_26 : decode cX3_holdingStands 26 = .ok (.getfield 15, 3) := by decide +kernel
theorem dX3_holdingStands_29 : decode cX3_holdingStands 29 = .ok (.iload_n 2, 1) := by decide +kernel
theorem dX3_holdingStands_30 : decode cX3_holdingStands 30 = .ok (.iaload, 1) := by decide +kernel
theorem dX3_holdingStands_31 : decode cX3_holdingStands 31 = .ok (.ishl, 1) := by decide +kernel
theorem dX3_holdingStands_32 : decode cX3_holdingStands 32 = .ok (.ior, 1) := by decide +kernel
theorem dX3_holdingStands_33 : decode cX3_holdingStands 33 = .ok (.istore_n 1, 1) := by decide +kernel
theorem dX3_holdingStands_34 : decode cX3_holdingStands 34 = .ok (.iinc 2 1, 3) := by decide +kernel
theorem dX3_holdingStands_37 : decode cX3_holdingStands 37 = .ok (.goto (-33), 3) := by decide +kernel
theorem dX3_holdingStands_40 : decode cX3_holdingStands 40 = .ok (.iload_n 1, 1) := by decide +kernel
theorem dX3_holdingStands_41 : decode cX3_holdingStands 41 = .ok (.ireturn, 1) := by decide +kernel
theorem dX3_isHeld_0 : decode cX3_isHeld 0 = .ok (.iload_n 1, 1) := by decide +kernel
theorem dX3_isHeld_1 : decode cX3_isHeld 1 = .ok (.ifCond .lt 26, 3) := by decide +kernel
theorem dX3_isHeld_4 : decode cX3_isHeld 4 = .ok (.iload_n 1, 1) := by decide +kernel
theorem dX3_isHeld_5 : decode cX3_isHeld 5 = .ok (.aload_n 0, 1) := by decide +kernel
theorem dX3_isHeld_6 : decode cX3_isHeld 6 = .ok (.getfield 15, 3) := by decide +kernel
theorem dX3_isHeld_9 : decode cX3_isHeld 9 = .ok (.arraylength, 1) := by decide +kernel
theorem dX3_isHeld_10 : decode cX3_isHeld 10 = .ok (.if_icmp .ge 17, 3) := by decide +kernel
theorem dX3_isHeld_13 : decode cX3_isHeld 13 = .ok (.aload_n 0, 1) := by decide +kernel
theorem dX3_isHeld_14 : decode cX3_isHeld 14 = .ok (.getfield 15, 3) := by decide +kernel
theorem dX3_isHeld_17 : decode cX3_isHeld 17 = .ok (.iload_n 1, 1) := by decide +kernel
theorem dX3_isHeld_18 : decode cX3_isHeld 18 = .ok (.iaload, 1) := by decide +kernel
theorem dX3_isHeld_19 : decode cX3_isHeld 19 = .ok (.iconst 5, 1) := by decide +kernel
theorem dX3_isHeld_20 : decode cX3_isHeld 20 = .ok (.if_icmp .ge 7, 3) := by decide +kernel
theorem dX3_isHeld_23 : decode cX3_isHeld 23 = .ok (.iconst 1, 1) := by decide +kernel
theorem dX3_isHeld_24 : decode cX3_isHeld 24 = .ok (.goto 4, 3) := by decide +kernel
theorem dX3_isHeld_27 : decode cX3_isHeld 27 = .ok (.iconst 0, 1) := by decide +kernel
theorem dX3_isHeld_28 : decode cX3_isHeld 28 = .ok (.ireturn, 1) := by decide +kernel
theorem dX3_hasHole_0 : decode cX3_hasHole 0 = .ok (.iload_n 1, 1) := by decide +kernel
theorem dX3_hasHole_1 : decode cX3_hasHole 1 = .ok (.ifCond .lt 24, 3) := by decide +kernel
theorem dX3_hasHole_4 : decode cX3_hasHole 4 = .ok (.iload_n 1, 1) := by decide +kernel
theorem dX3_hasHole_5 : decode cX3_hasHole 5 = .ok (.iconst 4, 1) := by decide +kernel
theorem dX3_hasHole_6 : decode cX3_hasHole 6 = .ok (.if_icmp .ge 19, 3) := by decide +kernel
theorem dX3_hasHole_9 : decode cX3_hasHole 9 = .ok (.aload_n 0, 1) := by decide +kernel
theorem dX3_hasHole_10 : decode cX3_hasHole 10 = .ok (.getfield 40, 3) := by decide +kernel
theorem dX3_hasHole_13 : decode cX3_hasHole 13 = .ok (.iload_n 1, 1) := by decide +kernel
theorem dX3_hasHole_14 : decode cX3_hasHole 14 = .ok (.ishr, 1) := by decide +kernel
theorem dX3_hasHole_15 : decode cX3_hasHole 15 = .ok (.iconst 1, 1) := by decide +kernel
theorem dX3_hasHole_16 : decode cX3_hasHole 16 = .ok (.iand, 1) := by decide +kernel
theorem dX3_hasHole_17 : decode cX3_hasHole 17 = .ok (.iconst 1, 1) := by decide +kernel
theorem dX3_hasHole_18 : decode cX3_hasHole 18 = .ok (.if_icmp .ne 7, 3) := by decide +kernel
theorem dX3_hasHole_21 : decode cX3_hasHole 21 = .ok (.iconst 1, 1) := by decide +kernel
theorem dX3_hasHole_22 : decode cX3_hasHole 22 = .ok (.goto 4, 3) := by decide +kernel
theorem dX3_hasHole_25 : decode cX3_hasHole 25 = .ok (.iconst 0, 1) := by decide +kernel
theorem dX3_hasHole_26 : decode cX3_hasHole 26 = .ok (.ireturn, 1) := by decide +kernel
theorem dX3_kindAt_0 : decode cX3_kindAt 0 = .ok (.iload_n 1, 1) := by decide +kernel
theorem dX3_kindAt_1 : decode cX3_kindAt 1 = .ok (.ifCond .lt 12, 3) := by decide +kernel
theorem dX3_kindAt_4 : decode cX3_kindAt 4 = .ok (.iload_n 1, 1) := by decide +kernel
theorem dX3_kindAt_5 : decode cX3_kindAt 5 = .ok (.aload_n 0, 1) := by decide +kernel
theorem dX3_kindAt_6 : decode cX3_kindAt 6 = .ok (.getfield 9, 3) := by decide +kernel
theorem dX3_kindAt_9 : decode cX3_kindAt 9 = .ok (.arraylength, 1) := by decide +kernel
theorem dX3_kindAt_10 : decode cX3_kindAt 10 = .ok (.if_icmp .lt 5, 3) := by decide +kernel
theorem dX3_kindAt_13 : decode cX3_kindAt 13 = .ok (.iconst 0, 1) := by decide +kernel
theorem dX3_kindAt_14 : decode cX3_kindAt 14 = .ok (.ireturn, 1) := by decide +kernel
theorem dX3_kindAt_15 : decode cX3_kindAt 15 = .ok (.aload_n 0, 1) := by decide +kernel
theorem dX3_kindAt_16 : decode cX3_kindAt 16 = .ok (.getfield 9, 3) := by decide +kernel
theorem dX3_kindAt_19 : decode cX3_kindAt 19 = .ok (.iload_n 1, 1) := by decide +kernel
theorem dX3_kindAt_20 : decode cX3_kindAt 20 = .ok (.iaload, 1) := by decide +kernel
theorem dX3_kindAt_21 : decode cX3_kindAt 21 = .ok (.istore_n 2, 1) := by decide +kernel
theorem dX3_kindAt_22 : decode cX3_kindAt 22 = .ok (.iload_n 2, 1) := by decide +kernel
theorem dX3_kindAt_23 : decode cX3_kindAt 23 = .ok (.ifCond .lt 27, 3) := by decide +kernel
theorem dX3_kindAt_26 : decode cX3_kindAt 26 = .ok (.iload_n 2, 1) := by decide +kernel
theorem dX3_kindAt_27 : decode cX3_kindAt 27 = .ok (.aload_n 0, 1) := by decide +kernel
theorem dX3_kindAt_28 : decode cX3_kindAt 28 = .ok (.getfield 24, 3) := by decide +kernel
theorem dX3_kindAt_31 : decode cX3_kindAt 31 = .ok (.getfield 60, 3) := by decide +kernel
theorem dX3_kindAt_34 : decode cX3_kindAt 34 = .ok (.arraylength, 1) := by decide +kernel
theorem dX3_kindAt_35 : decode cX3_kindAt 35 = .ok (.if_icmp .ge 15, 3) := by decide +kernel
theorem dX3_kindAt_38 : decode cX3_kindAt 38 = .ok (.aload_n 0, 1) := by decide +kernel
theorem dX3_kindAt_39 : decode cX3_kindAt 39 = .ok (.getfield 24, 3) := by decide +kernel
theorem dX3_kindAt_42 : decode cX3_kindAt 42 = .ok (.getfield 60, 3) := by decide +kernel
theorem dX3_kindAt_45 : decode cX3_kindAt 45 = .ok (.iload_n 2, 1) := by decide +kernel
theorem dX3_kindAt_46 : decode cX3_kindAt 46 = .ok (.iaload, 1) := by decide +kernel
theorem dX3_kindAt_47 : decode cX3_kindAt 47 = .ok (.goto 4, 3) := by decide +kernel
theorem dX3_kindAt_50 : decode cX3_kindAt 50 = .ok (.iconst 0, 1) := by decide +kernel
theorem dX3_kindAt_51 : decode cX3_kindAt 51 = .ok (.ireturn, 1) := by decide +kernel
theorem dX3_worksAt_0 : decode cX3_worksAt 0 = .ok (.iload_n 1, 1) := by decide +kernel
theorem dX3_worksAt_1 : decode cX3_worksAt 1 = .ok (.ifCond .lt 29, 3) := by decide +kernel
theorem dX3_worksAt_4 : decode cX3_worksAt 4 = .ok (.iload_n 1, 1) := by decide +kernel
theorem dX3_worksAt_5 : decode cX3_worksAt 5 = .ok (.aload_n 0, 1) := by decide +kernel
theorem dX3_worksAt_6 : decode cX3_worksAt 6 = .ok (.getfield 9, 3) := by decide +kernel
theorem dX3_worksAt_9 : decode cX3_worksAt 9 = .ok (.arraylength, 1) := by decide +kernel
theorem dX3_worksAt_10 : decode cX3_worksAt 10 = .ok (.if_icmp .ge 20, 3) := by decide +kernel
theorem dX3_worksAt_13 : decode cX3_worksAt 13 = .ok (.aload_n 0, 1) := by decide +kernel
theorem dX3_worksAt_14 : decode cX3_worksAt 14 = .ok (.getfield 51, 3) := by decide +kernel
theorem dX3_worksAt_17 : decode cX3_worksAt 17 = .ok (.aload_n 0, 1) := by decide +kernel
theorem dX3_worksAt_18 : decode cX3_worksAt 18 = .ok (.getfield 9, 3) := by decide +kernel
theorem dX3_worksAt_21 : decode cX3_worksAt 21 = .ok (.iload_n 1, 1) := by decide +kernel
theorem dX3_worksAt_22 : decode cX3_worksAt 22 = .ok (.iaload, 1) := by decide +kernel
theorem dX3_worksAt_23 : decode cX3_worksAt 23 = .ok (.ishr, 1) := by decide +kernel
theorem dX3_worksAt_24 : decode cX3_worksAt 24 = .ok (.iconst 1, 1) := by decide +kernel
theorem dX3_worksAt_25 : decode cX3_worksAt 25 = .ok (.iand, 1) := by decide +kernel
theorem dX3_worksAt_26 : decode cX3_worksAt 26 = .ok (.iconst 1, 1) := by decide +kernel
theorem dX3_worksAt_27 : decode cX3_worksAt 27 = .ok (.if_icmp .ne 5, 3) := by decide +kernel
theorem dX3_worksAt_30 : decode cX3_worksAt 30 = .ok (.iconst 0, 1) := by decide +kernel
theorem dX3_worksAt_31 : decode cX3_worksAt 31 = .ok (.ireturn, 1) := by decide +kernel
theorem dX3_worksAt_32 : decode cX3_worksAt 32 = .ok (.aload_n 0, 1) := by decide +kernel
theorem dX3_worksAt_33 : decode cX3_worksAt 33 = .ok (.iload_n 1, 1) := by decide +kernel
theorem dX3_worksAt_34 : decode cX3_worksAt 34 = .ok (.invokevirtual 63, 3) := by decide +kernel
theorem dX3_worksAt_37 : decode cX3_worksAt 37 = .ok (.iconst 2, 1) := by decide +kernel
theorem dX3_worksAt_38 : decode cX3_worksAt 38 = .ok (.if_icmp .ne 12, 3) := by decide +kernel
theorem dX3_worksAt_41 : decode cX3_worksAt 41 = .ok (.aload_n 0, 1) := by decide +kernel
theorem dX3_worksAt_42 : decode cX3_worksAt 42 = .ok (.getfield 48, 3) := by decide +kernel
theorem dX3_worksAt_45 : decode cX3_worksAt 45 = .ok (.iconst 1, 1) := by decide +kernel
theorem dX3_worksAt_46 : decode cX3_worksAt 46 = .ok (.iand, 1) := by decide +kernel
theorem dX3_worksAt_47 : decode cX3_worksAt 47 = .ok (.ifCond .ne 7, 3) := by decide +kernel
theorem dX3_worksAt_50 : decode cX3_worksAt 50 = .ok (.iconst 1, 1) := by decide +kernel
theorem dX3_worksAt_51 : decode cX3_worksAt 51 = .ok (.goto 4, 3) := by decide +kernel
theorem dX3_worksAt_54 : decode cX3_worksAt 54 = .ok (.iconst 0, 1) := by decide +kernel
theorem dX3_worksAt_55 : decode cX3_worksAt 55 = .ok (.ireturn, 1) := by decide +kernel
theorem dX3_exchange_0 : decode cX3_exchange 0 = .ok (.aload_n 0, 1) := by decide +kernel
theorem dX3_exchange_1 : decode cX3_exchange 1 = .ok (.iload_n 1, 1) := by decide +kernel
theorem dX3_exchange_2 : decode cX3_exchange 2 = .ok (.invokevirtual 67, 3) := by decide +kernel
theorem dX3_exchange_5 : decode cX3_exchange 5 = .ok (.istore_n 3, 1) := by decide +kernel
theorem dX3_exchange_6 : decode cX3_exchange 6 = .ok (.aload_n 0, 1) := by decide +kernel
theorem dX3_exchange_7 : decode cX3_exchange 7 = .ok (.iload_n 2, 1) := by decide +kernel
theorem dX3_exchange_8 : decode cX3_exchange 8 = .ok (.invokevirtual 67, 3) := by decide +kernel
theorem dX3_exchange_11 : decode cX3_exchange 11 = .ok (.istore 4, 2) := by decide +kernel
theorem dX3_exchange_13 : decode cX3_exchange 13 = .ok (.iload_n 3, 1) := by decide +kernel
theorem dX3_exchange_14 : decode cX3_exchange 14 = .ok (.ifCond .lt 8, 3) := by decide +kernel
theorem dX3_exchange_17 : decode cX3_exchange 17 = .ok (.iload 4, 2) := by decide +kernel
theorem dX3_exchange_19 : decode cX3_exchange 19 = .ok (.ifCond .ge 4, 3) := by decide +kernel
theorem dX3_exchange_22 : decode cX3_exchange 22 = .ok (.return_, 1) := by decide +kernel
theorem dX3_exchange_23 : decode cX3_exchange 23 = .ok (.aload_n 0, 1) := by decide +kernel
theorem dX3_exchange_24 : decode cX3_exchange 24 = .ok (.getfield 9, 3) := by decide +kernel
theorem dX3_exchange_27 : decode cX3_exchange 27 = .ok (.iload_n 3, 1) := by decide +kernel
theorem dX3_exchange_28 : decode cX3_exchange 28 = .ok (.iload_n 2, 1) := by decide +kernel
theorem dX3_exchange_29 : decode cX3_exchange 29 = .ok (.iastore, 1) := by decide +kernel
theorem dX3_exchange_30 : decode cX3_exchange 30 = .ok (.aload_n 0, 1) := by decide +kernel
theorem dX3_exchange_31 : decode cX3_exchange 31 = .ok (.getfield 9, 3) := by decide +kernel
theorem dX3_exchange_34 : decode cX3_exchange 34 = .ok (.iload 4, 2) := by decide +kernel
theorem dX3_exchange_36 : decode cX3_exchange 36 = .ok (.iload_n 1, 1) := by decide +kernel
theorem dX3_exchange_37 : decode cX3_exchange 37 = .ok (.iastore, 1) := by decide +kernel
theorem dX3_exchange_38 : decode cX3_exchange 38 = .ok (.return_, 1) := by decide +kernel
theorem dX3_closeHole_0 : decode cX3_closeHole 0 = .ok (.aload_n 0, 1) := by decide +kernel
theorem dX3_closeHole_1 : decode cX3_closeHole 1 = .ok (.dup, 1) := by decide +kernel
theorem dX3_closeHole_2 : decode cX3_closeHole 2 = .ok (.getfield 40, 3) := by decide +kernel
theorem dX3_closeHole_5 : decode cX3_closeHole 5 = .ok (.iconst 1, 1) := by decide +kernel
theorem dX3_closeHole_6 : decode cX3_closeHole 6 = .ok (.iload_n 1, 1) := by decide +kernel
theorem dX3_closeHole_7 : decode cX3_closeHole 7 = .ok (.ishl, 1) := by decide +kernel
theorem dX3_closeHole_8 : decode cX3_closeHole 8 = .ok (.iconst (-1), 1) := by decide +kernel
theorem dX3_closeHole_9 : decode cX3_closeHole 9 = .ok (.ixor, 1) := by decide +kernel
theorem dX3_closeHole_10 : decode cX3_closeHole 10 = .ok (.iand, 1) := by decide +kernel
theorem dX3_closeHole_11 : decode cX3_closeHole 11 = .ok (.putfield 40, 3) := by decide +kernel
theorem dX3_closeHole_14 : decode cX3_closeHole 14 = .ok (.return_, 1) := by decide +kernel
theorem dX3_letFall_0 : decode cX3_letFall 0 = .ok (.aload_n 0, 1) := by decide +kernel
theorem dX3_letFall_1 : decode cX3_letFall 1 = .ok (.iload_n 1, 1) := by decide +kernel
theorem dX3_letFall_2 : decode cX3_letFall 2 = .ok (.invokevirtual 70, 3) := by decide +kernel
theorem dX3_letFall_5 : decode cX3_letFall 5 = .ok (.ifCond .ne 4, 3) := by decide +kernel
theorem dX3_letFall_8 : decode cX3_letFall 8 = .ok (.return_, 1) := by decide +kernel
theorem dX3_letFall_9 : decode cX3_letFall 9 = .ok (.aload_n 0, 1) := by decide +kernel
theorem dX3_letFall_10 : decode cX3_letFall 10 = .ok (.iload_n 1, 1) := by decide +kernel
theorem dX3_letFall_11 : decode cX3_letFall 11 = .ok (.invokevirtual 74, 3) := by decide +kernel
theorem dX3_letFall_14 : decode cX3_letFall 14 = .ok (.aload_n 0, 1) := by decide +kernel
theorem dX3_letFall_15 : decode cX3_letFall 15 = .ok (.getfield 21, 3) := by decide +kernel
theorem dX3_letFall_18 : decode cX3_letFall 18 = .ok (.iload_n 1, 1) := by decide +kernel
theorem dX3_letFall_19 : decode cX3_letFall 19 = .ok (.iaload, 1) := by decide +kernel
theorem dX3_letFall_20 : decode cX3_letFall 20 = .ok (.ifCond .ne 11, 3) := by decide +kernel
theorem dX3_letFall_23 : decode cX3_letFall 23 = .ok (.aload_n 0, 1) := by decide +kernel
theorem dX3_letFall_24 : decode cX3_letFall 24 = .ok (.getfield 15, 3) := by decide +kernel
theorem dX3_letFall_27 : decode cX3_letFall 27 = .ok (.iload_n 1, 1) := by decide +kernel
theorem dX3_letFall_28 : decode cX3_letFall 28 = .ok (.bipush 8, 2) := by decide +kernel
theorem dX3_letFall_30 : decode cX3_letFall 30 = .ok (.iastore, 1) := by decide +kernel
theorem dX3_letFall_31 : decode cX3_letFall 31 = .ok (.return_, 1) := by decide +kernel
theorem dX3_passBeats_0 : decode cX3_passBeats 0 = .ok (.aload_n 0, 1) := by decide +kernel
theorem dX3_passBeats_1 : decode cX3_passBeats 1 = .ok (.getfield 45, 3) := by decide +kernel
theorem dX3_passBeats_4 : decode cX3_passBeats 4 = .ok (.istore_n 2, 1) := by decide +kernel
theorem dX3_passBeats_5 : decode cX3_passBeats 5 = .ok (.iconst 0, 1) := by decide +kernel
theorem dX3_passBeats_6 : decode cX3_passBeats 6 = .ok (.istore_n 3, 1) := by decide +kernel
theorem dX3_passBeats_7 : decode cX3_passBeats 7 = .ok (.iload_n 3, 1) := by decide +kernel
theorem dX3_passBeats_8 : decode cX3_passBeats 8 = .ok (.iload_n 1, 1) := by decide +kernel
theorem dX3_passBeats_9 : decode cX3_passBeats 9 = .ok (.if_icmp .ge 14, 3) := by decide +kernel
theorem dX3_passBeats_12 : decode cX3_passBeats 12 = .ok (.aload_n 0, 1) := by decide +kernel
theorem dX3_passBeats_13 : decode cX3_passBeats 13 = .ok (.invokevirtual 78, 3) := by decide +kernel
theorem dX3_passBeats_16 : decode cX3_passBeats 16 = .ok (.pop, 1) := by decide +kernel
theorem dX3_passBeats_17 : decode cX3_passBeats 17 = .ok (.iinc 3 1, 3) := by decide +kernel
theorem dX3_passBeats_20 : decode cX3_passBeats 20 = .ok (.goto (-13), 3) := by decide +kernel
theorem dX3_passBeats_23 : decode cX3_passBeats 23 = .ok (.aload_n 0, 1) := by decide +kernel
theorem dX3_passBeats_24 : decode cX3_passBeats 24 = .ok (.getfield 45, 3) := by decide +kernel
theorem dX3_passBeats_27 : decode cX3_passBeats 27 = .ok (.iload_n 2, 1) := by decide +kernel
theorem dX3_passBeats_28 : decode cX3_passBeats 28 = .ok (.isub, 1) := by decide +kernel
theorem dX3_passBeats_29 : decode cX3_passBeats 29 = .ok (.ireturn, 1) := by decide +kernel
theorem dX3_passBeat_0 : decode cX3_passBeat 0 = .ok (.aload_n 0, 1) := by decide +kernel
theorem dX3_passBeat_1 : decode cX3_passBeat 1 = .ok (.getfield 45, 3) := by decide +kernel
theorem dX3_passBeat_4 : decode cX3_passBeat 4 = .ok (.istore_n 1, 1) := by decide +kernel
theorem dX3_passBeat_5 : decode cX3_passBeat 5 = .ok (.aload_n 0, 1) := by decide +kernel
theorem dX3_passBeat_6 : decode cX3_passBeat 6 = .ok (.invokevirtual 82, 3) := by decide +kernel
theorem dX3_passBeat_9 : decode cX3_passBeat 9 = .ok (.istore_n 2, 1) := by decide +kernel
theorem dX3_passBeat_10 : decode cX3_passBeat 10 = .ok (.aload_n 0, 1) := by decide +kernel
theorem dX3_passBeat_11 : decode cX3_passBeat 11 = .ok (.getfield 24, 3) := by decide +kernel
theorem dX3_passBeat_14 : decode cX3_passBeat 14 = .ok (.getfield 85, 3) := by decide +kernel
theorem dX3_passBeat_17 : decode cX3_passBeat 17 = .ok (.iconst 2, 1) := by decide +kernel
theorem dX3_passBeat_18 : decode cX3_passBeat 18 = .ok (.isub, 1) := by decide +kernel
theorem dX3_passBeat_19 : decode cX3_passBeat 19 = .ok (.istore_n 3, 1) := by decide +kernel
theorem dX3_passBeat_20 : decode cX3_passBeat 20 = .ok (.iload_n 3, 1) := by decide +kernel
theorem dX3_passBeat_21 : decode cX3_passBeat 21 = .ok (.ifCond .lt 14, 3) := by decide +kernel
theorem dX3_passBeat_24 : decode cX3_passBeat 24 = .ok (.aload_n 0, 1) := by decide +kernel
theorem dX3_passBeat_25 : decode cX3_passBeat 25 = .ok (.iload_n 3, 1) := by decide +kernel
theorem dX3_passBeat_26 : decode cX3_passBeat 26 = .ok (.invokevirtual 88, 3) := by decide +kernel
theorem dX3_passBeat_29 : decode cX3_passBeat 29 = .ok (.iinc 3 (-1), 3) := by decide +kernel
theorem dX3_passBeat_32 : decode cX3_passBeat 32 = .ok (.goto (-12), 3) := by decide +kernel
theorem dX3_passBeat_35 : decode cX3_passBeat 35 = .ok (.aload_n 0, 1) := by decide +kernel
theorem dX3_passBeat_36 : decode cX3_passBeat 36 = .ok (.invokevirtual 91, 3) := by decide +kernel
theorem dX3_passBeat_39 : decode cX3_passBeat 39 = .ok (.aload_n 0, 1) := by decide +kernel
theorem dX3_passBeat_40 : decode cX3_passBeat 40 = .ok (.invokevirtual 94, 3) := by decide +kernel
theorem dX3_passBeat_43 : decode cX3_passBeat 43 = .ok (.aload_n 0, 1) := by decide +kernel
theorem dX3_passBeat_44 : decode cX3_passBeat 44 = .ok (.iload_n 2, 1) := by decide +kernel
theorem dX3_passBeat_45 : decode cX3_passBeat 45 = .ok (.invokevirtual 97, 3) := by decide +kernel
theorem dX3_passBeat_48 : decode cX3_passBeat 48 = .ok (.aload_n 0, 1) := by decide +kernel
theorem dX3_passBeat_49 : decode cX3_passBeat 49 = .ok (.getfield 44, 3) := by decide +kernel
theorem dX3_passBeat_52 : decode cX3_passBeat 52 = .ok (.ifCond .eq 24, 3) := by decide +kernel
theorem dX3_passBeat_55 : decode cX3_passBeat 55 = .ok (.aload_n 0, 1) := by decide +kernel
theorem dX3_passBeat_56 : decode cX3_passBeat 56 = .ok (.bipush 99, 2) := by decide +kernel
theorem dX3_passBeat_58 : decode cX3_passBeat 58 = .ok (.aload_n 0, 1) := by decide +kernel
theorem dX3_passBeat_59 : decode cX3_passBeat 59 = .ok (.getfield 44, 3) := by decide +kernel
theorem dX3_passBeat_62 : decode cX3_passBeat 62 = .ok (.aload_n 0, 1) := by decide +kernel
theorem dX3_passBeat_63 : decode cX3_passBeat 63 = .ok (.getfield 24, 3) := by decide +kernel
theorem dX3_passBeat_66 : decode cX3_passBeat 66 = .ok (.getfield 100, 3) := by decide +kernel
theorem dX3_passBeat_69 : decode cX3_passBeat 69 = .ok (.iadd, 1) := by decide +kernel
theorem dX3_passBeat_70 : decode cX3_passBeat 70 = .ok (.invokestatic 103, 3) := by decide +kernel
theorem dX3_passBeat_73 : decode cX3_passBeat 73 = .ok (.putfield 44, 3) := by decide +kernel
theorem dX3_passBeat_76 : decode cX3_passBeat 76 = .ok (.aload_n 0, 1) := by decide +kernel
theorem dX3_passBeat_77 : decode cX3_passBeat 77 = .ok (.dup, 1) := by decide +kernel
theorem dX3_passBeat_78 : decode cX3_passBeat 78 = .ok (.getfield 48, 3) := by decide +kernel
theorem dX3_passBeat_81 : decode cX3_passBeat 81 = .ok (.iconst 1, 1) := by decide +kernel
theorem dX3_passBeat_82 : decode cX3_passBeat 82 = .ok (.iadd, 1) := by decide +kernel
theorem dX3_passBeat_83 : decode cX3_passBeat 83 = .ok (.putfield 48, 3) := by decide +kernel
theorem dX3_passBeat_86 : decode cX3_passBeat 86 = .ok (.aload_n 0, 1) := by decide +kernel
theorem dX3_passBeat_87 : decode cX3_passBeat 87 = .ok (.getfield 45, 3) := by decide +kernel
theorem dX3_passBeat_90 : decode cX3_passBeat 90 = .ok (.iload_n 1, 1) := by decide +kernel
theorem dX3_passBeat_91 : decode cX3_passBeat 91 = .ok (.isub, 1) := by decide +kernel
theorem dX3_passBeat_92 : decode cX3_passBeat 92 = .ok (.ireturn, 1) := by decide +kernel
theorem dX3_throwLast_0 : decode cX3_throwLast 0 = .ok (.aload_n 0, 1) := by decide +kernel
theorem dX3_throwLast_1 : decode cX3_throwLast 1 = .ok (.getfield 24, 3) := by decide +kernel
theorem dX3_throwLast_4 : decode cX3_throwLast 4 = .ok (.getfield 85, 3) := by decide +kernel
theorem dX3_throwLast_7 : decode cX3_throwLast 7 = .ok (.iconst 1, 1) := by decide +kernel
theorem dX3_throwLast_8 : decode cX3_throwLast 8 = .ok (.isub, 1) := by decide +kernel
theorem dX3_throwLast_9 : decode cX3_throwLast 9 = .ok (.istore_n 1, 1) := by decide +kernel
theorem dX3_throwLast_10 : decode cX3_throwLast 10 = .ok (.aload_n 0, 1) := by decide +kernel
theorem dX3_throwLast_11 : decode cX3_throwLast 11 = .ok (.iload_n 1, 1) := by decide +kernel
theorem dX3_throwLast_12 : decode cX3_throwLast 12 = .ok (.invokevirtual 109, 3) := by decide +kernel
theorem dX3_throwLast_15 : decode cX3_throwLast 15 = .ok (.istore_n 2, 1) := by decide +kernel
theorem dX3_throwLast_16 : decode cX3_throwLast 16 = .ok (.iload_n 2, 1) := by decide +kernel
theorem dX3_throwLast_17 : decode cX3_throwLast 17 = .ok (.ifCond .lt 11, 3) := by decide +kernel
theorem dX3_throwLast_20 : decode cX3_throwLast 20 = .ok (.aload_n 0, 1) := by decide +kernel
theorem dX3_throwLast_21 : decode cX3_throwLast 21 = .ok (.iload_n 1, 1) := by decide +kernel
theorem dX3_throwLast_22 : decode cX3_throwLast 22 = .ok (.invokevirtual 112, 3) := by decide +kernel
theorem dX3_throwLast_25 : decode cX3_throwLast 25 = .ok (.ifCond .ne 6, 3) := by decide +kernel
theorem dX3_throwLast_28 : decode cX3_throwLast 28 = .ok (.bipush (-9), 2) := by decide +kernel
theorem dX3_throwLast_30 : decode cX3_throwLast 30 = .ok (.ireturn, 1) := by decide +kernel
theorem dX3_throwLast_31 : decode cX3_throwLast 31 = .ok (.aload_n 0, 1) := by decide +kernel
theorem dX3_throwLast_32 : decode cX3_throwLast 32 = .ok (.iconst 0, 1) := by decide +kernel
theorem dX3_throwLast_33 : decode cX3_throwLast 33 = .ok (.aload_n 0, 1) := by decide +kernel
theorem dX3_throwLast_34 : decode cX3_throwLast 34 = .ok (.getfield 44, 3) := by decide +kernel
theorem dX3_throwLast_37 : decode cX3_throwLast 37 = .ok (.aload_n 0, 1) := by decide +kernel
theorem dX3_throwLast_38 : decode cX3_throwLast 38 = .ok (.getfield 18, 3) := by decide +kernel
theorem dX3_throwLast_41 : decode cX3_throwLast 41 = .ok (.iload_n 2, 1) := by decide +kernel
theorem dX3_throwLast_42 : decode cX3_throwLast 42 = .ok (.iaload, 1) := by decide +kernel
theorem dX3_throwLast_43 : decode cX3_throwLast 43 = .ok (.isub, 1) := by decide +kernel
theorem dX3_throwLast_44 : decode cX3_throwLast 44 = .ok (.invokestatic 115, 3) := by decide +kernel
theorem dX3_throwLast_47 : decode cX3_throwLast 47 = .ok (.putfield 44, 3) := by decide +kernel
theorem dX3_throwLast_50 : decode cX3_throwLast 50 = .ok (.aload_n 0, 1) := by decide +kernel
theorem dX3_throwLast_51 : decode cX3_throwLast 51 = .ok (.dup, 1) := by decide +kernel
theorem dX3_throwLast_52 : decode cX3_throwLast 52 = .ok (.getfield 45, 3) := by decide +kernel
theorem dX3_throwLast_55 : decode cX3_throwLast 55 = .ok (.aload_n 0, 1) := by decide +kernel
theorem dX3_throwLast_56 : decode cX3_throwLast 56 = .ok (.getfield 18, 3) := by decide +kernel
theorem dX3_throwLast_59 : decode cX3_throwLast 59 = .ok (.iload_n 2, 1) := by decide +kernel
theorem dX3_throwLast_60 : decode cX3_throwLast 60 = .ok (.iaload, 1) := by decide +kernel
theorem dX3_throwLast_61 : decode cX3_throwLast 61 = .ok (.iadd, 1) := by decide +kernel
theorem dX3_throwLast_62 : decode cX3_throwLast 62 = .ok (.putfield 45, 3) := by decide +kernel
theorem dX3_throwLast_65 : decode cX3_throwLast 65 = .ok (.aload_n 0, 1) := by decide +kernel
theorem dX3_throwLast_66 : decode cX3_throwLast 66 = .ok (.iload_n 2, 1) := by decide +kernel
theorem dX3_throwLast_67 : decode cX3_throwLast 67 = .ok (.invokevirtual 74, 3) := by decide +kernel
theorem dX3_throwLast_70 : decode cX3_throwLast 70 = .ok (.iload_n 2, 1) := by decide +kernel
theorem dX3_throwLast_71 : decode cX3_throwLast 71 = .ok (.ireturn, 1) := by decide +kernel
theorem dX3_sendBack_0 : decode cX3_sendBack 0 = .ok (.aload_n 0, 1) := by decide +kernel
theorem dX3_sendBack_1 : decode cX3_sendBack 1 = .ok (.getfield 15, 3) := by decide +kernel
theorem dX3_sendBack_4 : decode cX3_sendBack 4 = .ok (.iload_n 1, 1) := by decide +kernel
theorem dX3_sendBack_5 : decode cX3_sendBack 5 = .ok (.bipush 9, 2) := by decide +kernel
theorem dX3_sendBack_7 : decode cX3_sendBack 7 = .ok (.iastore, 1) := by decide +kernel
theorem dX3_sendBack_8 : decode cX3_sendBack 8 = .ok (.aload_n 0, 1) := by decide +kernel
theorem dX3_sendBack_9 : decode cX3_sendBack 9 = .ok (.getfield 18, 3) := by decide +kernel
theorem dX3_sendBack_12 : decode cX3_sendBack 12 = .ok (.iload_n 1, 1) := by decide +kernel
theorem dX3_sendBack_13 : decode cX3_sendBack 13 = .ok (.iconst 0, 1) := by decide +kernel
theorem dX3_sendBack_14 : decode cX3_sendBack 14 = .ok (.iastore, 1) := by decide +kernel
theorem dX3_sendBack_15 : decode cX3_sendBack 15 = .ok (.aload_n 0, 1) := by decide +kernel
theorem dX3_sendBack_16 : decode cX3_sendBack 16 = .ok (.getfield 21, 3) := by decide +kernel
theorem dX3_sendBack_19 : decode cX3_sendBack 19 = .ok (.iload_n 1, 1) := by decide +kernel
theorem dX3_sendBack_20 : decode cX3_sendBack 20 = .ok (.aload_n 0, 1) := by decide +kernel
theorem dX3_sendBack_21 : decode cX3_sendBack 21 = .ok (.getfield 24, 3) := by decide +kernel
theorem dX3_sendBack_24 : decode cX3_sendBack 24 = .ok (.getfield 118, 3) := by decide +kernel
theorem dX3_sendBack_27 : decode cX3_sendBack 27 = .ok (.iastore, 1) := by decide +kernel
theorem dX3_sendBack_28 : decode cX3_sendBack 28 = .ok (.return_, 1) := by decide +kernel
theorem dX3_handOn_0 : decode cX3_handOn 0 = .ok (.aload_n 0, 1) := by decide +kernel
theorem dX3_handOn_1 : decode cX3_handOn 1 = .ok (.iload_n 1, 1) := by decide +kernel
theorem dX3_handOn_2 : decode cX3_handOn 2 = .ok (.invokevirtual 109, 3) := by decide +kernel
theorem dX3_handOn_5 : decode cX3_handOn 5 = .ok (.istore_n 2, 1) := by decide +kernel
theorem dX3_handOn_6 : decode cX3_handOn 6 = .ok (.iload_n 2, 1) := by decide +kernel
theorem dX3_handOn_7 : decode cX3_handOn 7 = .ok (.ifCond .lt 21, 3) := by decide +kernel
theorem dX3_handOn_10 : decode cX3_handOn 10 = .ok (.aload_n 0, 1) := by decide +kernel
theorem dX3_handOn_11 : decode cX3_handOn 11 = .ok (.iload_n 1, 1) := by decide +kernel
theorem dX3_handOn_12 : decode cX3_handOn 12 = .ok (.invokevirtual 112, 3) := by decide +kernel
theorem dX3_handOn_15 : decode cX3_handOn 15 = .ok (.ifCond .eq 13, 3) := by decide +kernel
theorem dX3_handOn_18 : decode cX3_handOn 18 = .ok (.aload_n 0, 1) := by decide +kernel
theorem dX3_handOn_19 : decode cX3_handOn 19 = .ok (.iload_n 1, 1) := by decide +kernel
theorem dX3_handOn_20 : decode cX3_handOn 20 = .ok (.iconst 1, 1) := by decide +kernel
theorem dX3_handOn_21 : decode cX3_handOn 21 = .ok (.iadd, 1) := by decide +kernel
theorem dX3_handOn_22 : decode cX3_handOn 22 = .ok (.invokevirtual 109, 3) := by decide +kernel
theorem dX3_handOn_25 : decode cX3_handOn 25 = .ok (.ifCond .lt 4, 3) := by decide +kernel
theorem dX3_handOn_28 : decode cX3_handOn 28 = .ok (.return_, 1) := by decide +kernel
theorem dX3_handOn_29 : decode cX3_handOn 29 = .ok (.aload_n 0, 1) := by decide +kernel
theorem dX3_handOn_30 : decode cX3_handOn 30 = .ok (.iload_n 1, 1) := by decide +kernel
theorem dX3_handOn_31 : decode cX3_handOn 31 = .ok (.invokevirtual 63, 3) := by decide +kernel
theorem dX3_handOn_34 : decode cX3_handOn 34 = .ok (.iconst 1, 1) := by decide +kernel
theorem dX3_handOn_35 : decode cX3_handOn 35 = .ok (.if_icmp .ne 7, 3) := by decide +kernel
theorem dX3_handOn_38 : decode cX3_handOn 38 = .ok (.iconst 1, 1) := by decide +kernel
theorem dX3_handOn_39 : decode cX3_handOn 39 = .ok (.goto 4, 3) := by decide +kernel
theorem dX3_handOn_42 : decode cX3_handOn 42 = .ok (.iconst 0, 1) := by decide +kernel
theorem dX3_handOn_43 : decode cX3_handOn 43 = .ok (.istore_n 3, 1) := by decide +kernel
theorem dX3_handOn_44 : decode cX3_handOn 44 = .ok (.aload_n 0, 1) := by decide +kernel
theorem dX3_handOn_45 : decode cX3_handOn 45 = .ok (.iload_n 2, 1) := by decide +kernel
theorem dX3_handOn_46 : decode cX3_handOn 46 = .ok (.iload_n 1, 1) := by decide +kernel
theorem dX3_handOn_47 : decode cX3_handOn 47 = .ok (.iconst 1, 1) := by decide +kernel
theorem dX3_handOn_48 : decode cX3_handOn 48 = .ok (.iadd, 1) := by decide +kernel
theorem dX3_handOn_49 : decode cX3_handOn 49 = .ok (.iconst 0, 1) := by decide +kernel
theorem dX3_handOn_50 : decode cX3_handOn 50 = .ok (.aload_n 0, 1) := by decide +kernel
theorem dX3_handOn_51 : decode cX3_handOn 51 = .ok (.getfield 18, 3) := by decide +kernel
theorem dX3_handOn_54 : decode cX3_handOn 54 = .ok (.iload_n 2, 1) := by decide +kernel
theorem dX3_handOn_55 : decode cX3_handOn 55 = .ok (.iaload, 1) := by decide +kernel
theorem dX3_handOn_56 : decode cX3_handOn 56 = .ok (.iload_n 3, 1) := by decide +kernel
theorem dX3_handOn_57 : decode cX3_handOn 57 = .ok (.isub, 1) := by decide +kernel
theorem dX3_handOn_58 : decode cX3_handOn 58 = .ok (.invokestatic 115, 3) := by decide +kernel
theorem dX3_handOn_61 : decode cX3_handOn 61 = .ok (.invokevirtual 121, 3) := by decide +kernel
theorem dX3_handOn_64 : decode cX3_handOn 64 = .ok (.return_, 1) := by decide +kernel
theorem dX3_fillAtWell_0 : decode cX3_fillAtWell 0 = .ok (.aload_n 0, 1) := by decide +kernel
theorem dX3_fillAtWell_1 : decode cX3_fillAtWell 1 = .ok (.getfield 24, 3) := by decide +kernel
theorem dX3_fillAtWell_4 : decode cX3_fillAtWell 4 = .ok (.getfield 85, 3) := by decide +kernel
theorem dX3_fillAtWell_7 : decode cX3_fillAtWell 7 = .ok (.ifCond .eq 11, 3) := by decide +kernel
theorem dX3_fillAtWell_10 : decode cX3_fillAtWell 10 = .ok (.aload_n 0, 1) := by decide +kernel
theorem dX3_fillAtWell_11 : decode cX3_fillAtWell 11 = .ok (.iconst 0, 1) := by decide +kernel
theorem dX3_fillAtWell_12 : decode cX3_fillAtWell 12 = .ok (.invokevirtual 109, 3) := by decide +kernel
theorem dX3_fillAtWell_15 : decode cX3_fillAtWell 15 = .ok (.ifCond .lt 4, 3) := by decide +kernel
theorem dX3_fillAtWell_18 : decode cX3_fillAtWell 18 = .ok (.return_, 1) := by decide +kernel
theorem dX3_fillAtWell_19 : decode cX3_fillAtWell 19 = .ok (.aload_n 0, 1) := by decide +kernel
theorem dX3_fillAtWell_20 : decode cX3_fillAtWell 20 = .ok (.bipush 8, 2) := by decide +kernel
theorem dX3_fillAtWell_22 : decode cX3_fillAtWell 22 = .ok (.invokevirtual 109, 3) := by decide +kernel
theorem dX3_fillAtWell_25 : decode cX3_fillAtWell 25 = .ok (.istore_n 1, 1) := by decide +kernel
theorem dX3_fillAtWell_26 : decode cX3_fillAtWell 26 = .ok (.iload_n 1, 1) := by decide +kernel
theorem dX3_fillAtWell_27 : decode cX3_fillAtWell 27 = .ok (.ifCond .lt 18, 3) := by decide +kernel
theorem dX3_fillAtWell_30 : decode cX3_fillAtWell 30 = .ok (.aload_n 0, 1) := by decide +kernel
theorem dX3_fillAtWell_31 : decode cX3_fillAtWell 31 = .ok (.iload_n 1, 1) := by decide +kernel
theorem dX3_fillAtWell_32 : decode cX3_fillAtWell 32 = .ok (.iconst 0, 1) := by decide +kernel
theorem dX3_fillAtWell_33 : decode cX3_fillAtWell 33 = .ok (.aload_n 0, 1) := by decide +kernel
theorem dX3_fillAtWell_34 : decode cX3_fillAtWell 34 = .ok (.getfield 24, 3) := by decide +kernel
theorem dX3_fillAtWell_37 : decode cX3_fillAtWell 37 = .ok (.getfield 125, 3) := by decide +kernel
theorem dX3_fillAtWell_40 : decode cX3_fillAtWell 40 = .ok (.iload_n 1, 1) := by decide +kernel
theorem dX3_fillAtWell_41 : decode cX3_fillAtWell 41 = .ok (.iaload, 1) := by decide +kernel
theorem dX3_fillAtWell_42 : decode cX3_fillAtWell 42 = .ok (.invokevirtual 121, 3) := by decide +kernel
theorem dX3_fillAtWell_45 : decode cX3_fillAtWell 45 = .ok (.return_, 1) := by decide +kernel
theorem dX3_give_0 : decode cX3_give 0 = .ok (.aload_n 0, 1) := by decide +kernel
theorem dX3_give_1 : decode cX3_give 1 = .ok (.getfield 15, 3) := by decide +kernel
theorem dX3_give_4 : decode cX3_give 4 = .ok (.iload_n 1, 1) := by decide +kernel
theorem dX3_give_5 : decode cX3_give 5 = .ok (.iload_n 2, 1) := by decide +kernel
theorem dX3_give_6 : decode cX3_give 6 = .ok (.iastore, 1) := by decide +kernel
theorem dX3_give_7 : decode cX3_give 7 = .ok (.aload_n 0, 1) := by decide +kernel
theorem dX3_give_8 : decode cX3_give 8 = .ok (.getfield 18, 3) := by decide +kernel
theorem dX3_give_11 : decode cX3_give 11 = .ok (.iload_n 1, 1) := by decide +kernel
theorem dX3_give_12 : decode cX3_give 12 = .ok (.aload_n 0, 1) := by decide +kernel
theorem dX3_give_13 : decode cX3_give 13 = .ok (.iload_n 2, 1) := by decide +kernel
theorem dX3_give_14 : decode cX3_give 14 = .ok (.invokevirtual 63, 3) := by decide +kernel
theorem dX3_give_17 : decode cX3_give 17 = .ok (.iconst 3, 1) := by decide +kernel
theorem dX3_give_18 : decode cX3_give 18 = .ok (.if_icmp .ne 11, 3) := by decide +kernel
theorem dX3_give_21 : decode cX3_give 21 = .ok (.iconst 2, 1) := by decide +kernel
theorem dX3_give_22 : decode cX3_give 22 = .ok (.iload_n 3, 1) := by decide +kernel
theorem dX3_give_23 : decode cX3_give 23 = .ok (.invokestatic 103, 3) := by decide +kernel
theorem dX3_give_26 : decode cX3_give 26 = .ok (.goto 4, 3) := by decide +kernel
theorem dX3_give_29 : decode cX3_give 29 = .ok (.iload_n 3, 1) := by decide +kernel
theorem dX3_give_30 : decode cX3_give 30 = .ok (.iastore, 1) := by decide +kernel
theorem dX3_give_31 : decode cX3_give 31 = .ok (.return_, 1) := by decide +kernel
theorem dX3_leak_0 : decode cX3_leak 0 = .ok (.iconst 0, 1) := by decide +kernel
theorem dX3_leak_1 : decode cX3_leak 1 = .ok (.istore_n 1, 1) := by decide +kernel
theorem dX3_leak_2 : decode cX3_leak 2 = .ok (.iload_n 1, 1) := by decide +kernel
theorem dX3_leak_3 : decode cX3_leak 3 = .ok (.aload_n 0, 1) := by decide +kernel
theorem dX3_leak_4 : decode cX3_leak 4 = .ok (.getfield 18, 3) := by decide +kernel
theorem dX3_leak_7 : decode cX3_leak 7 = .ok (.arraylength, 1) := by decide +kernel
theorem dX3_leak_8 : decode cX3_leak 8 = .ok (.if_icmp .ge 43, 3) := by decide +kernel
theorem dX3_leak_11 : decode cX3_leak 11 = .ok (.aload_n 0, 1) := by decide +kernel
theorem dX3_leak_12 : decode cX3_leak 12 = .ok (.iload_n 1, 1) := by decide +kernel
theorem dX3_leak_13 : decode cX3_leak 13 = .ok (.invokevirtual 70, 3) := by decide +kernel
theorem dX3_leak_16 : decode cX3_leak 16 = .ok (.ifCond .eq 29, 3) := by decide +kernel
theorem dX3_leak_19 : decode cX3_leak 19 = .ok (.aload_n 0, 1) := by decide +kernel
theorem dX3_leak_20 : decode cX3_leak 20 = .ok (.iload_n 1, 1) := by decide +kernel
theorem dX3_leak_21 : decode cX3_leak 21 = .ok (.invokevirtual 128, 3) := by decide +kernel
theorem dX3_leak_24 : decode cX3_leak 24 = .ok (.ifCond .eq 21, 3) := by decide +kernel
theorem dX3_leak_27 : decode cX3_leak 27 = .ok (.aload_n 0, 1) := by decide +kernel
theorem dX3_leak_28 : decode cX3_leak 28 = .ok (.getfield 18, 3) := by decide +kernel
theorem dX3_leak_31 : decode cX3_leak 31 = .ok (.iload_n 1, 1) := by decide +kernel
theorem dX3_leak_32 : decode cX3_leak 32 = .ok (.iconst 0, 1) := by decide +kernel
theorem dX3_leak_33 : decode cX3_leak 33 = .ok (.aload_n 0, 1) := by decide +kernel
theorem dX3_leak_34 : decode cX3_leak 34 = .ok (.getfield 18, 3) := by decide +kernel
theorem dX3_leak_37 : decode cX3_leak 37 = .ok (.iload_n 1, 1) := by decide +kernel
theorem dX3_leak_38 : decode cX3_leak 38 = .ok (.iaload, 1) := by decide +kernel
theorem dX3_leak_39 : decode cX3_leak 39 = .ok (.iconst 1, 1) := by decide +kernel
theorem dX3_leak_40 : decode cX3_leak 40 = .ok (.isub, 1) := by decide +kernel
theorem dX3_leak_41 : decode cX3_leak 41 = .ok (.invokestatic 115, 3) := by decide +kernel
theorem dX3_leak_44 : decode cX3_leak 44 = .ok (.iastore, 1) := by decide +kernel
theorem dX3_leak_45 : decode cX3_leak 45 = .ok (.iinc 1 1, 3) := by decide +kernel
theorem dX3_leak_48 : decode cX3_leak 48 = .ok (.goto (-46), 3) := by decide +kernel
theorem dX3_leak_51 : decode cX3_leak 51 = .ok (.return_, 1) := by decide +kernel
theorem dX3_runBack_0 : decode cX3_runBack 0 = .ok (.iconst 0, 1) := by decide +kernel
theorem dX3_runBack_1 : decode cX3_runBack 1 = .ok (.istore_n 2, 1) := by decide +kernel
theorem dX3_runBack_2 : decode cX3_runBack 2 = .ok (.iload_n 2, 1) := by decide +kernel
theorem dX3_runBack_3 : decode cX3_runBack 3 = .ok (.aload_n 0, 1) := by decide +kernel
theorem dX3_runBack_4 : decode cX3_runBack 4 = .ok (.getfield 15, 3) := by decide +kernel
theorem dX3_runBack_7 : decode cX3_runBack 7 = .ok (.arraylength, 1) := by decide +kernel
theorem dX3_runBack_8 : decode cX3_runBack 8 = .ok (.if_icmp .ge 61, 3) := by decide +kernel
theorem dX3_runBack_11 : decode cX3_runBack 11 = .ok (.aload_n 0, 1) := by decide +kernel
theorem dX3_runBack_12 : decode cX3_runBack 12 = .ok (.getfield 15, 3) := by decide +kernel
theorem dX3_runBack_15 : decode cX3_runBack 15 = .ok (.iload_n 2, 1) := by decide +kernel
theorem dX3_runBack_16 : decode cX3_runBack 16 = .ok (.iaload, 1) := by decide +kernel
theorem dX3_runBack_17 : decode cX3_runBack 17 = .ok (.bipush 9, 2) := by decide +kernel
theorem dX3_runBack_19 : decode cX3_runBack 19 = .ok (.if_icmp .ne 44, 3) := by decide +kernel
theorem dX3_runBack_22 : decode cX3_runBack 22 = .ok (.aload_n 0, 1) := by decide +kernel
theorem dX3_runBack_23 : decode cX3_runBack 23 = .ok (.getfield 21, 3) := by decide +kernel
theorem dX3_runBack_26 : decode cX3_runBack 26 = .ok (.iload_n 2, 1) := by decide +kernel
theorem dX3_runBack_27 : decode cX3_runBack 27 = .ok (.dup2, 1) := by decide +kernel
theorem dX3_runBack_28 : decode cX3_runBack 28 = .ok (.iaload, 1) := by decide +kernel
theorem dX3_runBack_29 : decode cX3_runBack 29 = .ok (.iload_n 2, 1) := by decide +kernel
theorem dX3_runBack_30 : decode cX3_runBack 30 = .ok (.iload_n 1, 1) := by decide +kernel
theorem dX3_runBack_31 : decode cX3_runBack 31 = .ok (.if_icmp .ne 7, 3) := by decide +kernel
theorem dX3_runBack_34 : decode cX3_runBack 34 = .ok (.iconst 0, 1) := by decide +kernel
theorem dX3_runBack_35 : decode cX3_runBack 35 = .ok (.goto 4, 3) := by decide +kernel
theorem dX3_runBack_38 : decode cX3_runBack 38 = .ok (.iconst 1, 1) := by decide +kernel
theorem dX3_runBack_39 : decode cX3_runBack 39 = .ok (.isub, 1) := by decide +kernel
theorem dX3_runBack_40 : decode cX3_runBack 40 = .ok (.iastore, 1) := by decide +kernel
theorem dX3_runBack_41 : decode cX3_runBack 41 = .ok (.aload_n 0, 1) := by decide +kernel
theorem dX3_runBack_42 : decode cX3_runBack 42 = .ok (.getfield 15, 3) := by decide +kernel
theorem dX3_runBack_45 : decode cX3_runBack 45 = .ok (.iload_n 2, 1) := by decide +kernel
theorem dX3_runBack_46 : decode cX3_runBack 46 = .ok (.aload_n 0, 1) := by decide +kernel
theorem dX3_runBack_47 : decode cX3_runBack 47 = .ok (.getfield 21, 3) := by decide +kernel
theorem dX3_runBack_50 : decode cX3_runBack 50 = .ok (.iload_n 2, 1) := by decide +kernel
theorem dX3_runBack_51 : decode cX3_runBack 51 = .ok (.iaload, 1) := by decide +kernel
theorem dX3_runBack_52 : decode cX3_runBack 52 = .ok (.ifCond .ne 8, 3) := by decide +kernel
theorem dX3_runBack_55 : decode cX3_runBack 55 = .ok (.bipush 8, 2) := by decide +kernel
theorem dX3_runBack_57 : decode cX3_runBack 57 = .ok (.goto 5, 3) := by decide +kernel
theorem dX3_runBack_60 : decode cX3_runBack 60 = .ok (.bipush 9, 2) := by decide +kernel
theorem dX3_runBack_62 : decode cX3_runBack 62 = .ok (.iastore, 1) := by decide +kernel
theorem dX3_runBack_63 : decode cX3_runBack 63 = .ok (.iinc 2 1, 3) := by decide +kernel
theorem dX3_runBack_66 : decode cX3_runBack 66 = .ok (.goto (-64), 3) := by decide +kernel
theorem dX3_runBack_69 : decode cX3_runBack 69 = .ok (.return_, 1) := by decide +kernel
theorem dX3_follow_0 : decode cX3_follow 0 = .ok (.iload_n 1, 1) := by decide +kernel
theorem dX3_follow_1 : decode cX3_follow 1 = .ok (.tableswitch 174 0 6 #[43, 64, 71, 89, 107, 131, 155], 43) := by decide +kernel
theorem dX3_follow_44 : decode cX3_follow 44 = .ok (.iload_n 2, 1) := by decide +kernel
theorem dX3_follow_45 : decode cX3_follow 45 = .ok (.ifCond .ne 18, 3) := by decide +kernel
theorem dX3_follow_48 : decode cX3_follow 48 = .ok (.iload_n 3, 1) := by decide +kernel
theorem dX3_follow_49 : decode cX3_follow 49 = .ok (.ifCond .ne 14, 3) := by decide +kernel
theorem dX3_follow_52 : decode cX3_follow 52 = .ok (.aload_n 0, 1) := by decide +kernel
theorem dX3_follow_53 : decode cX3_follow 53 = .ok (.invokevirtual 78, 3) := by decide +kernel
theorem dX3_follow_56 : decode cX3_follow 56 = .ok (.ifCond .lt 7, 3) := by decide +kernel
theorem dX3_follow_59 : decode cX3_follow 59 = .ok (.iconst 1, 1) := by decide +kernel
theorem dX3_follow_60 : decode cX3_follow 60 = .ok (.goto 4, 3) := by decide +kernel
theorem dX3_follow_63 : decode cX3_follow 63 = .ok (.iconst 0, 1) := by decide +kernel
theorem dX3_follow_64 : decode cX3_follow 64 = .ok (.ireturn, 1) := by decide +kernel
theorem dX3_follow_65 : decode cX3_follow 65 = .ok (.aload_n 0, 1) := by decide +kernel
theorem dX3_follow_66 : decode cX3_follow 66 = .ok (.iload_n 2, 1) := by decide +kernel
theorem dX3_follow_67 : decode cX3_follow 67 = .ok (.iload_n 3, 1) := by decide +kernel
theorem dX3_follow_68 : decode cX3_follow 68 = .ok (.invokevirtual 131, 3) := by decide +kernel
theorem dX3_follow_71 : decode cX3_follow 71 = .ok (.ireturn, 1) := by decide +kernel
theorem dX3_follow_72 : decode cX3_follow 72 = .ok (.iload_n 2, 1) := by decide +kernel
theorem dX3_follow_73 : decode cX3_follow 73 = .ok (.ifCond .ne 15, 3) := by decide +kernel
theorem dX3_follow_76 : decode cX3_follow 76 = .ok (.aload_n 0, 1) := by decide +kernel
theorem dX3_follow_77 : decode cX3_follow 77 = .ok (.iload_n 3, 1) := by decide +kernel
theorem dX3_follow_78 : decode cX3_follow 78 = .ok (.invokevirtual 135, 3) := by decide +kernel
theorem dX3_follow_81 : decode cX3_follow 81 = .ok (.ifCond .eq 7, 3) := by decide +kernel
theorem dX3_follow_84 : decode cX3_follow 84 = .ok (.iconst 1, 1) := by decide +kernel
theorem dX3_follow_85 : decode cX3_follow 85 = .ok (.goto 4, 3) := by decide +kernel
theorem dX3_follow_88 : decode cX3_follow 88 = .ok (.iconst 0, 1) := by decide +kernel
theorem dX3_follow_89 : decode cX3_follow 89 = .ok (.ireturn, 1) := by decide +kernel
theorem dX3_follow_90 : decode cX3_follow 90 = .ok (.iload_n 2, 1) := by decide +kernel
theorem dX3_follow_91 : decode cX3_follow 91 = .ok (.ifCond .ne 15, 3) := by decide +kernel
theorem dX3_follow_94 : decode cX3_follow 94 = .ok (.aload_n 0, 1) := by decide +kernel
theorem dX3_follow_95 : decode cX3_follow 95 = .ok (.iload_n 3, 1) := by decide +kernel
theorem dX3_follow_96 : decode cX3_follow 96 = .ok (.invokevirtual 138, 3) := by decide +kernel
theorem dX3_follow_99 : decode cX3_follow 99 = .ok (.ifCond .eq 7, 3) := by decide +kernel
theorem dX3_follow_102 : decode cX3_follow 102 = .ok (.iconst 1, 1) := by decide +kernel
theorem dX3_follow_103 : decode cX3_follow 103 = .ok (.goto 4, 3) := by decide +kernel
theorem dX3_follow_106 : decode cX3_follow 106 = .ok (.iconst 0, 1) := by decide +kernel
theorem dX3_follow_107 : decode cX3_follow 107 = .ok (.ireturn, 1) := by decide +kernel
theorem dX3_follow_108 : decode cX3_follow 108 = .ok (.aload_n 0, 1) := by decide +kernel
theorem dX3_follow_109 : decode cX3_follow 109 = .ok (.iload_n 3, 1) := by decide +kernel
theorem dX3_follow_110 : decode cX3_follow 110 = .ok (.invokevirtual 70, 3) := by decide +kernel
theorem dX3_follow_113 : decode cX3_follow 113 = .ok (.ifCond .eq 17, 3) := by decide +kernel
theorem dX3_follow_116 : decode cX3_follow 116 = .ok (.aload_n 0, 1) := by decide +kernel
theorem dX3_follow_117 : decode cX3_follow 117 = .ok (.getfield 15, 3) := by decide +kernel
theorem dX3_follow_120 : decode cX3_follow 120 = .ok (.iload_n 3, 1) := by decide +kernel
theorem dX3_follow_121 : decode cX3_follow 121 = .ok (.iaload, 1) := by decide +kernel
theorem dX3_follow_122 : decode cX3_follow 122 = .ok (.iload_n 2, 1) := by decide +kernel
theorem dX3_follow_123 : decode cX3_follow 123 = .ok (.if_icmp .ne 7, 3) := by decide +kernel
theorem dX3_follow_126 : decode cX3_follow 126 = .ok (.iconst 1, 1) := by decide +kernel
theorem dX3_follow_127 : decode cX3_follow 127 = .ok (.goto 4, 3) := by decide +kernel
theorem dX3_follow_130 : decode cX3_follow 130 = .ok (.iconst 0, 1) := by decide +kernel
theorem dX3_follow_131 : decode cX3_follow 131 = .ok (.ireturn, 1) := by decide +kernel
theorem dX3_follow_132 : decode cX3_follow 132 = .ok (.aload_n 0, 1) := by decide +kernel
theorem dX3_follow_133 : decode cX3_follow 133 = .ok (.iload_n 2, 1) := by decide +kernel
theorem dX3_follow_134 : decode cX3_follow 134 = .ok (.invokevirtual 70, 3) := by decide +kernel
theorem dX3_follow_137 : decode cX3_follow 137 = .ok (.ifCond .eq 17, 3) := by decide +kernel
theorem dX3_follow_140 : decode cX3_follow 140 = .ok (.aload_n 0, 1) := by decide +kernel
theorem dX3_follow_141 : decode cX3_follow 141 = .ok (.getfield 18, 3) := by decide +kernel
theorem dX3_follow_144 : decode cX3_follow 144 = .ok (.iload_n 2, 1) := by decide +kernel
theorem dX3_follow_145 : decode cX3_follow 145 = .ok (.iaload, 1) := by decide +kernel
theorem dX3_follow_146 : decode cX3_follow 146 = .ok (.iload_n 3, 1) := by decide +kernel
theorem dX3_follow_147 : decode cX3_follow 147 = .ok (.if_icmp .lt 7, 3) := by decide +kernel
theorem dX3_follow_150 : decode cX3_follow 150 = .ok (.iconst 1, 1) := by decide +kernel
theorem dX3_follow_151 : decode cX3_follow 151 = .ok (.goto 4, 3) := by decide +kernel
theorem dX3_follow_154 : decode cX3_follow 154 = .ok (.iconst 0, 1) := by decide +kernel
theorem dX3_follow_155 : decode cX3_follow 155 = .ok (.ireturn, 1) := by decide +kernel
theorem dX3_follow_156 : decode cX3_follow 156 = .ok (.aload_n 0, 1) := by decide +kernel
theorem dX3_follow_157 : decode cX3_follow 157 = .ok (.getfield 44, 3) := by decide +kernel
theorem dX3_follow_160 : decode cX3_follow 160 = .ok (.bipush 10, 2) := by decide +kernel
theorem dX3_follow_162 : decode cX3_follow 162 = .ok (.iload_n 2, 1) := by decide +kernel
theorem dX3_follow_163 : decode cX3_follow 163 = .ok (.imul, 1) := by decide +kernel
theorem dX3_follow_164 : decode cX3_follow 164 = .ok (.iload_n 3, 1) := by decide +kernel
theorem dX3_follow_165 : decode cX3_follow 165 = .ok (.iadd, 1) := by decide +kernel
theorem dX3_follow_166 : decode cX3_follow 166 = .ok (.if_icmp .gt 7, 3) := by decide +kernel
theorem dX3_follow_169 : decode cX3_follow 169 = .ok (.iconst 1, 1) := by decide +kernel
theorem dX3_follow_170 : decode cX3_follow 170 = .ok (.goto 4, 3) := by decide +kernel
theorem dX3_follow_173 : decode cX3_follow 173 = .ok (.iconst 0, 1) := by decide +kernel
theorem dX3_follow_174 : decode cX3_follow 174 = .ok (.ireturn, 1) := by decide +kernel
theorem dX3_follow_175 : decode cX3_follow 175 = .ok (.iconst 0, 1) := by decide +kernel
theorem dX3_follow_176 : decode cX3_follow 176 = .ok (.ireturn, 1) := by decide +kernel
theorem dX3_followChange_0 : decode cX3_followChange 0 = .ok (.aload_n 0, 1) := by decide +kernel
theorem dX3_followChange_1 : decode cX3_followChange 1 = .ok (.getfield 24, 3) := by decide +kernel
theorem dX3_followChange_4 : decode cX3_followChange 4 = .ok (.iload_n 1, 1) := by decide +kernel
theorem dX3_followChange_5 : decode cX3_followChange 5 = .ok (.invokevirtual 141, 3) := by decide +kernel
theorem dX3_followChange_8 : decode cX3_followChange 8 = .ok (.ifCond .eq 19, 3) := by decide +kernel
theorem dX3_followChange_11 : decode cX3_followChange 11 = .ok (.aload_n 0, 1) := by decide +kernel
theorem dX3_followChange_12 : decode cX3_followChange 12 = .ok (.getfield 24, 3) := by decide +kernel
theorem dX3_followChange_15 : decode cX3_followChange 15 = .ok (.iload_n 2, 1) := by decide +kernel
theorem dX3_followChange_16 : decode cX3_followChange 16 = .ok (.invokevirtual 141, 3) := by decide +kernel
theorem dX3_followChange_19 : decode cX3_followChange 19 = .ok (.ifCond .eq 8, 3) := by decide +kernel
theorem dX3_followChange_22 : decode cX3_followChange 22 = .ok (.iload_n 1, 1) := by decide +kernel
theorem dX3_followChange_23 : decode cX3_followChange 23 = .ok (.iload_n 2, 1) := by decide +kernel
theorem dX3_followChange_24 : decode cX3_followChange 24 = .ok (.if_icmp .ne 5, 3) := by decide +kernel
theorem dX3_followChange_27 : decode cX3_followChange 27 = .ok (.iconst 0, 1) := by decide +kernel
theorem dX3_followChange_28 : decode cX3_followChange 28 = .ok (.ireturn, 1) := by decide +kernel
theorem dX3_followChange_29 : decode cX3_followChange 29 = .ok (.aload_n 0, 1) := by decide +kernel
theorem dX3_followChange_30 : decode cX3_followChange 30 = .ok (.iload_n 1, 1) := by decide +kernel
theorem dX3_followChange_31 : decode cX3_followChange 31 = .ok (.iload_n 2, 1) := by decide +kernel
theorem dX3_followChange_32 : decode cX3_followChange 32 = .ok (.invokevirtual 144, 3) := by decide +kernel
theorem dX3_followChange_35 : decode cX3_followChange 35 = .ok (.iconst 1, 1) := by decide +kernel
theorem dX3_followChange_36 : decode cX3_followChange 36 = .ok (.ireturn, 1) := by decide +kernel
theorem dX3_followMend_0 : decode cX3_followMend 0 = .ok (.aload_n 0, 1) := by decide +kernel
theorem dX3_followMend_1 : decode cX3_followMend 1 = .ok (.iload_n 1, 1) := by decide +kernel
theorem dX3_followMend_2 : decode cX3_followMend 2 = .ok (.invokevirtual 128, 3) := by decide +kernel
theorem dX3_followMend_5 : decode cX3_followMend 5 = .ok (.ifCond .ne 5, 3) := by decide +kernel
theorem dX3_followMend_8 : decode cX3_followMend 8 = .ok (.iconst 0, 1) := by decide +kernel
theorem dX3_followMend_9 : decode cX3_followMend 9 = .ok (.ireturn, 1) := by decide +kernel
theorem dX3_followMend_10 : decode cX3_followMend 10 = .ok (.aload_n 0, 1) := by decide +kernel
theorem dX3_followMend_11 : decode cX3_followMend 11 = .ok (.iload_n 1, 1) := by decide +kernel
theorem dX3_followMend_12 : decode cX3_followMend 12 = .ok (.invokevirtual 148, 3) := by decide +kernel
theorem dX3_followMend_15 : decode cX3_followMend 15 = .ok (.iconst 1, 1) := by decide +kernel
theorem dX3_followMend_16 : decode cX3_followMend 16 = .ok (.ireturn, 1) := by decide +kernel
theorem dX3_followDrop_0 : decode cX3_followDrop 0 = .ok (.aload_n 0, 1) := by decide +kernel
theorem dX3_followDrop_1 : decode cX3_followDrop 1 = .ok (.iload_n 1, 1) := by decide +kernel
theorem dX3_followDrop_2 : decode cX3_followDrop 2 = .ok (.invokevirtual 70, 3) := by decide +kernel
theorem dX3_followDrop_5 : decode cX3_followDrop 5 = .ok (.ifCond .ne 5, 3) := by decide +kernel
theorem dX3_followDrop_8 : decode cX3_followDrop 8 = .ok (.iconst 0, 1) := by decide +kernel
theorem dX3_followDrop_9 : decode cX3_followDrop 9 = .ok (.ireturn, 1) := by decide +kernel
theorem dX3_followDrop_10 : decode cX3_followDrop 10 = .ok (.aload_n 0, 1) := by decide +kernel
theorem dX3_followDrop_11 : decode cX3_followDrop 11 = .ok (.iload_n 1, 1) := by decide +kernel
theorem dX3_followDrop_12 : decode cX3_followDrop 12 = .ok (.invokevirtual 151, 3) := by decide +kernel
theorem dX3_followDrop_15 : decode cX3_followDrop 15 = .ok (.iconst 1, 1) := by decide +kernel
theorem dX3_followDrop_16 : decode cX3_followDrop 16 = .ok (.ireturn, 1) := by decide +kernel
