theorem dX8_init_0 : decode cX8_init 0 = .ok (.aload_n 0, 1) := by decide +kernel
theorem dX8_init_1 : decode cX8_init 1 = .ok (.invokespecial 1, 3) := by decide +kernel
theorem dX8_init_4 : decode cX8_init 4 = .ok (.aload_n 0, 1) := by decide +kernel
theorem dX8_init_5 : decode cX8_init 5 = .ok (.new 7, 3) := by decide +kernel
theorem dX8_init_8 : decode cX8_init 8 = .ok (.dup, 1) := by decide +kernel
theorem dX8_init_9 : decode cX8_init 9 = .ok (.invokespecial 9, 3) := by decide +kernel
theorem dX8_init_12 : decode cX8_init 12 = .ok (.putfield 10, 3) := by decide +kernel
theorem dX8_init_15 : decode cX8_init 15 = .ok (.aload_n 0, 1) := by decide +kernel
theorem dX8_init_16 : decode cX8_init 16 = .ok (.new 16, 3) := by decide +kernel
theorem dX8_init_19 : decode cX8_init 19 = .ok (.dup, 1) := by decide +kernel
theorem dX8_init_20 : decode cX8_init 20 = .ok (.invokespecial 18, 3) := by decide +kernel
theorem dX8_init_23 : decode cX8_init 23 = .ok (.putfield 19, 3) := by decide +kernel
theorem dX8_init_26 : decode cX8_init 26 = .ok (.aload_n 0, 1) := by decide +kernel
theorem dX8_init_27 : decode cX8_init 27 = .ok (.new 16, 3) := by decide +kernel
theorem dX8_init_30 : decode cX8_init 30 = .ok (.dup, 1) := by decide +kernel
theorem dX8_init_31 : decode cX8_init 31 = .ok (.invokespecial 18, 3) := by decide +kernel
theorem dX8_init_34 : decode cX8_init 34 = .ok (.putfield 23, 3) := by decide +kernel
theorem dX8_init_37 : decode cX8_init 37 = .ok (.aload_n 0, 1) := by decide +kernel
theorem dX8_init_38 : decode cX8_init 38 = .ok (.new 26, 3) := by decide +kernel
theorem dX8_init_41 : decode cX8_init 41 = .ok (.dup, 1) := by decide +kernel
theorem dX8_init_42 : decode cX8_init 42 = .ok (.aload_n 0, 1) := by decide +kernel
theorem dX8_init_43 : decode cX8_init 43 = .ok (.getfield 23, 3) := by decide +kernel
theorem dX8_init_46 : decode cX8_init 46 = .ok (.invokespecial 28, 3) := by decide +kernel
theorem dX8_init_49 : decode cX8_init 49 = .ok (.putfield 31, 3) := by decide +kernel
theorem dX8_init_52 : decode cX8_init 52 = .ok (.new 26, 3) := by decide +kernel
theorem dX8_init_55 : decode cX8_init 55 = .ok (.dup, 1) := by decide +kernel
theorem dX8_init_56 : decode cX8_init 56 = .ok (.aload_n 0, 1) := by decide +kernel
theorem dX8_init_57 : decode cX8_init 57 = .ok (.getfield 23, 3) := by decide +kernel
theorem dX8_init_60 : decode cX8_init 60 = .ok (.invokespecial 28, 3) := by decide +kernel
theorem dX8_init_63 : decode cX8_init 63 = .ok (.astore_n 1, 1) := by decide +kernel
theorem dX8_init_64 : decode cX8_init 64 = .ok (.aload_n 0, 1) := by decide +kernel
theorem dX8_init_65 : decode cX8_init 65 = .ok (.new 35, 3) := by decide +kernel
theorem dX8_init_68 : decode cX8_init 68 = .ok (.dup, 1) := by decide +kernel
theorem dX8_init_69 : decode cX8_init 69 = .ok (.invokespecial 37, 3) := by decide +kernel
theorem dX8_init_72 : decode cX8_init 72 = .ok (.putfield 38, 3) := by decide +kernel
theorem dX8_init_75 : decode cX8_init 75 = .ok (.aload_n 0, 1) := by decide +kernel
theorem dX8_init_76 : decode cX8_init 76 = .ok (.new 42, 3) := by decide +kernel
theorem dX8_init_79 : decode cX8_init 79 = .ok (.dup, 1) := by decide +kernel
theorem dX8_init_80 : decode cX8_init 80 = .ok (.iconst 2, 1) := by decide +kernel
theorem dX8_init_81 : decode cX8_init 81 = .ok (.invokespecial 44, 3) := by decide +kernel
theorem dX8_init_84 : decode cX8_init 84 = .ok (.putfield 47, 3) := by decide +kernel
theorem dX8_init_87 : decode cX8_init 87 = .ok (.aload_n 0, 1) := by decide +kernel
theorem dX8_init_88 : decode cX8_init 88 = .ok (.iconst 0, 1) := by decide +kernel
theorem dX8_init_89 : decode cX8_init 89 = .ok (.putfield 51, 3) := by decide +kernel
theorem dX8_init_92 : decode cX8_init 92 = .ok (.aload_n 0, 1) := by decide +kernel
theorem dX8_init_93 : decode cX8_init 93 = .ok (.new 55, 3) := by decide +kernel
theorem dX8_init_96 : decode cX8_init 96 = .ok (.dup, 1) := by decide +kernel
theorem dX8_init_97 : decode cX8_init 97 = .ok (.invokespecial 57, 3) := by decide +kernel
theorem dX8_init_100 : decode cX8_init 100 = .ok (.putfield 58, 3) := by decide +kernel
theorem dX8_init_103 : decode cX8_init 103 = .ok (.aload_n 0, 1) := by decide +kernel
theorem dX8_init_104 : decode cX8_init 104 = .ok (.new 62, 3) := by decide +kernel
theorem dX8_init_107 : decode cX8_init 107 = .ok (.dup, 1) := by decide +kernel
theorem dX8_init_108 : decode cX8_init 108 = .ok (.aload_n 0, 1) := by decide +kernel
theorem dX8_init_109 : decode cX8_init 109 = .ok (.getfield 23, 3) := by decide +kernel
theorem dX8_init_112 : decode cX8_init 112 = .ok (.aload_n 0, 1) := by decide +kernel
theorem dX8_init_113 : decode cX8_init 113 = .ok (.getfield 31, 3) := by decide +kernel
theorem dX8_init_116 : decode cX8_init 116 = .ok (.aload_n 1, 1) := by decide +kernel
theorem dX8_init_117 : decode cX8_init 117 = .ok (.invokespecial 64, 3) := by decide +kernel
theorem dX8_init_120 : decode cX8_init 120 = .ok (.putfield 67, 3) := by decide +kernel
theorem dX8_init_123 : decode cX8_init 123 = .ok (.aload_n 0, 1) := by decide +kernel
theorem dX8_init_124 : decode cX8_init 124 = .ok (.new 71, 3) := by decide +kernel
theorem dX8_init_127 : decode cX8_init 127 = .ok (.dup, 1) := by decide +kernel
theorem dX8_init_128 : decode cX8_init 128 = .ok (.aload_n 0, 1) := by decide +kernel
theorem dX8_init_129 : decode cX8_init 129 = .ok (.getfield 23, 3) := by decide +kernel
theorem dX8_init_132 : decode cX8_init 132 = .ok (.aload_n 0, 1) := by decide +kernel
theorem dX8_init_133 : decode cX8_init 133 = .ok (.getfield 31, 3) := by decide +kernel
theorem dX8_init_136 : decode cX8_init 136 = .ok (.aload_n 1, 1) := by decide +kernel
theorem dX8_init_137 : decode cX8_init 137 = .ok (.invokespecial 73, 3) := by decide +kernel
theorem dX8_init_140 : decode cX8_init 140 = .ok (.putfield 74, 3) := by decide +kernel
theorem dX8_init_143 : decode cX8_init 143 = .ok (.aload_n 0, 1) := by decide +kernel
theorem dX8_init_144 : decode cX8_init 144 = .ok (.lconst 0, 1) := by decide +kernel
theorem dX8_init_145 : decode cX8_init 145 = .ok (.putfield 78, 3) := by decide +kernel
theorem dX8_init_148 : decode cX8_init 148 = .ok (.return_, 1) := by decide +kernel
theorem dX8_write_0 : decode cX8_write 0 = .ok (.iload_n 1, 1) := by decide +kernel
theorem dX8_write_1 : decode cX8_write 1 = .ok (.ifCond .lt 10, 3) := by decide +kernel
theorem dX8_write_4 : decode cX8_write 4 = .ok (.iload_n 1, 1) := by decide +kernel
theorem dX8_write_5 : decode cX8_write 5 = .ok (.sipush 255, 3) := by decide +kernel
theorem dX8_write_8 : decode cX8_write 8 = .ok (.if_icmp .le 6, 3) := by decide +kernel
theorem dX8_write_11 : decode cX8_write 11 = .ok (.bipush (-2), 2) := by decide +kernel
theorem dX8_write_13 : decode cX8_write 13 = .ok (.ireturn, 1) := by decide +kernel
theorem dX8_write_14 : decode cX8_write 14 = .ok (.aload_n 0, 1) := by decide +kernel
theorem dX8_write_15 : decode cX8_write 15 = .ok (.getfield 10, 3) := by decide +kernel
theorem dX8_write_18 : decode cX8_write 18 = .ok (.iload_n 1, 1) := by decide +kernel
theorem dX8_write_19 : decode cX8_write 19 = .ok (.invokevirtual 82, 3) := by decide +kernel
theorem dX8_write_22 : decode cX8_write 22 = .ok (.ifCond .eq 13, 3) := by decide +kernel
theorem dX8_write_25 : decode cX8_write 25 = .ok (.aload_n 0, 1) := by decide +kernel
theorem dX8_write_26 : decode cX8_write 26 = .ok (.getfield 10, 3) := by decide +kernel
theorem dX8_write_29 : decode cX8_write 29 = .ok (.getfield 86, 3) := by decide +kernel
theorem dX8_write_32 : decode cX8_write 32 = .ok (.goto 5, 3) := by decide +kernel
theorem dX8_write_35 : decode cX8_write 35 = .ok (.bipush (-4), 2) := by decide +kernel
theorem dX8_write_37 : decode cX8_write 37 = .ok (.ireturn, 1) := by decide +kernel
theorem dX8_wipe_0 : decode cX8_wipe 0 = .ok (.aload_n 0, 1) := by decide +kernel
theorem dX8_wipe_1 : decode cX8_wipe 1 = .ok (.getfield 10, 3) := by decide +kernel
theorem dX8_wipe_4 : decode cX8_wipe 4 = .ok (.getfield 86, 3) := by decide +kernel
theorem dX8_wipe_7 : decode cX8_wipe 7 = .ok (.istore_n 1, 1) := by decide +kernel
theorem dX8_wipe_8 : decode cX8_wipe 8 = .ok (.aload_n 0, 1) := by decide +kernel
theorem dX8_wipe_9 : decode cX8_wipe 9 = .ok (.getfield 10, 3) := by decide +kernel
theorem dX8_wipe_12 : decode cX8_wipe 12 = .ok (.iconst 0, 1) := by decide +kernel
theorem dX8_wipe_13 : decode cX8_wipe 13 = .ok (.putfield 86, 3) := by decide +kernel
theorem dX8_wipe_16 : decode cX8_wipe 16 = .ok (.iload_n 1, 1) := by decide +kernel
theorem dX8_wipe_17 : decode cX8_wipe 17 = .ok (.ireturn, 1) := by decide +kernel
theorem dX8_fault_0 : decode cX8_fault 0 = .ok (.aload_n 0, 1) := by decide +kernel
theorem dX8_fault_1 : decode cX8_fault 1 = .ok (.getfield 19, 3) := by decide +kernel
theorem dX8_fault_4 : decode cX8_fault 4 = .ok (.aload_n 0, 1) := by decide +kernel
theorem dX8_fault_5 : decode cX8_fault 5 = .ok (.getfield 10, 3) := by decide +kernel
theorem dX8_fault_8 : decode cX8_fault 8 = .ok (.invokevirtual 89, 3) := by decide +kernel
theorem dX8_fault_11 : decode cX8_fault 11 = .ok (.ireturn, 1) := by decide +kernel
theorem dX8_night_0 : decode cX8_night 0 = .ok (.aload_n 0, 1) := by decide +kernel
theorem dX8_night_1 : decode cX8_night 1 = .ok (.getfield 19, 3) := by decide +kernel
theorem dX8_night_4 : decode cX8_night 4 = .ok (.aload_n 0, 1) := by decide +kernel
theorem dX8_night_5 : decode cX8_night 5 = .ok (.getfield 10, 3) := by decide +kernel
theorem dX8_night_8 : decode cX8_night 8 = .ok (.invokevirtual 89, 3) := by decide +kernel
theorem dX8_night_11 : decode cX8_night 11 = .ok (.bipush (-9), 2) := by decide +kernel
theorem dX8_night_13 : decode cX8_night 13 = .ok (.if_icmp .eq 6, 3) := by decide +kernel
theorem dX8_night_16 : decode cX8_night 16 = .ok (.bipush (-3), 2) := by decide +kernel
theorem dX8_night_18 : decode cX8_night 18 = .ok (.ireturn, 1) := by decide +kernel
theorem dX8_night_19 : decode cX8_night 19 = .ok (.aload_n 0, 1) := by decide +kernel
theorem dX8_night_20 : decode cX8_night 20 = .ok (.getfield 23, 3) := by decide +kernel
theorem dX8_night_23 : decode cX8_night 23 = .ok (.aload_n 0, 1) := by decide +kernel
theorem dX8_night_24 : decode cX8_night 24 = .ok (.getfield 10, 3) := by decide +kernel
theorem dX8_night_27 : decode cX8_night 27 = .ok (.invokevirtual 89, 3) := by decide +kernel
theorem dX8_night_30 : decode cX8_night 30 = .ok (.pop, 1) := by decide +kernel
theorem dX8_night_31 : decode cX8_night 31 = .ok (.aload_n 0, 1) := by decide +kernel
theorem dX8_night_32 : decode cX8_night 32 = .ok (.getfield 31, 3) := by decide +kernel
theorem dX8_night_35 : decode cX8_night 35 = .ok (.invokevirtual 93, 3) := by decide +kernel
theorem dX8_night_38 : decode cX8_night 38 = .ok (.aload_n 0, 1) := by decide +kernel
theorem dX8_night_39 : decode cX8_night 39 = .ok (.getfield 38, 3) := by decide +kernel
theorem dX8_night_42 : decode cX8_night 42 = .ok (.invokevirtual 96, 3) := by decide +kernel
theorem dX8_night_45 : decode cX8_night 45 = .ok (.aload_n 0, 1) := by decide +kernel
theorem dX8_night_46 : decode cX8_night 46 = .ok (.iconst 0, 1) := by decide +kernel
theorem dX8_night_47 : decode cX8_night 47 = .ok (.putfield 51, 3) := by decide +kernel
theorem dX8_night_50 : decode cX8_night 50 = .ok (.bipush 10, 2) := by decide +kernel
theorem dX8_night_52 : decode cX8_night 52 = .ok (.aload_n 0, 1) := by decide +kernel
theorem dX8_night_53 : decode cX8_night 53 = .ok (.getfield 23, 3) := by decide +kernel
theorem dX8_night_56 : decode cX8_night 56 = .ok (.getfield 99, 3) := by decide +kernel
theorem dX8_night_59 : decode cX8_night 59 = .ok (.imul, 1) := by decide +kernel
theorem dX8_night_60 : decode cX8_night 60 = .ok (.aload_n 0, 1) := by decide +kernel
theorem dX8_night_61 : decode cX8_night 61 = .ok (.getfield 23, 3) := by decide +kernel
theorem dX8_night_64 : decode cX8_night 64 = .ok (.getfield 102, 3) := by decide +kernel
theorem dX8_night_67 : decode cX8_night 67 = .ok (.iadd, 1) := by decide +kernel
theorem dX8_night_68 : decode cX8_night 68 = .ok (.ireturn, 1) := by decide +kernel
theorem dX8_about_0 : decode cX8_about 0 = .ok (.iload_n 1, 1) := by decide +kernel
theorem dX8_about_1 : decode cX8_about 1 = .ok (.tableswitch 187 0 13 #[71, 79, 87, 95, 103, 111, 119, 127, 135, 145, 155, 163, 171, 179], 71) := by decide +kernel
theorem dX8_about_72 : decode cX8_about 72 = .ok (.aload_n 0, 1) := by decide +kernel
theorem dX8_about_73 : decode cX8_about 73 = .ok (.getfield 23, 3) := by decide +kernel
theorem dX8_about_76 : decode cX8_about 76 = .ok (.getfield 99, 3) := by decide +kernel
theorem dX8_about_79 : decode cX8_about 79 = .ok (.ireturn, 1) := by decide +kernel
theorem dX8_about_80 : decode cX8_about 80 = .ok (.aload_n 0, 1) := by decide +kernel
theorem dX8_about_81 : decode cX8_about 81 = .ok (.getfield 23, 3) := by decide +kernel
theorem dX8_about_84 : decode cX8_about 84 = .ok (.getfield 102, 3) := by decide +kernel
theorem dX8_about_87 : decode cX8_about 87 = .ok (.ireturn, 1) := by decide +kernel
theorem dX8_about_88 : decode cX8_about 88 = .ok (.aload_n 0, 1) := by decide +kernel
theorem dX8_about_89 : decode cX8_about 89 = .ok (.getfield 31, 3) := by decide +kernel
theorem dX8_about_92 : decode cX8_about 92 = .ok (.getfield 105, 3) := by decide +kernel
theorem dX8_about_95 : decode cX8_about 95 = .ok (.ireturn, 1) := by decide +kernel
theorem dX8_about_96 : decode cX8_about 96 = .ok (.aload_n 0, 1) := by decide +kernel
theorem dX8_about_97 : decode cX8_about 97 = .ok (.getfield 23, 3) := by decide +kernel
theorem dX8_about_100 : decode cX8_about 100 = .ok (.getfield 108, 3) := by decide +kernel
theorem dX8_about_103 : decode cX8_about 103 = .ok (.ireturn, 1) := by decide +kernel
theorem dX8_about_104 : decode cX8_about 104 = .ok (.aload_n 0, 1) := by decide +kernel
theorem dX8_about_105 : decode cX8_about 105 = .ok (.getfield 23, 3) := by decide +kernel
theorem dX8_about_108 : decode cX8_about 108 = .ok (.getfield 111, 3) := by decide +kernel
theorem dX8_about_111 : decode cX8_about 111 = .ok (.ireturn, 1) := by decide +kernel
theorem dX8_about_112 : decode cX8_about 112 = .ok (.aload_n 0, 1) := by decide +kernel
theorem dX8_about_113 : decode cX8_about 113 = .ok (.getfield 31, 3) := by decide +kernel
theorem dX8_about_116 : decode cX8_about 116 = .ok (.getfield 114, 3) := by decide +kernel
theorem dX8_about_119 : decode cX8_about 119 = .ok (.ireturn, 1) := by decide +kernel
theorem dX8_about_120 : decode cX8_about 120 = .ok (.aload_n 0, 1) := by decide +kernel
theorem dX8_about_121 : decode cX8_about 121 = .ok (.getfield 31, 3) := by decide +kernel
theorem dX8_about_124 : decode cX8_about 124 = .ok (.getfield 117, 3) := by decide +kernel
theorem dX8_about_127 : decode cX8_about 127 = .ok (.ireturn, 1) := by decide +kernel
theorem dX8_about_128 : decode cX8_about 128 = .ok (.aload_n 0, 1) := by decide +kernel
theorem dX8_about_129 : decode cX8_about 129 = .ok (.getfield 31, 3) := by decide +kernel
theorem dX8_about_132 : decode cX8_about 132 = .ok (.invokevirtual 120, 3) := by decide +kernel
theorem dX8_about_135 : decode cX8_about 135 = .ok (.ireturn, 1) := by decide +kernel
theorem dX8_about_136 : decode cX8_about 136 = .ok (.aload_n 0, 1) := by decide +kernel
theorem dX8_about_137 : decode cX8_about 137 = .ok (.getfield 31, 3) := by decide +kernel
theorem dX8_about_140 : decode cX8_about 140 = .ok (.bipush 8, 2) := by decide +kernel
theorem dX8_about_142 : decode cX8_about 142 = .ok (.invokevirtual 124, 3) := by decide +kernel
theorem dX8_about_145 : decode cX8_about 145 = .ok (.ireturn, 1) := by decide +kernel
theorem dX8_about_146 : decode cX8_about 146 = .ok (.aload_n 0, 1) := by decide +kernel
theorem dX8_about_147 : decode cX8_about 147 = .ok (.getfield 31, 3) := by decide +kernel
theorem dX8_about_150 : decode cX8_about 150 = .ok (.bipush 9, 2) := by decide +kernel
theorem dX8_about_152 : decode cX8_about 152 = .ok (.invokevirtual 124, 3) := by decide +kernel
theorem dX8_about_155 : decode cX8_about 155 = .ok (.ireturn, 1) := by decide +kernel
theorem dX8_about_156 : decode cX8_about 156 = .ok (.aload_n 0, 1) := by decide +kernel
theorem dX8_about_157 : decode cX8_about 157 = .ok (.getfield 31, 3) := by decide +kernel
theorem dX8_about_160 : decode cX8_about 160 = .ok (.getfield 128, 3) := by decide +kernel
theorem dX8_about_163 : decode cX8_about 163 = .ok (.ireturn, 1) := by decide +kernel
theorem dX8_about_164 : decode cX8_about 164 = .ok (.aload_n 0, 1) := by decide +kernel
theorem dX8_about_165 : decode cX8_about 165 = .ok (.getfield 38, 3) := by decide +kernel
theorem dX8_about_168 : decode cX8_about 168 = .ok (.getfield 131, 3) := by decide +kernel
theorem dX8_about_171 : decode cX8_about 171 = .ok (.ireturn, 1) := by decide +kernel
theorem dX8_about_172 : decode cX8_about 172 = .ok (.aload_n 0, 1) := by decide +kernel
theorem dX8_about_173 : decode cX8_about 173 = .ok (.getfield 58, 3) := by decide +kernel
theorem dX8_about_176 : decode cX8_about 176 = .ok (.getfield 134, 3) := by decide +kernel
theorem dX8_about_179 : decode cX8_about 179 = .ok (.ireturn, 1) := by decide +kernel
theorem dX8_about_180 : decode cX8_about 180 = .ok (.aload_n 0, 1) := by decide +kernel
theorem dX8_about_181 : decode cX8_about 181 = .ok (.getfield 10, 3) := by decide +kernel
theorem dX8_about_184 : decode cX8_about 184 = .ok (.getfield 86, 3) := by decide +kernel
theorem dX8_about_187 : decode cX8_about 187 = .ok (.ireturn, 1) := by decide +kernel
theorem dX8_about_188 : decode cX8_about 188 = .ok (.bipush (-2), 2) := by decide +kernel
theorem dX8_about_190 : decode cX8_about 190 = .ok (.ireturn, 1) := by decide +kernel
theorem dX8_person_0 : decode cX8_person 0 = .ok (.aload_n 0, 1) := by decide +kernel
theorem dX8_person_1 : decode cX8_person 1 = .ok (.getfield 23, 3) := by decide +kernel
theorem dX8_person_4 : decode cX8_person 4 = .ok (.iload_n 1, 1) := by decide +kernel
theorem dX8_person_5 : decode cX8_person 5 = .ok (.invokevirtual 135, 3) := by decide +kernel
theorem dX8_person_8 : decode cX8_person 8 = .ok (.ifCond .ne 5, 3) := by decide +kernel
theorem dX8_person_11 : decode cX8_person 11 = .ok (.iconst (-1), 1) := by decide +kernel
theorem dX8_person_12 : decode cX8_person 12 = .ok (.ireturn, 1) := by decide +kernel
theorem dX8_person_13 : decode cX8_person 13 = .ok (.iload_n 2, 1) := by decide +kernel
theorem dX8_person_14 : decode cX8_person 14 = .ok (.lookupswitch 45 #[(0, 26), (1, 36)], 26) := by decide +kernel
theorem dX8_person_40 : decode cX8_person 40 = .ok (.aload_n 0, 1) := by decide +kernel
theorem dX8_person_41 : decode cX8_person 41 = .ok (.getfield 23, 3) := by decide +kernel
theorem dX8_person_44 : decode cX8_person 44 = .ok (.getfield 138, 3) := by decide +kernel
theorem dX8_person_47 : decode cX8_person 47 = .ok (.iload_n 1, 1) := by decide +kernel
theorem dX8_person_48 : decode cX8_person 48 = .ok (.iaload, 1) := by decide +kernel
theorem dX8_person_49 : decode cX8_person 49 = .ok (.ireturn, 1) := by decide +kernel
theorem dX8_person_50 : decode cX8_person 50 = .ok (.aload_n 0, 1) := by decide +kernel
theorem dX8_person_51 : decode cX8_person 51 = .ok (.getfield 31, 3) := by decide +kernel
theorem dX8_person_54 : decode cX8_person 54 = .ok (.iload_n 1, 1) := by decide +kernel
theorem dX8_person_55 : decode cX8_person 55 = .ok (.invokevirtual 142, 3) := by decide +kernel
theorem dX8_person_58 : decode cX8_person 58 = .ok (.ireturn, 1) := by decide +kernel
theorem dX8_person_59 : decode cX8_person 59 = .ok (.bipush (-2), 2) := by decide +kernel
theorem dX8_person_61 : decode cX8_person 61 = .ok (.ireturn, 1) := by decide +kernel
theorem dX8_stand_0 : decode cX8_stand 0 = .ok (.aload_n 0, 1) := by decide +kernel
theorem dX8_stand_1 : decode cX8_stand 1 = .ok (.getfield 23, 3) := by decide +kernel
theorem dX8_stand_4 : decode cX8_stand 4 = .ok (.iload_n 1, 1) := by decide +kernel
theorem dX8_stand_5 : decode cX8_stand 5 = .ok (.invokevirtual 135, 3) := by decide +kernel
theorem dX8_stand_8 : decode cX8_stand 8 = .ok (.ifCond .ne 5, 3) := by decide +kernel
theorem dX8_stand_11 : decode cX8_stand 11 = .ok (.iconst (-1), 1) := by decide +kernel
theorem dX8_stand_12 : decode cX8_stand 12 = .ok (.ireturn, 1) := by decide +kernel
theorem dX8_stand_13 : decode cX8_stand 13 = .ok (.iload_n 2, 1) := by decide +kernel
theorem dX8_stand_14 : decode cX8_stand 14 = .ok (.lookupswitch 45 #[(0, 26), (1, 36)], 26) := by decide +kernel
theorem dX8_stand_40 : decode cX8_stand 40 = .ok (.aload_n 0, 1) := by decide +kernel
theorem dX8_stand_41 : decode cX8_stand 41 = .ok (.getfield 31, 3) := by decide +kernel
theorem dX8_stand_44 : decode cX8_stand 44 = .ok (.getfield 145, 3) := by decide +kernel
theorem dX8_stand_47 : decode cX8_stand 47 = .ok (.iload_n 1, 1) := by decide +kernel
theorem dX8_stand_48 : decode cX8_stand 48 = .ok (.iaload, 1) := by decide +kernel
theorem dX8_stand_49 : decode cX8_stand 49 = .ok (.ireturn, 1) := by decide +kernel
theorem dX8_stand_50 : decode cX8_stand 50 = .ok (.aload_n 0, 1) := by decide +kernel
theorem dX8_stand_51 : decode cX8_stand 51 = .ok (.getfield 31, 3) := by decide +kernel
theorem dX8_stand_54 : decode cX8_stand 54 = .ok (.iload_n 1, 1) := by decide +kernel
theorem dX8_stand_55 : decode cX8_stand 55 = .ok (.invokevirtual 148, 3) := by decide +kernel
theorem dX8_stand_58 : decode cX8_stand 58 = .ok (.ireturn, 1) := by decide +kernel
theorem dX8_stand_59 : decode cX8_stand 59 = .ok (.bipush (-2), 2) := by decide +kernel
theorem dX8_stand_61 : decode cX8_stand 61 = .ok (.ireturn, 1) := by decide +kernel
theorem dX8_bucket_0 : decode cX8_bucket 0 = .ok (.aload_n 0, 1) := by decide +kernel
theorem dX8_bucket_1 : decode cX8_bucket 1 = .ok (.getfield 23, 3) := by decide +kernel
theorem dX8_bucket_4 : decode cX8_bucket 4 = .ok (.iload_n 1, 1) := by decide +kernel
theorem dX8_bucket_5 : decode cX8_bucket 5 = .ok (.invokevirtual 151, 3) := by decide +kernel
theorem dX8_bucket_8 : decode cX8_bucket 8 = .ok (.ifCond .ne 5, 3) := by decide +kernel
theorem dX8_bucket_11 : decode cX8_bucket 11 = .ok (.iconst (-1), 1) := by decide +kernel
theorem dX8_bucket_12 : decode cX8_bucket 12 = .ok (.ireturn, 1) := by decide +kernel
theorem dX8_bucket_13 : decode cX8_bucket 13 = .ok (.iload_n 2, 1) := by decide +kernel
theorem dX8_bucket_14 : decode cX8_bucket 14 = .ok (.tableswitch 91 0 4 #[34, 44, 61, 71, 81], 34) := by decide +kernel
theorem dX8_bucket_48 : decode cX8_bucket 48 = .ok (.aload_n 0, 1) := by decide +kernel
theorem dX8_bucket_49 : decode cX8_bucket 49 = .ok (.getfield 23, 3) := by decide +kernel
theorem dX8_bucket_52 : decode cX8_bucket 52 = .ok (.getfield 154, 3) := by decide +kernel
theorem dX8_bucket_55 : decode cX8_bucket 55 = .ok (.iload_n 1, 1) := by decide +kernel
theorem dX8_bucket_56 : decode cX8_bucket 56 = .ok (.iaload, 1) := by decide +kernel
theorem dX8_bucket_57 : decode cX8_bucket 57 = .ok (.ireturn, 1) := by decide +kernel
theorem dX8_bucket_58 : decode cX8_bucket 58 = .ok (.aload_n 0, 1) := by decide +kernel
theorem dX8_bucket_59 : decode cX8_bucket 59 = .ok (.getfield 31, 3) := by decide +kernel
theorem dX8_bucket_62 : decode cX8_bucket 62 = .ok (.iload_n 1, 1) := by decide +kernel
theorem dX8_bucket_63 : decode cX8_bucket 63 = .ok (.invokevirtual 157, 3) := by decide +kernel
theorem dX8_bucket_66 : decode cX8_bucket 66 = .ok (.ifCond .eq 7, 3) := by decide +kernel
theorem dX8_bucket_69 : decode cX8_bucket 69 = .ok (.iconst 1, 1) := by decide +kernel
theorem dX8_bucket_70 : decode cX8_bucket 70 = .ok (.goto 4, 3) := by decide +kernel
theorem dX8_bucket_73 : decode cX8_bucket 73 = .ok (.iconst 0, 1) := by decide +kernel
theorem dX8_bucket_74 : decode cX8_bucket 74 = .ok (.ireturn, 1) := by decide +kernel
theorem dX8_bucket_75 : decode cX8_bucket 75 = .ok (.aload_n 0, 1) := by decide +kernel
theorem dX8_bucket_76 : decode cX8_bucket 76 = .ok (.getfield 31, 3) := by decide +kernel
theorem dX8_bucket_79 : decode cX8_bucket 79 = .ok (.getfield 160, 3) := by decide +kernel
theorem dX8_bucket_82 : decode cX8_bucket 82 = .ok (.iload_n 1, 1) := by decide +kernel
theorem dX8_bucket_83 : decode cX8_bucket 83 = .ok (.iaload, 1) := by decide +kernel
theorem dX8_bucket_84 : decode cX8_bucket 84 = .ok (.ireturn, 1) := by decide +kernel
theorem dX8_bucket_85 : decode cX8_bucket 85 = .ok (.aload_n 0, 1) := by decide +kernel
theorem dX8_bucket_86 : decode cX8_bucket 86 = .ok (.getfield 31, 3) := by decide +kernel
theorem dX8_bucket_89 : decode cX8_bucket 89 = .ok (.getfield 163, 3) := by decide +kernel
theorem dX8_bucket_92 : decode cX8_bucket 92 = .ok (.iload_n 1, 1) := by decide +kernel
theorem dX8_bucket_93 : decode cX8_bucket 93 = .ok (.iaload, 1) := by decide +kernel
theorem dX8_bucket_94 : decode cX8_bucket 94 = .ok (.ireturn, 1) := by decide +kernel
theorem dX8_bucket_95 : decode cX8_bucket 95 = .ok (.aload_n 0, 1) := by decide +kernel
theorem dX8_bucket_96 : decode cX8_bucket 96 = .ok (.getfield 31, 3) := by decide +kernel
theorem dX8_bucket_99 : decode cX8_bucket 99 = .ok (.getfield 166, 3) := by decide +kernel
theorem dX8_bucket_102 : decode cX8_bucket 102 = .ok (.iload_n 1, 1) := by decide +kernel
theorem dX8_bucket_103 : decode cX8_bucket 103 = .ok (.iaload, 1) := by decide +kernel
theorem dX8_bucket_104 : decode cX8_bucket 104 = .ok (.ireturn, 1) := by decide +kernel
theorem dX8_bucket_105 : decode cX8_bucket 105 = .ok (.bipush (-2), 2) := by decide +kernel
theorem dX8_bucket_107 : decode cX8_bucket 107 = .ok (.ireturn, 1) := by decide +kernel
theorem dX8_beat_0 : decode cX8_beat 0 = .ok (.aload_n 0, 1) := by decide +kernel
theorem dX8_beat_1 : decode cX8_beat 1 = .ok (.getfield 38, 3) := by decide +kernel
theorem dX8_beat_4 : decode cX8_beat 4 = .ok (.aload_n 0, 1) := by decide +kernel
theorem dX8_beat_5 : decode cX8_beat 5 = .ok (.getfield 31, 3) := by decide +kernel
theorem dX8_beat_8 : decode cX8_beat 8 = .ok (.invokevirtual 169, 3) := by decide +kernel
theorem dX8_beat_11 : decode cX8_beat 11 = .ok (.aload_n 0, 1) := by decide +kernel
theorem dX8_beat_12 : decode cX8_beat 12 = .ok (.getfield 31, 3) := by decide +kernel
theorem dX8_beat_15 : decode cX8_beat 15 = .ok (.invokevirtual 173, 3) := by decide +kernel
theorem dX8_beat_18 : decode cX8_beat 18 = .ok (.ireturn, 1) := by decide +kernel
theorem dX8_change_0 : decode cX8_change 0 = .ok (.aload_n 0, 1) := by decide +kernel
theorem dX8_change_1 : decode cX8_change 1 = .ok (.getfield 23, 3) := by decide +kernel
theorem dX8_change_4 : decode cX8_change 4 = .ok (.iload_n 1, 1) := by decide +kernel
theorem dX8_change_5 : decode cX8_change 5 = .ok (.invokevirtual 135, 3) := by decide +kernel
theorem dX8_change_8 : decode cX8_change 8 = .ok (.ifCond .eq 14, 3) := by decide +kernel
theorem dX8_change_11 : decode cX8_change 11 = .ok (.aload_n 0, 1) := by decide +kernel
theorem dX8_change_12 : decode cX8_change 12 = .ok (.getfield 23, 3) := by decide +kernel
theorem dX8_change_15 : decode cX8_change 15 = .ok (.iload_n 2, 1) := by decide +kernel
theorem dX8_change_16 : decode cX8_change 16 = .ok (.invokevirtual 135, 3) := by decide +kernel
theorem dX8_change_19 : decode cX8_change 19 = .ok (.ifCond .ne 5, 3) := by decide +kernel
theorem dX8_change_22 : decode cX8_change 22 = .ok (.iconst (-1), 1) := by decide +kernel
theorem dX8_change_23 : decode cX8_change 23 = .ok (.ireturn, 1) := by decide +kernel
theorem dX8_change_24 : decode cX8_change 24 = .ok (.iload_n 1, 1) := by decide +kernel
theorem dX8_change_25 : decode cX8_change 25 = .ok (.iload_n 2, 1) := by decide +kernel
theorem dX8_change_26 : decode cX8_change 26 = .ok (.if_icmp .ne 6, 3) := by decide +kernel
theorem dX8_change_29 : decode cX8_change 29 = .ok (.bipush (-2), 2) := by decide +kernel
theorem dX8_change_31 : decode cX8_change 31 = .ok (.ireturn, 1) := by decide +kernel
theorem dX8_change_32 : decode cX8_change 32 = .ok (.aload_n 0, 1) := by decide +kernel
theorem dX8_change_33 : decode cX8_change 33 = .ok (.getfield 38, 3) := by decide +kernel
theorem dX8_change_36 : decode cX8_change 36 = .ok (.aload_n 0, 1) := by decide +kernel
theorem dX8_change_37 : decode cX8_change 37 = .ok (.getfield 31, 3) := by decide +kernel
theorem dX8_change_40 : decode cX8_change 40 = .ok (.invokevirtual 169, 3) := by decide +kernel
theorem dX8_change_43 : decode cX8_change 43 = .ok (.aload_n 0, 1) := by decide +kernel
theorem dX8_change_44 : decode cX8_change 44 = .ok (.getfield 31, 3) := by decide +kernel
theorem dX8_change_47 : decode cX8_change 47 = .ok (.iload_n 1, 1) := by decide +kernel
theorem dX8_change_48 : decode cX8_change 48 = .ok (.iload_n 2, 1) := by decide +kernel
theorem dX8_change_49 : decode cX8_change 49 = .ok (.invokevirtual 176, 3) := by decide +kernel
theorem dX8_change_52 : decode cX8_change 52 = .ok (.aload_n 0, 1) := by decide +kernel
theorem dX8_change_53 : decode cX8_change 53 = .ok (.getfield 31, 3) := by decide +kernel
theorem dX8_change_56 : decode cX8_change 56 = .ok (.iload_n 1, 1) := by decide +kernel
theorem dX8_change_57 : decode cX8_change 57 = .ok (.invokevirtual 142, 3) := by decide +kernel
theorem dX8_change_60 : decode cX8_change 60 = .ok (.ireturn, 1) := by decide +kernel
theorem dX8_mend_0 : decode cX8_mend 0 = .ok (.aload_n 0, 1) := by decide +kernel
theorem dX8_mend_1 : decode cX8_mend 1 = .ok (.getfield 23, 3) := by decide +kernel
theorem dX8_mend_4 : decode cX8_mend 4 = .ok (.iload_n 1, 1) := by decide +kernel
theorem dX8_mend_5 : decode cX8_mend 5 = .ok (.invokevirtual 151, 3) := by decide +kernel
theorem dX8_mend_8 : decode cX8_mend 8 = .ok (.ifCond .ne 5, 3) := by decide +kernel
theorem dX8_mend_11 : decode cX8_mend 11 = .ok (.iconst (-1), 1) := by decide +kernel
theorem dX8_mend_12 : decode cX8_mend 12 = .ok (.ireturn, 1) := by decide +kernel
theorem dX8_mend_13 : decode cX8_mend 13 = .ok (.aload_n 0, 1) := by decide +kernel
theorem dX8_mend_14 : decode cX8_mend 14 = .ok (.getfield 31, 3) := by decide +kernel
theorem dX8_mend_17 : decode cX8_mend 17 = .ok (.iload_n 1, 1) := by decide +kernel
theorem dX8_mend_18 : decode cX8_mend 18 = .ok (.invokevirtual 157, 3) := by decide +kernel
theorem dX8_mend_21 : decode cX8_mend 21 = .ok (.ifCond .ne 6, 3) := by decide +kernel
theorem dX8_mend_24 : decode cX8_mend 24 = .ok (.bipush (-3), 2) := by decide +kernel
theorem dX8_mend_26 : decode cX8_mend 26 = .ok (.ireturn, 1) := by decide +kernel
theorem dX8_mend_27 : decode cX8_mend 27 = .ok (.aload_n 0, 1) := by decide +kernel
theorem dX8_mend_28 : decode cX8_mend 28 = .ok (.getfield 38, 3) := by decide +kernel
theorem dX8_mend_31 : decode cX8_mend 31 = .ok (.aload_n 0, 1) := by decide +kernel
theorem dX8_mend_32 : decode cX8_mend 32 = .ok (.getfield 31, 3) := by decide +kernel
theorem dX8_mend_35 : decode cX8_mend 35 = .ok (.invokevirtual 169, 3) := by decide +kernel
theorem dX8_mend_38 : decode cX8_mend 38 = .ok (.aload_n 0, 1) := by decide +kernel
theorem dX8_mend_39 : decode cX8_mend 39 = .ok (.getfield 31, 3) := by decide +kernel
theorem dX8_mend_42 : decode cX8_mend 42 = .ok (.iload_n 1, 1) := by decide +kernel
theorem dX8_mend_43 : decode cX8_mend 43 = .ok (.invokevirtual 180, 3) := by decide +kernel
theorem dX8_mend_46 : decode cX8_mend 46 = .ok (.aload_n 0, 1) := by decide +kernel
theorem dX8_mend_47 : decode cX8_mend 47 = .ok (.getfield 31, 3) := by decide +kernel
theorem dX8_mend_50 : decode cX8_mend 50 = .ok (.getfield 128, 3) := by decide +kernel
theorem dX8_mend_53 : decode cX8_mend 53 = .ok (.invokestatic 183, 3) := by decide +kernel
theorem dX8_mend_56 : decode cX8_mend 56 = .ok (.ireturn, 1) := by decide +kernel
theorem dX8_drop_0 : decode cX8_drop 0 = .ok (.aload_n 0, 1) := by decide +kernel
theorem dX8_drop_1 : decode cX8_drop 1 = .ok (.getfield 23, 3) := by decide +kernel
theorem dX8_drop_4 : decode cX8_drop 4 = .ok (.iload_n 1, 1) := by decide +kernel
theorem dX8_drop_5 : decode cX8_drop 5 = .ok (.invokevirtual 151, 3) := by decide +kernel
theorem dX8_drop_8 : decode cX8_drop 8 = .ok (.ifCond .ne 5, 3) := by decide +kernel
theorem dX8_drop_11 : decode cX8_drop 11 = .ok (.iconst (-1), 1) := by decide +kernel
theorem dX8_drop_12 : decode cX8_drop 12 = .ok (.ireturn, 1) := by decide +kernel
theorem dX8_drop_13 : decode cX8_drop 13 = .ok (.aload_n 0, 1) := by decide +kernel
theorem dX8_drop_14 : decode cX8_drop 14 = .ok (.getfield 31, 3) := by decide +kernel
theorem dX8_drop_17 : decode cX8_drop 17 = .ok (.iload_n 1, 1) := by decide +kernel
theorem dX8_drop_18 : decode cX8_drop 18 = .ok (.invokevirtual 188, 3) := by decide +kernel
theorem dX8_drop_21 : decode cX8_drop 21 = .ok (.ifCond .ne 6, 3) := by decide +kernel
theorem dX8_drop_24 : decode cX8_drop 24 = .ok (.bipush (-3), 2) := by decide +kernel
theorem dX8_drop_26 : decode cX8_drop 26 = .ok (.ireturn, 1) := by decide +kernel
theorem dX8_drop_27 : decode cX8_drop 27 = .ok (.aload_n 0, 1) := by decide +kernel
theorem dX8_drop_28 : decode cX8_drop 28 = .ok (.getfield 38, 3) := by decide +kernel
theorem dX8_drop_31 : decode cX8_drop 31 = .ok (.aload_n 0, 1) := by decide +kernel
theorem dX8_drop_32 : decode cX8_drop 32 = .ok (.getfield 31, 3) := by decide +kernel
theorem dX8_drop_35 : decode cX8_drop 35 = .ok (.invokevirtual 169, 3) := by decide +kernel
theorem dX8_drop_38 : decode cX8_drop 38 = .ok (.aload_n 0, 1) := by decide +kernel
theorem dX8_drop_39 : decode cX8_drop 39 = .ok (.getfield 31, 3) := by decide +kernel
theorem dX8_drop_42 : decode cX8_drop 42 = .ok (.getfield 163, 3) := by decide +kernel
theorem dX8_drop_45 : decode cX8_drop 45 = .ok (.iload_n 1, 1) := by decide +kernel
theorem dX8_drop_46 : decode cX8_drop 46 = .ok (.iaload, 1) := by decide +kernel
theorem dX8_drop_47 : decode cX8_drop 47 = .ok (.istore_n 2, 1) := by decide +kernel
theorem dX8_drop_48 : decode cX8_drop 48 = .ok (.aload_n 0, 1) := by decide +kernel
theorem dX8_drop_49 : decode cX8_drop 49 = .ok (.getfield 31, 3) := by decide +kernel
theorem dX8_drop_52 : decode cX8_drop 52 = .ok (.iload_n 1, 1) := by decide +kernel
theorem dX8_drop_53 : decode cX8_drop 53 = .ok (.invokevirtual 191, 3) := by decide +kernel
theorem dX8_drop_56 : decode cX8_drop 56 = .ok (.iload_n 2, 1) := by decide +kernel
theorem dX8_drop_57 : decode cX8_drop 57 = .ok (.ireturn, 1) := by decide +kernel
theorem dX8_undo_0 : decode cX8_undo 0 = .ok (.aload_n 0, 1) := by decide +kernel
theorem dX8_undo_1 : decode cX8_undo 1 = .ok (.getfield 38, 3) := by decide +kernel
theorem dX8_undo_4 : decode cX8_undo 4 = .ok (.getfield 131, 3) := by decide +kernel
theorem dX8_undo_7 : decode cX8_undo 7 = .ok (.ifCond .ne 6, 3) := by decide +kernel
theorem dX8_undo_10 : decode cX8_undo 10 = .ok (.bipush (-3), 2) := by decide +kernel
theorem dX8_undo_12 : decode cX8_undo 12 = .ok (.ireturn, 1) := by decide +kernel
theorem dX8_undo_13 : decode cX8_undo 13 = .ok (.aload_n 0, 1) := by decide +kernel
theorem dX8_undo_14 : decode cX8_undo 14 = .ok (.getfield 38, 3) := by decide +kernel
theorem dX8_undo_17 : decode cX8_undo 17 = .ok (.aload_n 0, 1) := by decide +kernel
theorem dX8_undo_18 : decode cX8_undo 18 = .ok (.getfield 31, 3) := by decide +kernel
theorem dX8_undo_21 : decode cX8_undo 21 = .ok (.invokevirtual 194, 3) := by decide +kernel
theorem dX8_undo_24 : decode cX8_undo 24 = .ok (.aload_n 0, 1) := by decide +kernel
theorem dX8_undo_25 : decode cX8_undo 25 = .ok (.getfield 38, 3) := by decide +kernel
theorem dX8_undo_28 : decode cX8_undo 28 = .ok (.getfield 131, 3) := by decide +kernel
theorem dX8_undo_31 : decode cX8_undo 31 = .ok (.ireturn, 1) := by decide +kernel
theorem dX8_later_0 : decode cX8_later 0 = .ok (.iload_n 1, 1) := by decide +kernel
theorem dX8_later_1 : decode cX8_later 1 = .ok (.ifCond .lt 16, 3) := by decide +kernel
theorem dX8_later_4 : decode cX8_later 4 = .ok (.iload_n 1, 1) := by decide +kernel
theorem dX8_later_5 : decode cX8_later 5 = .ok (.bipush 40, 2) := by decide +kernel
theorem dX8_later_7 : decode cX8_later 7 = .ok (.if_icmp .gt 10, 3) := by decide +kernel
theorem dX8_later_10 : decode cX8_later 10 = .ok (.iload_n 2, 1) := by decide +kernel
theorem dX8_later_11 : decode cX8_later 11 = .ok (.invokestatic 197, 3) := by decide +kernel
theorem dX8_later_14 : decode cX8_later 14 = .ok (.ifCond .ne 6, 3) := by decide +kernel
theorem dX8_later_17 : decode cX8_later 17 = .ok (.bipush (-2), 2) := by decide +kernel
theorem dX8_later_19 : decode cX8_later 19 = .ok (.ireturn, 1) := by decide +kernel
theorem dX8_later_20 : decode cX8_later 20 = .ok (.iload_n 2, 1) := by decide +kernel
theorem dX8_later_21 : decode cX8_later 21 = .ok (.ifCond .ne 14, 3) := by decide +kernel
theorem dX8_later_24 : decode cX8_later 24 = .ok (.aload_n 0, 1) := by decide +kernel
theorem dX8_later_25 : decode cX8_later 25 = .ok (.getfield 74, 3) := by decide +kernel
theorem dX8_later_28 : decode cX8_later 28 = .ok (.iload_n 1, 1) := by decide +kernel
theorem dX8_later_29 : decode cX8_later 29 = .ok (.invokevirtual 200, 3) := by decide +kernel
theorem dX8_later_32 : decode cX8_later 32 = .ok (.goto 11, 3) := by decide +kernel
theorem dX8_later_35 : decode cX8_later 35 = .ok (.aload_n 0, 1) := by decide +kernel
theorem dX8_later_36 : decode cX8_later 36 = .ok (.getfield 74, 3) := by decide +kernel
theorem dX8_later_39 : decode cX8_later 39 = .ok (.iload_n 1, 1) := by decide +kernel
theorem dX8_later_40 : decode cX8_later 40 = .ok (.invokevirtual 203, 3) := by decide +kernel
theorem dX8_later_43 : decode cX8_later 43 = .ok (.ireturn, 1) := by decide +kernel
theorem dX8_out_0 : decode cX8_out 0 = .ok (.aload_n 0, 1) := by decide +kernel
theorem dX8_out_1 : decode cX8_out 1 = .ok (.getfield 74, 3) := by decide +kernel
theorem dX8_out_4 : decode cX8_out 4 = .ok (.invokevirtual 206, 3) := by decide +kernel
theorem dX8_out_7 : decode cX8_out 7 = .ok (.ireturn, 1) := by decide +kernel
theorem dX8_swap_0 : decode cX8_swap 0 = .ok (.iload_n 1, 1) := by decide +kernel
theorem dX8_swap_1 : decode cX8_swap 1 = .ok (.iconst 1, 1) := by decide +kernel
theorem dX8_swap_2 : decode cX8_swap 2 = .ok (.if_icmp .lt 16, 3) := by decide +kernel
theorem dX8_swap_5 : decode cX8_swap 5 = .ok (.iload_n 1, 1) := by decide +kernel
theorem dX8_swap_6 : decode cX8_swap 6 = .ok (.bipush 20, 2) := by decide +kernel
theorem dX8_swap_8 : decode cX8_swap 8 = .ok (.if_icmp .gt 10, 3) := by decide +kernel
theorem dX8_swap_11 : decode cX8_swap 11 = .ok (.iload_n 2, 1) := by decide +kernel
theorem dX8_swap_12 : decode cX8_swap 12 = .ok (.invokestatic 197, 3) := by decide +kernel
theorem dX8_swap_15 : decode cX8_swap 15 = .ok (.ifCond .ne 6, 3) := by decide +kernel
theorem dX8_swap_18 : decode cX8_swap 18 = .ok (.bipush (-2), 2) := by decide +kernel
theorem dX8_swap_20 : decode cX8_swap 20 = .ok (.ireturn, 1) := by decide +kernel
theorem dX8_swap_21 : decode cX8_swap 21 = .ok (.aload_n 0, 1) := by decide +kernel
theorem dX8_swap_22 : decode cX8_swap 22 = .ok (.getfield 67, 3) := by decide +kernel
theorem dX8_swap_25 : decode cX8_swap 25 = .ok (.iload_n 1, 1) := by decide +kernel
theorem dX8_swap_26 : decode cX8_swap 26 = .ok (.invokevirtual 209, 3) := by decide +kernel
theorem dX8_swap_29 : decode cX8_swap 29 = .ok (.iload_n 2, 1) := by decide +kernel
theorem dX8_swap_30 : decode cX8_swap 30 = .ok (.ifCond .ne 13, 3) := by decide +kernel
theorem dX8_swap_33 : decode cX8_swap 33 = .ok (.aload_n 0, 1) := by decide +kernel
theorem dX8_swap_34 : decode cX8_swap 34 = .ok (.getfield 67, 3) := by decide +kernel
theorem dX8_swap_37 : decode cX8_swap 37 = .ok (.getfield 212, 3) := by decide +kernel
theorem dX8_swap_40 : decode cX8_swap 40 = .ok (.goto 10, 3) := by decide +kernel
theorem dX8_swap_43 : decode cX8_swap 43 = .ok (.aload_n 0, 1) := by decide +kernel
theorem dX8_swap_44 : decode cX8_swap 44 = .ok (.getfield 67, 3) := by decide +kernel
theorem dX8_swap_47 : decode cX8_swap 47 = .ok (.getfield 215, 3) := by decide +kernel
theorem dX8_swap_50 : decode cX8_swap 50 = .ok (.ireturn, 1) := by decide +kernel
theorem dX8_line_0 : decode cX8_line 0 = .ok (.iload_n 1, 1) := by decide +kernel
theorem dX8_line_1 : decode cX8_line 1 = .ok (.iconst 1, 1) := by decide +kernel
theorem dX8_line_2 : decode cX8_line 2 = .ok (.if_icmp .lt 16, 3) := by decide +kernel
theorem dX8_line_5 : decode cX8_line 5 = .ok (.iload_n 1, 1) := by decide +kernel
theorem dX8_line_6 : decode cX8_line 6 = .ok (.bipush 20, 2) := by decide +kernel
theorem dX8_line_8 : decode cX8_line 8 = .ok (.if_icmp .gt 10, 3) := by decide +kernel
theorem dX8_line_11 : decode cX8_line 11 = .ok (.iload_n 2, 1) := by decide +kernel
theorem dX8_line_12 : decode cX8_line 12 = .ok (.invokestatic 197, 3) := by decide +kernel
theorem dX8_line_15 : decode cX8_line 15 = .ok (.ifCond .ne 6, 3) := by decide +kernel
theorem dX8_line_18 : decode cX8_line 18 = .ok (.bipush (-2), 2) := by decide +kernel
theorem dX8_line_20 : decode cX8_line 20 = .ok (.ireturn, 1) := by decide +kernel
theorem dX8_line_21 : decode cX8_line 21 = .ok (.aload_n 0, 1) := by decide +kernel
theorem dX8_line_22 : decode cX8_line 22 = .ok (.getfield 67, 3) := by decide +kernel
theorem dX8_line_25 : decode cX8_line 25 = .ok (.iload_n 1, 1) := by decide +kernel
theorem dX8_line_26 : decode cX8_line 26 = .ok (.invokevirtual 218, 3) := by decide +kernel
theorem dX8_line_29 : decode cX8_line 29 = .ok (.iload_n 2, 1) := by decide +kernel
theorem dX8_line_30 : decode cX8_line 30 = .ok (.ifCond .ne 13, 3) := by decide +kernel
theorem dX8_line_33 : decode cX8_line 33 = .ok (.aload_n 0, 1) := by decide +kernel
theorem dX8_line_34 : decode cX8_line 34 = .ok (.getfield 67, 3) := by decide +kernel
theorem dX8_line_37 : decode cX8_line 37 = .ok (.getfield 212, 3) := by decide +kernel
theorem dX8_line_40 : decode cX8_line 40 = .ok (.goto 10, 3) := by decide +kernel
theorem dX8_line_43 : decode cX8_line 43 = .ok (.aload_n 0, 1) := by decide +kernel
theorem dX8_line_44 : decode cX8_line 44 = .ok (.getfield 67, 3) := by decide +kernel
theorem dX8_line_47 : decode cX8_line 47 = .ok (.getfield 215, 3) := by decide +kernel
theorem dX8_line_50 : decode cX8_line 50 = .ok (.ireturn, 1) := by decide +kernel
theorem dX8_judge_0 : decode cX8_judge 0 = .ok (.iload_n 1, 1) := by decide +kernel
theorem dX8_judge_1 : decode cX8_judge 1 = .ok (.iconst 1, 1) := by decide +kernel
theorem dX8_judge_2 : decode cX8_judge 2 = .ok (.if_icmp .lt 14, 3) := by decide +kernel
theorem dX8_judge_5 : decode cX8_judge 5 = .ok (.iload_n 1, 1) := by decide +kernel
theorem dX8_judge_6 : decode cX8_judge 6 = .ok (.iconst 4, 1) := by decide +kernel
theorem dX8_judge_7 : decode cX8_judge 7 = .ok (.if_icmp .gt 9, 3) := by decide +kernel
theorem dX8_judge_10 : decode cX8_judge 10 = .ok (.lload_n 2, 1) := by decide +kernel
theorem dX8_judge_11 : decode cX8_judge 11 = .ok (.lconst 0, 1) := by decide +kernel
theorem dX8_judge_12 : decode cX8_judge 12 = .ok (.lcmp, 1) := by decide +kernel
theorem dX8_judge_13 : decode cX8_judge 13 = .ok (.ifCond .ge 6, 3) := by decide +kernel
theorem dX8_judge_16 : decode cX8_judge 16 = .ok (.bipush (-2), 2) := by decide +kernel
theorem dX8_judge_18 : decode cX8_judge 18 = .ok (.ireturn, 1) := by decide +kernel
theorem dX8_judge_19 : decode cX8_judge 19 = .ok (.lconst 1, 1) := by decide +kernel
theorem dX8_judge_20 : decode cX8_judge 20 = .ok (.lstore 4, 2) := by decide +kernel
theorem dX8_judge_22 : decode cX8_judge 22 = .ok (.iconst 0, 1) := by decide +kernel
theorem dX8_judge_23 : decode cX8_judge 23 = .ok (.istore 6, 2) := by decide +kernel
theorem dX8_judge_25 : decode cX8_judge 25 = .ok (.iload 6, 2) := by decide +kernel
theorem dX8_judge_27 : decode cX8_judge 27 = .ok (.iload_n 1, 1) := by decide +kernel
theorem dX8_judge_28 : decode cX8_judge 28 = .ok (.if_icmp .ge 17, 3) := by decide +kernel
theorem dX8_judge_31 : decode cX8_judge 31 = .ok (.lload 4, 2) := by decide +kernel
theorem dX8_judge_33 : decode cX8_judge 33 = .ok (.ldc2_w 221, 3) := by decide +kernel
theorem dX8_judge_36 : decode cX8_judge 36 = .ok (.lmul, 1) := by decide +kernel
theorem dX8_judge_37 : decode cX8_judge 37 = .ok (.lstore 4, 2) := by decide +kernel
theorem dX8_judge_39 : decode cX8_judge 39 = .ok (.iinc 6 1, 3) := by decide +kernel
theorem dX8_judge_42 : decode cX8_judge 42 = .ok (.goto (-17), 3) := by decide +kernel
theorem dX8_judge_45 : decode cX8_judge 45 = .ok (.lload_n 2, 1) := by decide +kernel
theorem dX8_judge_46 : decode cX8_judge 46 = .ok (.lload 4, 2) := by decide +kernel
theorem dX8_judge_48 : decode cX8_judge 48 = .ok (.lcmp, 1) := by decide +kernel
theorem dX8_judge_49 : decode cX8_judge 49 = .ok (.ifCond .ge 15, 3) := by decide +kernel
theorem dX8_judge_52 : decode cX8_judge 52 = .ok (.aload_n 0, 1) := by decide +kernel
theorem dX8_judge_53 : decode cX8_judge 53 = .ok (.getfield 74, 3) := by decide +kernel
theorem dX8_judge_56 : decode cX8_judge 56 = .ok (.iload_n 1, 1) := by decide +kernel
theorem dX8_judge_57 : decode cX8_judge 57 = .ok (.lload_n 2, 1) := by decide +kernel
theorem dX8_judge_58 : decode cX8_judge 58 = .ok (.invokevirtual 223, 3) := by decide +kernel
theorem dX8_judge_61 : decode cX8_judge 61 = .ok (.goto 5, 3) := by decide +kernel
theorem dX8_judge_64 : decode cX8_judge 64 = .ok (.bipush (-2), 2) := by decide +kernel
theorem dX8_judge_66 : decode cX8_judge 66 = .ok (.ireturn, 1) := by decide +kernel
theorem dX8_share_0 : decode cX8_share 0 = .ok (.aload_n 0, 1) := by decide +kernel
theorem dX8_share_1 : decode cX8_share 1 = .ok (.getfield 23, 3) := by decide +kernel
theorem dX8_share_4 : decode cX8_share 4 = .ok (.iload_n 1, 1) := by decide +kernel
theorem dX8_share_5 : decode cX8_share 5 = .ok (.invokevirtual 151, 3) := by decide +kernel
theorem dX8_share_8 : decode cX8_share 8 = .ok (.ifCond .ne 5, 3) := by decide +kernel
theorem dX8_share_11 : decode cX8_share 11 = .ok (.iconst (-1), 1) := by decide +kernel
theorem dX8_share_12 : decode cX8_share 12 = .ok (.ireturn, 1) := by decide +kernel
theorem dX8_share_13 : decode cX8_share 13 = .ok (.aload_n 0, 1) := by decide +kernel
theorem dX8_share_14 : decode cX8_share 14 = .ok (.getfield 74, 3) := by decide +kernel
theorem dX8_share_17 : decode cX8_share 17 = .ok (.iload_n 1, 1) := by decide +kernel
theorem dX8_share_18 : decode cX8_share 18 = .ok (.invokevirtual 227, 3) := by decide +kernel
theorem dX8_share_21 : decode cX8_share 21 = .ok (.aload_n 0, 1) := by decide +kernel
theorem dX8_share_22 : decode cX8_share 22 = .ok (.getfield 23, 3) := by decide +kernel
theorem dX8_share_25 : decode cX8_share 25 = .ok (.getfield 102, 3) := by decide +kernel
theorem dX8_share_28 : decode cX8_share 28 = .ok (.invokestatic 230, 3) := by decide +kernel
theorem dX8_share_31 : decode cX8_share 31 = .ok (.iload_n 2, 1) := by decide +kernel
theorem dX8_share_32 : decode cX8_share 32 = .ok (.invokestatic 233, 3) := by decide +kernel
theorem dX8_share_35 : decode cX8_share 35 = .ok (.ireturn, 1) := by decide +kernel
theorem dX8_see_0 : decode cX8_see 0 = .ok (.iload_n 1, 1) := by decide +kernel
theorem dX8_see_1 : decode cX8_see 1 = .ok (.ifCond .lt 26, 3) := by decide +kernel
theorem dX8_see_4 : decode cX8_see 4 = .ok (.iload_n 1, 1) := by decide +kernel
theorem dX8_see_5 : decode cX8_see 5 = .ok (.bipush 9, 2) := by decide +kernel
theorem dX8_see_7 : decode cX8_see 7 = .ok (.if_icmp .gt 20, 3) := by decide +kernel
theorem dX8_see_10 : decode cX8_see 10 = .ok (.iload_n 2, 1) := by decide +kernel
theorem dX8_see_11 : decode cX8_see 11 = .ok (.ifCond .lt 16, 3) := by decide +kernel
theorem dX8_see_14 : decode cX8_see 14 = .ok (.iload_n 2, 1) := by decide +kernel
theorem dX8_see_15 : decode cX8_see 15 = .ok (.bipush 99, 2) := by decide +kernel
theorem dX8_see_17 : decode cX8_see 17 = .ok (.if_icmp .gt 10, 3) := by decide +kernel
theorem dX8_see_20 : decode cX8_see 20 = .ok (.iload_n 3, 1) := by decide +kernel
theorem dX8_see_21 : decode cX8_see 21 = .ok (.invokestatic 197, 3) := by decide +kernel
theorem dX8_see_24 : decode cX8_see 24 = .ok (.ifCond .ne 6, 3) := by decide +kernel
theorem dX8_see_27 : decode cX8_see 27 = .ok (.bipush (-2), 2) := by decide +kernel
theorem dX8_see_29 : decode cX8_see 29 = .ok (.ireturn, 1) := by decide +kernel
theorem dX8_see_30 : decode cX8_see 30 = .ok (.aload_n 0, 1) := by decide +kernel
theorem dX8_see_31 : decode cX8_see 31 = .ok (.getfield 58, 3) := by decide +kernel
theorem dX8_see_34 : decode cX8_see 34 = .ok (.iload_n 1, 1) := by decide +kernel
theorem dX8_see_35 : decode cX8_see 35 = .ok (.iload_n 2, 1) := by decide +kernel
theorem dX8_see_36 : decode cX8_see 36 = .ok (.iload_n 3, 1) := by decide +kernel
theorem dX8_see_37 : decode cX8_see 37 = .ok (.invokevirtual 237, 3) := by decide +kernel
theorem dX8_see_40 : decode cX8_see 40 = .ok (.ifCond .eq 13, 3) := by decide +kernel
theorem dX8_see_43 : decode cX8_see 43 = .ok (.aload_n 0, 1) := by decide +kernel
theorem dX8_see_44 : decode cX8_see 44 = .ok (.getfield 58, 3) := by decide +kernel
theorem dX8_see_47 : decode cX8_see 47 = .ok (.getfield 134, 3) := by decide +kernel
theorem dX8_see_50 : decode cX8_see 50 = .ok (.goto 5, 3) := by decide +kernel
theorem dX8_see_53 : decode cX8_see 53 = .ok (.bipush (-4), 2) := by decide +kernel
theorem dX8_see_55 : decode cX8_see 55 = .ok (.ireturn, 1) := by decide +kernel
theorem dX8_unsee_0 : decode cX8_unsee 0 = .ok (.aload_n 0, 1) := by decide +kernel
theorem dX8_unsee_1 : decode cX8_unsee 1 = .ok (.getfield 58, 3) := by decide +kernel
theorem dX8_unsee_4 : decode cX8_unsee 4 = .ok (.getfield 134, 3) := by decide +kernel
theorem dX8_unsee_7 : decode cX8_unsee 7 = .ok (.istore_n 1, 1) := by decide +kernel
theorem dX8_unsee_8 : decode cX8_unsee 8 = .ok (.aload_n 0, 1) := by decide +kernel
theorem dX8_unsee_9 : decode cX8_unsee 9 = .ok (.getfield 58, 3) := by decide +kernel
theorem dX8_unsee_12 : decode cX8_unsee 12 = .ok (.iconst 0, 1) := by decide +kernel
theorem dX8_unsee_13 : decode cX8_unsee 13 = .ok (.putfield 134, 3) := by decide +kernel
theorem dX8_unsee_16 : decode cX8_unsee 16 = .ok (.iload_n 1, 1) := by decide +kernel
theorem dX8_unsee_17 : decode cX8_unsee 17 = .ok (.ireturn, 1) := by decide +kernel
theorem dX8_fires_0 : decode cX8_fires 0 = .ok (.iload_n 1, 1) := by decide +kernel
theorem dX8_fires_1 : decode cX8_fires 1 = .ok (.invokestatic 197, 3) := by decide +kernel
theorem dX8_fires_4 : decode cX8_fires 4 = .ok (.ifCond .ne 6, 3) := by decide +kernel
theorem dX8_fires_7 : decode cX8_fires 7 = .ok (.bipush (-2), 2) := by decide +kernel
theorem dX8_fires_9 : decode cX8_fires 9 = .ok (.ireturn, 1) := by decide +kernel
theorem dX8_fires_10 : decode cX8_fires 10 = .ok (.iload_n 1, 1) := by decide +kernel
theorem dX8_fires_11 : decode cX8_fires 11 = .ok (.ifCond .ne 13, 3) := by decide +kernel
theorem dX8_fires_14 : decode cX8_fires 14 = .ok (.aload_n 0, 1) := by decide +kernel
theorem dX8_fires_15 : decode cX8_fires 15 = .ok (.getfield 58, 3) := by decide +kernel
theorem dX8_fires_18 : decode cX8_fires 18 = .ok (.invokevirtual 241, 3) := by decide +kernel
theorem dX8_fires_21 : decode cX8_fires 21 = .ok (.goto 10, 3) := by decide +kernel
theorem dX8_fires_24 : decode cX8_fires 24 = .ok (.aload_n 0, 1) := by decide +kernel
theorem dX8_fires_25 : decode cX8_fires 25 = .ok (.getfield 58, 3) := by decide +kernel
theorem dX8_fires_28 : decode cX8_fires 28 = .ok (.invokevirtual 244, 3) := by decide +kernel
theorem dX8_fires_31 : decode cX8_fires 31 = .ok (.ireturn, 1) := by decide +kernel
theorem dX8_rests_0 : decode cX8_rests 0 = .ok (.aload_n 0, 1) := by decide +kernel
theorem dX8_rests_1 : decode cX8_rests 1 = .ok (.getfield 23, 3) := by decide +kernel
theorem dX8_rests_4 : decode cX8_rests 4 = .ok (.iload_n 1, 1) := by decide +kernel
theorem dX8_rests_5 : decode cX8_rests 5 = .ok (.invokevirtual 135, 3) := by decide +kernel
theorem dX8_rests_8 : decode cX8_rests 8 = .ok (.ifCond .eq 14, 3) := by decide +kernel
theorem dX8_rests_11 : decode cX8_rests 11 = .ok (.aload_n 0, 1) := by decide +kernel
theorem dX8_rests_12 : decode cX8_rests 12 = .ok (.getfield 23, 3) := by decide +kernel
theorem dX8_rests_15 : decode cX8_rests 15 = .ok (.iload_n 2, 1) := by decide +kernel
theorem dX8_rests_16 : decode cX8_rests 16 = .ok (.invokevirtual 135, 3) := by decide +kernel
theorem dX8_rests_19 : decode cX8_rests 19 = .ok (.ifCond .ne 5, 3) := by decide +kernel
theorem dX8_rests_22 : decode cX8_rests 22 = .ok (.iconst (-1), 1) := by decide +kernel
theorem dX8_rests_23 : decode cX8_rests 23 = .ok (.ireturn, 1) := by decide +kernel
theorem dX8_rests_24 : decode cX8_rests 24 = .ok (.iload_n 1, 1) := by decide +kernel
theorem dX8_rests_25 : decode cX8_rests 25 = .ok (.iload_n 2, 1) := by decide +kernel
theorem dX8_rests_26 : decode cX8_rests 26 = .ok (.if_icmp .eq 10, 3) := by decide +kernel
theorem dX8_rests_29 : decode cX8_rests 29 = .ok (.iload_n 3, 1) := by decide +kernel
theorem dX8_rests_30 : decode cX8_rests 30 = .ok (.invokestatic 197, 3) := by decide +kernel
theorem dX8_rests_33 : decode cX8_rests 33 = .ok (.ifCond .ne 6, 3) := by decide +kernel
theorem dX8_rests_36 : decode cX8_rests 36 = .ok (.bipush (-2), 2) := by decide +kernel
theorem dX8_rests_38 : decode cX8_rests 38 = .ok (.ireturn, 1) := by decide +kernel
theorem dX8_rests_39 : decode cX8_rests 39 = .ok (.aload_n 0, 1) := by decide +kernel
theorem dX8_rests_40 : decode cX8_rests 40 = .ok (.getfield 74, 3) := by decide +kernel
theorem dX8_rests_43 : decode cX8_rests 43 = .ok (.iload_n 1, 1) := by decide +kernel
theorem dX8_rests_44 : decode cX8_rests 44 = .ok (.iload_n 2, 1) := by decide +kernel
theorem dX8_rests_45 : decode cX8_rests 45 = .ok (.invokevirtual 247, 3) := by decide +kernel
theorem dX8_rests_48 : decode cX8_rests 48 = .ok (.istore 4, 2) := by decide +kernel
theorem dX8_rests_50 : decode cX8_rests 50 = .ok (.iload_n 3, 1) := by decide +kernel
theorem dX8_rests_51 : decode cX8_rests 51 = .ok (.ifCond .ne 9, 3) := by decide +kernel
theorem dX8_rests_54 : decode cX8_rests 54 = .ok (.iload 4, 2) := by decide +kernel
theorem dX8_rests_56 : decode cX8_rests 56 = .ok (.invokestatic 183, 3) := by decide +kernel
theorem dX8_rests_59 : decode cX8_rests 59 = .ok (.ireturn, 1) := by decide +kernel
theorem dX8_rests_60 : decode cX8_rests 60 = .ok (.iload 4, 2) := by decide +kernel
theorem dX8_rests_62 : decode cX8_rests 62 = .ok (.invokestatic 251, 3) := by decide +kernel
theorem dX8_rests_65 : decode cX8_rests 65 = .ok (.ireturn, 1) := by decide +kernel
theorem dX8_falls_0 : decode cX8_falls 0 = .ok (.iload_n 1, 1) := by decide +kernel
theorem dX8_falls_1 : decode cX8_falls 1 = .ok (.ifCond .lt 19, 3) := by decide +kernel
theorem dX8_falls_4 : decode cX8_falls 4 = .ok (.iload_n 1, 1) := by decide +kernel
theorem dX8_falls_5 : decode cX8_falls 5 = .ok (.bipush 99, 2) := by decide +kernel
theorem dX8_falls_7 : decode cX8_falls 7 = .ok (.if_icmp .gt 13, 3) := by decide +kernel
theorem dX8_falls_10 : decode cX8_falls 10 = .ok (.iload_n 2, 1) := by decide +kernel
theorem dX8_falls_11 : decode cX8_falls 11 = .ok (.ifCond .lt 9, 3) := by decide +kernel
theorem dX8_falls_14 : decode cX8_falls 14 = .ok (.iload_n 2, 1) := by decide +kernel
theorem dX8_falls_15 : decode cX8_falls 15 = .ok (.bipush 10, 2) := by decide +kernel
theorem dX8_falls_17 : decode cX8_falls 17 = .ok (.if_icmp .le 6, 3) := by decide +kernel
theorem dX8_falls_20 : decode cX8_falls 20 = .ok (.bipush (-2), 2) := by decide +kernel
theorem dX8_falls_22 : decode cX8_falls 22 = .ok (.ireturn, 1) := by decide +kernel
theorem dX8_falls_23 : decode cX8_falls 23 = .ok (.iconst 1, 1) := by decide +kernel
theorem dX8_falls_24 : decode cX8_falls 24 = .ok (.istore 4, 2) := by decide +kernel
theorem dX8_falls_26 : decode cX8_falls 26 = .ok (.iconst 0, 1) := by decide +kernel
theorem dX8_falls_27 : decode cX8_falls 27 = .ok (.istore 5, 2) := by decide +kernel
theorem dX8_falls_29 : decode cX8_falls 29 = .ok (.iload 5, 2) := by decide +kernel
theorem dX8_falls_31 : decode cX8_falls 31 = .ok (.iconst 4, 1) := by decide +kernel
theorem dX8_falls_32 : decode cX8_falls 32 = .ok (.if_icmp .ge 28, 3) := by decide +kernel
theorem dX8_falls_35 : decode cX8_falls 35 = .ok (.aload_n 0, 1) := by decide +kernel
theorem dX8_falls_36 : decode cX8_falls 36 = .ok (.getfield 31, 3) := by decide +kernel
theorem dX8_falls_39 : decode cX8_falls 39 = .ok (.iload 5, 2) := by decide +kernel
theorem dX8_falls_41 : decode cX8_falls 41 = .ok (.invokevirtual 188, 3) := by decide +kernel
theorem dX8_falls_44 : decode cX8_falls 44 = .ok (.ifCond .eq 10, 3) := by decide +kernel
theorem dX8_falls_47 : decode cX8_falls 47 = .ok (.iload 4, 2) := by decide +kernel
theorem dX8_falls_49 : decode cX8_falls 49 = .ok (.bipush 10, 2) := by decide +kernel
theorem dX8_falls_51 : decode cX8_falls 51 = .ok (.imul, 1) := by decide +kernel
theorem dX8_falls_52 : decode cX8_falls 52 = .ok (.istore 4, 2) := by decide +kernel
theorem dX8_falls_54 : decode cX8_falls 54 = .ok (.iinc 5 1, 3) := by decide +kernel
theorem dX8_falls_57 : decode cX8_falls 57 = .ok (.goto (-28), 3) := by decide +kernel
theorem dX8_falls_60 : decode cX8_falls 60 = .ok (.aload_n 0, 1) := by decide +kernel
theorem dX8_falls_61 : decode cX8_falls 61 = .ok (.getfield 74, 3) := by decide +kernel
theorem dX8_falls_64 : decode cX8_falls 64 = .ok (.iload_n 1, 1) := by decide +kernel
theorem dX8_falls_65 : decode cX8_falls 65 = .ok (.iload_n 2, 1) := by decide +kernel
theorem dX8_falls_66 : decode cX8_falls 66 = .ok (.invokevirtual 254, 3) := by decide +kernel
theorem dX8_falls_69 : decode cX8_falls 69 = .ok (.iload 4, 2) := by decide +kernel
theorem dX8_falls_71 : decode cX8_falls 71 = .ok (.iload_n 3, 1) := by decide +kernel
theorem dX8_falls_72 : decode cX8_falls 72 = .ok (.invokestatic 233, 3) := by decide +kernel
theorem dX8_falls_75 : decode cX8_falls 75 = .ok (.ireturn, 1) := by decide +kernel
theorem dX8_seed_0 : decode cX8_seed 0 = .ok (.aload_n 0, 1) := by decide +kernel
theorem dX8_seed_1 : decode cX8_seed 1 = .ok (.getfield 78, 3) := by decide +kernel
theorem dX8_seed_4 : decode cX8_seed 4 = .ok (.lstore_n 3, 1) := by decide +kernel
theorem dX8_seed_5 : decode cX8_seed 5 = .ok (.aload_n 0, 1) := by decide +kernel
theorem dX8_seed_6 : decode cX8_seed 6 = .ok (.lload_n 1, 1) := by decide +kernel
theorem dX8_seed_7 : decode cX8_seed 7 = .ok (.putfield 78, 3) := by decide +kernel
theorem dX8_seed_10 : decode cX8_seed 10 = .ok (.lload_n 3, 1) := by decide +kernel
theorem dX8_seed_11 : decode cX8_seed 11 = .ok (.lreturn, 1) := by decide +kernel
theorem dX8_nights_0 : decode cX8_nights 0 = .ok (.iload_n 1, 1) := by decide +kernel
theorem dX8_nights_1 : decode cX8_nights 1 = .ok (.iconst 1, 1) := by decide +kernel
theorem dX8_nights_2 : decode cX8_nights 2 = .ok (.if_icmp .lt 9, 3) := by decide +kernel
theorem dX8_nights_5 : decode cX8_nights 5 = .ok (.iload_n 1, 1) := by decide +kernel
theorem dX8_nights_6 : decode cX8_nights 6 = .ok (.bipush 30, 2) := by decide +kernel
theorem dX8_nights_8 : decode cX8_nights 8 = .ok (.if_icmp .le 6, 3) := by decide +kernel
theorem dX8_nights_11 : decode cX8_nights 11 = .ok (.bipush (-2), 2) := by decide +kernel
theorem dX8_nights_13 : decode cX8_nights 13 = .ok (.ireturn, 1) := by decide +kernel
theorem dX8_nights_14 : decode cX8_nights 14 = .ok (.iconst 0, 1) := by decide +kernel
theorem dX8_nights_15 : decode cX8_nights 15 = .ok (.istore_n 2, 1) := by decide +kernel
theorem dX8_nights_16 : decode cX8_nights 16 = .ok (.aload_n 0, 1) := by decide +kernel
theorem dX8_nights_17 : decode cX8_nights 17 = .ok (.getfield 74, 3) := by decide +kernel
theorem dX8_nights_20 : decode cX8_nights 20 = .ok (.invokevirtual 257, 3) := by decide +kernel
theorem dX8_nights_23 : decode cX8_nights 23 = .ok (.iconst 0, 1) := by decide +kernel
theorem dX8_nights_24 : decode cX8_nights 24 = .ok (.istore_n 3, 1) := by decide +kernel
theorem dX8_nights_25 : decode cX8_nights 25 = .ok (.iload_n 3, 1) := by decide +kernel
theorem dX8_nights_26 : decode cX8_nights 26 = .ok (.iload_n 1, 1) := by decide +kernel
theorem dX8_nights_27 : decode cX8_nights 27 = .ok (.if_icmp .ge 47, 3) := by decide +kernel
theorem dX8_nights_30 : decode cX8_nights 30 = .ok (.aload_n 0, 1) := by decide +kernel
theorem dX8_nights_31 : decode cX8_nights 31 = .ok (.aload_n 0, 1) := by decide +kernel
theorem dX8_nights_32 : decode cX8_nights 32 = .ok (.getfield 78, 3) := by decide +kernel
theorem dX8_nights_35 : decode cX8_nights 35 = .ok (.ldc2_w 260, 3) := by decide +kernel
theorem dX8_nights_38 : decode cX8_nights 38 = .ok (.lmul, 1) := by decide +kernel
theorem dX8_nights_39 : decode cX8_nights 39 = .ok (.ldc2_w 262, 3) := by decide +kernel
theorem dX8_nights_42 : decode cX8_nights 42 = .ok (.ladd, 1) := by decide +kernel
theorem dX8_nights_43 : decode cX8_nights 43 = .ok (.putfield 78, 3) := by decide +kernel
theorem dX8_nights_46 : decode cX8_nights 46 = .ok (.iload_n 2, 1) := by decide +kernel
theorem dX8_nights_47 : decode cX8_nights 47 = .ok (.aload_n 0, 1) := by decide +kernel
theorem dX8_nights_48 : decode cX8_nights 48 = .ok (.getfield 74, 3) := by decide +kernel
theorem dX8_nights_51 : decode cX8_nights 51 = .ok (.aload_n 0, 1) := by decide +kernel
theorem dX8_nights_52 : decode cX8_nights 52 = .ok (.getfield 78, 3) := by decide +kernel
theorem dX8_nights_55 : decode cX8_nights 55 = .ok (.bipush 33, 2) := by decide +kernel
theorem dX8_nights_57 : decode cX8_nights 57 = .ok (.lushr, 1) := by decide +kernel
theorem dX8_nights_58 : decode cX8_nights 58 = .ok (.ldc2_w 264, 3) := by decide +kernel
theorem dX8_nights_61 : decode cX8_nights 61 = .ok (.lrem, 1) := by decide +kernel
theorem dX8_nights_62 : decode cX8_nights 62 = .ok (.l2i, 1) := by decide +kernel
theorem dX8_nights_63 : decode cX8_nights 63 = .ok (.invokevirtual 266, 3) := by decide +kernel
theorem dX8_nights_66 : decode cX8_nights 66 = .ok (.iadd, 1) := by decide +kernel
theorem dX8_nights_67 : decode cX8_nights 67 = .ok (.istore_n 2, 1) := by decide +kernel
theorem dX8_nights_68 : decode cX8_nights 68 = .ok (.iinc 3 1, 3) := by decide +kernel
theorem dX8_nights_71 : decode cX8_nights 71 = .ok (.goto (-46), 3) := by decide +kernel
theorem dX8_nights_74 : decode cX8_nights 74 = .ok (.iload_n 2, 1) := by decide +kernel
theorem dX8_nights_75 : decode cX8_nights 75 = .ok (.ireturn, 1) := by decide +kernel
theorem dX8_keep_0 : decode cX8_keep 0 = .ok (.iload_n 1, 1) := by decide +kernel
theorem dX8_keep_1 : decode cX8_keep 1 = .ok (.ifCond .lt 8, 3) := by decide +kernel
theorem dX8_keep_4 : decode cX8_keep 4 = .ok (.iload_n 1, 1) := by decide +kernel
theorem dX8_keep_5 : decode cX8_keep 5 = .ok (.iconst 2, 1) := by decide +kernel
theorem dX8_keep_6 : decode cX8_keep 6 = .ok (.if_icmp .lt 5, 3) := by decide +kernel
theorem dX8_keep_9 : decode cX8_keep 9 = .ok (.iconst (-1), 1) := by decide +kernel
theorem dX8_keep_10 : decode cX8_keep 10 = .ok (.ireturn, 1) := by decide +kernel
theorem dX8_keep_11 : decode cX8_keep 11 = .ok (.aload_n 0, 1) := by decide +kernel
theorem dX8_keep_12 : decode cX8_keep 12 = .ok (.getfield 47, 3) := by decide +kernel
theorem dX8_keep_15 : decode cX8_keep 15 = .ok (.iload_n 1, 1) := by decide +kernel
theorem dX8_keep_16 : decode cX8_keep 16 = .ok (.aload_n 0, 1) := by decide +kernel
theorem dX8_keep_17 : decode cX8_keep 17 = .ok (.getfield 31, 3) := by decide +kernel
theorem dX8_keep_20 : decode cX8_keep 20 = .ok (.invokevirtual 269, 3) := by decide +kernel
theorem dX8_keep_23 : decode cX8_keep 23 = .ok (.aload_n 0, 1) := by decide +kernel
theorem dX8_keep_24 : decode cX8_keep 24 = .ok (.dup, 1) := by decide +kernel
theorem dX8_keep_25 : decode cX8_keep 25 = .ok (.getfield 51, 3) := by decide +kernel
theorem dX8_keep_28 : decode cX8_keep 28 = .ok (.iconst 1, 1) := by decide +kernel
theorem dX8_keep_29 : decode cX8_keep 29 = .ok (.iload_n 1, 1) := by decide +kernel
theorem dX8_keep_30 : decode cX8_keep 30 = .ok (.ishl, 1) := by decide +kernel
theorem dX8_keep_31 : decode cX8_keep 31 = .ok (.ior, 1) := by decide +kernel
theorem dX8_keep_32 : decode cX8_keep 32 = .ok (.putfield 51, 3) := by decide +kernel
theorem dX8_keep_35 : decode cX8_keep 35 = .ok (.aload_n 0, 1) := by decide +kernel
theorem dX8_keep_36 : decode cX8_keep 36 = .ok (.getfield 31, 3) := by decide +kernel
theorem dX8_keep_39 : decode cX8_keep 39 = .ok (.getfield 114, 3) := by decide +kernel
theorem dX8_keep_42 : decode cX8_keep 42 = .ok (.ireturn, 1) := by decide +kernel
theorem dX8_again_0 : decode cX8_again 0 = .ok (.iload_n 1, 1) := by decide +kernel
theorem dX8_again_1 : decode cX8_again 1 = .ok (.ifCond .lt 8, 3) := by decide +kernel
theorem dX8_again_4 : decode cX8_again 4 = .ok (.iload_n 1, 1) := by decide +kernel
theorem dX8_again_5 : decode cX8_again 5 = .ok (.iconst 2, 1) := by decide +kernel
theorem dX8_again_6 : decode cX8_again 6 = .ok (.if_icmp .lt 5, 3) := by decide +kernel
theorem dX8_again_9 : decode cX8_again 9 = .ok (.iconst (-1), 1) := by decide +kernel
theorem dX8_again_10 : decode cX8_again 10 = .ok (.ireturn, 1) := by decide +kernel
theorem dX8_again_11 : decode cX8_again 11 = .ok (.aload_n 0, 1) := by decide +kernel
theorem dX8_again_12 : decode cX8_again 12 = .ok (.getfield 51, 3) := by decide +kernel
theorem dX8_again_15 : decode cX8_again 15 = .ok (.iload_n 1, 1) := by decide +kernel
theorem dX8_again_16 : decode cX8_again 16 = .ok (.ishr, 1) := by decide +kernel
theorem dX8_again_17 : decode cX8_again 17 = .ok (.iconst 1, 1) := by decide +kernel
theorem dX8_again_18 : decode cX8_again 18 = .ok (.iand, 1) := by decide +kernel
theorem dX8_again_19 : decode cX8_again 19 = .ok (.ifCond .ne 6, 3) := by decide +kernel
theorem dX8_again_22 : decode cX8_again 22 = .ok (.bipush (-3), 2) := by decide +kernel
theorem dX8_again_24 : decode cX8_again 24 = .ok (.ireturn, 1) := by decide +kernel
theorem dX8_again_25 : decode cX8_again 25 = .ok (.aload_n 0, 1) := by decide +kernel
theorem dX8_again_26 : decode cX8_again 26 = .ok (.getfield 47, 3) := by decide +kernel
theorem dX8_again_29 : decode cX8_again 29 = .ok (.iload_n 1, 1) := by decide +kernel
theorem dX8_again_30 : decode cX8_again 30 = .ok (.aload_n 0, 1) := by decide +kernel
theorem dX8_again_31 : decode cX8_again 31 = .ok (.getfield 31, 3) := by decide +kernel
theorem dX8_again_34 : decode cX8_again 34 = .ok (.invokevirtual 273, 3) := by decide +kernel
theorem dX8_again_37 : decode cX8_again 37 = .ok (.aload_n 0, 1) := by decide +kernel
theorem dX8_again_38 : decode cX8_again 38 = .ok (.getfield 38, 3) := by decide +kernel
theorem dX8_again_41 : decode cX8_again 41 = .ok (.invokevirtual 96, 3) := by decide +kernel
theorem dX8_again_44 : decode cX8_again 44 = .ok (.aload_n 0, 1) := by decide +kernel
theorem dX8_again_45 : decode cX8_again 45 = .ok (.getfield 31, 3) := by decide +kernel
theorem dX8_again_48 : decode cX8_again 48 = .ok (.getfield 114, 3) := by decide +kernel
theorem dX8_again_51 : decode cX8_again 51 = .ok (.ireturn, 1) := by decide +kernel
theorem dX8_isZeroOrOne_0 : decode cX8_isZeroOrOne 0 = .ok (.iload_n 0, 1) := by decide +kernel
theorem dX8_isZeroOrOne_1 : decode cX8_isZeroOrOne 1 = .ok (.ifCond .eq 8, 3) := by decide +kernel
theorem dX8_isZeroOrOne_4 : decode cX8_isZeroOrOne 4 = .ok (.iload_n 0, 1) := by decide +kernel
theorem dX8_isZeroOrOne_5 : decode cX8_isZeroOrOne 5 = .ok (.iconst 1, 1) := by decide +kernel
theorem dX8_isZeroOrOne_6 : decode cX8_isZeroOrOne 6 = .ok (.if_icmp .ne 7, 3) := by decide +kernel
theorem dX8_isZeroOrOne_9 : decode cX8_isZeroOrOne 9 = .ok (.iconst 1, 1) := by decide +kernel
theorem dX8_isZeroOrOne_10 : decode cX8_isZeroOrOne 10 = .ok (.goto 4, 3) := by decide +kernel
theorem dX8_isZeroOrOne_13 : decode cX8_isZeroOrOne 13 = .ok (.iconst 0, 1) := by decide +kernel
theorem dX8_isZeroOrOne_14 : decode cX8_isZeroOrOne 14 = .ok (.ireturn, 1) := by decide +kernel
theorem dX8_factorial_0 : decode cX8_factorial 0 = .ok (.iconst 1, 1) := by decide +kernel
theorem dX8_factorial_1 : decode cX8_factorial 1 = .ok (.istore_n 1, 1) := by decide +kernel
theorem dX8_factorial_2 : decode cX8_factorial 2 = .ok (.iconst 2, 1) := by decide +kernel
theorem dX8_factorial_3 : decode cX8_factorial 3 = .ok (.istore_n 2, 1) := by decide +kernel
theorem dX8_factorial_4 : decode cX8_factorial 4 = .ok (.iload_n 2, 1) := by decide +kernel
theorem dX8_factorial_5 : decode cX8_factorial 5 = .ok (.iload_n 0, 1) := by decide +kernel
theorem dX8_factorial_6 : decode cX8_factorial 6 = .ok (.if_icmp .gt 18, 3) := by decide +kernel
theorem dX8_factorial_9 : decode cX8_factorial 9 = .ok (.iload_n 2, 1) := by decide +kernel
theorem dX8_factorial_10 : decode cX8_factorial 10 = .ok (.iconst 5, 1) := by decide +kernel
theorem dX8_factorial_11 : decode cX8_factorial 11 = .ok (.if_icmp .gt 13, 3) := by decide +kernel
theorem dX8_factorial_14 : decode cX8_factorial 14 = .ok (.iload_n 1, 1) := by decide +kernel
theorem dX8_factorial_15 : decode cX8_factorial 15 = .ok (.iload_n 2, 1) := by decide +kernel
theorem dX8_factorial_16 : decode cX8_factorial 16 = .ok (.imul, 1) := by decide +kernel
theorem dX8_factorial_17 : decode cX8_factorial 17 = .ok (.istore_n 1, 1) := by decide +kernel
theorem dX8_factorial_18 : decode cX8_factorial 18 = .ok (.iinc 2 1, 3) := by decide +kernel
theorem dX8_factorial_21 : decode cX8_factorial 21 = .ok (.goto (-17), 3) := by decide +kernel
theorem dX8_factorial_24 : decode cX8_factorial 24 = .ok (.iload_n 1, 1) := by decide +kernel
theorem dX8_factorial_25 : decode cX8_factorial 25 = .ok (.ireturn, 1) := by decide +kernel
theorem dX8_leastTerm_0 : decode cX8_leastTerm 0 = .ok (.iload_n 0, 1) := by decide +kernel
theorem dX8_leastTerm_1 : decode cX8_leastTerm 1 = .ok (.invokestatic 276, 3) := by decide +kernel
theorem dX8_leastTerm_4 : decode cX8_leastTerm 4 = .ok (.iload_n 1, 1) := by decide +kernel
theorem dX8_leastTerm_5 : decode cX8_leastTerm 5 = .ok (.invokestatic 281, 3) := by decide +kernel
theorem dX8_leastTerm_8 : decode cX8_leastTerm 8 = .ok (.istore_n 3, 1) := by decide +kernel
theorem dX8_leastTerm_9 : decode cX8_leastTerm 9 = .ok (.iload_n 3, 1) := by decide +kernel
theorem dX8_leastTerm_10 : decode cX8_leastTerm 10 = .ok (.ifCond .ne 5, 3) := by decide +kernel
theorem dX8_leastTerm_13 : decode cX8_leastTerm 13 = .ok (.iconst 0, 1) := by decide +kernel
theorem dX8_leastTerm_14 : decode cX8_leastTerm 14 = .ok (.ireturn, 1) := by decide +kernel
theorem dX8_leastTerm_15 : decode cX8_leastTerm 15 = .ok (.iload_n 2, 1) := by decide +kernel
theorem dX8_leastTerm_16 : decode cX8_leastTerm 16 = .ok (.ifCond .eq 9, 3) := by decide +kernel
theorem dX8_leastTerm_19 : decode cX8_leastTerm 19 = .ok (.iload_n 0, 1) := by decide +kernel
theorem dX8_leastTerm_20 : decode cX8_leastTerm 20 = .ok (.iload_n 3, 1) := by decide +kernel
theorem dX8_leastTerm_21 : decode cX8_leastTerm 21 = .ok (.idiv, 1) := by decide +kernel
theorem dX8_leastTerm_22 : decode cX8_leastTerm 22 = .ok (.goto 6, 3) := by decide +kernel
theorem dX8_leastTerm_25 : decode cX8_leastTerm 25 = .ok (.iload_n 1, 1) := by decide +kernel
theorem dX8_leastTerm_26 : decode cX8_leastTerm 26 = .ok (.iload_n 3, 1) := by decide +kernel
theorem dX8_leastTerm_27 : decode cX8_leastTerm 27 = .ok (.idiv, 1) := by decide +kernel
theorem dX8_leastTerm_28 : decode cX8_leastTerm 28 = .ok (.ireturn, 1) := by decide +kernel
theorem dX8_commonDivisor_0 : decode cX8_commonDivisor 0 = .ok (.iload_n 0, 1) := by decide +kernel
theorem dX8_commonDivisor_1 : decode cX8_commonDivisor 1 = .ok (.istore_n 2, 1) := by decide +kernel
theorem dX8_commonDivisor_2 : decode cX8_commonDivisor 2 = .ok (.iload_n 1, 1) := by decide +kernel
theorem dX8_commonDivisor_3 : decode cX8_commonDivisor 3 = .ok (.istore_n 3, 1) := by decide +kernel
theorem dX8_commonDivisor_4 : decode cX8_commonDivisor 4 = .ok (.iconst 0, 1) := by decide +kernel
theorem dX8_commonDivisor_5 : decode cX8_commonDivisor 5 = .ok (.istore 4, 2) := by decide +kernel
theorem dX8_commonDivisor_7 : decode cX8_commonDivisor 7 = .ok (.iload 4, 2) := by decide +kernel
theorem dX8_commonDivisor_9 : decode cX8_commonDivisor 9 = .ok (.bipush 64, 2) := by decide +kernel
theorem dX8_commonDivisor_11 : decode cX8_commonDivisor 11 = .ok (.if_icmp .ge 23, 3) := by decide +kernel
theorem dX8_commonDivisor_14 : decode cX8_commonDivisor 14 = .ok (.iload_n 3, 1) := by decide +kernel
theorem dX8_commonDivisor_15 : decode cX8_commonDivisor 15 = .ok (.ifCond .eq 19, 3) := by decide +kernel
theorem dX8_commonDivisor_18 : decode cX8_commonDivisor 18 = .ok (.iload_n 2, 1) := by decide +kernel
theorem dX8_commonDivisor_19 : decode cX8_commonDivisor 19 = .ok (.iload_n 3, 1) := by decide +kernel
theorem dX8_commonDivisor_20 : decode cX8_commonDivisor 20 = .ok (.irem, 1) := by decide +kernel
theorem dX8_commonDivisor_21 : decode cX8_commonDivisor 21 = .ok (.istore 5, 2) := by decide +kernel
theorem dX8_commonDivisor_23 : decode cX8_commonDivisor 23 = .ok (.iload_n 3, 1) := by decide +kernel
theorem dX8_commonDivisor_24 : decode cX8_commonDivisor 24 = .ok (.istore_n 2, 1) := by decide +kernel
theorem dX8_commonDivisor_25 : decode cX8_commonDivisor 25 = .ok (.iload 5, 2) := by decide +kernel
theorem dX8_commonDivisor_27 : decode cX8_commonDivisor 27 = .ok (.istore_n 3, 1) := by decide +kernel
theorem dX8_commonDivisor_28 : decode cX8_commonDivisor 28 = .ok (.iinc 4 1, 3) := by decide +kernel
theorem dX8_commonDivisor_31 : decode cX8_commonDivisor 31 = .ok (.goto (-24), 3) := by decide +kernel
theorem dX8_commonDivisor_34 : decode cX8_commonDivisor 34 = .ok (.iload_n 2, 1) := by decide +kernel
theorem dX8_commonDivisor_35 : decode cX8_commonDivisor 35 = .ok (.ireturn, 1) := by decide +kernel
theorem dX8_firstPair_0 : decode cX8_firstPair 0 = .ok (.iconst 0, 1) := by decide +kernel
theorem dX8_firstPair_1 : decode cX8_firstPair 1 = .ok (.istore_n 1, 1) := by decide +kernel
theorem dX8_firstPair_2 : decode cX8_firstPair 2 = .ok (.iload_n 1, 1) := by decide +kernel
theorem dX8_firstPair_3 : decode cX8_firstPair 3 = .ok (.iconst 4, 1) := by decide +kernel
theorem dX8_firstPair_4 : decode cX8_firstPair 4 = .ok (.if_icmp .ge 29, 3) := by decide +kernel
theorem dX8_firstPair_7 : decode cX8_firstPair 7 = .ok (.iload_n 0, 1) := by decide +kernel
theorem dX8_firstPair_8 : decode cX8_firstPair 8 = .ok (.iload_n 1, 1) := by decide +kernel
theorem dX8_firstPair_9 : decode cX8_firstPair 9 = .ok (.ishr, 1) := by decide +kernel
theorem dX8_firstPair_10 : decode cX8_firstPair 10 = .ok (.iconst 1, 1) := by decide +kernel
theorem dX8_firstPair_11 : decode cX8_firstPair 11 = .ok (.iand, 1) := by decide +kernel
theorem dX8_firstPair_12 : decode cX8_firstPair 12 = .ok (.iconst 1, 1) := by decide +kernel
theorem dX8_firstPair_13 : decode cX8_firstPair 13 = .ok (.if_icmp .ne 14, 3) := by decide +kernel
theorem dX8_firstPair_16 : decode cX8_firstPair 16 = .ok (.bipush 10, 2) := by decide +kernel
theorem dX8_firstPair_18 : decode cX8_firstPair 18 = .ok (.iload_n 1, 1) := by decide +kernel
theorem dX8_firstPair_19 : decode cX8_firstPair 19 = .ok (.iconst 1, 1) := by decide +kernel
theorem dX8_firstPair_20 : decode cX8_firstPair 20 = .ok (.ishr, 1) := by decide +kernel
theorem dX8_firstPair_21 : decode cX8_firstPair 21 = .ok (.imul, 1) := by decide +kernel
theorem dX8_firstPair_22 : decode cX8_firstPair 22 = .ok (.iload_n 1, 1) := by decide +kernel
theorem dX8_firstPair_23 : decode cX8_firstPair 23 = .ok (.iconst 1, 1) := by decide +kernel
theorem dX8_firstPair_24 : decode cX8_firstPair 24 = .ok (.iand, 1) := by decide +kernel
theorem dX8_firstPair_25 : decode cX8_firstPair 25 = .ok (.iadd, 1) := by decide +kernel
theorem dX8_firstPair_26 : decode cX8_firstPair 26 = .ok (.ireturn, 1) := by decide +kernel
theorem dX8_firstPair_27 : decode cX8_firstPair 27 = .ok (.iinc 1 1, 3) := by decide +kernel
theorem dX8_firstPair_30 : decode cX8_firstPair 30 = .ok (.goto (-28), 3) := by decide +kernel
theorem dX8_firstPair_33 : decode cX8_firstPair 33 = .ok (.bipush (-9), 2) := by decide +kernel
theorem dX8_firstPair_35 : decode cX8_firstPair 35 = .ok (.ireturn, 1) := by decide +kernel
