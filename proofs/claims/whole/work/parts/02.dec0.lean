theorem dX0_init_0 : decode cX0_init 0 = .ok (.aload_n 0, 1) := by decide +kernel
theorem dX0_init_1 : decode cX0_init 1 = .ok (.invokespecial 3, 3) := by decide +kernel
theorem dX0_init_4 : decode cX0_init 4 = .ok (.aload_n 0, 1) := by decide +kernel
theorem dX0_init_5 : decode cX0_init 5 = .ok (.new 9, 3) := by decide +kernel
theorem dX0_init_8 : decode cX0_init 8 = .ok (.dup, 1) := by decide +kernel
theorem dX0_init_9 : decode cX0_init 9 = .ok (.bipush 14, 2) := by decide +kernel
theorem dX0_init_11 : decode cX0_init 11 = .ok (.invokespecial 11, 3) := by decide +kernel
theorem dX0_init_14 : decode cX0_init 14 = .ok (.putfield 14, 3) := by decide +kernel
theorem dX0_init_17 : decode cX0_init 17 = .ok (.aload_n 0, 1) := by decide +kernel
theorem dX0_init_18 : decode cX0_init 18 = .ok (.iconst 0, 1) := by decide +kernel
theorem dX0_init_19 : decode cX0_init 19 = .ok (.putfield 20, 3) := by decide +kernel
theorem dX0_init_22 : decode cX0_init 22 = .ok (.aload_n 0, 1) := by decide +kernel
theorem dX0_init_23 : decode cX0_init 23 = .ok (.iconst 0, 1) := by decide +kernel
theorem dX0_init_24 : decode cX0_init 24 = .ok (.putfield 24, 3) := by decide +kernel
theorem dX0_init_27 : decode cX0_init 27 = .ok (.return_, 1) := by decide +kernel
theorem dX0_clear_0 : decode cX0_clear 0 = .ok (.aload_n 0, 1) := by decide +kernel
theorem dX0_clear_1 : decode cX0_clear 1 = .ok (.iconst 0, 1) := by decide +kernel
theorem dX0_clear_2 : decode cX0_clear 2 = .ok (.putfield 20, 3) := by decide +kernel
theorem dX0_clear_5 : decode cX0_clear 5 = .ok (.aload_n 0, 1) := by decide +kernel
theorem dX0_clear_6 : decode cX0_clear 6 = .ok (.iconst 0, 1) := by decide +kernel
theorem dX0_clear_7 : decode cX0_clear 7 = .ok (.putfield 24, 3) := by decide +kernel
theorem dX0_clear_10 : decode cX0_clear 10 = .ok (.return_, 1) := by decide +kernel
theorem dX0_remember_0 : decode cX0_remember 0 = .ok (.aload_n 0, 1) := by decide +kernel
theorem dX0_remember_1 : decode cX0_remember 1 = .ok (.getfield 14, 3) := by decide +kernel
theorem dX0_remember_4 : decode cX0_remember 4 = .ok (.aload_n 0, 1) := by decide +kernel
theorem dX0_remember_5 : decode cX0_remember 5 = .ok (.getfield 20, 3) := by decide +kernel
theorem dX0_remember_8 : decode cX0_remember 8 = .ok (.aload_n 0, 1) := by decide +kernel
theorem dX0_remember_9 : decode cX0_remember 9 = .ok (.getfield 24, 3) := by decide +kernel
theorem dX0_remember_12 : decode cX0_remember 12 = .ok (.iadd, 1) := by decide +kernel
theorem dX0_remember_13 : decode cX0_remember 13 = .ok (.bipush 14, 2) := by decide +kernel
theorem dX0_remember_15 : decode cX0_remember 15 = .ok (.irem, 1) := by decide +kernel
theorem dX0_remember_16 : decode cX0_remember 16 = .ok (.aload_n 1, 1) := by decide +kernel
theorem dX0_remember_17 : decode cX0_remember 17 = .ok (.invokevirtual 27, 3) := by decide +kernel
theorem dX0_remember_20 : decode cX0_remember 20 = .ok (.aload_n 0, 1) := by decide +kernel
theorem dX0_remember_21 : decode cX0_remember 21 = .ok (.getfield 24, 3) := by decide +kernel
theorem dX0_remember_24 : decode cX0_remember 24 = .ok (.bipush 14, 2) := by decide +kernel
theorem dX0_remember_26 : decode cX0_remember 26 = .ok (.if_icmp .ge 16, 3) := by decide +kernel
theorem dX0_remember_29 : decode cX0_remember 29 = .ok (.aload_n 0, 1) := by decide +kernel
theorem dX0_remember_30 : decode cX0_remember 30 = .ok (.dup, 1) := by decide +kernel
theorem dX0_remember_31 : decode cX0_remember 31 = .ok (.getfield 24, 3) := by decide +kernel
theorem dX0_remember_34 : decode cX0_remember 34 = .ok (.iconst 1, 1) := by decide +kernel
theorem dX0_remember_35 : decode cX0_remember 35 = .ok (.iadd, 1) := by decide +kernel
theorem dX0_remember_36 : decode cX0_remember 36 = .ok (.putfield 24, 3) := by decide +kernel
theorem dX0_remember_39 : decode cX0_remember 39 = .ok (.goto 16, 3) := by decide +kernel
theorem dX0_remember_42 : decode cX0_remember 42 = .ok (.aload_n 0, 1) := by decide +kernel
theorem dX0_remember_43 : decode cX0_remember 43 = .ok (.aload_n 0, 1) := by decide +kernel
theorem dX0_remember_44 : decode cX0_remember 44 = .ok (.getfield 20, 3) := by decide +kernel
theorem dX0_remember_47 : decode cX0_remember 47 = .ok (.iconst 1, 1) := by decide +kernel
theorem dX0_remember_48 : decode cX0_remember 48 = .ok (.iadd, 1) := by decide +kernel
theorem dX0_remember_49 : decode cX0_remember 49 = .ok (.bipush 14, 2) := by decide +kernel
theorem dX0_remember_51 : decode cX0_remember 51 = .ok (.irem, 1) := by decide +kernel
theorem dX0_remember_52 : decode cX0_remember 52 = .ok (.putfield 20, 3) := by decide +kernel
theorem dX0_remember_55 : decode cX0_remember 55 = .ok (.return_, 1) := by decide +kernel
theorem dX0_takeBack_0 : decode cX0_takeBack 0 = .ok (.aload_n 0, 1) := by decide +kernel
theorem dX0_takeBack_1 : decode cX0_takeBack 1 = .ok (.getfield 24, 3) := by decide +kernel
theorem dX0_takeBack_4 : decode cX0_takeBack 4 = .ok (.ifCond .gt 4, 3) := by decide +kernel
theorem dX0_takeBack_7 : decode cX0_takeBack 7 = .ok (.return_, 1) := by decide +kernel
theorem dX0_takeBack_8 : decode cX0_takeBack 8 = .ok (.aload_n 0, 1) := by decide +kernel
theorem dX0_takeBack_9 : decode cX0_takeBack 9 = .ok (.dup, 1) := by decide +kernel
theorem dX0_takeBack_10 : decode cX0_takeBack 10 = .ok (.getfield 24, 3) := by decide +kernel
theorem dX0_takeBack_13 : decode cX0_takeBack 13 = .ok (.iconst 1, 1) := by decide +kernel
theorem dX0_takeBack_14 : decode cX0_takeBack 14 = .ok (.isub, 1) := by decide +kernel
theorem dX0_takeBack_15 : decode cX0_takeBack 15 = .ok (.putfield 24, 3) := by decide +kernel
theorem dX0_takeBack_18 : decode cX0_takeBack 18 = .ok (.aload_n 0, 1) := by decide +kernel
theorem dX0_takeBack_19 : decode cX0_takeBack 19 = .ok (.getfield 14, 3) := by decide +kernel
theorem dX0_takeBack_22 : decode cX0_takeBack 22 = .ok (.aload_n 0, 1) := by decide +kernel
theorem dX0_takeBack_23 : decode cX0_takeBack 23 = .ok (.getfield 20, 3) := by decide +kernel
theorem dX0_takeBack_26 : decode cX0_takeBack 26 = .ok (.aload_n 0, 1) := by decide +kernel
theorem dX0_takeBack_27 : decode cX0_takeBack 27 = .ok (.getfield 24, 3) := by decide +kernel
theorem dX0_takeBack_30 : decode cX0_takeBack 30 = .ok (.iadd, 1) := by decide +kernel
theorem dX0_takeBack_31 : decode cX0_takeBack 31 = .ok (.bipush 14, 2) := by decide +kernel
theorem dX0_takeBack_33 : decode cX0_takeBack 33 = .ok (.irem, 1) := by decide +kernel
theorem dX0_takeBack_34 : decode cX0_takeBack 34 = .ok (.aload_n 1, 1) := by decide +kernel
theorem dX0_takeBack_35 : decode cX0_takeBack 35 = .ok (.invokevirtual 31, 3) := by decide +kernel
theorem dX0_takeBack_38 : decode cX0_takeBack 38 = .ok (.return_, 1) := by decide +kernel
theorem dX1_init_0 : decode cX1_init 0 = .ok (.aload_n 0, 1) := by decide +kernel
theorem dX1_init_1 : decode cX1_init 1 = .ok (.invokespecial 3, 3) := by decide +kernel
theorem dX1_init_4 : decode cX1_init 4 = .ok (.aload_n 0, 1) := by decide +kernel
theorem dX1_init_5 : decode cX1_init 5 = .ok (.aload_n 1, 1) := by decide +kernel
theorem dX1_init_6 : decode cX1_init 6 = .ok (.putfield 9, 3) := by decide +kernel
theorem dX1_init_9 : decode cX1_init 9 = .ok (.aload_n 0, 1) := by decide +kernel
theorem dX1_init_10 : decode cX1_init 10 = .ok (.aload_n 2, 1) := by decide +kernel
theorem dX1_init_11 : decode cX1_init 11 = .ok (.putfield 15, 3) := by decide +kernel
theorem dX1_init_14 : decode cX1_init 14 = .ok (.aload_n 0, 1) := by decide +kernel
theorem dX1_init_15 : decode cX1_init 15 = .ok (.aload_n 3, 1) := by decide +kernel
theorem dX1_init_16 : decode cX1_init 16 = .ok (.putfield 19, 3) := by decide +kernel
theorem dX1_init_19 : decode cX1_init 19 = .ok (.return_, 1) := by decide +kernel
theorem dX1_begin_0 : decode cX1_begin 0 = .ok (.aload_n 0, 1) := by decide +kernel
theorem dX1_begin_1 : decode cX1_begin 1 = .ok (.getfield 19, 3) := by decide +kernel
theorem dX1_begin_4 : decode cX1_begin 4 = .ok (.aload_n 0, 1) := by decide +kernel
theorem dX1_begin_5 : decode cX1_begin 5 = .ok (.getfield 15, 3) := by decide +kernel
theorem dX1_begin_8 : decode cX1_begin 8 = .ok (.invokevirtual 22, 3) := by decide +kernel
theorem dX1_begin_11 : decode cX1_begin 11 = .ok (.return_, 1) := by decide +kernel
theorem dX1_fireIn_0 : decode cX1_fireIn 0 = .ok (.aload_n 0, 1) := by decide +kernel
theorem dX1_fireIn_1 : decode cX1_fireIn 1 = .ok (.invokevirtual 28, 3) := by decide +kernel
theorem dX1_fireIn_4 : decode cX1_fireIn 4 = .ok (.aload_n 0, 1) := by decide +kernel
theorem dX1_fireIn_5 : decode cX1_fireIn 5 = .ok (.getfield 19, 3) := by decide +kernel
theorem dX1_fireIn_8 : decode cX1_fireIn 8 = .ok (.iload_n 1, 1) := by decide +kernel
theorem dX1_fireIn_9 : decode cX1_fireIn 9 = .ok (.invokevirtual 31, 3) := by decide +kernel
theorem dX1_fireIn_12 : decode cX1_fireIn 12 = .ok (.pop, 1) := by decide +kernel
theorem dX1_fireIn_13 : decode cX1_fireIn 13 = .ok (.aload_n 0, 1) := by decide +kernel
theorem dX1_fireIn_14 : decode cX1_fireIn 14 = .ok (.getfield 19, 3) := by decide +kernel
theorem dX1_fireIn_17 : decode cX1_fireIn 17 = .ok (.getfield 35, 3) := by decide +kernel
theorem dX1_fireIn_20 : decode cX1_fireIn 20 = .ok (.ireturn, 1) := by decide +kernel
theorem dX1_thrownIn_0 : decode cX1_thrownIn 0 = .ok (.aload_n 0, 1) := by decide +kernel
theorem dX1_thrownIn_1 : decode cX1_thrownIn 1 = .ok (.invokevirtual 28, 3) := by decide +kernel
theorem dX1_thrownIn_4 : decode cX1_thrownIn 4 = .ok (.aload_n 0, 1) := by decide +kernel
theorem dX1_thrownIn_5 : decode cX1_thrownIn 5 = .ok (.getfield 19, 3) := by decide +kernel
theorem dX1_thrownIn_8 : decode cX1_thrownIn 8 = .ok (.iload_n 1, 1) := by decide +kernel
theorem dX1_thrownIn_9 : decode cX1_thrownIn 9 = .ok (.invokevirtual 31, 3) := by decide +kernel
theorem dX1_thrownIn_12 : decode cX1_thrownIn 12 = .ok (.pop, 1) := by decide +kernel
theorem dX1_thrownIn_13 : decode cX1_thrownIn 13 = .ok (.aload_n 0, 1) := by decide +kernel
theorem dX1_thrownIn_14 : decode cX1_thrownIn 14 = .ok (.getfield 19, 3) := by decide +kernel
theorem dX1_thrownIn_17 : decode cX1_thrownIn 17 = .ok (.getfield 39, 3) := by decide +kernel
theorem dX1_thrownIn_20 : decode cX1_thrownIn 20 = .ok (.ireturn, 1) := by decide +kernel
theorem dX1_beatsUntilOut_0 : decode cX1_beatsUntilOut 0 = .ok (.aload_n 0, 1) := by decide +kernel
theorem dX1_beatsUntilOut_1 : decode cX1_beatsUntilOut 1 = .ok (.invokevirtual 28, 3) := by decide +kernel
theorem dX1_beatsUntilOut_4 : decode cX1_beatsUntilOut 4 = .ok (.iconst 0, 1) := by decide +kernel
theorem dX1_beatsUntilOut_5 : decode cX1_beatsUntilOut 5 = .ok (.istore_n 1, 1) := by decide +kernel
theorem dX1_beatsUntilOut_6 : decode cX1_beatsUntilOut 6 = .ok (.iload_n 1, 1) := by decide +kernel
theorem dX1_beatsUntilOut_7 : decode cX1_beatsUntilOut 7 = .ok (.bipush 60, 2) := by decide +kernel
theorem dX1_beatsUntilOut_9 : decode cX1_beatsUntilOut 9 = .ok (.if_icmp .gt 29, 3) := by decide +kernel
theorem dX1_beatsUntilOut_12 : decode cX1_beatsUntilOut 12 = .ok (.aload_n 0, 1) := by decide +kernel
theorem dX1_beatsUntilOut_13 : decode cX1_beatsUntilOut 13 = .ok (.getfield 19, 3) := by decide +kernel
theorem dX1_beatsUntilOut_16 : decode cX1_beatsUntilOut 16 = .ok (.getfield 35, 3) := by decide +kernel
theorem dX1_beatsUntilOut_19 : decode cX1_beatsUntilOut 19 = .ok (.ifCond .ne 5, 3) := by decide +kernel
theorem dX1_beatsUntilOut_22 : decode cX1_beatsUntilOut 22 = .ok (.iload_n 1, 1) := by decide +kernel
theorem dX1_beatsUntilOut_23 : decode cX1_beatsUntilOut 23 = .ok (.ireturn, 1) := by decide +kernel
theorem dX1_beatsUntilOut_24 : decode cX1_beatsUntilOut 24 = .ok (.aload_n 0, 1) := by decide +kernel
theorem dX1_beatsUntilOut_25 : decode cX1_beatsUntilOut 25 = .ok (.getfield 19, 3) := by decide +kernel
theorem dX1_beatsUntilOut_28 : decode cX1_beatsUntilOut 28 = .ok (.invokevirtual 42, 3) := by decide +kernel
theorem dX1_beatsUntilOut_31 : decode cX1_beatsUntilOut 31 = .ok (.pop, 1) := by decide +kernel
theorem dX1_beatsUntilOut_32 : decode cX1_beatsUntilOut 32 = .ok (.iinc 1 1, 3) := by decide +kernel
theorem dX1_beatsUntilOut_35 : decode cX1_beatsUntilOut 35 = .ok (.goto (-29), 3) := by decide +kernel
theorem dX1_beatsUntilOut_38 : decode cX1_beatsUntilOut 38 = .ok (.bipush (-9), 2) := by decide +kernel
theorem dX1_beatsUntilOut_40 : decode cX1_beatsUntilOut 40 = .ok (.ireturn, 1) := by decide +kernel
theorem dX1_firstWrongDoing_0 : decode cX1_firstWrongDoing 0 = .ok (.aload_n 0, 1) := by decide +kernel
theorem dX1_firstWrongDoing_1 : decode cX1_firstWrongDoing 1 = .ok (.invokevirtual 28, 3) := by decide +kernel
theorem dX1_firstWrongDoing_4 : decode cX1_firstWrongDoing 4 = .ok (.iconst 0, 1) := by decide +kernel
theorem dX1_firstWrongDoing_5 : decode cX1_firstWrongDoing 5 = .ok (.istore 4, 2) := by decide +kernel
theorem dX1_firstWrongDoing_7 : decode cX1_firstWrongDoing 7 = .ok (.iload 4, 2) := by decide +kernel
theorem dX1_firstWrongDoing_9 : decode cX1_firstWrongDoing 9 = .ok (.iload_n 1, 1) := by decide +kernel
theorem dX1_firstWrongDoing_10 : decode cX1_firstWrongDoing 10 = .ok (.if_icmp .ge 78, 3) := by decide +kernel
theorem dX1_firstWrongDoing_13 : decode cX1_firstWrongDoing 13 = .ok (.lload_n 2, 1) := by decide +kernel
theorem dX1_firstWrongDoing_14 : decode cX1_firstWrongDoing 14 = .ok (.lstore 5, 2) := by decide +kernel
theorem dX1_firstWrongDoing_16 : decode cX1_firstWrongDoing 16 = .ok (.iload 4, 2) := by decide +kernel
theorem dX1_firstWrongDoing_18 : decode cX1_firstWrongDoing 18 = .ok (.iconst 1, 1) := by decide +kernel
theorem dX1_firstWrongDoing_19 : decode cX1_firstWrongDoing 19 = .ok (.iadd, 1) := by decide +kernel
theorem dX1_firstWrongDoing_20 : decode cX1_firstWrongDoing 20 = .ok (.istore 7, 2) := by decide +kernel
theorem dX1_firstWrongDoing_22 : decode cX1_firstWrongDoing 22 = .ok (.iload 7, 2) := by decide +kernel
theorem dX1_firstWrongDoing_24 : decode cX1_firstWrongDoing 24 = .ok (.iload_n 1, 1) := by decide +kernel
theorem dX1_firstWrongDoing_25 : decode cX1_firstWrongDoing 25 = .ok (.if_icmp .ge 17, 3) := by decide +kernel
theorem dX1_firstWrongDoing_28 : decode cX1_firstWrongDoing 28 = .ok (.lload 5, 2) := by decide +kernel
theorem dX1_firstWrongDoing_30 : decode cX1_firstWrongDoing 30 = .ok (.ldc2_w 46, 3) := by decide +kernel
theorem dX1_firstWrongDoing_33 : decode cX1_firstWrongDoing 33 = .ok (.ldiv, 1) := by decide +kernel
theorem dX1_firstWrongDoing_34 : decode cX1_firstWrongDoing 34 = .ok (.lstore 5, 2) := by decide +kernel
theorem dX1_firstWrongDoing_36 : decode cX1_firstWrongDoing 36 = .ok (.iinc 7 1, 3) := by decide +kernel
theorem dX1_firstWrongDoing_39 : decode cX1_firstWrongDoing 39 = .ok (.goto (-17), 3) := by decide +kernel
theorem dX1_firstWrongDoing_42 : decode cX1_firstWrongDoing 42 = .ok (.lload 5, 2) := by decide +kernel
theorem dX1_firstWrongDoing_44 : decode cX1_firstWrongDoing 44 = .ok (.ldc2_w 46, 3) := by decide +kernel
theorem dX1_firstWrongDoing_47 : decode cX1_firstWrongDoing 47 = .ok (.lrem, 1) := by decide +kernel
theorem dX1_firstWrongDoing_48 : decode cX1_firstWrongDoing 48 = .ok (.l2i, 1) := by decide +kernel
theorem dX1_firstWrongDoing_49 : decode cX1_firstWrongDoing 49 = .ok (.istore 7, 2) := by decide +kernel
theorem dX1_firstWrongDoing_51 : decode cX1_firstWrongDoing 51 = .ok (.aload_n 0, 1) := by decide +kernel
theorem dX1_firstWrongDoing_52 : decode cX1_firstWrongDoing 52 = .ok (.getfield 19, 3) := by decide +kernel
theorem dX1_firstWrongDoing_55 : decode cX1_firstWrongDoing 55 = .ok (.iload 7, 2) := by decide +kernel
theorem dX1_firstWrongDoing_57 : decode cX1_firstWrongDoing 57 = .ok (.bipush 100, 2) := by decide +kernel
theorem dX1_firstWrongDoing_59 : decode cX1_firstWrongDoing 59 = .ok (.idiv, 1) := by decide +kernel
theorem dX1_firstWrongDoing_60 : decode cX1_firstWrongDoing 60 = .ok (.iload 7, 2) := by decide +kernel
theorem dX1_firstWrongDoing_62 : decode cX1_firstWrongDoing 62 = .ok (.bipush 10, 2) := by decide +kernel
theorem dX1_firstWrongDoing_64 : decode cX1_firstWrongDoing 64 = .ok (.idiv, 1) := by decide +kernel
theorem dX1_firstWrongDoing_65 : decode cX1_firstWrongDoing 65 = .ok (.bipush 10, 2) := by decide +kernel
theorem dX1_firstWrongDoing_67 : decode cX1_firstWrongDoing 67 = .ok (.irem, 1) := by decide +kernel
theorem dX1_firstWrongDoing_68 : decode cX1_firstWrongDoing 68 = .ok (.iload 7, 2) := by decide +kernel
theorem dX1_firstWrongDoing_70 : decode cX1_firstWrongDoing 70 = .ok (.bipush 10, 2) := by decide +kernel
theorem dX1_firstWrongDoing_72 : decode cX1_firstWrongDoing 72 = .ok (.irem, 1) := by decide +kernel
theorem dX1_firstWrongDoing_73 : decode cX1_firstWrongDoing 73 = .ok (.invokevirtual 48, 3) := by decide +kernel
theorem dX1_firstWrongDoing_76 : decode cX1_firstWrongDoing 76 = .ok (.ifCond .ne 6, 3) := by decide +kernel
theorem dX1_firstWrongDoing_79 : decode cX1_firstWrongDoing 79 = .ok (.iload 4, 2) := by decide +kernel
theorem dX1_firstWrongDoing_81 : decode cX1_firstWrongDoing 81 = .ok (.ireturn, 1) := by decide +kernel
theorem dX1_firstWrongDoing_82 : decode cX1_firstWrongDoing 82 = .ok (.iinc 4 1, 3) := by decide +kernel
theorem dX1_firstWrongDoing_85 : decode cX1_firstWrongDoing 85 = .ok (.goto (-78), 3) := by decide +kernel
theorem dX1_firstWrongDoing_88 : decode cX1_firstWrongDoing 88 = .ok (.bipush (-9), 2) := by decide +kernel
theorem dX1_firstWrongDoing_90 : decode cX1_firstWrongDoing 90 = .ok (.ireturn, 1) := by decide +kernel
theorem dX1_gainOverOrders_0 : decode cX1_gainOverOrders 0 = .ok (.iconst 0, 1) := by decide +kernel
theorem dX1_gainOverOrders_1 : decode cX1_gainOverOrders 1 = .ok (.istore_n 2, 1) := by decide +kernel
theorem dX1_gainOverOrders_2 : decode cX1_gainOverOrders 2 = .ok (.iconst 0, 1) := by decide +kernel
theorem dX1_gainOverOrders_3 : decode cX1_gainOverOrders 3 = .ok (.istore_n 3, 1) := by decide +kernel
theorem dX1_gainOverOrders_4 : decode cX1_gainOverOrders 4 = .ok (.iload_n 3, 1) := by decide +kernel
theorem dX1_gainOverOrders_5 : decode cX1_gainOverOrders 5 = .ok (.iconst 1, 1) := by decide +kernel
theorem dX1_gainOverOrders_6 : decode cX1_gainOverOrders 6 = .ok (.aload_n 0, 1) := by decide +kernel
theorem dX1_gainOverOrders_7 : decode cX1_gainOverOrders 7 = .ok (.getfield 9, 3) := by decide +kernel
theorem dX1_gainOverOrders_10 : decode cX1_gainOverOrders 10 = .ok (.getfield 52, 3) := by decide +kernel
theorem dX1_gainOverOrders_13 : decode cX1_gainOverOrders 13 = .ok (.ishl, 1) := by decide +kernel
theorem dX1_gainOverOrders_14 : decode cX1_gainOverOrders 14 = .ok (.if_icmp .ge 73, 3) := by decide +kernel
theorem dX1_gainOverOrders_17 : decode cX1_gainOverOrders 17 = .ok (.iload_n 3, 1) := by decide +kernel
theorem dX1_gainOverOrders_18 : decode cX1_gainOverOrders 18 = .ok (.bipush 16, 2) := by decide +kernel
theorem dX1_gainOverOrders_20 : decode cX1_gainOverOrders 20 = .ok (.if_icmp .ge 67, 3) := by decide +kernel
theorem dX1_gainOverOrders_23 : decode cX1_gainOverOrders 23 = .ok (.iload_n 3, 1) := by decide +kernel
theorem dX1_gainOverOrders_24 : decode cX1_gainOverOrders 24 = .ok (.iload_n 1, 1) := by decide +kernel
theorem dX1_gainOverOrders_25 : decode cX1_gainOverOrders 25 = .ok (.ishr, 1) := by decide +kernel
theorem dX1_gainOverOrders_26 : decode cX1_gainOverOrders 26 = .ok (.iconst 1, 1) := by decide +kernel
theorem dX1_gainOverOrders_27 : decode cX1_gainOverOrders 27 = .ok (.iand, 1) := by decide +kernel
theorem dX1_gainOverOrders_28 : decode cX1_gainOverOrders 28 = .ok (.ifCond .ne 53, 3) := by decide +kernel
theorem dX1_gainOverOrders_31 : decode cX1_gainOverOrders 31 = .ok (.iload_n 3, 1) := by decide +kernel
theorem dX1_gainOverOrders_32 : decode cX1_gainOverOrders 32 = .ok (.invokestatic 57, 3) := by decide +kernel
theorem dX1_gainOverOrders_35 : decode cX1_gainOverOrders 35 = .ok (.istore 4, 2) := by decide +kernel
theorem dX1_gainOverOrders_37 : decode cX1_gainOverOrders 37 = .ok (.iload 4, 2) := by decide +kernel
theorem dX1_gainOverOrders_39 : decode cX1_gainOverOrders 39 = .ok (.invokestatic 62, 3) := by decide +kernel
theorem dX1_gainOverOrders_42 : decode cX1_gainOverOrders 42 = .ok (.aload_n 0, 1) := by decide +kernel
theorem dX1_gainOverOrders_43 : decode cX1_gainOverOrders 43 = .ok (.getfield 9, 3) := by decide +kernel
theorem dX1_gainOverOrders_46 : decode cX1_gainOverOrders 46 = .ok (.getfield 52, 3) := by decide +kernel
theorem dX1_gainOverOrders_49 : decode cX1_gainOverOrders 49 = .ok (.iconst 1, 1) := by decide +kernel
theorem dX1_gainOverOrders_50 : decode cX1_gainOverOrders 50 = .ok (.isub, 1) := by decide +kernel
theorem dX1_gainOverOrders_51 : decode cX1_gainOverOrders 51 = .ok (.iload 4, 2) := by decide +kernel
theorem dX1_gainOverOrders_53 : decode cX1_gainOverOrders 53 = .ok (.isub, 1) := by decide +kernel
theorem dX1_gainOverOrders_54 : decode cX1_gainOverOrders 54 = .ok (.invokestatic 62, 3) := by decide +kernel
theorem dX1_gainOverOrders_57 : decode cX1_gainOverOrders 57 = .ok (.imul, 1) := by decide +kernel
theorem dX1_gainOverOrders_58 : decode cX1_gainOverOrders 58 = .ok (.istore 5, 2) := by decide +kernel
theorem dX1_gainOverOrders_60 : decode cX1_gainOverOrders 60 = .ok (.iload_n 2, 1) := by decide +kernel
theorem dX1_gainOverOrders_61 : decode cX1_gainOverOrders 61 = .ok (.iload 5, 2) := by decide +kernel
theorem dX1_gainOverOrders_63 : decode cX1_gainOverOrders 63 = .ok (.aload_n 0, 1) := by decide +kernel
theorem dX1_gainOverOrders_64 : decode cX1_gainOverOrders 64 = .ok (.iload_n 3, 1) := by decide +kernel
theorem dX1_gainOverOrders_65 : decode cX1_gainOverOrders 65 = .ok (.iconst 1, 1) := by decide +kernel
theorem dX1_gainOverOrders_66 : decode cX1_gainOverOrders 66 = .ok (.iload_n 1, 1) := by decide +kernel
theorem dX1_gainOverOrders_67 : decode cX1_gainOverOrders 67 = .ok (.ishl, 1) := by decide +kernel
theorem dX1_gainOverOrders_68 : decode cX1_gainOverOrders 68 = .ok (.ior, 1) := by decide +kernel
theorem dX1_gainOverOrders_69 : decode cX1_gainOverOrders 69 = .ok (.invokevirtual 65, 3) := by decide +kernel
theorem dX1_gainOverOrders_72 : decode cX1_gainOverOrders 72 = .ok (.aload_n 0, 1) := by decide +kernel
theorem dX1_gainOverOrders_73 : decode cX1_gainOverOrders 73 = .ok (.iload_n 3, 1) := by decide +kernel
theorem dX1_gainOverOrders_74 : decode cX1_gainOverOrders 74 = .ok (.invokevirtual 65, 3) := by decide +kernel
theorem dX1_gainOverOrders_77 : decode cX1_gainOverOrders 77 = .ok (.isub, 1) := by decide +kernel
theorem dX1_gainOverOrders_78 : decode cX1_gainOverOrders 78 = .ok (.imul, 1) := by decide +kernel
theorem dX1_gainOverOrders_79 : decode cX1_gainOverOrders 79 = .ok (.iadd, 1) := by decide +kernel
theorem dX1_gainOverOrders_80 : decode cX1_gainOverOrders 80 = .ok (.istore_n 2, 1) := by decide +kernel
theorem dX1_gainOverOrders_81 : decode cX1_gainOverOrders 81 = .ok (.iinc 3 1, 3) := by decide +kernel
theorem dX1_gainOverOrders_84 : decode cX1_gainOverOrders 84 = .ok (.goto (-80), 3) := by decide +kernel
theorem dX1_gainOverOrders_87 : decode cX1_gainOverOrders 87 = .ok (.iload_n 2, 1) := by decide +kernel
theorem dX1_gainOverOrders_88 : decode cX1_gainOverOrders 88 = .ok (.ireturn, 1) := by decide +kernel
theorem dX1_thrownWith_0 : decode cX1_thrownWith 0 = .ok (.aload_n 0, 1) := by decide +kernel
theorem dX1_thrownWith_1 : decode cX1_thrownWith 1 = .ok (.invokevirtual 28, 3) := by decide +kernel
theorem dX1_thrownWith_4 : decode cX1_thrownWith 4 = .ok (.iconst 0, 1) := by decide +kernel
theorem dX1_thrownWith_5 : decode cX1_thrownWith 5 = .ok (.istore_n 2, 1) := by decide +kernel
theorem dX1_thrownWith_6 : decode cX1_thrownWith 6 = .ok (.iload_n 2, 1) := by decide +kernel
theorem dX1_thrownWith_7 : decode cX1_thrownWith 7 = .ok (.aload_n 0, 1) := by decide +kernel
theorem dX1_thrownWith_8 : decode cX1_thrownWith 8 = .ok (.getfield 19, 3) := by decide +kernel
theorem dX1_thrownWith_11 : decode cX1_thrownWith 11 = .ok (.getfield 68, 3) := by decide +kernel
theorem dX1_thrownWith_14 : decode cX1_thrownWith 14 = .ok (.arraylength, 1) := by decide +kernel
theorem dX1_thrownWith_15 : decode cX1_thrownWith 15 = .ok (.if_icmp .ge 28, 3) := by decide +kernel
theorem dX1_thrownWith_18 : decode cX1_thrownWith 18 = .ok (.iload_n 1, 1) := by decide +kernel
theorem dX1_thrownWith_19 : decode cX1_thrownWith 19 = .ok (.iload_n 2, 1) := by decide +kernel
theorem dX1_thrownWith_20 : decode cX1_thrownWith 20 = .ok (.ishr, 1) := by decide +kernel
theorem dX1_thrownWith_21 : decode cX1_thrownWith 21 = .ok (.iconst 1, 1) := by decide +kernel
theorem dX1_thrownWith_22 : decode cX1_thrownWith 22 = .ok (.iand, 1) := by decide +kernel
theorem dX1_thrownWith_23 : decode cX1_thrownWith 23 = .ok (.ifCond .ne 14, 3) := by decide +kernel
theorem dX1_thrownWith_26 : decode cX1_thrownWith 26 = .ok (.aload_n 0, 1) := by decide +kernel
theorem dX1_thrownWith_27 : decode cX1_thrownWith 27 = .ok (.getfield 19, 3) := by decide +kernel
theorem dX1_thrownWith_30 : decode cX1_thrownWith 30 = .ok (.getfield 68, 3) := by decide +kernel
theorem dX1_thrownWith_33 : decode cX1_thrownWith 33 = .ok (.iload_n 2, 1) := by decide +kernel
theorem dX1_thrownWith_34 : decode cX1_thrownWith 34 = .ok (.bipush 10, 2) := by decide +kernel
theorem dX1_thrownWith_36 : decode cX1_thrownWith 36 = .ok (.iastore, 1) := by decide +kernel
theorem dX1_thrownWith_37 : decode cX1_thrownWith 37 = .ok (.iinc 2 1, 3) := by decide +kernel
theorem dX1_thrownWith_40 : decode cX1_thrownWith 40 = .ok (.goto (-34), 3) := by decide +kernel
theorem dX1_thrownWith_43 : decode cX1_thrownWith 43 = .ok (.aload_n 0, 1) := by decide +kernel
theorem dX1_thrownWith_44 : decode cX1_thrownWith 44 = .ok (.getfield 19, 3) := by decide +kernel
theorem dX1_thrownWith_47 : decode cX1_thrownWith 47 = .ok (.bipush 12, 2) := by decide +kernel
theorem dX1_thrownWith_49 : decode cX1_thrownWith 49 = .ok (.invokevirtual 31, 3) := by decide +kernel
theorem dX1_thrownWith_52 : decode cX1_thrownWith 52 = .ok (.ireturn, 1) := by decide +kernel
theorem dX1_settledPairs_0 : decode cX1_settledPairs 0 = .ok (.aload_n 0, 1) := by decide +kernel
theorem dX1_settledPairs_1 : decode cX1_settledPairs 1 = .ok (.iload_n 1, 1) := by decide +kernel
theorem dX1_settledPairs_2 : decode cX1_settledPairs 2 = .ok (.iload_n 2, 1) := by decide +kernel
theorem dX1_settledPairs_3 : decode cX1_settledPairs 3 = .ok (.iconst 0, 1) := by decide +kernel
theorem dX1_settledPairs_4 : decode cX1_settledPairs 4 = .ok (.invokevirtual 72, 3) := by decide +kernel
theorem dX1_settledPairs_7 : decode cX1_settledPairs 7 = .ok (.istore_n 3, 1) := by decide +kernel
theorem dX1_settledPairs_8 : decode cX1_settledPairs 8 = .ok (.aload_n 0, 1) := by decide +kernel
theorem dX1_settledPairs_9 : decode cX1_settledPairs 9 = .ok (.iload_n 1, 1) := by decide +kernel
theorem dX1_settledPairs_10 : decode cX1_settledPairs 10 = .ok (.iload_n 2, 1) := by decide +kernel
theorem dX1_settledPairs_11 : decode cX1_settledPairs 11 = .ok (.iconst 1, 1) := by decide +kernel
theorem dX1_settledPairs_12 : decode cX1_settledPairs 12 = .ok (.invokevirtual 72, 3) := by decide +kernel
theorem dX1_settledPairs_15 : decode cX1_settledPairs 15 = .ok (.istore 4, 2) := by decide +kernel
theorem dX1_settledPairs_17 : decode cX1_settledPairs 17 = .ok (.aload_n 0, 1) := by decide +kernel
theorem dX1_settledPairs_18 : decode cX1_settledPairs 18 = .ok (.iload_n 1, 1) := by decide +kernel
theorem dX1_settledPairs_19 : decode cX1_settledPairs 19 = .ok (.iload_n 2, 1) := by decide +kernel
theorem dX1_settledPairs_20 : decode cX1_settledPairs 20 = .ok (.iconst 2, 1) := by decide +kernel
theorem dX1_settledPairs_21 : decode cX1_settledPairs 21 = .ok (.invokevirtual 72, 3) := by decide +kernel
theorem dX1_settledPairs_24 : decode cX1_settledPairs 24 = .ok (.istore 5, 2) := by decide +kernel
theorem dX1_settledPairs_26 : decode cX1_settledPairs 26 = .ok (.aload_n 0, 1) := by decide +kernel
theorem dX1_settledPairs_27 : decode cX1_settledPairs 27 = .ok (.iload_n 1, 1) := by decide +kernel
theorem dX1_settledPairs_28 : decode cX1_settledPairs 28 = .ok (.iload_n 2, 1) := by decide +kernel
theorem dX1_settledPairs_29 : decode cX1_settledPairs 29 = .ok (.iconst 3, 1) := by decide +kernel
theorem dX1_settledPairs_30 : decode cX1_settledPairs 30 = .ok (.invokevirtual 72, 3) := by decide +kernel
theorem dX1_settledPairs_33 : decode cX1_settledPairs 33 = .ok (.istore 6, 2) := by decide +kernel
theorem dX1_settledPairs_35 : decode cX1_settledPairs 35 = .ok (.iconst 0, 1) := by decide +kernel
theorem dX1_settledPairs_36 : decode cX1_settledPairs 36 = .ok (.istore 7, 2) := by decide +kernel
theorem dX1_settledPairs_38 : decode cX1_settledPairs 38 = .ok (.iload 7, 2) := by decide +kernel
theorem dX1_settledPairs_40 : decode cX1_settledPairs 40 = .ok (.iload_n 3, 1) := by decide +kernel
theorem dX1_settledPairs_41 : decode cX1_settledPairs 41 = .ok (.iload 5, 2) := by decide +kernel
theorem dX1_settledPairs_43 : decode cX1_settledPairs 43 = .ok (.bipush 6, 2) := by decide +kernel
theorem dX1_settledPairs_45 : decode cX1_settledPairs 45 = .ok (.isub, 1) := by decide +kernel
theorem dX1_settledPairs_46 : decode cX1_settledPairs 46 = .ok (.if_icmp .lt 16, 3) := by decide +kernel
theorem dX1_settledPairs_49 : decode cX1_settledPairs 49 = .ok (.iload_n 3, 1) := by decide +kernel
theorem dX1_settledPairs_50 : decode cX1_settledPairs 50 = .ok (.iload 4, 2) := by decide +kernel
theorem dX1_settledPairs_52 : decode cX1_settledPairs 52 = .ok (.bipush 6, 2) := by decide +kernel
theorem dX1_settledPairs_54 : decode cX1_settledPairs 54 = .ok (.isub, 1) := by decide +kernel
theorem dX1_settledPairs_55 : decode cX1_settledPairs 55 = .ok (.if_icmp .lt 7, 3) := by decide +kernel
theorem dX1_settledPairs_58 : decode cX1_settledPairs 58 = .ok (.iconst 1, 1) := by decide +kernel
theorem dX1_settledPairs_59 : decode cX1_settledPairs 59 = .ok (.goto 4, 3) := by decide +kernel
theorem dX1_settledPairs_62 : decode cX1_settledPairs 62 = .ok (.iconst 0, 1) := by decide +kernel
theorem dX1_settledPairs_63 : decode cX1_settledPairs 63 = .ok (.ior, 1) := by decide +kernel
theorem dX1_settledPairs_64 : decode cX1_settledPairs 64 = .ok (.istore 7, 2) := by decide +kernel
theorem dX1_settledPairs_66 : decode cX1_settledPairs 66 = .ok (.iload 7, 2) := by decide +kernel
theorem dX1_settledPairs_68 : decode cX1_settledPairs 68 = .ok (.iload 4, 2) := by decide +kernel
theorem dX1_settledPairs_70 : decode cX1_settledPairs 70 = .ok (.iload 6, 2) := by decide +kernel
theorem dX1_settledPairs_72 : decode cX1_settledPairs 72 = .ok (.bipush 6, 2) := by decide +kernel
theorem dX1_settledPairs_74 : decode cX1_settledPairs 74 = .ok (.isub, 1) := by decide +kernel
theorem dX1_settledPairs_75 : decode cX1_settledPairs 75 = .ok (.if_icmp .lt 16, 3) := by decide +kernel
theorem dX1_settledPairs_78 : decode cX1_settledPairs 78 = .ok (.iload 4, 2) := by decide +kernel
theorem dX1_settledPairs_80 : decode cX1_settledPairs 80 = .ok (.bipush 6, 2) := by decide +kernel
theorem dX1_settledPairs_82 : decode cX1_settledPairs 82 = .ok (.isub, 1) := by decide +kernel
theorem dX1_settledPairs_83 : decode cX1_settledPairs 83 = .ok (.iload_n 3, 1) := by decide +kernel
theorem dX1_settledPairs_84 : decode cX1_settledPairs 84 = .ok (.if_icmp .lt 7, 3) := by decide +kernel
theorem dX1_settledPairs_87 : decode cX1_settledPairs 87 = .ok (.iconst 2, 1) := by decide +kernel
theorem dX1_settledPairs_88 : decode cX1_settledPairs 88 = .ok (.goto 4, 3) := by decide +kernel
theorem dX1_settledPairs_91 : decode cX1_settledPairs 91 = .ok (.iconst 0, 1) := by decide +kernel
theorem dX1_settledPairs_92 : decode cX1_settledPairs 92 = .ok (.ior, 1) := by decide +kernel
theorem dX1_settledPairs_93 : decode cX1_settledPairs 93 = .ok (.istore 7, 2) := by decide +kernel
theorem dX1_settledPairs_95 : decode cX1_settledPairs 95 = .ok (.iload 7, 2) := by decide +kernel
theorem dX1_settledPairs_97 : decode cX1_settledPairs 97 = .ok (.iload 5, 2) := by decide +kernel
theorem dX1_settledPairs_99 : decode cX1_settledPairs 99 = .ok (.bipush 6, 2) := by decide +kernel
theorem dX1_settledPairs_101 : decode cX1_settledPairs 101 = .ok (.isub, 1) := by decide +kernel
theorem dX1_settledPairs_102 : decode cX1_settledPairs 102 = .ok (.iload_n 3, 1) := by decide +kernel
theorem dX1_settledPairs_103 : decode cX1_settledPairs 103 = .ok (.if_icmp .lt 17, 3) := by decide +kernel
theorem dX1_settledPairs_106 : decode cX1_settledPairs 106 = .ok (.iload 5, 2) := by decide +kernel
theorem dX1_settledPairs_108 : decode cX1_settledPairs 108 = .ok (.iload 6, 2) := by decide +kernel
theorem dX1_settledPairs_110 : decode cX1_settledPairs 110 = .ok (.bipush 6, 2) := by decide +kernel
theorem dX1_settledPairs_112 : decode cX1_settledPairs 112 = .ok (.isub, 1) := by decide +kernel
theorem dX1_settledPairs_113 : decode cX1_settledPairs 113 = .ok (.if_icmp .lt 7, 3) := by decide +kernel
theorem dX1_settledPairs_116 : decode cX1_settledPairs 116 = .ok (.iconst 4, 1) := by decide +kernel
theorem dX1_settledPairs_117 : decode cX1_settledPairs 117 = .ok (.goto 4, 3) := by decide +kernel
theorem dX1_settledPairs_120 : decode cX1_settledPairs 120 = .ok (.iconst 0, 1) := by decide +kernel
theorem dX1_settledPairs_121 : decode cX1_settledPairs 121 = .ok (.ior, 1) := by decide +kernel
theorem dX1_settledPairs_122 : decode cX1_settledPairs 122 = .ok (.istore 7, 2) := by decide +kernel
theorem dX1_settledPairs_124 : decode cX1_settledPairs 124 = .ok (.iload 7, 2) := by decide +kernel
theorem dX1_settledPairs_126 : decode cX1_settledPairs 126 = .ok (.iload 6, 2) := by decide +kernel
theorem dX1_settledPairs_128 : decode cX1_settledPairs 128 = .ok (.bipush 6, 2) := by decide +kernel
theorem dX1_settledPairs_130 : decode cX1_settledPairs 130 = .ok (.isub, 1) := by decide +kernel
theorem dX1_settledPairs_131 : decode cX1_settledPairs 131 = .ok (.iload 4, 2) := by decide +kernel
theorem dX1_settledPairs_133 : decode cX1_settledPairs 133 = .ok (.if_icmp .lt 18, 3) := by decide +kernel
theorem dX1_settledPairs_136 : decode cX1_settledPairs 136 = .ok (.iload 6, 2) := by decide +kernel
theorem dX1_settledPairs_138 : decode cX1_settledPairs 138 = .ok (.bipush 6, 2) := by decide +kernel
theorem dX1_settledPairs_140 : decode cX1_settledPairs 140 = .ok (.isub, 1) := by decide +kernel
theorem dX1_settledPairs_141 : decode cX1_settledPairs 141 = .ok (.iload 5, 2) := by decide +kernel
theorem dX1_settledPairs_143 : decode cX1_settledPairs 143 = .ok (.if_icmp .lt 8, 3) := by decide +kernel
theorem dX1_settledPairs_146 : decode cX1_settledPairs 146 = .ok (.bipush 8, 2) := by decide +kernel
theorem dX1_settledPairs_148 : decode cX1_settledPairs 148 = .ok (.goto 4, 3) := by decide +kernel
theorem dX1_settledPairs_151 : decode cX1_settledPairs 151 = .ok (.iconst 0, 1) := by decide +kernel
theorem dX1_settledPairs_152 : decode cX1_settledPairs 152 = .ok (.ior, 1) := by decide +kernel
theorem dX1_settledPairs_153 : decode cX1_settledPairs 153 = .ok (.istore 7, 2) := by decide +kernel
theorem dX1_settledPairs_155 : decode cX1_settledPairs 155 = .ok (.iload 7, 2) := by decide +kernel
theorem dX1_settledPairs_157 : decode cX1_settledPairs 157 = .ok (.ireturn, 1) := by decide +kernel
theorem dX1_thrownWhen_0 : decode cX1_thrownWhen 0 = .ok (.aload_n 0, 1) := by decide +kernel
theorem dX1_thrownWhen_1 : decode cX1_thrownWhen 1 = .ok (.invokevirtual 28, 3) := by decide +kernel
theorem dX1_thrownWhen_4 : decode cX1_thrownWhen 4 = .ok (.aload_n 0, 1) := by decide +kernel
theorem dX1_thrownWhen_5 : decode cX1_thrownWhen 5 = .ok (.getfield 19, 3) := by decide +kernel
theorem dX1_thrownWhen_8 : decode cX1_thrownWhen 8 = .ok (.iload_n 3, 1) := by decide +kernel
theorem dX1_thrownWhen_9 : decode cX1_thrownWhen 9 = .ok (.iconst 1, 1) := by decide +kernel
theorem dX1_thrownWhen_10 : decode cX1_thrownWhen 10 = .ok (.ishr, 1) := by decide +kernel
theorem dX1_thrownWhen_11 : decode cX1_thrownWhen 11 = .ok (.iconst 1, 1) := by decide +kernel
theorem dX1_thrownWhen_12 : decode cX1_thrownWhen 12 = .ok (.iand, 1) := by decide +kernel
theorem dX1_thrownWhen_13 : decode cX1_thrownWhen 13 = .ok (.ifCond .ne 9, 3) := by decide +kernel
theorem dX1_thrownWhen_16 : decode cX1_thrownWhen 16 = .ok (.iconst 1, 1) := by decide +kernel
theorem dX1_thrownWhen_17 : decode cX1_thrownWhen 17 = .ok (.iload_n 1, 1) := by decide +kernel
theorem dX1_thrownWhen_18 : decode cX1_thrownWhen 18 = .ok (.ishl, 1) := by decide +kernel
theorem dX1_thrownWhen_19 : decode cX1_thrownWhen 19 = .ok (.goto 4, 3) := by decide +kernel
theorem dX1_thrownWhen_22 : decode cX1_thrownWhen 22 = .ok (.iconst 0, 1) := by decide +kernel
theorem dX1_thrownWhen_23 : decode cX1_thrownWhen 23 = .ok (.iload_n 3, 1) := by decide +kernel
theorem dX1_thrownWhen_24 : decode cX1_thrownWhen 24 = .ok (.iconst 1, 1) := by decide +kernel
theorem dX1_thrownWhen_25 : decode cX1_thrownWhen 25 = .ok (.iand, 1) := by decide +kernel
theorem dX1_thrownWhen_26 : decode cX1_thrownWhen 26 = .ok (.ifCond .ne 9, 3) := by decide +kernel
theorem dX1_thrownWhen_29 : decode cX1_thrownWhen 29 = .ok (.iconst 1, 1) := by decide +kernel
theorem dX1_thrownWhen_30 : decode cX1_thrownWhen 30 = .ok (.iload_n 2, 1) := by decide +kernel
theorem dX1_thrownWhen_31 : decode cX1_thrownWhen 31 = .ok (.ishl, 1) := by decide +kernel
theorem dX1_thrownWhen_32 : decode cX1_thrownWhen 32 = .ok (.goto 4, 3) := by decide +kernel
theorem dX1_thrownWhen_35 : decode cX1_thrownWhen 35 = .ok (.iconst 0, 1) := by decide +kernel
theorem dX1_thrownWhen_36 : decode cX1_thrownWhen 36 = .ok (.ior, 1) := by decide +kernel
theorem dX1_thrownWhen_37 : decode cX1_thrownWhen 37 = .ok (.putfield 76, 3) := by decide +kernel
theorem dX1_thrownWhen_40 : decode cX1_thrownWhen 40 = .ok (.aload_n 0, 1) := by decide +kernel
theorem dX1_thrownWhen_41 : decode cX1_thrownWhen 41 = .ok (.getfield 19, 3) := by decide +kernel
theorem dX1_thrownWhen_44 : decode cX1_thrownWhen 44 = .ok (.bipush 8, 2) := by decide +kernel
theorem dX1_thrownWhen_46 : decode cX1_thrownWhen 46 = .ok (.invokevirtual 31, 3) := by decide +kernel
theorem dX1_thrownWhen_49 : decode cX1_thrownWhen 49 = .ok (.ireturn, 1) := by decide +kernel
theorem dX1_chanceOfThrowing_0 : decode cX1_chanceOfThrowing 0 = .ok (.iconst 0, 1) := by decide +kernel
theorem dX1_chanceOfThrowing_1 : decode cX1_chanceOfThrowing 1 = .ok (.istore_n 3, 1) := by decide +kernel
theorem dX1_chanceOfThrowing_2 : decode cX1_chanceOfThrowing 2 = .ok (.iconst 0, 1) := by decide +kernel
theorem dX1_chanceOfThrowing_3 : decode cX1_chanceOfThrowing 3 = .ok (.istore 4, 2) := by decide +kernel
theorem dX1_chanceOfThrowing_5 : decode cX1_chanceOfThrowing 5 = .ok (.iload 4, 2) := by decide +kernel
theorem dX1_chanceOfThrowing_7 : decode cX1_chanceOfThrowing 7 = .ok (.bipush 16, 2) := by decide +kernel
theorem dX1_chanceOfThrowing_9 : decode cX1_chanceOfThrowing 9 = .ok (.if_icmp .ge 38, 3) := by decide +kernel
theorem dX1_chanceOfThrowing_12 : decode cX1_chanceOfThrowing 12 = .ok (.aload_n 0, 1) := by decide +kernel
theorem dX1_chanceOfThrowing_13 : decode cX1_chanceOfThrowing 13 = .ok (.iload 4, 2) := by decide +kernel
theorem dX1_chanceOfThrowing_15 : decode cX1_chanceOfThrowing 15 = .ok (.iload_n 2, 1) := by decide +kernel
theorem dX1_chanceOfThrowing_16 : decode cX1_chanceOfThrowing 16 = .ok (.invokevirtual 79, 3) := by decide +kernel
theorem dX1_chanceOfThrowing_19 : decode cX1_chanceOfThrowing 19 = .ok (.istore 5, 2) := by decide +kernel
theorem dX1_chanceOfThrowing_21 : decode cX1_chanceOfThrowing 21 = .ok (.iload 5, 2) := by decide +kernel
theorem dX1_chanceOfThrowing_23 : decode cX1_chanceOfThrowing 23 = .ok (.ifCond .le 18, 3) := by decide +kernel
theorem dX1_chanceOfThrowing_26 : decode cX1_chanceOfThrowing 26 = .ok (.aload_n 0, 1) := by decide +kernel
theorem dX1_chanceOfThrowing_27 : decode cX1_chanceOfThrowing 27 = .ok (.iload 4, 2) := by decide +kernel
theorem dX1_chanceOfThrowing_29 : decode cX1_chanceOfThrowing 29 = .ok (.invokevirtual 83, 3) := by decide +kernel
theorem dX1_chanceOfThrowing_32 : decode cX1_chanceOfThrowing 32 = .ok (.iload_n 1, 1) := by decide +kernel
theorem dX1_chanceOfThrowing_33 : decode cX1_chanceOfThrowing 33 = .ok (.if_icmp .lt 8, 3) := by decide +kernel
theorem dX1_chanceOfThrowing_36 : decode cX1_chanceOfThrowing 36 = .ok (.iload_n 3, 1) := by decide +kernel
theorem dX1_chanceOfThrowing_37 : decode cX1_chanceOfThrowing 37 = .ok (.iload 5, 2) := by decide +kernel
theorem dX1_chanceOfThrowing_39 : decode cX1_chanceOfThrowing 39 = .ok (.iadd, 1) := by decide +kernel
theorem dX1_chanceOfThrowing_40 : decode cX1_chanceOfThrowing 40 = .ok (.istore_n 3, 1) := by decide +kernel
theorem dX1_chanceOfThrowing_41 : decode cX1_chanceOfThrowing 41 = .ok (.iinc 4 1, 3) := by decide +kernel
theorem dX1_chanceOfThrowing_44 : decode cX1_chanceOfThrowing 44 = .ok (.goto (-39), 3) := by decide +kernel
theorem dX1_chanceOfThrowing_47 : decode cX1_chanceOfThrowing 47 = .ok (.iload_n 3, 1) := by decide +kernel
theorem dX1_chanceOfThrowing_48 : decode cX1_chanceOfThrowing 48 = .ok (.ireturn, 1) := by decide +kernel
theorem dX1_weightOfFalling_0 : decode cX1_weightOfFalling 0 = .ok (.iconst 1, 1) := by decide +kernel
theorem dX1_weightOfFalling_1 : decode cX1_weightOfFalling 1 = .ok (.istore_n 3, 1) := by decide +kernel
theorem dX1_weightOfFalling_2 : decode cX1_weightOfFalling 2 = .ok (.iconst 0, 1) := by decide +kernel
theorem dX1_weightOfFalling_3 : decode cX1_weightOfFalling 3 = .ok (.istore 4, 2) := by decide +kernel
theorem dX1_weightOfFalling_5 : decode cX1_weightOfFalling 5 = .ok (.iload 4, 2) := by decide +kernel
theorem dX1_weightOfFalling_7 : decode cX1_weightOfFalling 7 = .ok (.iconst 4, 1) := by decide +kernel
theorem dX1_weightOfFalling_8 : decode cX1_weightOfFalling 8 = .ok (.if_icmp .ge 64, 3) := by decide +kernel
theorem dX1_weightOfFalling_11 : decode cX1_weightOfFalling 11 = .ok (.iload_n 1, 1) := by decide +kernel
theorem dX1_weightOfFalling_12 : decode cX1_weightOfFalling 12 = .ok (.iload 4, 2) := by decide +kernel
theorem dX1_weightOfFalling_14 : decode cX1_weightOfFalling 14 = .ok (.ishr, 1) := by decide +kernel
theorem dX1_weightOfFalling_15 : decode cX1_weightOfFalling 15 = .ok (.iconst 1, 1) := by decide +kernel
theorem dX1_weightOfFalling_16 : decode cX1_weightOfFalling 16 = .ok (.iand, 1) := by decide +kernel
theorem dX1_weightOfFalling_17 : decode cX1_weightOfFalling 17 = .ok (.iconst 1, 1) := by decide +kernel
theorem dX1_weightOfFalling_18 : decode cX1_weightOfFalling 18 = .ok (.if_icmp .ne 7, 3) := by decide +kernel
theorem dX1_weightOfFalling_21 : decode cX1_weightOfFalling 21 = .ok (.iconst 1, 1) := by decide +kernel
theorem dX1_weightOfFalling_22 : decode cX1_weightOfFalling 22 = .ok (.goto 4, 3) := by decide +kernel
theorem dX1_weightOfFalling_25 : decode cX1_weightOfFalling 25 = .ok (.iconst 0, 1) := by decide +kernel
theorem dX1_weightOfFalling_26 : decode cX1_weightOfFalling 26 = .ok (.istore 5, 2) := by decide +kernel
theorem dX1_weightOfFalling_28 : decode cX1_weightOfFalling 28 = .ok (.aload_n 0, 1) := by decide +kernel
theorem dX1_weightOfFalling_29 : decode cX1_weightOfFalling 29 = .ok (.getfield 15, 3) := by decide +kernel
theorem dX1_weightOfFalling_32 : decode cX1_weightOfFalling 32 = .ok (.iload 4, 2) := by decide +kernel
theorem dX1_weightOfFalling_34 : decode cX1_weightOfFalling 34 = .ok (.invokevirtual 86, 3) := by decide +kernel
theorem dX1_weightOfFalling_37 : decode cX1_weightOfFalling 37 = .ok (.ifCond .eq 22, 3) := by decide +kernel
theorem dX1_weightOfFalling_40 : decode cX1_weightOfFalling 40 = .ok (.iload_n 3, 1) := by decide +kernel
theorem dX1_weightOfFalling_41 : decode cX1_weightOfFalling 41 = .ok (.iload 5, 2) := by decide +kernel
theorem dX1_weightOfFalling_43 : decode cX1_weightOfFalling 43 = .ok (.ifCond .eq 7, 3) := by decide +kernel
theorem dX1_weightOfFalling_46 : decode cX1_weightOfFalling 46 = .ok (.iload_n 2, 1) := by decide +kernel
theorem dX1_weightOfFalling_47 : decode cX1_weightOfFalling 47 = .ok (.goto 7, 3) := by decide +kernel
theorem dX1_weightOfFalling_50 : decode cX1_weightOfFalling 50 = .ok (.bipush 10, 2) := by decide +kernel
theorem dX1_weightOfFalling_52 : decode cX1_weightOfFalling 52 = .ok (.iload_n 2, 1) := by decide +kernel
theorem dX1_weightOfFalling_53 : decode cX1_weightOfFalling 53 = .ok (.isub, 1) := by decide +kernel
theorem dX1_weightOfFalling_54 : decode cX1_weightOfFalling 54 = .ok (.imul, 1) := by decide +kernel
theorem dX1_weightOfFalling_55 : decode cX1_weightOfFalling 55 = .ok (.istore_n 3, 1) := by decide +kernel
theorem dX1_weightOfFalling_56 : decode cX1_weightOfFalling 56 = .ok (.goto 10, 3) := by decide +kernel
theorem dX1_weightOfFalling_59 : decode cX1_weightOfFalling 59 = .ok (.iload 5, 2) := by decide +kernel
theorem dX1_weightOfFalling_61 : decode cX1_weightOfFalling 61 = .ok (.ifCond .eq 5, 3) := by decide +kernel
theorem dX1_weightOfFalling_64 : decode cX1_weightOfFalling 64 = .ok (.iconst 0, 1) := by decide +kernel
theorem dX1_weightOfFalling_65 : decode cX1_weightOfFalling 65 = .ok (.istore_n 3, 1) := by decide +kernel
theorem dX1_weightOfFalling_66 : decode cX1_weightOfFalling 66 = .ok (.iinc 4 1, 3) := by decide +kernel
theorem dX1_weightOfFalling_69 : decode cX1_weightOfFalling 69 = .ok (.goto (-64), 3) := by decide +kernel
theorem dX1_weightOfFalling_72 : decode cX1_weightOfFalling 72 = .ok (.iload_n 3, 1) := by decide +kernel
theorem dX1_weightOfFalling_73 : decode cX1_weightOfFalling 73 = .ok (.ireturn, 1) := by decide +kernel
theorem dX1_thrownWithout_0 : decode cX1_thrownWithout 0 = .ok (.aload_n 0, 1) := by decide +kernel
theorem dX1_thrownWithout_1 : decode cX1_thrownWithout 1 = .ok (.invokevirtual 28, 3) := by decide +kernel
theorem dX1_thrownWithout_4 : decode cX1_thrownWithout 4 = .ok (.iconst 0, 1) := by decide +kernel
theorem dX1_thrownWithout_5 : decode cX1_thrownWithout 5 = .ok (.istore_n 2, 1) := by decide +kernel
theorem dX1_thrownWithout_6 : decode cX1_thrownWithout 6 = .ok (.iload_n 2, 1) := by decide +kernel
theorem dX1_thrownWithout_7 : decode cX1_thrownWithout 7 = .ok (.iconst 4, 1) := by decide +kernel
theorem dX1_thrownWithout_8 : decode cX1_thrownWithout 8 = .ok (.if_icmp .ge 26, 3) := by decide +kernel
theorem dX1_thrownWithout_11 : decode cX1_thrownWithout 11 = .ok (.iload_n 1, 1) := by decide +kernel
theorem dX1_thrownWithout_12 : decode cX1_thrownWithout 12 = .ok (.iload_n 2, 1) := by decide +kernel
theorem dX1_thrownWithout_13 : decode cX1_thrownWithout 13 = .ok (.ishr, 1) := by decide +kernel
theorem dX1_thrownWithout_14 : decode cX1_thrownWithout 14 = .ok (.iconst 1, 1) := by decide +kernel
theorem dX1_thrownWithout_15 : decode cX1_thrownWithout 15 = .ok (.iand, 1) := by decide +kernel
theorem dX1_thrownWithout_16 : decode cX1_thrownWithout 16 = .ok (.iconst 1, 1) := by decide +kernel
theorem dX1_thrownWithout_17 : decode cX1_thrownWithout 17 = .ok (.if_icmp .ne 11, 3) := by decide +kernel
theorem dX1_thrownWithout_20 : decode cX1_thrownWithout 20 = .ok (.aload_n 0, 1) := by decide +kernel
theorem dX1_thrownWithout_21 : decode cX1_thrownWithout 21 = .ok (.getfield 19, 3) := by decide +kernel
theorem dX1_thrownWithout_24 : decode cX1_thrownWithout 24 = .ok (.iload_n 2, 1) := by decide +kernel
theorem dX1_thrownWithout_25 : decode cX1_thrownWithout 25 = .ok (.invokevirtual 90, 3) := by decide +kernel
theorem dX1_thrownWithout_28 : decode cX1_thrownWithout 28 = .ok (.iinc 2 1, 3) := by decide +kernel
theorem dX1_thrownWithout_31 : decode cX1_thrownWithout 31 = .ok (.goto (-25), 3) := by decide +kernel
theorem dX1_thrownWithout_34 : decode cX1_thrownWithout 34 = .ok (.aload_n 0, 1) := by decide +kernel
theorem dX1_thrownWithout_35 : decode cX1_thrownWithout 35 = .ok (.getfield 19, 3) := by decide +kernel
theorem dX1_thrownWithout_38 : decode cX1_thrownWithout 38 = .ok (.bipush 10, 2) := by decide +kernel
theorem dX1_thrownWithout_40 : decode cX1_thrownWithout 40 = .ok (.invokevirtual 31, 3) := by decide +kernel
theorem dX1_thrownWithout_43 : decode cX1_thrownWithout 43 = .ok (.ireturn, 1) := by decide +kernel
theorem dX1_fireBehindChance_0 : decode cX1_fireBehindChance 0 = .ok (.iload_n 1, 1) := by decide +kernel
theorem dX1_fireBehindChance_1 : decode cX1_fireBehindChance 1 = .ok (.iconst 4, 1) := by decide +kernel
theorem dX1_fireBehindChance_2 : decode cX1_fireBehindChance 2 = .ok (.if_icmp .ge 19, 3) := by decide +kernel
theorem dX1_fireBehindChance_5 : decode cX1_fireBehindChance 5 = .ok (.aload_n 0, 1) := by decide +kernel
theorem dX1_fireBehindChance_6 : decode cX1_fireBehindChance 6 = .ok (.getfield 19, 3) := by decide +kernel
theorem dX1_fireBehindChance_9 : decode cX1_fireBehindChance 9 = .ok (.iconst 1, 1) := by decide +kernel
theorem dX1_fireBehindChance_10 : decode cX1_fireBehindChance 10 = .ok (.iload_n 1, 1) := by decide +kernel
theorem dX1_fireBehindChance_11 : decode cX1_fireBehindChance 11 = .ok (.iload_n 1, 1) := by decide +kernel
theorem dX1_fireBehindChance_12 : decode cX1_fireBehindChance 12 = .ok (.iconst 1, 1) := by decide +kernel
theorem dX1_fireBehindChance_13 : decode cX1_fireBehindChance 13 = .ok (.iadd, 1) := by decide +kernel
theorem dX1_fireBehindChance_14 : decode cX1_fireBehindChance 14 = .ok (.invokevirtual 48, 3) := by decide +kernel
theorem dX1_fireBehindChance_17 : decode cX1_fireBehindChance 17 = .ok (.pop, 1) := by decide +kernel
theorem dX1_fireBehindChance_18 : decode cX1_fireBehindChance 18 = .ok (.goto 59, 3) := by decide +kernel
theorem dX1_fireBehindChance_21 : decode cX1_fireBehindChance 21 = .ok (.iload_n 1, 1) := by decide +kernel
theorem dX1_fireBehindChance_22 : decode cX1_fireBehindChance 22 = .ok (.bipush 8, 2) := by decide +kernel
theorem dX1_fireBehindChance_24 : decode cX1_fireBehindChance 24 = .ok (.if_icmp .ge 19, 3) := by decide +kernel
theorem dX1_fireBehindChance_27 : decode cX1_fireBehindChance 27 = .ok (.aload_n 0, 1) := by decide +kernel
theorem dX1_fireBehindChance_28 : decode cX1_fireBehindChance 28 = .ok (.getfield 19, 3) := by decide +kernel
theorem dX1_fireBehindChance_31 : decode cX1_fireBehindChance 31 = .ok (.iconst 3, 1) := by decide +kernel
theorem dX1_fireBehindChance_32 : decode cX1_fireBehindChance 32 = .ok (.iconst 0, 1) := by decide +kernel
theorem dX1_fireBehindChance_33 : decode cX1_fireBehindChance 33 = .ok (.iload_n 1, 1) := by decide +kernel
theorem dX1_fireBehindChance_34 : decode cX1_fireBehindChance 34 = .ok (.iconst 4, 1) := by decide +kernel
theorem dX1_fireBehindChance_35 : decode cX1_fireBehindChance 35 = .ok (.isub, 1) := by decide +kernel
theorem dX1_fireBehindChance_36 : decode cX1_fireBehindChance 36 = .ok (.invokevirtual 48, 3) := by decide +kernel
theorem dX1_fireBehindChance_39 : decode cX1_fireBehindChance 39 = .ok (.pop, 1) := by decide +kernel
theorem dX1_fireBehindChance_40 : decode cX1_fireBehindChance 40 = .ok (.goto 37, 3) := by decide +kernel
theorem dX1_fireBehindChance_43 : decode cX1_fireBehindChance 43 = .ok (.iload_n 1, 1) := by decide +kernel
theorem dX1_fireBehindChance_44 : decode cX1_fireBehindChance 44 = .ok (.bipush 12, 2) := by decide +kernel
theorem dX1_fireBehindChance_46 : decode cX1_fireBehindChance 46 = .ok (.if_icmp .ge 20, 3) := by decide +kernel
theorem dX1_fireBehindChance_49 : decode cX1_fireBehindChance 49 = .ok (.aload_n 0, 1) := by decide +kernel
theorem dX1_fireBehindChance_50 : decode cX1_fireBehindChance 50 = .ok (.getfield 19, 3) := by decide +kernel
theorem dX1_fireBehindChance_53 : decode cX1_fireBehindChance 53 = .ok (.iconst 2, 1) := by decide +kernel
theorem dX1_fireBehindChance_54 : decode cX1_fireBehindChance 54 = .ok (.iconst 0, 1) := by decide +kernel
theorem dX1_fireBehindChance_55 : decode cX1_fireBehindChance 55 = .ok (.iload_n 1, 1) := by decide +kernel
theorem dX1_fireBehindChance_56 : decode cX1_fireBehindChance 56 = .ok (.bipush 8, 2) := by decide +kernel
theorem dX1_fireBehindChance_58 : decode cX1_fireBehindChance 58 = .ok (.isub, 1) := by decide +kernel
theorem dX1_fireBehindChance_59 : decode cX1_fireBehindChance 59 = .ok (.invokevirtual 48, 3) := by decide +kernel
theorem dX1_fireBehindChance_62 : decode cX1_fireBehindChance 62 = .ok (.pop, 1) := by decide +kernel
theorem dX1_fireBehindChance_63 : decode cX1_fireBehindChance 63 = .ok (.goto 14, 3) := by decide +kernel
theorem dX1_fireBehindChance_66 : decode cX1_fireBehindChance 66 = .ok (.aload_n 0, 1) := by decide +kernel
theorem dX1_fireBehindChance_67 : decode cX1_fireBehindChance 67 = .ok (.getfield 19, 3) := by decide +kernel
theorem dX1_fireBehindChance_70 : decode cX1_fireBehindChance 70 = .ok (.iconst 0, 1) := by decide +kernel
theorem dX1_fireBehindChance_71 : decode cX1_fireBehindChance 71 = .ok (.iconst 0, 1) := by decide +kernel
theorem dX1_fireBehindChance_72 : decode cX1_fireBehindChance 72 = .ok (.iconst 0, 1) := by decide +kernel
theorem dX1_fireBehindChance_73 : decode cX1_fireBehindChance 73 = .ok (.invokevirtual 48, 3) := by decide +kernel
theorem dX1_fireBehindChance_76 : decode cX1_fireBehindChance 76 = .ok (.pop, 1) := by decide +kernel
theorem dX1_fireBehindChance_77 : decode cX1_fireBehindChance 77 = .ok (.aload_n 0, 1) := by decide +kernel
theorem dX1_fireBehindChance_78 : decode cX1_fireBehindChance 78 = .ok (.getfield 19, 3) := by decide +kernel
theorem dX1_fireBehindChance_81 : decode cX1_fireBehindChance 81 = .ok (.getfield 35, 3) := by decide +kernel
theorem dX1_fireBehindChance_84 : decode cX1_fireBehindChance 84 = .ok (.ireturn, 1) := by decide +kernel
theorem dX2_init_0 : decode cX2_init 0 = .ok (.aload_n 0, 1) := by decide +kernel
theorem dX2_init_1 : decode cX2_init 1 = .ok (.invokespecial 3, 3) := by decide +kernel
theorem dX2_init_4 : decode cX2_init 4 = .ok (.aload_n 0, 1) := by decide +kernel
theorem dX2_init_5 : decode cX2_init 5 = .ok (.iconst 5, 1) := by decide +kernel
theorem dX2_init_6 : decode cX2_init 6 = .ok (.newarray .int, 2) := by decide +kernel
theorem dX2_init_8 : decode cX2_init 8 = .ok (.putfield 9, 3) := by decide +kernel
theorem dX2_init_11 : decode cX2_init 11 = .ok (.aload_n 0, 1) := by decide +kernel
theorem dX2_init_12 : decode cX2_init 12 = .ok (.iconst 4, 1) := by decide +kernel
theorem dX2_init_13 : decode cX2_init 13 = .ok (.newarray .int, 2) := by decide +kernel
theorem dX2_init_15 : decode cX2_init 15 = .ok (.putfield 15, 3) := by decide +kernel
theorem dX2_init_18 : decode cX2_init 18 = .ok (.aload_n 0, 1) := by decide +kernel
theorem dX2_init_19 : decode cX2_init 19 = .ok (.iconst 0, 1) := by decide +kernel
theorem dX2_init_20 : decode cX2_init 20 = .ok (.putfield 18, 3) := by decide +kernel
theorem dX2_init_23 : decode cX2_init 23 = .ok (.aload_n 0, 1) := by decide +kernel
theorem dX2_init_24 : decode cX2_init 24 = .ok (.iconst 0, 1) := by decide +kernel
theorem dX2_init_25 : decode cX2_init 25 = .ok (.putfield 22, 3) := by decide +kernel
theorem dX2_init_28 : decode cX2_init 28 = .ok (.aload_n 0, 1) := by decide +kernel
theorem dX2_init_29 : decode cX2_init 29 = .ok (.iconst 0, 1) := by decide +kernel
theorem dX2_init_30 : decode cX2_init 30 = .ok (.putfield 25, 3) := by decide +kernel
theorem dX2_init_33 : decode cX2_init 33 = .ok (.aload_n 0, 1) := by decide +kernel
theorem dX2_init_34 : decode cX2_init 34 = .ok (.iconst 0, 1) := by decide +kernel
theorem dX2_init_35 : decode cX2_init 35 = .ok (.putfield 28, 3) := by decide +kernel
theorem dX2_init_38 : decode cX2_init 38 = .ok (.aload_n 0, 1) := by decide +kernel
theorem dX2_init_39 : decode cX2_init 39 = .ok (.iconst 0, 1) := by decide +kernel
theorem dX2_init_40 : decode cX2_init 40 = .ok (.putfield 31, 3) := by decide +kernel
theorem dX2_init_43 : decode cX2_init 43 = .ok (.aload_n 0, 1) := by decide +kernel
theorem dX2_init_44 : decode cX2_init 44 = .ok (.iconst 0, 1) := by decide +kernel
theorem dX2_init_45 : decode cX2_init 45 = .ok (.putfield 34, 3) := by decide +kernel
theorem dX2_init_48 : decode cX2_init 48 = .ok (.aload_n 0, 1) := by decide +kernel
theorem dX2_init_49 : decode cX2_init 49 = .ok (.iconst 0, 1) := by decide +kernel
theorem dX2_init_50 : decode cX2_init 50 = .ok (.putfield 37, 3) := by decide +kernel
theorem dX2_init_53 : decode cX2_init 53 = .ok (.return_, 1) := by decide +kernel
theorem dX2_hasPerson_0 : decode cX2_hasPerson 0 = .ok (.iload_n 1, 1) := by decide +kernel
theorem dX2_hasPerson_1 : decode cX2_hasPerson 1 = .ok (.ifCond .lt 24, 3) := by decide +kernel
theorem dX2_hasPerson_4 : decode cX2_hasPerson 4 = .ok (.iload_n 1, 1) := by decide +kernel
theorem dX2_hasPerson_5 : decode cX2_hasPerson 5 = .ok (.aload_n 0, 1) := by decide +kernel
theorem dX2_hasPerson_6 : decode cX2_hasPerson 6 = .ok (.getfield 18, 3) := by decide +kernel
theorem dX2_hasPerson_9 : decode cX2_hasPerson 9 = .ok (.if_icmp .ge 16, 3) := by decide +kernel
theorem dX2_hasPerson_12 : decode cX2_hasPerson 12 = .ok (.iload_n 1, 1) := by decide +kernel
theorem dX2_hasPerson_13 : decode cX2_hasPerson 13 = .ok (.aload_n 0, 1) := by decide +kernel
theorem dX2_hasPerson_14 : decode cX2_hasPerson 14 = .ok (.getfield 9, 3) := by decide +kernel
theorem dX2_hasPerson_17 : decode cX2_hasPerson 17 = .ok (.arraylength, 1) := by decide +kernel
theorem dX2_hasPerson_18 : decode cX2_hasPerson 18 = .ok (.if_icmp .ge 7, 3) := by decide +kernel
theorem dX2_hasPerson_21 : decode cX2_hasPerson 21 = .ok (.iconst 1, 1) := by decide +kernel
theorem dX2_hasPerson_22 : decode cX2_hasPerson 22 = .ok (.goto 4, 3) := by decide +kernel
theorem dX2_hasPerson_25 : decode cX2_hasPerson 25 = .ok (.iconst 0, 1) := by decide +kernel
theorem dX2_hasPerson_26 : decode cX2_hasPerson 26 = .ok (.ireturn, 1) := by decide +kernel
theorem dX2_hasBucket_0 : decode cX2_hasBucket 0 = .ok (.iload_n 1, 1) := by decide +kernel
theorem dX2_hasBucket_1 : decode cX2_hasBucket 1 = .ok (.ifCond .lt 24, 3) := by decide +kernel
theorem dX2_hasBucket_4 : decode cX2_hasBucket 4 = .ok (.iload_n 1, 1) := by decide +kernel
theorem dX2_hasBucket_5 : decode cX2_hasBucket 5 = .ok (.aload_n 0, 1) := by decide +kernel
theorem dX2_hasBucket_6 : decode cX2_hasBucket 6 = .ok (.getfield 22, 3) := by decide +kernel
theorem dX2_hasBucket_9 : decode cX2_hasBucket 9 = .ok (.if_icmp .ge 16, 3) := by decide +kernel
theorem dX2_hasBucket_12 : decode cX2_hasBucket 12 = .ok (.iload_n 1, 1) := by decide +kernel
theorem dX2_hasBucket_13 : decode cX2_hasBucket 13 = .ok (.aload_n 0, 1) := by decide +kernel
theorem dX2_hasBucket_14 : decode cX2_hasBucket 14 = .ok (.getfield 15, 3) := by decide +kernel
theorem dX2_hasBucket_17 : decode cX2_hasBucket 17 = .ok (.arraylength, 1) := by decide +kernel
theorem dX2_hasBucket_18 : decode cX2_hasBucket 18 = .ok (.if_icmp .ge 7, 3) := by decide +kernel
theorem dX2_hasBucket_21 : decode cX2_hasBucket 21 = .ok (.iconst 1, 1) := by decide +kernel
theorem dX2_hasBucket_22 : decode cX2_hasBucket 22 = .ok (.goto 4, 3) := by decide +kernel
theorem dX2_hasBucket_25 : decode cX2_hasBucket 25 = .ok (.iconst 0, 1) := by decide +kernel
theorem dX2_hasBucket_26 : decode cX2_hasBucket 26 = .ok (.ireturn, 1) := by decide +kernel
theorem dX2_readFrom_0 : decode cX2_readFrom 0 = .ok (.aload_n 0, 1) := by decide +kernel
theorem dX2_readFrom_1 : decode cX2_readFrom 1 = .ok (.iconst 0, 1) := by decide +kernel
theorem dX2_readFrom_2 : decode cX2_readFrom 2 = .ok (.putfield 18, 3) := by decide +kernel
theorem dX2_readFrom_5 : decode cX2_readFrom 5 = .ok (.aload_n 0, 1) := by decide +kernel
theorem dX2_readFrom_6 : decode cX2_readFrom 6 = .ok (.iconst 0, 1) := by decide +kernel
theorem dX2_readFrom_7 : decode cX2_readFrom 7 = .ok (.putfield 22, 3) := by decide +kernel
theorem dX2_readFrom_10 : decode cX2_readFrom 10 = .ok (.aload_n 0, 1) := by decide +kernel
theorem dX2_readFrom_11 : decode cX2_readFrom 11 = .ok (.iconst 0, 1) := by decide +kernel
theorem dX2_readFrom_12 : decode cX2_readFrom 12 = .ok (.putfield 25, 3) := by decide +kernel
theorem dX2_readFrom_15 : decode cX2_readFrom 15 = .ok (.aload_n 0, 1) := by decide +kernel
theorem dX2_readFrom_16 : decode cX2_readFrom 16 = .ok (.iconst 0, 1) := by decide +kernel
theorem dX2_readFrom_17 : decode cX2_readFrom 17 = .ok (.putfield 37, 3) := by decide +kernel
theorem dX2_readFrom_20 : decode cX2_readFrom 20 = .ok (.iconst 0, 1) := by decide +kernel
theorem dX2_readFrom_21 : decode cX2_readFrom 21 = .ok (.istore_n 2, 1) := by decide +kernel
theorem dX2_readFrom_22 : decode cX2_readFrom 22 = .ok (.iload_n 2, 1) := by decide +kernel
theorem dX2_readFrom_23 : decode cX2_readFrom 23 = .ok (.aload_n 1, 1) := by decide +kernel
theorem dX2_readFrom_24 : decode cX2_readFrom 24 = .ok (.getfield 40, 3) := by decide +kernel
theorem dX2_readFrom_27 : decode cX2_readFrom 27 = .ok (.if_icmp .ge 33, 3) := by decide +kernel
theorem dX2_readFrom_30 : decode cX2_readFrom 30 = .ok (.iload_n 2, 1) := by decide +kernel
theorem dX2_readFrom_31 : decode cX2_readFrom 31 = .ok (.aload_n 1, 1) := by decide +kernel
theorem dX2_readFrom_32 : decode cX2_readFrom 32 = .ok (.getfield 45, 3) := by decide +kernel
theorem dX2_readFrom_35 : decode cX2_readFrom 35 = .ok (.arraylength, 1) := by decide +kernel
theorem dX2_readFrom_36 : decode cX2_readFrom 36 = .ok (.if_icmp .ge 24, 3) := by decide +kernel
theorem dX2_readFrom_39 : decode cX2_readFrom 39 = .ok (.aload_n 0, 1) := by decide +kernel
theorem dX2_readFrom_40 : decode cX2_readFrom 40 = .ok (.aload_n 1, 1) := by decide +kernel
theorem dX2_readFrom_41 : decode cX2_readFrom 41 = .ok (.getfield 45, 3) := by decide +kernel
theorem dX2_readFrom_44 : decode cX2_readFrom 44 = .ok (.iload_n 2, 1) := by decide +kernel
theorem dX2_readFrom_45 : decode cX2_readFrom 45 = .ok (.iaload, 1) := by decide +kernel
theorem dX2_readFrom_46 : decode cX2_readFrom 46 = .ok (.invokevirtual 48, 3) := by decide +kernel
theorem dX2_readFrom_49 : decode cX2_readFrom 49 = .ok (.ifCond .ne 5, 3) := by decide +kernel
theorem dX2_readFrom_52 : decode cX2_readFrom 52 = .ok (.iload_n 2, 1) := by decide +kernel
theorem dX2_readFrom_53 : decode cX2_readFrom 53 = .ok (.ireturn, 1) := by decide +kernel
theorem dX2_readFrom_54 : decode cX2_readFrom 54 = .ok (.iinc 2 1, 3) := by decide +kernel
theorem dX2_readFrom_57 : decode cX2_readFrom 57 = .ok (.goto (-35), 3) := by decide +kernel
theorem dX2_readFrom_60 : decode cX2_readFrom 60 = .ok (.aload_n 0, 1) := by decide +kernel
theorem dX2_readFrom_61 : decode cX2_readFrom 61 = .ok (.getfield 37, 3) := by decide +kernel
theorem dX2_readFrom_64 : decode cX2_readFrom 64 = .ok (.iconst 5, 1) := by decide +kernel
theorem dX2_readFrom_65 : decode cX2_readFrom 65 = .ok (.if_icmp .ne 8, 3) := by decide +kernel
theorem dX2_readFrom_68 : decode cX2_readFrom 68 = .ok (.bipush (-9), 2) := by decide +kernel
theorem dX2_readFrom_70 : decode cX2_readFrom 70 = .ok (.goto 7, 3) := by decide +kernel
theorem dX2_readFrom_73 : decode cX2_readFrom 73 = .ok (.aload_n 1, 1) := by decide +kernel
theorem dX2_readFrom_74 : decode cX2_readFrom 74 = .ok (.getfield 40, 3) := by decide +kernel
theorem dX2_readFrom_77 : decode cX2_readFrom 77 = .ok (.ireturn, 1) := by decide +kernel
theorem dX2_takeLetter_0 : decode cX2_takeLetter 0 = .ok (.aload_n 0, 1) := by decide +kernel
theorem dX2_takeLetter_1 : decode cX2_takeLetter 1 = .ok (.getfield 37, 3) := by decide +kernel
theorem dX2_takeLetter_4 : decode cX2_takeLetter 4 = .ok (.ifCond .ne 20, 3) := by decide +kernel
theorem dX2_takeLetter_7 : decode cX2_takeLetter 7 = .ok (.aload_n 0, 1) := by decide +kernel
theorem dX2_takeLetter_8 : decode cX2_takeLetter 8 = .ok (.iconst 1, 1) := by decide +kernel
theorem dX2_takeLetter_9 : decode cX2_takeLetter 9 = .ok (.putfield 37, 3) := by decide +kernel
theorem dX2_takeLetter_12 : decode cX2_takeLetter 12 = .ok (.iload_n 1, 1) := by decide +kernel
theorem dX2_takeLetter_13 : decode cX2_takeLetter 13 = .ok (.bipush 87, 2) := by decide +kernel
theorem dX2_takeLetter_15 : decode cX2_takeLetter 15 = .ok (.if_icmp .ne 7, 3) := by decide +kernel
theorem dX2_takeLetter_18 : decode cX2_takeLetter 18 = .ok (.iconst 1, 1) := by decide +kernel
theorem dX2_takeLetter_19 : decode cX2_takeLetter 19 = .ok (.goto 4, 3) := by decide +kernel
theorem dX2_takeLetter_22 : decode cX2_takeLetter 22 = .ok (.iconst 0, 1) := by decide +kernel
theorem dX2_takeLetter_23 : decode cX2_takeLetter 23 = .ok (.ireturn, 1) := by decide +kernel
theorem dX2_takeLetter_24 : decode cX2_takeLetter 24 = .ok (.aload_n 0, 1) := by decide +kernel
theorem dX2_takeLetter_25 : decode cX2_takeLetter 25 = .ok (.getfield 37, 3) := by decide +kernel
theorem dX2_takeLetter_28 : decode cX2_takeLetter 28 = .ok (.iconst 5, 1) := by decide +kernel
theorem dX2_takeLetter_29 : decode cX2_takeLetter 29 = .ok (.if_icmp .ne 9, 3) := by decide +kernel
theorem dX2_takeLetter_32 : decode cX2_takeLetter 32 = .ok (.aload_n 0, 1) := by decide +kernel
theorem dX2_takeLetter_33 : decode cX2_takeLetter 33 = .ok (.iload_n 1, 1) := by decide +kernel
theorem dX2_takeLetter_34 : decode cX2_takeLetter 34 = .ok (.invokevirtual 52, 3) := by decide +kernel
theorem dX2_takeLetter_37 : decode cX2_takeLetter 37 = .ok (.ireturn, 1) := by decide +kernel
theorem dX2_takeLetter_38 : decode cX2_takeLetter 38 = .ok (.iload_n 1, 1) := by decide +kernel
theorem dX2_takeLetter_39 : decode cX2_takeLetter 39 = .ok (.bipush 48, 2) := by decide +kernel
theorem dX2_takeLetter_41 : decode cX2_takeLetter 41 = .ok (.isub, 1) := by decide +kernel
theorem dX2_takeLetter_42 : decode cX2_takeLetter 42 = .ok (.istore_n 2, 1) := by decide +kernel
theorem dX2_takeLetter_43 : decode cX2_takeLetter 43 = .ok (.iload_n 2, 1) := by decide +kernel
theorem dX2_takeLetter_44 : decode cX2_takeLetter 44 = .ok (.aload_n 0, 1) := by decide +kernel
theorem dX2_takeLetter_45 : decode cX2_takeLetter 45 = .ok (.invokevirtual 55, 3) := by decide +kernel
theorem dX2_takeLetter_48 : decode cX2_takeLetter 48 = .ok (.if_icmp .lt 23, 3) := by decide +kernel
theorem dX2_takeLetter_51 : decode cX2_takeLetter 51 = .ok (.iload_n 2, 1) := by decide +kernel
theorem dX2_takeLetter_52 : decode cX2_takeLetter 52 = .ok (.aload_n 0, 1) := by decide +kernel
theorem dX2_takeLetter_53 : decode cX2_takeLetter 53 = .ok (.invokevirtual 59, 3) := by decide +kernel
theorem dX2_takeLetter_56 : decode cX2_takeLetter 56 = .ok (.if_icmp .gt 15, 3) := by decide +kernel
theorem dX2_takeLetter_59 : decode cX2_takeLetter 59 = .ok (.aload_n 0, 1) := by decide +kernel
theorem dX2_takeLetter_60 : decode cX2_takeLetter 60 = .ok (.iload_n 2, 1) := by decide +kernel
theorem dX2_takeLetter_61 : decode cX2_takeLetter 61 = .ok (.invokevirtual 62, 3) := by decide +kernel
theorem dX2_takeLetter_64 : decode cX2_takeLetter 64 = .ok (.ifCond .eq 7, 3) := by decide +kernel
theorem dX2_takeLetter_67 : decode cX2_takeLetter 67 = .ok (.iconst 1, 1) := by decide +kernel
theorem dX2_takeLetter_68 : decode cX2_takeLetter 68 = .ok (.goto 4, 3) := by decide +kernel
theorem dX2_takeLetter_71 : decode cX2_takeLetter 71 = .ok (.iconst 0, 1) := by decide +kernel
theorem dX2_takeLetter_72 : decode cX2_takeLetter 72 = .ok (.ireturn, 1) := by decide +kernel
theorem dX2_openPart_0 : decode cX2_openPart 0 = .ok (.iload_n 1, 1) := by decide +kernel
theorem dX2_openPart_1 : decode cX2_openPart 1 = .ok (.bipush 80, 2) := by decide +kernel
theorem dX2_openPart_3 : decode cX2_openPart 3 = .ok (.if_icmp .ne 23, 3) := by decide +kernel
theorem dX2_openPart_6 : decode cX2_openPart 6 = .ok (.aload_n 0, 1) := by decide +kernel
theorem dX2_openPart_7 : decode cX2_openPart 7 = .ok (.getfield 18, 3) := by decide +kernel
theorem dX2_openPart_10 : decode cX2_openPart 10 = .ok (.aload_n 0, 1) := by decide +kernel
theorem dX2_openPart_11 : decode cX2_openPart 11 = .ok (.getfield 9, 3) := by decide +kernel
theorem dX2_openPart_14 : decode cX2_openPart 14 = .ok (.arraylength, 1) := by decide +kernel
theorem dX2_openPart_15 : decode cX2_openPart 15 = .ok (.if_icmp .ge 11, 3) := by decide +kernel
theorem dX2_openPart_18 : decode cX2_openPart 18 = .ok (.aload_n 0, 1) := by decide +kernel
theorem dX2_openPart_19 : decode cX2_openPart 19 = .ok (.bipush 6, 2) := by decide +kernel
theorem dX2_openPart_21 : decode cX2_openPart 21 = .ok (.putfield 37, 3) := by decide +kernel
theorem dX2_openPart_24 : decode cX2_openPart 24 = .ok (.iconst 1, 1) := by decide +kernel
theorem dX2_openPart_25 : decode cX2_openPart 25 = .ok (.ireturn, 1) := by decide +kernel
theorem dX2_openPart_26 : decode cX2_openPart 26 = .ok (.iload_n 1, 1) := by decide +kernel
theorem dX2_openPart_27 : decode cX2_openPart 27 = .ok (.bipush 66, 2) := by decide +kernel
theorem dX2_openPart_29 : decode cX2_openPart 29 = .ok (.if_icmp .ne 23, 3) := by decide +kernel
theorem dX2_openPart_32 : decode cX2_openPart 32 = .ok (.aload_n 0, 1) := by decide +kernel
theorem dX2_openPart_33 : decode cX2_openPart 33 = .ok (.getfield 22, 3) := by decide +kernel
theorem dX2_openPart_36 : decode cX2_openPart 36 = .ok (.aload_n 0, 1) := by decide +kernel
theorem dX2_openPart_37 : decode cX2_openPart 37 = .ok (.getfield 15, 3) := by decide +kernel
theorem dX2_openPart_40 : decode cX2_openPart 40 = .ok (.arraylength, 1) := by decide +kernel
theorem dX2_openPart_41 : decode cX2_openPart 41 = .ok (.if_icmp .ge 11, 3) := by decide +kernel
theorem dX2_openPart_44 : decode cX2_openPart 44 = .ok (.aload_n 0, 1) := by decide +kernel
theorem dX2_openPart_45 : decode cX2_openPart 45 = .ok (.bipush 7, 2) := by decide +kernel
theorem dX2_openPart_47 : decode cX2_openPart 47 = .ok (.putfield 37, 3) := by decide +kernel
theorem dX2_openPart_50 : decode cX2_openPart 50 = .ok (.iconst 1, 1) := by decide +kernel
theorem dX2_openPart_51 : decode cX2_openPart 51 = .ok (.ireturn, 1) := by decide +kernel
theorem dX2_openPart_52 : decode cX2_openPart 52 = .ok (.iconst 0, 1) := by decide +kernel
theorem dX2_openPart_53 : decode cX2_openPart 53 = .ok (.ireturn, 1) := by decide +kernel
theorem dX2_leastFigure_0 : decode cX2_leastFigure 0 = .ok (.aload_n 0, 1) := by decide +kernel
theorem dX2_leastFigure_1 : decode cX2_leastFigure 1 = .ok (.getfield 37, 3) := by decide +kernel
theorem dX2_leastFigure_4 : decode cX2_leastFigure 4 = .ok (.bipush 7, 2) := by decide +kernel
theorem dX2_leastFigure_6 : decode cX2_leastFigure 6 = .ok (.if_icmp .ne 7, 3) := by decide +kernel
theorem dX2_leastFigure_9 : decode cX2_leastFigure 9 = .ok (.iconst 1, 1) := by decide +kernel
theorem dX2_leastFigure_10 : decode cX2_leastFigure 10 = .ok (.goto 4, 3) := by decide +kernel
theorem dX2_leastFigure_13 : decode cX2_leastFigure 13 = .ok (.iconst 0, 1) := by decide +kernel
theorem dX2_leastFigure_14 : decode cX2_leastFigure 14 = .ok (.ireturn, 1) := by decide +kernel
theorem dX2_mostFigure_0 : decode cX2_mostFigure 0 = .ok (.aload_n 0, 1) := by decide +kernel
theorem dX2_mostFigure_1 : decode cX2_mostFigure 1 = .ok (.getfield 37, 3) := by decide +kernel
theorem dX2_mostFigure_4 : decode cX2_mostFigure 4 = .ok (.lookupswitch 32 #[(6, 28), (8, 30)], 28) := by decide +kernel
theorem dX2_mostFigure_32 : decode cX2_mostFigure 32 = .ok (.iconst 3, 1) := by decide +kernel
theorem dX2_mostFigure_33 : decode cX2_mostFigure 33 = .ok (.ireturn, 1) := by decide +kernel
theorem dX2_mostFigure_34 : decode cX2_mostFigure 34 = .ok (.iconst 1, 1) := by decide +kernel
theorem dX2_mostFigure_35 : decode cX2_mostFigure 35 = .ok (.ireturn, 1) := by decide +kernel
theorem dX2_mostFigure_36 : decode cX2_mostFigure 36 = .ok (.bipush 9, 2) := by decide +kernel
theorem dX2_mostFigure_38 : decode cX2_mostFigure 38 = .ok (.ireturn, 1) := by decide +kernel
theorem dX2_takeFigure_0 : decode cX2_takeFigure 0 = .ok (.aload_n 0, 1) := by decide +kernel
theorem dX2_takeFigure_1 : decode cX2_takeFigure 1 = .ok (.getfield 37, 3) := by decide +kernel
theorem dX2_takeFigure_4 : decode cX2_takeFigure 4 = .ok (.tableswitch 122 1 8 #[48, 63, 80, 92, 122, 104, 110, 116], 48) := by decide +kernel
theorem dX2_takeFigure_52 : decode cX2_takeFigure 52 = .ok (.aload_n 0, 1) := by decide +kernel
theorem dX2_takeFigure_53 : decode cX2_takeFigure 53 = .ok (.bipush 10, 2) := by decide +kernel
theorem dX2_takeFigure_55 : decode cX2_takeFigure 55 = .ok (.iload_n 1, 1) := by decide +kernel
theorem dX2_takeFigure_56 : decode cX2_takeFigure 56 = .ok (.imul, 1) := by decide +kernel
theorem dX2_takeFigure_57 : decode cX2_takeFigure 57 = .ok (.putfield 28, 3) := by decide +kernel
theorem dX2_takeFigure_60 : decode cX2_takeFigure 60 = .ok (.aload_n 0, 1) := by decide +kernel
theorem dX2_takeFigure_61 : decode cX2_takeFigure 61 = .ok (.iconst 2, 1) := by decide +kernel
theorem dX2_takeFigure_62 : decode cX2_takeFigure 62 = .ok (.putfield 37, 3) := by decide +kernel
theorem dX2_takeFigure_65 : decode cX2_takeFigure 65 = .ok (.iconst 1, 1) := by decide +kernel
theorem dX2_takeFigure_66 : decode cX2_takeFigure 66 = .ok (.ireturn, 1) := by decide +kernel
theorem dX2_takeFigure_67 : decode cX2_takeFigure 67 = .ok (.aload_n 0, 1) := by decide +kernel
theorem dX2_takeFigure_68 : decode cX2_takeFigure 68 = .ok (.dup, 1) := by decide +kernel
theorem dX2_takeFigure_69 : decode cX2_takeFigure 69 = .ok (.getfield 28, 3) := by decide +kernel
theorem dX2_takeFigure_72 : decode cX2_takeFigure 72 = .ok (.iload_n 1, 1) := by decide +kernel
theorem dX2_takeFigure_73 : decode cX2_takeFigure 73 = .ok (.iadd, 1) := by decide +kernel
theorem dX2_takeFigure_74 : decode cX2_takeFigure 74 = .ok (.putfield 28, 3) := by decide +kernel
theorem dX2_takeFigure_77 : decode cX2_takeFigure 77 = .ok (.aload_n 0, 1) := by decide +kernel
theorem dX2_takeFigure_78 : decode cX2_takeFigure 78 = .ok (.iconst 3, 1) := by decide +kernel
theorem dX2_takeFigure_79 : decode cX2_takeFigure 79 = .ok (.putfield 37, 3) := by decide +kernel
theorem dX2_takeFigure_82 : decode cX2_takeFigure 82 = .ok (.iconst 1, 1) := by decide +kernel
theorem dX2_takeFigure_83 : decode cX2_takeFigure 83 = .ok (.ireturn, 1) := by decide +kernel
theorem dX2_takeFigure_84 : decode cX2_takeFigure 84 = .ok (.aload_n 0, 1) := by decide +kernel
theorem dX2_takeFigure_85 : decode cX2_takeFigure 85 = .ok (.iload_n 1, 1) := by decide +kernel
theorem dX2_takeFigure_86 : decode cX2_takeFigure 86 = .ok (.putfield 31, 3) := by decide +kernel
theorem dX2_takeFigure_89 : decode cX2_takeFigure 89 = .ok (.aload_n 0, 1) := by decide +kernel
theorem dX2_takeFigure_90 : decode cX2_takeFigure 90 = .ok (.iconst 4, 1) := by decide +kernel
theorem dX2_takeFigure_91 : decode cX2_takeFigure 91 = .ok (.putfield 37, 3) := by decide +kernel
theorem dX2_takeFigure_94 : decode cX2_takeFigure 94 = .ok (.iconst 1, 1) := by decide +kernel
theorem dX2_takeFigure_95 : decode cX2_takeFigure 95 = .ok (.ireturn, 1) := by decide +kernel
theorem dX2_takeFigure_96 : decode cX2_takeFigure 96 = .ok (.aload_n 0, 1) := by decide +kernel
theorem dX2_takeFigure_97 : decode cX2_takeFigure 97 = .ok (.iload_n 1, 1) := by decide +kernel
theorem dX2_takeFigure_98 : decode cX2_takeFigure 98 = .ok (.putfield 34, 3) := by decide +kernel
theorem dX2_takeFigure_101 : decode cX2_takeFigure 101 = .ok (.aload_n 0, 1) := by decide +kernel
theorem dX2_takeFigure_102 : decode cX2_takeFigure 102 = .ok (.iconst 5, 1) := by decide +kernel
theorem dX2_takeFigure_103 : decode cX2_takeFigure 103 = .ok (.putfield 37, 3) := by decide +kernel
theorem dX2_takeFigure_106 : decode cX2_takeFigure 106 = .ok (.iconst 1, 1) := by decide +kernel
theorem dX2_takeFigure_107 : decode cX2_takeFigure 107 = .ok (.ireturn, 1) := by decide +kernel
theorem dX2_takeFigure_108 : decode cX2_takeFigure 108 = .ok (.aload_n 0, 1) := by decide +kernel
theorem dX2_takeFigure_109 : decode cX2_takeFigure 109 = .ok (.iload_n 1, 1) := by decide +kernel
theorem dX2_takeFigure_110 : decode cX2_takeFigure 110 = .ok (.invokevirtual 65, 3) := by decide +kernel
theorem dX2_takeFigure_113 : decode cX2_takeFigure 113 = .ok (.ireturn, 1) := by decide +kernel
theorem dX2_takeFigure_114 : decode cX2_takeFigure 114 = .ok (.aload_n 0, 1) := by decide +kernel
theorem dX2_takeFigure_115 : decode cX2_takeFigure 115 = .ok (.iload_n 1, 1) := by decide +kernel
theorem dX2_takeFigure_116 : decode cX2_takeFigure 116 = .ok (.invokevirtual 68, 3) := by decide +kernel
theorem dX2_takeFigure_119 : decode cX2_takeFigure 119 = .ok (.ireturn, 1) := by decide +kernel
theorem dX2_takeFigure_120 : decode cX2_takeFigure 120 = .ok (.aload_n 0, 1) := by decide +kernel
theorem dX2_takeFigure_121 : decode cX2_takeFigure 121 = .ok (.iload_n 1, 1) := by decide +kernel
theorem dX2_takeFigure_122 : decode cX2_takeFigure 122 = .ok (.invokevirtual 71, 3) := by decide +kernel
theorem dX2_takeFigure_125 : decode cX2_takeFigure 125 = .ok (.ireturn, 1) := by decide +kernel
theorem dX2_takeFigure_126 : decode cX2_takeFigure 126 = .ok (.iconst 0, 1) := by decide +kernel
theorem dX2_takeFigure_127 : decode cX2_takeFigure 127 = .ok (.ireturn, 1) := by decide +kernel
theorem dX2_addPerson_0 : decode cX2_addPerson 0 = .ok (.aload_n 0, 1) := by decide +kernel
theorem dX2_addPerson_1 : decode cX2_addPerson 1 = .ok (.getfield 18, 3) := by decide +kernel
theorem dX2_addPerson_4 : decode cX2_addPerson 4 = .ok (.ifCond .lt 15, 3) := by decide +kernel
theorem dX2_addPerson_7 : decode cX2_addPerson 7 = .ok (.aload_n 0, 1) := by decide +kernel
theorem dX2_addPerson_8 : decode cX2_addPerson 8 = .ok (.getfield 18, 3) := by decide +kernel
theorem dX2_addPerson_11 : decode cX2_addPerson 11 = .ok (.aload_n 0, 1) := by decide +kernel
theorem dX2_addPerson_12 : decode cX2_addPerson 12 = .ok (.getfield 9, 3) := by decide +kernel
theorem dX2_addPerson_15 : decode cX2_addPerson 15 = .ok (.arraylength, 1) := by decide +kernel
theorem dX2_addPerson_16 : decode cX2_addPerson 16 = .ok (.if_icmp .lt 5, 3) := by decide +kernel
theorem dX2_addPerson_19 : decode cX2_addPerson 19 = .ok (.iconst 0, 1) := by decide +kernel
theorem dX2_addPerson_20 : decode cX2_addPerson 20 = .ok (.ireturn, 1) := by decide +kernel
theorem dX2_addPerson_21 : decode cX2_addPerson 21 = .ok (.aload_n 0, 1) := by decide +kernel
theorem dX2_addPerson_22 : decode cX2_addPerson 22 = .ok (.getfield 9, 3) := by decide +kernel
theorem dX2_addPerson_25 : decode cX2_addPerson 25 = .ok (.aload_n 0, 1) := by decide +kernel
theorem dX2_addPerson_26 : decode cX2_addPerson 26 = .ok (.getfield 18, 3) := by decide +kernel
theorem dX2_addPerson_29 : decode cX2_addPerson 29 = .ok (.iload_n 1, 1) := by decide +kernel
theorem dX2_addPerson_30 : decode cX2_addPerson 30 = .ok (.iastore, 1) := by decide +kernel
theorem dX2_addPerson_31 : decode cX2_addPerson 31 = .ok (.aload_n 0, 1) := by decide +kernel
theorem dX2_addPerson_32 : decode cX2_addPerson 32 = .ok (.dup, 1) := by decide +kernel
theorem dX2_addPerson_33 : decode cX2_addPerson 33 = .ok (.getfield 18, 3) := by decide +kernel
theorem dX2_addPerson_36 : decode cX2_addPerson 36 = .ok (.iconst 1, 1) := by decide +kernel
theorem dX2_addPerson_37 : decode cX2_addPerson 37 = .ok (.iadd, 1) := by decide +kernel
theorem dX2_addPerson_38 : decode cX2_addPerson 38 = .ok (.putfield 18, 3) := by decide +kernel
theorem dX2_addPerson_41 : decode cX2_addPerson 41 = .ok (.aload_n 0, 1) := by decide +kernel
theorem dX2_addPerson_42 : decode cX2_addPerson 42 = .ok (.iconst 5, 1) := by decide +kernel
theorem dX2_addPerson_43 : decode cX2_addPerson 43 = .ok (.putfield 37, 3) := by decide +kernel
theorem dX2_addPerson_46 : decode cX2_addPerson 46 = .ok (.iconst 1, 1) := by decide +kernel
theorem dX2_addPerson_47 : decode cX2_addPerson 47 = .ok (.ireturn, 1) := by decide +kernel
theorem dX2_startBucket_0 : decode cX2_startBucket 0 = .ok (.aload_n 0, 1) := by decide +kernel
theorem dX2_startBucket_1 : decode cX2_startBucket 1 = .ok (.getfield 22, 3) := by decide +kernel
theorem dX2_startBucket_4 : decode cX2_startBucket 4 = .ok (.ifCond .lt 15, 3) := by decide +kernel
theorem dX2_startBucket_7 : decode cX2_startBucket 7 = .ok (.aload_n 0, 1) := by decide +kernel
theorem dX2_startBucket_8 : decode cX2_startBucket 8 = .ok (.getfield 22, 3) := by decide +kernel
theorem dX2_startBucket_11 : decode cX2_startBucket 11 = .ok (.aload_n 0, 1) := by decide +kernel
theorem dX2_startBucket_12 : decode cX2_startBucket 12 = .ok (.getfield 15, 3) := by decide +kernel
theorem dX2_startBucket_15 : decode cX2_startBucket 15 = .ok (.arraylength, 1) := by decide +kernel
theorem dX2_startBucket_16 : decode cX2_startBucket 16 = .ok (.if_icmp .lt 5, 3) := by decide +kernel
theorem dX2_startBucket_19 : decode cX2_startBucket 19 = .ok (.iconst 0, 1) := by decide +kernel
theorem dX2_startBucket_20 : decode cX2_startBucket 20 = .ok (.ireturn, 1) := by decide +kernel
theorem dX2_startBucket_21 : decode cX2_startBucket 21 = .ok (.aload_n 0, 1) := by decide +kernel
theorem dX2_startBucket_22 : decode cX2_startBucket 22 = .ok (.getfield 15, 3) := by decide +kernel
theorem dX2_startBucket_25 : decode cX2_startBucket 25 = .ok (.aload_n 0, 1) := by decide +kernel
theorem dX2_startBucket_26 : decode cX2_startBucket 26 = .ok (.getfield 22, 3) := by decide +kernel
theorem dX2_startBucket_29 : decode cX2_startBucket 29 = .ok (.iload_n 1, 1) := by decide +kernel
theorem dX2_startBucket_30 : decode cX2_startBucket 30 = .ok (.iastore, 1) := by decide +kernel
theorem dX2_startBucket_31 : decode cX2_startBucket 31 = .ok (.aload_n 0, 1) := by decide +kernel
theorem dX2_startBucket_32 : decode cX2_startBucket 32 = .ok (.bipush 8, 2) := by decide +kernel
theorem dX2_startBucket_34 : decode cX2_startBucket 34 = .ok (.putfield 37, 3) := by decide +kernel
theorem dX2_startBucket_37 : decode cX2_startBucket 37 = .ok (.iconst 1, 1) := by decide +kernel
theorem dX2_startBucket_38 : decode cX2_startBucket 38 = .ok (.ireturn, 1) := by decide +kernel
theorem dX2_endBucket_0 : decode cX2_endBucket 0 = .ok (.aload_n 0, 1) := by decide +kernel
theorem dX2_endBucket_1 : decode cX2_endBucket 1 = .ok (.dup, 1) := by decide +kernel
theorem dX2_endBucket_2 : decode cX2_endBucket 2 = .ok (.getfield 25, 3) := by decide +kernel
theorem dX2_endBucket_5 : decode cX2_endBucket 5 = .ok (.iload_n 1, 1) := by decide +kernel
theorem dX2_endBucket_6 : decode cX2_endBucket 6 = .ok (.aload_n 0, 1) := by decide +kernel
theorem dX2_endBucket_7 : decode cX2_endBucket 7 = .ok (.getfield 22, 3) := by decide +kernel
theorem dX2_endBucket_10 : decode cX2_endBucket 10 = .ok (.ishl, 1) := by decide +kernel
theorem dX2_endBucket_11 : decode cX2_endBucket 11 = .ok (.ior, 1) := by decide +kernel
theorem dX2_endBucket_12 : decode cX2_endBucket 12 = .ok (.putfield 25, 3) := by decide +kernel
theorem dX2_endBucket_15 : decode cX2_endBucket 15 = .ok (.aload_n 0, 1) := by decide +kernel
theorem dX2_endBucket_16 : decode cX2_endBucket 16 = .ok (.dup, 1) := by decide +kernel
theorem dX2_endBucket_17 : decode cX2_endBucket 17 = .ok (.getfield 22, 3) := by decide +kernel
theorem dX2_endBucket_20 : decode cX2_endBucket 20 = .ok (.iconst 1, 1) := by decide +kernel
theorem dX2_endBucket_21 : decode cX2_endBucket 21 = .ok (.iadd, 1) := by decide +kernel
theorem dX2_endBucket_22 : decode cX2_endBucket 22 = .ok (.putfield 22, 3) := by decide +kernel
theorem dX2_endBucket_25 : decode cX2_endBucket 25 = .ok (.aload_n 0, 1) := by decide +kernel
theorem dX2_endBucket_26 : decode cX2_endBucket 26 = .ok (.iconst 5, 1) := by decide +kernel
theorem dX2_endBucket_27 : decode cX2_endBucket 27 = .ok (.putfield 37, 3) := by decide +kernel
theorem dX2_endBucket_30 : decode cX2_endBucket 30 = .ok (.iconst 1, 1) := by decide +kernel
theorem dX2_endBucket_31 : decode cX2_endBucket 31 = .ok (.ireturn, 1) := by decide +kernel
