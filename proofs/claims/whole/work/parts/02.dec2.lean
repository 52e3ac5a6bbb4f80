theorem dX4_init_0 : decode cX4_init 0 = .ok (.aload_n 0, 1) := by decide +kernel
theorem dX4_init_1 : decode cX4_init 1 = .ok (.invokespecial 3, 3) := by decide +kernel
theorem dX4_init_4 : decode cX4_init 4 = .ok (.aload_n 0, 1) := by decide +kernel
theorem dX4_init_5 : decode cX4_init 5 = .ok (.iconst 5, 1) := by decide +kernel
theorem dX4_init_6 : decode cX4_init 6 = .ok (.newarray .int, 2) := by decide +kernel
theorem dX4_init_8 : decode cX4_init 8 = .ok (.putfield 9, 3) := by decide +kernel
theorem dX4_init_11 : decode cX4_init 11 = .ok (.aload_n 0, 1) := by decide +kernel
theorem dX4_init_12 : decode cX4_init 12 = .ok (.iconst 0, 1) := by decide +kernel
theorem dX4_init_13 : decode cX4_init 13 = .ok (.putfield 15, 3) := by decide +kernel
theorem dX4_init_16 : decode cX4_init 16 = .ok (.aload_n 0, 1) := by decide +kernel
theorem dX4_init_17 : decode cX4_init 17 = .ok (.iconst 0, 1) := by decide +kernel
theorem dX4_init_18 : decode cX4_init 18 = .ok (.putfield 19, 3) := by decide +kernel
theorem dX4_init_21 : decode cX4_init 21 = .ok (.aload_n 0, 1) := by decide +kernel
theorem dX4_init_22 : decode cX4_init 22 = .ok (.aload_n 1, 1) := by decide +kernel
theorem dX4_init_23 : decode cX4_init 23 = .ok (.putfield 22, 3) := by decide +kernel
theorem dX4_init_26 : decode cX4_init 26 = .ok (.aload_n 0, 1) := by decide +kernel
theorem dX4_init_27 : decode cX4_init 27 = .ok (.aload_n 2, 1) := by decide +kernel
theorem dX4_init_28 : decode cX4_init 28 = .ok (.putfield 26, 3) := by decide +kernel
theorem dX4_init_31 : decode cX4_init 31 = .ok (.aload_n 0, 1) := by decide +kernel
theorem dX4_init_32 : decode cX4_init 32 = .ok (.aload_n 3, 1) := by decide +kernel
theorem dX4_init_33 : decode cX4_init 33 = .ok (.putfield 30, 3) := by decide +kernel
theorem dX4_init_36 : decode cX4_init 36 = .ok (.return_, 1) := by decide +kernel
theorem dX4_tryExchanges_0 : decode cX4_tryExchanges 0 = .ok (.aload_n 0, 1) := by decide +kernel
theorem dX4_tryExchanges_1 : decode cX4_tryExchanges 1 = .ok (.getfield 30, 3) := by decide +kernel
theorem dX4_tryExchanges_4 : decode cX4_tryExchanges 4 = .ok (.aload_n 0, 1) := by decide +kernel
theorem dX4_tryExchanges_5 : decode cX4_tryExchanges 5 = .ok (.getfield 26, 3) := by decide +kernel
theorem dX4_tryExchanges_8 : decode cX4_tryExchanges 8 = .ok (.invokevirtual 33, 3) := by decide +kernel
theorem dX4_tryExchanges_11 : decode cX4_tryExchanges 11 = .ok (.aload_n 0, 1) := by decide +kernel
theorem dX4_tryExchanges_12 : decode cX4_tryExchanges 12 = .ok (.getfield 30, 3) := by decide +kernel
theorem dX4_tryExchanges_15 : decode cX4_tryExchanges 15 = .ok (.iload_n 1, 1) := by decide +kernel
theorem dX4_tryExchanges_16 : decode cX4_tryExchanges 16 = .ok (.invokevirtual 39, 3) := by decide +kernel
theorem dX4_tryExchanges_19 : decode cX4_tryExchanges 19 = .ok (.pop, 1) := by decide +kernel
theorem dX4_tryExchanges_20 : decode cX4_tryExchanges 20 = .ok (.aload_n 0, 1) := by decide +kernel
theorem dX4_tryExchanges_21 : decode cX4_tryExchanges 21 = .ok (.aload_n 0, 1) := by decide +kernel
theorem dX4_tryExchanges_22 : decode cX4_tryExchanges 22 = .ok (.getfield 30, 3) := by decide +kernel
theorem dX4_tryExchanges_25 : decode cX4_tryExchanges 25 = .ok (.getfield 43, 3) := by decide +kernel
theorem dX4_tryExchanges_28 : decode cX4_tryExchanges 28 = .ok (.putfield 15, 3) := by decide +kernel
theorem dX4_tryExchanges_31 : decode cX4_tryExchanges 31 = .ok (.aload_n 0, 1) := by decide +kernel
theorem dX4_tryExchanges_32 : decode cX4_tryExchanges 32 = .ok (.bipush 99, 2) := by decide +kernel
theorem dX4_tryExchanges_34 : decode cX4_tryExchanges 34 = .ok (.putfield 19, 3) := by decide +kernel
theorem dX4_tryExchanges_37 : decode cX4_tryExchanges 37 = .ok (.iconst 0, 1) := by decide +kernel
theorem dX4_tryExchanges_38 : decode cX4_tryExchanges 38 = .ok (.istore_n 2, 1) := by decide +kernel
theorem dX4_tryExchanges_39 : decode cX4_tryExchanges 39 = .ok (.iload_n 2, 1) := by decide +kernel
theorem dX4_tryExchanges_40 : decode cX4_tryExchanges 40 = .ok (.aload_n 0, 1) := by decide +kernel
theorem dX4_tryExchanges_41 : decode cX4_tryExchanges 41 = .ok (.getfield 22, 3) := by decide +kernel
theorem dX4_tryExchanges_44 : decode cX4_tryExchanges 44 = .ok (.getfield 46, 3) := by decide +kernel
theorem dX4_tryExchanges_47 : decode cX4_tryExchanges 47 = .ok (.if_icmp .ge 69, 3) := by decide +kernel
theorem dX4_tryExchanges_50 : decode cX4_tryExchanges 50 = .ok (.iload_n 2, 1) := by decide +kernel
theorem dX4_tryExchanges_51 : decode cX4_tryExchanges 51 = .ok (.iconst 1, 1) := by decide +kernel
theorem dX4_tryExchanges_52 : decode cX4_tryExchanges 52 = .ok (.iadd, 1) := by decide +kernel
theorem dX4_tryExchanges_53 : decode cX4_tryExchanges 53 = .ok (.istore_n 3, 1) := by decide +kernel
theorem dX4_tryExchanges_54 : decode cX4_tryExchanges 54 = .ok (.iload_n 3, 1) := by decide +kernel
theorem dX4_tryExchanges_55 : decode cX4_tryExchanges 55 = .ok (.aload_n 0, 1) := by decide +kernel
theorem dX4_tryExchanges_56 : decode cX4_tryExchanges 56 = .ok (.getfield 22, 3) := by decide +kernel
theorem dX4_tryExchanges_59 : decode cX4_tryExchanges 59 = .ok (.getfield 46, 3) := by decide +kernel
theorem dX4_tryExchanges_62 : decode cX4_tryExchanges 62 = .ok (.if_icmp .ge 48, 3) := by decide +kernel
theorem dX4_tryExchanges_65 : decode cX4_tryExchanges 65 = .ok (.aload_n 0, 1) := by decide +kernel
theorem dX4_tryExchanges_66 : decode cX4_tryExchanges 66 = .ok (.getfield 30, 3) := by decide +kernel
theorem dX4_tryExchanges_69 : decode cX4_tryExchanges 69 = .ok (.aload_n 0, 1) := by decide +kernel
theorem dX4_tryExchanges_70 : decode cX4_tryExchanges 70 = .ok (.getfield 26, 3) := by decide +kernel
theorem dX4_tryExchanges_73 : decode cX4_tryExchanges 73 = .ok (.invokevirtual 33, 3) := by decide +kernel
theorem dX4_tryExchanges_76 : decode cX4_tryExchanges 76 = .ok (.aload_n 0, 1) := by decide +kernel
theorem dX4_tryExchanges_77 : decode cX4_tryExchanges 77 = .ok (.getfield 30, 3) := by decide +kernel
theorem dX4_tryExchanges_80 : decode cX4_tryExchanges 80 = .ok (.iload_n 2, 1) := by decide +kernel
theorem dX4_tryExchanges_81 : decode cX4_tryExchanges 81 = .ok (.iload_n 3, 1) := by decide +kernel
theorem dX4_tryExchanges_82 : decode cX4_tryExchanges 82 = .ok (.invokevirtual 51, 3) := by decide +kernel
theorem dX4_tryExchanges_85 : decode cX4_tryExchanges 85 = .ok (.aload_n 0, 1) := by decide +kernel
theorem dX4_tryExchanges_86 : decode cX4_tryExchanges 86 = .ok (.getfield 30, 3) := by decide +kernel
theorem dX4_tryExchanges_89 : decode cX4_tryExchanges 89 = .ok (.iload_n 1, 1) := by decide +kernel
theorem dX4_tryExchanges_90 : decode cX4_tryExchanges 90 = .ok (.invokevirtual 39, 3) := by decide +kernel
theorem dX4_tryExchanges_93 : decode cX4_tryExchanges 93 = .ok (.pop, 1) := by decide +kernel
theorem dX4_tryExchanges_94 : decode cX4_tryExchanges 94 = .ok (.aload_n 0, 1) := by decide +kernel
theorem dX4_tryExchanges_95 : decode cX4_tryExchanges 95 = .ok (.bipush 10, 2) := by decide +kernel
theorem dX4_tryExchanges_97 : decode cX4_tryExchanges 97 = .ok (.iload_n 2, 1) := by decide +kernel
theorem dX4_tryExchanges_98 : decode cX4_tryExchanges 98 = .ok (.imul, 1) := by decide +kernel
theorem dX4_tryExchanges_99 : decode cX4_tryExchanges 99 = .ok (.iload_n 3, 1) := by decide +kernel
theorem dX4_tryExchanges_100 : decode cX4_tryExchanges 100 = .ok (.iadd, 1) := by decide +kernel
theorem dX4_tryExchanges_101 : decode cX4_tryExchanges 101 = .ok (.invokevirtual 55, 3) := by decide +kernel
theorem dX4_tryExchanges_104 : decode cX4_tryExchanges 104 = .ok (.iinc 3 1, 3) := by decide +kernel
theorem dX4_tryExchanges_107 : decode cX4_tryExchanges 107 = .ok (.goto (-53), 3) := by decide +kernel
theorem dX4_tryExchanges_110 : decode cX4_tryExchanges 110 = .ok (.iinc 2 1, 3) := by decide +kernel
theorem dX4_tryExchanges_113 : decode cX4_tryExchanges 113 = .ok (.goto (-74), 3) := by decide +kernel
theorem dX4_tryExchanges_116 : decode cX4_tryExchanges 116 = .ok (.return_, 1) := by decide +kernel
theorem dX4_tryOrders_0 : decode cX4_tryOrders 0 = .ok (.iconst 0, 1) := by decide +kernel
theorem dX4_tryOrders_1 : decode cX4_tryOrders 1 = .ok (.istore_n 2, 1) := by decide +kernel
theorem dX4_tryOrders_2 : decode cX4_tryOrders 2 = .ok (.iload_n 2, 1) := by decide +kernel
theorem dX4_tryOrders_3 : decode cX4_tryOrders 3 = .ok (.aload_n 0, 1) := by decide +kernel
theorem dX4_tryOrders_4 : decode cX4_tryOrders 4 = .ok (.getfield 9, 3) := by decide +kernel
theorem dX4_tryOrders_7 : decode cX4_tryOrders 7 = .ok (.arraylength, 1) := by decide +kernel
theorem dX4_tryOrders_8 : decode cX4_tryOrders 8 = .ok (.if_icmp .ge 16, 3) := by decide +kernel
theorem dX4_tryOrders_11 : decode cX4_tryOrders 11 = .ok (.aload_n 0, 1) := by decide +kernel
theorem dX4_tryOrders_12 : decode cX4_tryOrders 12 = .ok (.getfield 9, 3) := by decide +kernel
theorem dX4_tryOrders_15 : decode cX4_tryOrders 15 = .ok (.iload_n 2, 1) := by decide +kernel
theorem dX4_tryOrders_16 : decode cX4_tryOrders 16 = .ok (.iload_n 2, 1) := by decide +kernel
theorem dX4_tryOrders_17 : decode cX4_tryOrders 17 = .ok (.iastore, 1) := by decide +kernel
theorem dX4_tryOrders_18 : decode cX4_tryOrders 18 = .ok (.iinc 2 1, 3) := by decide +kernel
theorem dX4_tryOrders_21 : decode cX4_tryOrders 21 = .ok (.goto (-19), 3) := by decide +kernel
theorem dX4_tryOrders_24 : decode cX4_tryOrders 24 = .ok (.aload_n 0, 1) := by decide +kernel
theorem dX4_tryOrders_25 : decode cX4_tryOrders 25 = .ok (.bipush (-9), 2) := by decide +kernel
theorem dX4_tryOrders_27 : decode cX4_tryOrders 27 = .ok (.putfield 15, 3) := by decide +kernel
theorem dX4_tryOrders_30 : decode cX4_tryOrders 30 = .ok (.aload_n 0, 1) := by decide +kernel
theorem dX4_tryOrders_31 : decode cX4_tryOrders 31 = .ok (.iconst 0, 1) := by decide +kernel
theorem dX4_tryOrders_32 : decode cX4_tryOrders 32 = .ok (.putfield 19, 3) := by decide +kernel
theorem dX4_tryOrders_35 : decode cX4_tryOrders 35 = .ok (.iconst 1, 1) := by decide +kernel
theorem dX4_tryOrders_36 : decode cX4_tryOrders 36 = .ok (.istore_n 2, 1) := by decide +kernel
theorem dX4_tryOrders_37 : decode cX4_tryOrders 37 = .ok (.aload_n 0, 1) := by decide +kernel
theorem dX4_tryOrders_38 : decode cX4_tryOrders 38 = .ok (.getfield 22, 3) := by decide +kernel
theorem dX4_tryOrders_41 : decode cX4_tryOrders 41 = .ok (.getfield 46, 3) := by decide +kernel
theorem dX4_tryOrders_44 : decode cX4_tryOrders 44 = .ok (.invokestatic 59, 3) := by decide +kernel
theorem dX4_tryOrders_47 : decode cX4_tryOrders 47 = .ok (.istore_n 3, 1) := by decide +kernel
theorem dX4_tryOrders_48 : decode cX4_tryOrders 48 = .ok (.iconst 0, 1) := by decide +kernel
theorem dX4_tryOrders_49 : decode cX4_tryOrders 49 = .ok (.istore 4, 2) := by decide +kernel
theorem dX4_tryOrders_51 : decode cX4_tryOrders 51 = .ok (.iload 4, 2) := by decide +kernel
theorem dX4_tryOrders_53 : decode cX4_tryOrders 53 = .ok (.iload_n 3, 1) := by decide +kernel
theorem dX4_tryOrders_54 : decode cX4_tryOrders 54 = .ok (.if_icmp .ge 63, 3) := by decide +kernel
theorem dX4_tryOrders_57 : decode cX4_tryOrders 57 = .ok (.iload_n 2, 1) := by decide +kernel
theorem dX4_tryOrders_58 : decode cX4_tryOrders 58 = .ok (.ifCond .eq 59, 3) := by decide +kernel
theorem dX4_tryOrders_61 : decode cX4_tryOrders 61 = .ok (.aload_n 0, 1) := by decide +kernel
theorem dX4_tryOrders_62 : decode cX4_tryOrders 62 = .ok (.getfield 30, 3) := by decide +kernel
theorem dX4_tryOrders_65 : decode cX4_tryOrders 65 = .ok (.aload_n 0, 1) := by decide +kernel
theorem dX4_tryOrders_66 : decode cX4_tryOrders 66 = .ok (.getfield 26, 3) := by decide +kernel
theorem dX4_tryOrders_69 : decode cX4_tryOrders 69 = .ok (.invokevirtual 33, 3) := by decide +kernel
theorem dX4_tryOrders_72 : decode cX4_tryOrders 72 = .ok (.aload_n 0, 1) := by decide +kernel
theorem dX4_tryOrders_73 : decode cX4_tryOrders 73 = .ok (.getfield 9, 3) := by decide +kernel
theorem dX4_tryOrders_76 : decode cX4_tryOrders 76 = .ok (.iconst 0, 1) := by decide +kernel
theorem dX4_tryOrders_77 : decode cX4_tryOrders 77 = .ok (.aload_n 0, 1) := by decide +kernel
theorem dX4_tryOrders_78 : decode cX4_tryOrders 78 = .ok (.getfield 30, 3) := by decide +kernel
theorem dX4_tryOrders_81 : decode cX4_tryOrders 81 = .ok (.getfield 62, 3) := by decide +kernel
theorem dX4_tryOrders_84 : decode cX4_tryOrders 84 = .ok (.iconst 0, 1) := by decide +kernel
theorem dX4_tryOrders_85 : decode cX4_tryOrders 85 = .ok (.iconst 5, 1) := by decide +kernel
theorem dX4_tryOrders_86 : decode cX4_tryOrders 86 = .ok (.invokestatic 65, 3) := by decide +kernel
theorem dX4_tryOrders_89 : decode cX4_tryOrders 89 = .ok (.aload_n 0, 1) := by decide +kernel
theorem dX4_tryOrders_90 : decode cX4_tryOrders 90 = .ok (.getfield 30, 3) := by decide +kernel
theorem dX4_tryOrders_93 : decode cX4_tryOrders 93 = .ok (.iload_n 1, 1) := by decide +kernel
theorem dX4_tryOrders_94 : decode cX4_tryOrders 94 = .ok (.invokevirtual 39, 3) := by decide +kernel
theorem dX4_tryOrders_97 : decode cX4_tryOrders 97 = .ok (.pop, 1) := by decide +kernel
theorem dX4_tryOrders_98 : decode cX4_tryOrders 98 = .ok (.aload_n 0, 1) := by decide +kernel
theorem dX4_tryOrders_99 : decode cX4_tryOrders 99 = .ok (.aload_n 0, 1) := by decide +kernel
theorem dX4_tryOrders_100 : decode cX4_tryOrders 100 = .ok (.invokevirtual 71, 3) := by decide +kernel
theorem dX4_tryOrders_103 : decode cX4_tryOrders 103 = .ok (.invokevirtual 55, 3) := by decide +kernel
theorem dX4_tryOrders_106 : decode cX4_tryOrders 106 = .ok (.aload_n 0, 1) := by decide +kernel
theorem dX4_tryOrders_107 : decode cX4_tryOrders 107 = .ok (.invokevirtual 75, 3) := by decide +kernel
theorem dX4_tryOrders_110 : decode cX4_tryOrders 110 = .ok (.istore_n 2, 1) := by decide +kernel
theorem dX4_tryOrders_111 : decode cX4_tryOrders 111 = .ok (.iinc 4 1, 3) := by decide +kernel
theorem dX4_tryOrders_114 : decode cX4_tryOrders 114 = .ok (.goto (-63), 3) := by decide +kernel
theorem dX4_tryOrders_117 : decode cX4_tryOrders 117 = .ok (.return_, 1) := by decide +kernel
theorem dX4_prefer_0 : decode cX4_prefer 0 = .ok (.aload_n 0, 1) := by decide +kernel
theorem dX4_prefer_1 : decode cX4_prefer 1 = .ok (.getfield 30, 3) := by decide +kernel
theorem dX4_prefer_4 : decode cX4_prefer 4 = .ok (.getfield 43, 3) := by decide +kernel
theorem dX4_prefer_7 : decode cX4_prefer 7 = .ok (.aload_n 0, 1) := by decide +kernel
theorem dX4_prefer_8 : decode cX4_prefer 8 = .ok (.getfield 15, 3) := by decide +kernel
theorem dX4_prefer_11 : decode cX4_prefer 11 = .ok (.if_icmp .le 19, 3) := by decide +kernel
theorem dX4_prefer_14 : decode cX4_prefer 14 = .ok (.aload_n 0, 1) := by decide +kernel
theorem dX4_prefer_15 : decode cX4_prefer 15 = .ok (.aload_n 0, 1) := by decide +kernel
theorem dX4_prefer_16 : decode cX4_prefer 16 = .ok (.getfield 30, 3) := by decide +kernel
theorem dX4_prefer_19 : decode cX4_prefer 19 = .ok (.getfield 43, 3) := by decide +kernel
theorem dX4_prefer_22 : decode cX4_prefer 22 = .ok (.putfield 15, 3) := by decide +kernel
theorem dX4_prefer_25 : decode cX4_prefer 25 = .ok (.aload_n 0, 1) := by decide +kernel
theorem dX4_prefer_26 : decode cX4_prefer 26 = .ok (.iload_n 1, 1) := by decide +kernel
theorem dX4_prefer_27 : decode cX4_prefer 27 = .ok (.putfield 19, 3) := by decide +kernel
theorem dX4_prefer_30 : decode cX4_prefer 30 = .ok (.return_, 1) := by decide +kernel
theorem dX4_orderFigures_0 : decode cX4_orderFigures 0 = .ok (.iconst 0, 1) := by decide +kernel
theorem dX4_orderFigures_1 : decode cX4_orderFigures 1 = .ok (.istore_n 1, 1) := by decide +kernel
theorem dX4_orderFigures_2 : decode cX4_orderFigures 2 = .ok (.iconst 0, 1) := by decide +kernel
theorem dX4_orderFigures_3 : decode cX4_orderFigures 3 = .ok (.istore_n 2, 1) := by decide +kernel
theorem dX4_orderFigures_4 : decode cX4_orderFigures 4 = .ok (.iload_n 2, 1) := by decide +kernel
theorem dX4_orderFigures_5 : decode cX4_orderFigures 5 = .ok (.aload_n 0, 1) := by decide +kernel
theorem dX4_orderFigures_6 : decode cX4_orderFigures 6 = .ok (.getfield 22, 3) := by decide +kernel
theorem dX4_orderFigures_9 : decode cX4_orderFigures 9 = .ok (.getfield 46, 3) := by decide +kernel
theorem dX4_orderFigures_12 : decode cX4_orderFigures 12 = .ok (.if_icmp .ge 32, 3) := by decide +kernel
theorem dX4_orderFigures_15 : decode cX4_orderFigures 15 = .ok (.iload_n 2, 1) := by decide +kernel
theorem dX4_orderFigures_16 : decode cX4_orderFigures 16 = .ok (.aload_n 0, 1) := by decide +kernel
theorem dX4_orderFigures_17 : decode cX4_orderFigures 17 = .ok (.getfield 9, 3) := by decide +kernel
theorem dX4_orderFigures_20 : decode cX4_orderFigures 20 = .ok (.arraylength, 1) := by decide +kernel
theorem dX4_orderFigures_21 : decode cX4_orderFigures 21 = .ok (.if_icmp .ge 23, 3) := by decide +kernel
theorem dX4_orderFigures_24 : decode cX4_orderFigures 24 = .ok (.bipush 10, 2) := by decide +kernel
theorem dX4_orderFigures_26 : decode cX4_orderFigures 26 = .ok (.iload_n 1, 1) := by decide +kernel
theorem dX4_orderFigures_27 : decode cX4_orderFigures 27 = .ok (.imul, 1) := by decide +kernel
theorem dX4_orderFigures_28 : decode cX4_orderFigures 28 = .ok (.aload_n 0, 1) := by decide +kernel
theorem dX4_orderFigures_29 : decode cX4_orderFigures 29 = .ok (.getfield 9, 3) := by decide +kernel
theorem dX4_orderFigures_32 : decode cX4_orderFigures 32 = .ok (.iload_n 2, 1) := by decide +kernel
theorem dX4_orderFigures_33 : decode cX4_orderFigures 33 = .ok (.iaload, 1) := by decide +kernel
theorem dX4_orderFigures_34 : decode cX4_orderFigures 34 = .ok (.iadd, 1) := by decide +kernel
theorem dX4_orderFigures_35 : decode cX4_orderFigures 35 = .ok (.iconst 1, 1) := by decide +kernel
theorem dX4_orderFigures_36 : decode cX4_orderFigures 36 = .ok (.iadd, 1) := by decide +kernel
theorem dX4_orderFigures_37 : decode cX4_orderFigures 37 = .ok (.istore_n 1, 1) := by decide +kernel
theorem dX4_orderFigures_38 : decode cX4_orderFigures 38 = .ok (.iinc 2 1, 3) := by decide +kernel
theorem dX4_orderFigures_41 : decode cX4_orderFigures 41 = .ok (.goto (-37), 3) := by decide +kernel
theorem dX4_orderFigures_44 : decode cX4_orderFigures 44 = .ok (.iload_n 1, 1) := by decide +kernel
theorem dX4_orderFigures_45 : decode cX4_orderFigures 45 = .ok (.ireturn, 1) := by decide +kernel
theorem dX4_toNextOrder_0 : decode cX4_toNextOrder 0 = .ok (.aload_n 0, 1) := by decide +kernel
theorem dX4_toNextOrder_1 : decode cX4_toNextOrder 1 = .ok (.getfield 22, 3) := by decide +kernel
theorem dX4_toNextOrder_4 : decode cX4_toNextOrder 4 = .ok (.getfield 46, 3) := by decide +kernel
theorem dX4_toNextOrder_7 : decode cX4_toNextOrder 7 = .ok (.aload_n 0, 1) := by decide +kernel
theorem dX4_toNextOrder_8 : decode cX4_toNextOrder 8 = .ok (.getfield 9, 3) := by decide +kernel
theorem dX4_toNextOrder_11 : decode cX4_toNextOrder 11 = .ok (.arraylength, 1) := by decide +kernel
theorem dX4_toNextOrder_12 : decode cX4_toNextOrder 12 = .ok (.invokestatic 79, 3) := by decide +kernel
theorem dX4_toNextOrder_15 : decode cX4_toNextOrder 15 = .ok (.istore_n 1, 1) := by decide +kernel
theorem dX4_toNextOrder_16 : decode cX4_toNextOrder 16 = .ok (.iload_n 1, 1) := by decide +kernel
theorem dX4_toNextOrder_17 : decode cX4_toNextOrder 17 = .ok (.iconst 2, 1) := by decide +kernel
theorem dX4_toNextOrder_18 : decode cX4_toNextOrder 18 = .ok (.isub, 1) := by decide +kernel
theorem dX4_toNextOrder_19 : decode cX4_toNextOrder 19 = .ok (.istore_n 2, 1) := by decide +kernel
theorem dX4_toNextOrder_20 : decode cX4_toNextOrder 20 = .ok (.iload_n 2, 1) := by decide +kernel
theorem dX4_toNextOrder_21 : decode cX4_toNextOrder 21 = .ok (.ifCond .lt 26, 3) := by decide +kernel
theorem dX4_toNextOrder_24 : decode cX4_toNextOrder 24 = .ok (.aload_n 0, 1) := by decide +kernel
theorem dX4_toNextOrder_25 : decode cX4_toNextOrder 25 = .ok (.getfield 9, 3) := by decide +kernel
theorem dX4_toNextOrder_28 : decode cX4_toNextOrder 28 = .ok (.iload_n 2, 1) := by decide +kernel
theorem dX4_toNextOrder_29 : decode cX4_toNextOrder 29 = .ok (.iaload, 1) := by decide +kernel
theorem dX4_toNextOrder_30 : decode cX4_toNextOrder 30 = .ok (.aload_n 0, 1) := by decide +kernel
theorem dX4_toNextOrder_31 : decode cX4_toNextOrder 31 = .ok (.getfield 9, 3) := by decide +kernel
theorem dX4_toNextOrder_34 : decode cX4_toNextOrder 34 = .ok (.iload_n 2, 1) := by decide +kernel
theorem dX4_toNextOrder_35 : decode cX4_toNextOrder 35 = .ok (.iconst 1, 1) := by decide +kernel
theorem dX4_toNextOrder_36 : decode cX4_toNextOrder 36 = .ok (.iadd, 1) := by decide +kernel
theorem dX4_toNextOrder_37 : decode cX4_toNextOrder 37 = .ok (.iaload, 1) := by decide +kernel
theorem dX4_toNextOrder_38 : decode cX4_toNextOrder 38 = .ok (.if_icmp .le 9, 3) := by decide +kernel
theorem dX4_toNextOrder_41 : decode cX4_toNextOrder 41 = .ok (.iinc 2 (-1), 3) := by decide +kernel
theorem dX4_toNextOrder_44 : decode cX4_toNextOrder 44 = .ok (.goto (-24), 3) := by decide +kernel
theorem dX4_toNextOrder_47 : decode cX4_toNextOrder 47 = .ok (.iload_n 2, 1) := by decide +kernel
theorem dX4_toNextOrder_48 : decode cX4_toNextOrder 48 = .ok (.ifCond .ge 5, 3) := by decide +kernel
theorem dX4_toNextOrder_51 : decode cX4_toNextOrder 51 = .ok (.iconst 0, 1) := by decide +kernel
theorem dX4_toNextOrder_52 : decode cX4_toNextOrder 52 = .ok (.ireturn, 1) := by decide +kernel
theorem dX4_toNextOrder_53 : decode cX4_toNextOrder 53 = .ok (.iload_n 1, 1) := by decide +kernel
theorem dX4_toNextOrder_54 : decode cX4_toNextOrder 54 = .ok (.iconst 1, 1) := by decide +kernel
theorem dX4_toNextOrder_55 : decode cX4_toNextOrder 55 = .ok (.isub, 1) := by decide +kernel
theorem dX4_toNextOrder_56 : decode cX4_toNextOrder 56 = .ok (.istore_n 3, 1) := by decide +kernel
theorem dX4_toNextOrder_57 : decode cX4_toNextOrder 57 = .ok (.iload_n 3, 1) := by decide +kernel
theorem dX4_toNextOrder_58 : decode cX4_toNextOrder 58 = .ok (.iload_n 2, 1) := by decide +kernel
theorem dX4_toNextOrder_59 : decode cX4_toNextOrder 59 = .ok (.if_icmp .le 24, 3) := by decide +kernel
theorem dX4_toNextOrder_62 : decode cX4_toNextOrder 62 = .ok (.aload_n 0, 1) := by decide +kernel
theorem dX4_toNextOrder_63 : decode cX4_toNextOrder 63 = .ok (.getfield 9, 3) := by decide +kernel
theorem dX4_toNextOrder_66 : decode cX4_toNextOrder 66 = .ok (.iload_n 3, 1) := by decide +kernel
theorem dX4_toNextOrder_67 : decode cX4_toNextOrder 67 = .ok (.iaload, 1) := by decide +kernel
theorem dX4_toNextOrder_68 : decode cX4_toNextOrder 68 = .ok (.aload_n 0, 1) := by decide +kernel
theorem dX4_toNextOrder_69 : decode cX4_toNextOrder 69 = .ok (.getfield 9, 3) := by decide +kernel
theorem dX4_toNextOrder_72 : decode cX4_toNextOrder 72 = .ok (.iload_n 2, 1) := by decide +kernel
theorem dX4_toNextOrder_73 : decode cX4_toNextOrder 73 = .ok (.iaload, 1) := by decide +kernel
theorem dX4_toNextOrder_74 : decode cX4_toNextOrder 74 = .ok (.if_icmp .ge 9, 3) := by decide +kernel
theorem dX4_toNextOrder_77 : decode cX4_toNextOrder 77 = .ok (.iinc 3 (-1), 3) := by decide +kernel
theorem dX4_toNextOrder_80 : decode cX4_toNextOrder 80 = .ok (.goto (-23), 3) := by decide +kernel
theorem dX4_toNextOrder_83 : decode cX4_toNextOrder 83 = .ok (.aload_n 0, 1) := by decide +kernel
theorem dX4_toNextOrder_84 : decode cX4_toNextOrder 84 = .ok (.iload_n 2, 1) := by decide +kernel
theorem dX4_toNextOrder_85 : decode cX4_toNextOrder 85 = .ok (.iload_n 3, 1) := by decide +kernel
theorem dX4_toNextOrder_86 : decode cX4_toNextOrder 86 = .ok (.invokevirtual 85, 3) := by decide +kernel
theorem dX4_toNextOrder_89 : decode cX4_toNextOrder 89 = .ok (.iload_n 1, 1) := by decide +kernel
theorem dX4_toNextOrder_90 : decode cX4_toNextOrder 90 = .ok (.iconst 1, 1) := by decide +kernel
theorem dX4_toNextOrder_91 : decode cX4_toNextOrder 91 = .ok (.isub, 1) := by decide +kernel
theorem dX4_toNextOrder_92 : decode cX4_toNextOrder 92 = .ok (.istore 4, 2) := by decide +kernel
theorem dX4_toNextOrder_94 : decode cX4_toNextOrder 94 = .ok (.iload_n 2, 1) := by decide +kernel
theorem dX4_toNextOrder_95 : decode cX4_toNextOrder 95 = .ok (.iconst 1, 1) := by decide +kernel
theorem dX4_toNextOrder_96 : decode cX4_toNextOrder 96 = .ok (.iadd, 1) := by decide +kernel
theorem dX4_toNextOrder_97 : decode cX4_toNextOrder 97 = .ok (.istore 5, 2) := by decide +kernel
theorem dX4_toNextOrder_99 : decode cX4_toNextOrder 99 = .ok (.iload 5, 2) := by decide +kernel
theorem dX4_toNextOrder_101 : decode cX4_toNextOrder 101 = .ok (.iload 4, 2) := by decide +kernel
theorem dX4_toNextOrder_103 : decode cX4_toNextOrder 103 = .ok (.if_icmp .ge 20, 3) := by decide +kernel
theorem dX4_toNextOrder_106 : decode cX4_toNextOrder 106 = .ok (.aload_n 0, 1) := by decide +kernel
theorem dX4_toNextOrder_107 : decode cX4_toNextOrder 107 = .ok (.iload 5, 2) := by decide +kernel
theorem dX4_toNextOrder_109 : decode cX4_toNextOrder 109 = .ok (.iload 4, 2) := by decide +kernel
theorem dX4_toNextOrder_111 : decode cX4_toNextOrder 111 = .ok (.invokevirtual 85, 3) := by decide +kernel
theorem dX4_toNextOrder_114 : decode cX4_toNextOrder 114 = .ok (.iinc 4 (-1), 3) := by decide +kernel
theorem dX4_toNextOrder_117 : decode cX4_toNextOrder 117 = .ok (.iinc 5 1, 3) := by decide +kernel
theorem dX4_toNextOrder_120 : decode cX4_toNextOrder 120 = .ok (.goto (-21), 3) := by decide +kernel
theorem dX4_toNextOrder_123 : decode cX4_toNextOrder 123 = .ok (.iconst 1, 1) := by decide +kernel
theorem dX4_toNextOrder_124 : decode cX4_toNextOrder 124 = .ok (.ireturn, 1) := by decide +kernel
theorem dX4_exchangeInOrder_0 : decode cX4_exchangeInOrder 0 = .ok (.iload_n 1, 1) := by decide +kernel
theorem dX4_exchangeInOrder_1 : decode cX4_exchangeInOrder 1 = .ok (.ifCond .lt 25, 3) := by decide +kernel
theorem dX4_exchangeInOrder_4 : decode cX4_exchangeInOrder 4 = .ok (.iload_n 1, 1) := by decide +kernel
theorem dX4_exchangeInOrder_5 : decode cX4_exchangeInOrder 5 = .ok (.aload_n 0, 1) := by decide +kernel
theorem dX4_exchangeInOrder_6 : decode cX4_exchangeInOrder 6 = .ok (.getfield 9, 3) := by decide +kernel
theorem dX4_exchangeInOrder_9 : decode cX4_exchangeInOrder 9 = .ok (.arraylength, 1) := by decide +kernel
theorem dX4_exchangeInOrder_10 : decode cX4_exchangeInOrder 10 = .ok (.if_icmp .ge 16, 3) := by decide +kernel
theorem dX4_exchangeInOrder_13 : decode cX4_exchangeInOrder 13 = .ok (.iload_n 2, 1) := by decide +kernel
theorem dX4_exchangeInOrder_14 : decode cX4_exchangeInOrder 14 = .ok (.ifCond .lt 12, 3) := by decide +kernel
theorem dX4_exchangeInOrder_17 : decode cX4_exchangeInOrder 17 = .ok (.iload_n 2, 1) := by decide +kernel
theorem dX4_exchangeInOrder_18 : decode cX4_exchangeInOrder 18 = .ok (.aload_n 0, 1) := by decide +kernel
theorem dX4_exchangeInOrder_19 : decode cX4_exchangeInOrder 19 = .ok (.getfield 9, 3) := by decide +kernel
theorem dX4_exchangeInOrder_22 : decode cX4_exchangeInOrder 22 = .ok (.arraylength, 1) := by decide +kernel
theorem dX4_exchangeInOrder_23 : decode cX4_exchangeInOrder 23 = .ok (.if_icmp .lt 4, 3) := by decide +kernel
theorem dX4_exchangeInOrder_26 : decode cX4_exchangeInOrder 26 = .ok (.return_, 1) := by decide +kernel
theorem dX4_exchangeInOrder_27 : decode cX4_exchangeInOrder 27 = .ok (.aload_n 0, 1) := by decide +kernel
theorem dX4_exchangeInOrder_28 : decode cX4_exchangeInOrder 28 = .ok (.getfield 9, 3) := by decide +kernel
theorem dX4_exchangeInOrder_31 : decode cX4_exchangeInOrder 31 = .ok (.iload_n 1, 1) := by decide +kernel
theorem dX4_exchangeInOrder_32 : decode cX4_exchangeInOrder 32 = .ok (.iaload, 1) := by decide +kernel
theorem dX4_exchangeInOrder_33 : decode cX4_exchangeInOrder 33 = .ok (.istore_n 3, 1) := by decide +kernel
theorem dX4_exchangeInOrder_34 : decode cX4_exchangeInOrder 34 = .ok (.aload_n 0, 1) := by decide +kernel
theorem dX4_exchangeInOrder_35 : decode cX4_exchangeInOrder 35 = .ok (.getfield 9, 3) := by decide +kernel
theorem dX4_exchangeInOrder_38 : decode cX4_exchangeInOrder 38 = .ok (.iload_n 1, 1) := by decide +kernel
theorem dX4_exchangeInOrder_39 : decode cX4_exchangeInOrder 39 = .ok (.aload_n 0, 1) := by decide +kernel
theorem dX4_exchangeInOrder_40 : decode cX4_exchangeInOrder 40 = .ok (.getfield 9, 3) := by decide +kernel
theorem dX4_exchangeInOrder_43 : decode cX4_exchangeInOrder 43 = .ok (.iload_n 2, 1) := by decide +kernel
theorem dX4_exchangeInOrder_44 : decode cX4_exchangeInOrder 44 = .ok (.iaload, 1) := by decide +kernel
theorem dX4_exchangeInOrder_45 : decode cX4_exchangeInOrder 45 = .ok (.iastore, 1) := by decide +kernel
theorem dX4_exchangeInOrder_46 : decode cX4_exchangeInOrder 46 = .ok (.aload_n 0, 1) := by decide +kernel
theorem dX4_exchangeInOrder_47 : decode cX4_exchangeInOrder 47 = .ok (.getfield 9, 3) := by decide +kernel
theorem dX4_exchangeInOrder_50 : decode cX4_exchangeInOrder 50 = .ok (.iload_n 2, 1) := by decide +kernel
theorem dX4_exchangeInOrder_51 : decode cX4_exchangeInOrder 51 = .ok (.iload_n 3, 1) := by decide +kernel
theorem dX4_exchangeInOrder_52 : decode cX4_exchangeInOrder 52 = .ok (.iastore, 1) := by decide +kernel
theorem dX4_exchangeInOrder_53 : decode cX4_exchangeInOrder 53 = .ok (.return_, 1) := by decide +kernel
theorem dX5_init_0 : decode cX5_init 0 = .ok (.aload_n 0, 1) := by decide +kernel
theorem dX5_init_1 : decode cX5_init 1 = .ok (.invokespecial 5, 3) := by decide +kernel
theorem dX5_init_4 : decode cX5_init 4 = .ok (.aload_n 0, 1) := by decide +kernel
theorem dX5_init_5 : decode cX5_init 5 = .ok (.iload_n 1, 1) := by decide +kernel
theorem dX5_init_6 : decode cX5_init 6 = .ok (.iconst 1, 1) := by decide +kernel
theorem dX5_init_7 : decode cX5_init 7 = .ok (.if_icmp .ge 8, 3) := by decide +kernel
theorem dX5_init_10 : decode cX5_init 10 = .ok (.bipush 21, 2) := by decide +kernel
theorem dX5_init_12 : decode cX5_init 12 = .ok (.goto 7, 3) := by decide +kernel
theorem dX5_init_15 : decode cX5_init 15 = .ok (.iload_n 1, 1) := by decide +kernel
theorem dX5_init_16 : decode cX5_init 16 = .ok (.bipush 21, 2) := by decide +kernel
theorem dX5_init_18 : decode cX5_init 18 = .ok (.imul, 1) := by decide +kernel
theorem dX5_init_19 : decode cX5_init 19 = .ok (.newarray .int, 2) := by decide +kernel
theorem dX5_init_21 : decode cX5_init 21 = .ok (.putfield 11, 3) := by decide +kernel
theorem dX5_init_24 : decode cX5_init 24 = .ok (.return_, 1) := by decide +kernel
theorem dX5_hasRow_0 : decode cX5_hasRow 0 = .ok (.iload_n 1, 1) := by decide +kernel
theorem dX5_hasRow_1 : decode cX5_hasRow 1 = .ok (.ifCond .lt 19, 3) := by decide +kernel
theorem dX5_hasRow_4 : decode cX5_hasRow 4 = .ok (.iload_n 1, 1) := by decide +kernel
theorem dX5_hasRow_5 : decode cX5_hasRow 5 = .ok (.aload_n 0, 1) := by decide +kernel
theorem dX5_hasRow_6 : decode cX5_hasRow 6 = .ok (.getfield 11, 3) := by decide +kernel
theorem dX5_hasRow_9 : decode cX5_hasRow 9 = .ok (.arraylength, 1) := by decide +kernel
theorem dX5_hasRow_10 : decode cX5_hasRow 10 = .ok (.bipush 21, 2) := by decide +kernel
theorem dX5_hasRow_12 : decode cX5_hasRow 12 = .ok (.idiv, 1) := by decide +kernel
theorem dX5_hasRow_13 : decode cX5_hasRow 13 = .ok (.if_icmp .ge 7, 3) := by decide +kernel
theorem dX5_hasRow_16 : decode cX5_hasRow 16 = .ok (.iconst 1, 1) := by decide +kernel
theorem dX5_hasRow_17 : decode cX5_hasRow 17 = .ok (.goto 4, 3) := by decide +kernel
theorem dX5_hasRow_20 : decode cX5_hasRow 20 = .ok (.iconst 0, 1) := by decide +kernel
theorem dX5_hasRow_21 : decode cX5_hasRow 21 = .ok (.ireturn, 1) := by decide +kernel
theorem dX5_store_0 : decode cX5_store 0 = .ok (.aload_n 0, 1) := by decide +kernel
theorem dX5_store_1 : decode cX5_store 1 = .ok (.iload_n 1, 1) := by decide +kernel
theorem dX5_store_2 : decode cX5_store 2 = .ok (.invokevirtual 15, 3) := by decide +kernel
theorem dX5_store_5 : decode cX5_store 5 = .ok (.ifCond .ne 4, 3) := by decide +kernel
theorem dX5_store_8 : decode cX5_store 8 = .ok (.return_, 1) := by decide +kernel
theorem dX5_store_9 : decode cX5_store 9 = .ok (.iload_n 1, 1) := by decide +kernel
theorem dX5_store_10 : decode cX5_store 10 = .ok (.bipush 21, 2) := by decide +kernel
theorem dX5_store_12 : decode cX5_store 12 = .ok (.imul, 1) := by decide +kernel
theorem dX5_store_13 : decode cX5_store 13 = .ok (.istore_n 3, 1) := by decide +kernel
theorem dX5_store_14 : decode cX5_store 14 = .ok (.aload_n 2, 1) := by decide +kernel
theorem dX5_store_15 : decode cX5_store 15 = .ok (.getfield 19, 3) := by decide +kernel
theorem dX5_store_18 : decode cX5_store 18 = .ok (.iconst 0, 1) := by decide +kernel
theorem dX5_store_19 : decode cX5_store 19 = .ok (.aload_n 0, 1) := by decide +kernel
theorem dX5_store_20 : decode cX5_store 20 = .ok (.getfield 11, 3) := by decide +kernel
theorem dX5_store_23 : decode cX5_store 23 = .ok (.iload_n 3, 1) := by decide +kernel
theorem dX5_store_24 : decode cX5_store 24 = .ok (.iconst 5, 1) := by decide +kernel
theorem dX5_store_25 : decode cX5_store 25 = .ok (.invokestatic 24, 3) := by decide +kernel
theorem dX5_store_28 : decode cX5_store 28 = .ok (.aload_n 2, 1) := by decide +kernel
theorem dX5_store_29 : decode cX5_store 29 = .ok (.getfield 30, 3) := by decide +kernel
theorem dX5_store_32 : decode cX5_store 32 = .ok (.iconst 0, 1) := by decide +kernel
theorem dX5_store_33 : decode cX5_store 33 = .ok (.aload_n 0, 1) := by decide +kernel
theorem dX5_store_34 : decode cX5_store 34 = .ok (.getfield 11, 3) := by decide +kernel
theorem dX5_store_37 : decode cX5_store 37 = .ok (.iload_n 3, 1) := by decide +kernel
theorem dX5_store_38 : decode cX5_store 38 = .ok (.iconst 5, 1) := by decide +kernel
theorem dX5_store_39 : decode cX5_store 39 = .ok (.iadd, 1) := by decide +kernel
theorem dX5_store_40 : decode cX5_store 40 = .ok (.iconst 4, 1) := by decide +kernel
theorem dX5_store_41 : decode cX5_store 41 = .ok (.invokestatic 24, 3) := by decide +kernel
theorem dX5_store_44 : decode cX5_store 44 = .ok (.aload_n 2, 1) := by decide +kernel
theorem dX5_store_45 : decode cX5_store 45 = .ok (.getfield 33, 3) := by decide +kernel
theorem dX5_store_48 : decode cX5_store 48 = .ok (.iconst 0, 1) := by decide +kernel
theorem dX5_store_49 : decode cX5_store 49 = .ok (.aload_n 0, 1) := by decide +kernel
theorem dX5_store_50 : decode cX5_store 50 = .ok (.getfield 11, 3) := by decide +kernel
theorem dX5_store_53 : decode cX5_store 53 = .ok (.iload_n 3, 1) := by decide +kernel
theorem dX5_store_54 : decode cX5_store 54 = .ok (.bipush 9, 2) := by decide +kernel
theorem dX5_store_56 : decode cX5_store 56 = .ok (.iadd, 1) := by decide +kernel
theorem dX5_store_57 : decode cX5_store 57 = .ok (.iconst 4, 1) := by decide +kernel
theorem dX5_store_58 : decode cX5_store 58 = .ok (.invokestatic 24, 3) := by decide +kernel
theorem dX5_store_61 : decode cX5_store 61 = .ok (.aload_n 2, 1) := by decide +kernel
theorem dX5_store_62 : decode cX5_store 62 = .ok (.getfield 36, 3) := by decide +kernel
theorem dX5_store_65 : decode cX5_store 65 = .ok (.iconst 0, 1) := by decide +kernel
theorem dX5_store_66 : decode cX5_store 66 = .ok (.aload_n 0, 1) := by decide +kernel
theorem dX5_store_67 : decode cX5_store 67 = .ok (.getfield 11, 3) := by decide +kernel
theorem dX5_store_70 : decode cX5_store 70 = .ok (.iload_n 3, 1) := by decide +kernel
theorem dX5_store_71 : decode cX5_store 71 = .ok (.bipush 13, 2) := by decide +kernel
theorem dX5_store_73 : decode cX5_store 73 = .ok (.iadd, 1) := by decide +kernel
theorem dX5_store_74 : decode cX5_store 74 = .ok (.iconst 4, 1) := by decide +kernel
theorem dX5_store_75 : decode cX5_store 75 = .ok (.invokestatic 24, 3) := by decide +kernel
theorem dX5_store_78 : decode cX5_store 78 = .ok (.aload_n 0, 1) := by decide +kernel
theorem dX5_store_79 : decode cX5_store 79 = .ok (.getfield 11, 3) := by decide +kernel
theorem dX5_store_82 : decode cX5_store 82 = .ok (.iload_n 3, 1) := by decide +kernel
theorem dX5_store_83 : decode cX5_store 83 = .ok (.bipush 17, 2) := by decide +kernel
theorem dX5_store_85 : decode cX5_store 85 = .ok (.iadd, 1) := by decide +kernel
theorem dX5_store_86 : decode cX5_store 86 = .ok (.aload_n 2, 1) := by decide +kernel
theorem dX5_store_87 : decode cX5_store 87 = .ok (.getfield 39, 3) := by decide +kernel
theorem dX5_store_90 : decode cX5_store 90 = .ok (.iastore, 1) := by decide +kernel
theorem dX5_store_91 : decode cX5_store 91 = .ok (.aload_n 0, 1) := by decide +kernel
theorem dX5_store_92 : decode cX5_store 92 = .ok (.getfield 11, 3) := by decide +kernel
theorem dX5_store_95 : decode cX5_store 95 = .ok (.iload_n 3, 1) := by decide +kernel
theorem dX5_store_96 : decode cX5_store 96 = .ok (.bipush 18, 2) := by decide +kernel
theorem dX5_store_98 : decode cX5_store 98 = .ok (.iadd, 1) := by decide +kernel
theorem dX5_store_99 : decode cX5_store 99 = .ok (.aload_n 2, 1) := by decide +kernel
theorem dX5_store_100 : decode cX5_store 100 = .ok (.getfield 43, 3) := by decide +kernel
theorem dX5_store_103 : decode cX5_store 103 = .ok (.iastore, 1) := by decide +kernel
theorem dX5_store_104 : decode cX5_store 104 = .ok (.aload_n 0, 1) := by decide +kernel
theorem dX5_store_105 : decode cX5_store 105 = .ok (.getfield 11, 3) := by decide +kernel
theorem dX5_store_108 : decode cX5_store 108 = .ok (.iload_n 3, 1) := by decide +kernel
theorem dX5_store_109 : decode cX5_store 109 = .ok (.bipush 19, 2) := by decide +kernel
theorem dX5_store_111 : decode cX5_store 111 = .ok (.iadd, 1) := by decide +kernel
theorem dX5_store_112 : decode cX5_store 112 = .ok (.aload_n 2, 1) := by decide +kernel
theorem dX5_store_113 : decode cX5_store 113 = .ok (.getfield 46, 3) := by decide +kernel
theorem dX5_store_116 : decode cX5_store 116 = .ok (.iastore, 1) := by decide +kernel
theorem dX5_store_117 : decode cX5_store 117 = .ok (.aload_n 0, 1) := by decide +kernel
theorem dX5_store_118 : decode cX5_store 118 = .ok (.getfield 11, 3) := by decide +kernel
theorem dX5_store_121 : decode cX5_store 121 = .ok (.iload_n 3, 1) := by decide +kernel
theorem dX5_store_122 : decode cX5_store 122 = .ok (.bipush 20, 2) := by decide +kernel
theorem dX5_store_124 : decode cX5_store 124 = .ok (.iadd, 1) := by decide +kernel
theorem dX5_store_125 : decode cX5_store 125 = .ok (.aload_n 2, 1) := by decide +kernel
theorem dX5_store_126 : decode cX5_store 126 = .ok (.getfield 49, 3) := by decide +kernel
theorem dX5_store_129 : decode cX5_store 129 = .ok (.iastore, 1) := by decide +kernel
theorem dX5_store_130 : decode cX5_store 130 = .ok (.return_, 1) := by decide +kernel
theorem dX5_fetch_0 : decode cX5_fetch 0 = .ok (.aload_n 0, 1) := by decide +kernel
theorem dX5_fetch_1 : decode cX5_fetch 1 = .ok (.iload_n 1, 1) := by decide +kernel
theorem dX5_fetch_2 : decode cX5_fetch 2 = .ok (.invokevirtual 15, 3) := by decide +kernel
theorem dX5_fetch_5 : decode cX5_fetch 5 = .ok (.ifCond .ne 4, 3) := by decide +kernel
theorem dX5_fetch_8 : decode cX5_fetch 8 = .ok (.return_, 1) := by decide +kernel
theorem dX5_fetch_9 : decode cX5_fetch 9 = .ok (.iload_n 1, 1) := by decide +kernel
theorem dX5_fetch_10 : decode cX5_fetch 10 = .ok (.bipush 21, 2) := by decide +kernel
theorem dX5_fetch_12 : decode cX5_fetch 12 = .ok (.imul, 1) := by decide +kernel
theorem dX5_fetch_13 : decode cX5_fetch 13 = .ok (.istore_n 3, 1) := by decide +kernel
theorem dX5_fetch_14 : decode cX5_fetch 14 = .ok (.aload_n 0, 1) := by decide +kernel
theorem dX5_fetch_15 : decode cX5_fetch 15 = .ok (.getfield 11, 3) := by decide +kernel
theorem dX5_fetch_18 : decode cX5_fetch 18 = .ok (.iload_n 3, 1) := by decide +kernel
theorem dX5_fetch_19 : decode cX5_fetch 19 = .ok (.aload_n 2, 1) := by decide +kernel
theorem dX5_fetch_20 : decode cX5_fetch 20 = .ok (.getfield 19, 3) := by decide +kernel
theorem dX5_fetch_23 : decode cX5_fetch 23 = .ok (.iconst 0, 1) := by decide +kernel
theorem dX5_fetch_24 : decode cX5_fetch 24 = .ok (.iconst 5, 1) := by decide +kernel
theorem dX5_fetch_25 : decode cX5_fetch 25 = .ok (.invokestatic 24, 3) := by decide +kernel
theorem dX5_fetch_28 : decode cX5_fetch 28 = .ok (.aload_n 0, 1) := by decide +kernel
theorem dX5_fetch_29 : decode cX5_fetch 29 = .ok (.getfield 11, 3) := by decide +kernel
theorem dX5_fetch_32 : decode cX5_fetch 32 = .ok (.iload_n 3, 1) := by decide +kernel
theorem dX5_fetch_33 : decode cX5_fetch 33 = .ok (.iconst 5, 1) := by decide +kernel
theorem dX5_fetch_34 : decode cX5_fetch 34 = .ok (.iadd, 1) := by decide +kernel
theorem dX5_fetch_35 : decode cX5_fetch 35 = .ok (.aload_n 2, 1) := by decide +kernel
theorem dX5_fetch_36 : decode cX5_fetch 36 = .ok (.getfield 30, 3) := by decide +kernel
theorem dX5_fetch_39 : decode cX5_fetch 39 = .ok (.iconst 0, 1) := by decide +kernel
theorem dX5_fetch_40 : decode cX5_fetch 40 = .ok (.iconst 4, 1) := by decide +kernel
theorem dX5_fetch_41 : decode cX5_fetch 41 = .ok (.invokestatic 24, 3) := by decide +kernel
theorem dX5_fetch_44 : decode cX5_fetch 44 = .ok (.aload_n 0, 1) := by decide +kernel
theorem dX5_fetch_45 : decode cX5_fetch 45 = .ok (.getfield 11, 3) := by decide +kernel
theorem dX5_fetch_48 : decode cX5_fetch 48 = .ok (.iload_n 3, 1) := by decide +kernel
theorem dX5_fetch_49 : decode cX5_fetch 49 = .ok (.bipush 9, 2) := by decide +kernel
theorem dX5_fetch_51 : decode cX5_fetch 51 = .ok (.iadd, 1) := by decide +kernel
theorem dX5_fetch_52 : decode cX5_fetch 52 = .ok (.aload_n 2, 1) := by decide +kernel
theorem dX5_fetch_53 : decode cX5_fetch 53 = .ok (.getfield 33, 3) := by decide +kernel
theorem dX5_fetch_56 : decode cX5_fetch 56 = .ok (.iconst 0, 1) := by decide +kernel
theorem dX5_fetch_57 : decode cX5_fetch 57 = .ok (.iconst 4, 1) := by decide +kernel
theorem dX5_fetch_58 : decode cX5_fetch 58 = .ok (.invokestatic 24, 3) := by decide +kernel
theorem dX5_fetch_61 : decode cX5_fetch 61 = .ok (.aload_n 0, 1) := by decide +kernel
theorem dX5_fetch_62 : decode cX5_fetch 62 = .ok (.getfield 11, 3) := by decide +kernel
theorem dX5_fetch_65 : decode cX5_fetch 65 = .ok (.iload_n 3, 1) := by decide +kernel
theorem dX5_fetch_66 : decode cX5_fetch 66 = .ok (.bipush 13, 2) := by decide +kernel
theorem dX5_fetch_68 : decode cX5_fetch 68 = .ok (.iadd, 1) := by decide +kernel
theorem dX5_fetch_69 : decode cX5_fetch 69 = .ok (.aload_n 2, 1) := by decide +kernel
theorem dX5_fetch_70 : decode cX5_fetch 70 = .ok (.getfield 36, 3) := by decide +kernel
theorem dX5_fetch_73 : decode cX5_fetch 73 = .ok (.iconst 0, 1) := by decide +kernel
theorem dX5_fetch_74 : decode cX5_fetch 74 = .ok (.iconst 4, 1) := by decide +kernel
theorem dX5_fetch_75 : decode cX5_fetch 75 = .ok (.invokestatic 24, 3) := by decide +kernel
theorem dX5_fetch_78 : decode cX5_fetch 78 = .ok (.aload_n 2, 1) := by decide +kernel
theorem dX5_fetch_79 : decode cX5_fetch 79 = .ok (.aload_n 0, 1) := by decide +kernel
theorem dX5_fetch_80 : decode cX5_fetch 80 = .ok (.getfield 11, 3) := by decide +kernel
theorem dX5_fetch_83 : decode cX5_fetch 83 = .ok (.iload_n 3, 1) := by decide +kernel
theorem dX5_fetch_84 : decode cX5_fetch 84 = .ok (.bipush 17, 2) := by decide +kernel
theorem dX5_fetch_86 : decode cX5_fetch 86 = .ok (.iadd, 1) := by decide +kernel
theorem dX5_fetch_87 : decode cX5_fetch 87 = .ok (.iaload, 1) := by decide +kernel
theorem dX5_fetch_88 : decode cX5_fetch 88 = .ok (.putfield 39, 3) := by decide +kernel
theorem dX5_fetch_91 : decode cX5_fetch 91 = .ok (.aload_n 2, 1) := by decide +kernel
theorem dX5_fetch_92 : decode cX5_fetch 92 = .ok (.aload_n 0, 1) := by decide +kernel
theorem dX5_fetch_93 : decode cX5_fetch 93 = .ok (.getfield 11, 3) := by decide +kernel
theorem dX5_fetch_96 : decode cX5_fetch 96 = .ok (.iload_n 3, 1) := by decide +kernel
theorem dX5_fetch_97 : decode cX5_fetch 97 = .ok (.bipush 18, 2) := by decide +kernel
theorem dX5_fetch_99 : decode cX5_fetch 99 = .ok (.iadd, 1) := by decide +kernel
theorem dX5_fetch_100 : decode cX5_fetch 100 = .ok (.iaload, 1) := by decide +kernel
theorem dX5_fetch_101 : decode cX5_fetch 101 = .ok (.putfield 43, 3) := by decide +kernel
theorem dX5_fetch_104 : decode cX5_fetch 104 = .ok (.aload_n 2, 1) := by decide +kernel
theorem dX5_fetch_105 : decode cX5_fetch 105 = .ok (.aload_n 0, 1) := by decide +kernel
theorem dX5_fetch_106 : decode cX5_fetch 106 = .ok (.getfield 11, 3) := by decide +kernel
theorem dX5_fetch_109 : decode cX5_fetch 109 = .ok (.iload_n 3, 1) := by decide +kernel
theorem dX5_fetch_110 : decode cX5_fetch 110 = .ok (.bipush 19, 2) := by decide +kernel
theorem dX5_fetch_112 : decode cX5_fetch 112 = .ok (.iadd, 1) := by decide +kernel
theorem dX5_fetch_113 : decode cX5_fetch 113 = .ok (.iaload, 1) := by decide +kernel
theorem dX5_fetch_114 : decode cX5_fetch 114 = .ok (.putfield 46, 3) := by decide +kernel
theorem dX5_fetch_117 : decode cX5_fetch 117 = .ok (.aload_n 2, 1) := by decide +kernel
theorem dX5_fetch_118 : decode cX5_fetch 118 = .ok (.aload_n 0, 1) := by decide +kernel
theorem dX5_fetch_119 : decode cX5_fetch 119 = .ok (.getfield 11, 3) := by decide +kernel
theorem dX5_fetch_122 : decode cX5_fetch 122 = .ok (.iload_n 3, 1) := by decide +kernel
theorem dX5_fetch_123 : decode cX5_fetch 123 = .ok (.bipush 20, 2) := by decide +kernel
theorem dX5_fetch_125 : decode cX5_fetch 125 = .ok (.iadd, 1) := by decide +kernel
theorem dX5_fetch_126 : decode cX5_fetch 126 = .ok (.iaload, 1) := by decide +kernel
theorem dX5_fetch_127 : decode cX5_fetch 127 = .ok (.putfield 49, 3) := by decide +kernel
theorem dX5_fetch_130 : decode cX5_fetch 130 = .ok (.return_, 1) := by decide +kernel
theorem dX6_init_0 : decode cX6_init 0 = .ok (.aload_n 0, 1) := by decide +kernel
theorem dX6_init_1 : decode cX6_init 1 = .ok (.invokespecial 3, 3) := by decide +kernel
theorem dX6_init_4 : decode cX6_init 4 = .ok (.aload_n 0, 1) := by decide +kernel
theorem dX6_init_5 : decode cX6_init 5 = .ok (.bipush 6, 2) := by decide +kernel
theorem dX6_init_7 : decode cX6_init 7 = .ok (.newarray .int, 2) := by decide +kernel
theorem dX6_init_9 : decode cX6_init 9 = .ok (.putfield 9, 3) := by decide +kernel
theorem dX6_init_12 : decode cX6_init 12 = .ok (.aload_n 0, 1) := by decide +kernel
theorem dX6_init_13 : decode cX6_init 13 = .ok (.bipush 6, 2) := by decide +kernel
theorem dX6_init_15 : decode cX6_init 15 = .ok (.newarray .int, 2) := by decide +kernel
theorem dX6_init_17 : decode cX6_init 17 = .ok (.putfield 15, 3) := by decide +kernel
theorem dX6_init_20 : decode cX6_init 20 = .ok (.aload_n 0, 1) := by decide +kernel
theorem dX6_init_21 : decode cX6_init 21 = .ok (.bipush 6, 2) := by decide +kernel
theorem dX6_init_23 : decode cX6_init 23 = .ok (.newarray .int, 2) := by decide +kernel
theorem dX6_init_25 : decode cX6_init 25 = .ok (.putfield 18, 3) := by decide +kernel
theorem dX6_init_28 : decode cX6_init 28 = .ok (.aload_n 0, 1) := by decide +kernel
theorem dX6_init_29 : decode cX6_init 29 = .ok (.iconst 0, 1) := by decide +kernel
theorem dX6_init_30 : decode cX6_init 30 = .ok (.putfield 21, 3) := by decide +kernel
theorem dX6_init_33 : decode cX6_init 33 = .ok (.return_, 1) := by decide +kernel
theorem dX6_add_0 : decode cX6_add 0 = .ok (.aload_n 0, 1) := by decide +kernel
theorem dX6_add_1 : decode cX6_add 1 = .ok (.getfield 21, 3) := by decide +kernel
theorem dX6_add_4 : decode cX6_add 4 = .ok (.ifCond .lt 12, 3) := by decide +kernel
theorem dX6_add_7 : decode cX6_add 7 = .ok (.aload_n 0, 1) := by decide +kernel
theorem dX6_add_8 : decode cX6_add 8 = .ok (.getfield 21, 3) := by decide +kernel
theorem dX6_add_11 : decode cX6_add 11 = .ok (.bipush 6, 2) := by decide +kernel
theorem dX6_add_13 : decode cX6_add 13 = .ok (.if_icmp .lt 5, 3) := by decide +kernel
theorem dX6_add_16 : decode cX6_add 16 = .ok (.iconst 0, 1) := by decide +kernel
theorem dX6_add_17 : decode cX6_add 17 = .ok (.ireturn, 1) := by decide +kernel
theorem dX6_add_18 : decode cX6_add 18 = .ok (.aload_n 0, 1) := by decide +kernel
theorem dX6_add_19 : decode cX6_add 19 = .ok (.getfield 9, 3) := by decide +kernel
theorem dX6_add_22 : decode cX6_add 22 = .ok (.aload_n 0, 1) := by decide +kernel
theorem dX6_add_23 : decode cX6_add 23 = .ok (.getfield 21, 3) := by decide +kernel
theorem dX6_add_26 : decode cX6_add 26 = .ok (.iload_n 1, 1) := by decide +kernel
theorem dX6_add_27 : decode cX6_add 27 = .ok (.iastore, 1) := by decide +kernel
theorem dX6_add_28 : decode cX6_add 28 = .ok (.aload_n 0, 1) := by decide +kernel
theorem dX6_add_29 : decode cX6_add 29 = .ok (.getfield 15, 3) := by decide +kernel
theorem dX6_add_32 : decode cX6_add 32 = .ok (.aload_n 0, 1) := by decide +kernel
theorem dX6_add_33 : decode cX6_add 33 = .ok (.getfield 21, 3) := by decide +kernel
theorem dX6_add_36 : decode cX6_add 36 = .ok (.iload_n 2, 1) := by decide +kernel
theorem dX6_add_37 : decode cX6_add 37 = .ok (.iastore, 1) := by decide +kernel
theorem dX6_add_38 : decode cX6_add 38 = .ok (.aload_n 0, 1) := by decide +kernel
theorem dX6_add_39 : decode cX6_add 39 = .ok (.getfield 18, 3) := by decide +kernel
theorem dX6_add_42 : decode cX6_add 42 = .ok (.aload_n 0, 1) := by decide +kernel
theorem dX6_add_43 : decode cX6_add 43 = .ok (.getfield 21, 3) := by decide +kernel
theorem dX6_add_46 : decode cX6_add 46 = .ok (.iload_n 3, 1) := by decide +kernel
theorem dX6_add_47 : decode cX6_add 47 = .ok (.iastore, 1) := by decide +kernel
theorem dX6_add_48 : decode cX6_add 48 = .ok (.aload_n 0, 1) := by decide +kernel
theorem dX6_add_49 : decode cX6_add 49 = .ok (.dup, 1) := by decide +kernel
theorem dX6_add_50 : decode cX6_add 50 = .ok (.getfield 21, 3) := by decide +kernel
theorem dX6_add_53 : decode cX6_add 53 = .ok (.iconst 1, 1) := by decide +kernel
theorem dX6_add_54 : decode cX6_add 54 = .ok (.iadd, 1) := by decide +kernel
theorem dX6_add_55 : decode cX6_add 55 = .ok (.putfield 21, 3) := by decide +kernel
theorem dX6_add_58 : decode cX6_add 58 = .ok (.iconst 1, 1) := by decide +kernel
theorem dX6_add_59 : decode cX6_add 59 = .ok (.ireturn, 1) := by decide +kernel
theorem dX6_countFires_0 : decode cX6_countFires 0 = .ok (.iconst 0, 1) := by decide +kernel
theorem dX6_countFires_1 : decode cX6_countFires 1 = .ok (.istore_n 1, 1) := by decide +kernel
theorem dX6_countFires_2 : decode cX6_countFires 2 = .ok (.iconst 0, 1) := by decide +kernel
theorem dX6_countFires_3 : decode cX6_countFires 3 = .ok (.istore_n 2, 1) := by decide +kernel
theorem dX6_countFires_4 : decode cX6_countFires 4 = .ok (.iload_n 2, 1) := by decide +kernel
theorem dX6_countFires_5 : decode cX6_countFires 5 = .ok (.bipush 100, 2) := by decide +kernel
theorem dX6_countFires_7 : decode cX6_countFires 7 = .ok (.if_icmp .ge 32, 3) := by decide +kernel
theorem dX6_countFires_10 : decode cX6_countFires 10 = .ok (.iload_n 1, 1) := by decide +kernel
theorem dX6_countFires_11 : decode cX6_countFires 11 = .ok (.aload_n 0, 1) := by decide +kernel
theorem dX6_countFires_12 : decode cX6_countFires 12 = .ok (.iload_n 2, 1) := by decide +kernel
theorem dX6_countFires_13 : decode cX6_countFires 13 = .ok (.bipush 10, 2) := by decide +kernel
theorem dX6_countFires_15 : decode cX6_countFires 15 = .ok (.idiv, 1) := by decide +kernel
theorem dX6_countFires_16 : decode cX6_countFires 16 = .ok (.iload_n 2, 1) := by decide +kernel
theorem dX6_countFires_17 : decode cX6_countFires 17 = .ok (.bipush 10, 2) := by decide +kernel
theorem dX6_countFires_19 : decode cX6_countFires 19 = .ok (.irem, 1) := by decide +kernel
theorem dX6_countFires_20 : decode cX6_countFires 20 = .ok (.invokevirtual 25, 3) := by decide +kernel
theorem dX6_countFires_23 : decode cX6_countFires 23 = .ok (.ifCond .eq 7, 3) := by decide +kernel
theorem dX6_countFires_26 : decode cX6_countFires 26 = .ok (.iconst 1, 1) := by decide +kernel
theorem dX6_countFires_27 : decode cX6_countFires 27 = .ok (.goto 4, 3) := by decide +kernel
theorem dX6_countFires_30 : decode cX6_countFires 30 = .ok (.iconst 0, 1) := by decide +kernel
theorem dX6_countFires_31 : decode cX6_countFires 31 = .ok (.iadd, 1) := by decide +kernel
theorem dX6_countFires_32 : decode cX6_countFires 32 = .ok (.istore_n 1, 1) := by decide +kernel
theorem dX6_countFires_33 : decode cX6_countFires 33 = .ok (.iinc 2 1, 3) := by decide +kernel
theorem dX6_countFires_36 : decode cX6_countFires 36 = .ok (.goto (-32), 3) := by decide +kernel
theorem dX6_countFires_39 : decode cX6_countFires 39 = .ok (.iload_n 1, 1) := by decide +kernel
theorem dX6_countFires_40 : decode cX6_countFires 40 = .ok (.ireturn, 1) := by decide +kernel
theorem dX6_firstFire_0 : decode cX6_firstFire 0 = .ok (.iconst 0, 1) := by decide +kernel
theorem dX6_firstFire_1 : decode cX6_firstFire 1 = .ok (.istore_n 1, 1) := by decide +kernel
theorem dX6_firstFire_2 : decode cX6_firstFire 2 = .ok (.iload_n 1, 1) := by decide +kernel
theorem dX6_firstFire_3 : decode cX6_firstFire 3 = .ok (.bipush 100, 2) := by decide +kernel
theorem dX6_firstFire_5 : decode cX6_firstFire 5 = .ok (.if_icmp .ge 26, 3) := by decide +kernel
theorem dX6_firstFire_8 : decode cX6_firstFire 8 = .ok (.aload_n 0, 1) := by decide +kernel
theorem dX6_firstFire_9 : decode cX6_firstFire 9 = .ok (.iload_n 1, 1) := by decide +kernel
theorem dX6_firstFire_10 : decode cX6_firstFire 10 = .ok (.bipush 10, 2) := by decide +kernel
theorem dX6_firstFire_12 : decode cX6_firstFire 12 = .ok (.idiv, 1) := by decide +kernel
theorem dX6_firstFire_13 : decode cX6_firstFire 13 = .ok (.iload_n 1, 1) := by decide +kernel
theorem dX6_firstFire_14 : decode cX6_firstFire 14 = .ok (.bipush 10, 2) := by decide +kernel
theorem dX6_firstFire_16 : decode cX6_firstFire 16 = .ok (.irem, 1) := by decide +kernel
theorem dX6_firstFire_17 : decode cX6_firstFire 17 = .ok (.invokevirtual 25, 3) := by decide +kernel
theorem dX6_firstFire_20 : decode cX6_firstFire 20 = .ok (.ifCond .eq 5, 3) := by decide +kernel
theorem dX6_firstFire_23 : decode cX6_firstFire 23 = .ok (.iload_n 1, 1) := by decide +kernel
theorem dX6_firstFire_24 : decode cX6_firstFire 24 = .ok (.ireturn, 1) := by decide +kernel
theorem dX6_firstFire_25 : decode cX6_firstFire 25 = .ok (.iinc 1 1, 3) := by decide +kernel
theorem dX6_firstFire_28 : decode cX6_firstFire 28 = .ok (.goto (-26), 3) := by decide +kernel
theorem dX6_firstFire_31 : decode cX6_firstFire 31 = .ok (.bipush (-9), 2) := by decide +kernel
theorem dX6_firstFire_33 : decode cX6_firstFire 33 = .ok (.ireturn, 1) := by decide +kernel
theorem dX6_fits_0 : decode cX6_fits 0 = .ok (.iconst 0, 1) := by decide +kernel
theorem dX6_fits_1 : decode cX6_fits 1 = .ok (.istore_n 3, 1) := by decide +kernel
theorem dX6_fits_2 : decode cX6_fits 2 = .ok (.iload_n 3, 1) := by decide +kernel
theorem dX6_fits_3 : decode cX6_fits 3 = .ok (.aload_n 0, 1) := by decide +kernel
theorem dX6_fits_4 : decode cX6_fits 4 = .ok (.getfield 21, 3) := by decide +kernel
theorem dX6_fits_7 : decode cX6_fits 7 = .ok (.if_icmp .ge 76, 3) := by decide +kernel
theorem dX6_fits_10 : decode cX6_fits 10 = .ok (.iload_n 3, 1) := by decide +kernel
theorem dX6_fits_11 : decode cX6_fits 11 = .ok (.bipush 6, 2) := by decide +kernel
theorem dX6_fits_13 : decode cX6_fits 13 = .ok (.if_icmp .ge 70, 3) := by decide +kernel
theorem dX6_fits_16 : decode cX6_fits 16 = .ok (.iload_n 1, 1) := by decide +kernel
theorem dX6_fits_17 : decode cX6_fits 17 = .ok (.ifCond .ne 7, 3) := by decide +kernel
theorem dX6_fits_20 : decode cX6_fits 20 = .ok (.iconst 0, 1) := by decide +kernel
theorem dX6_fits_21 : decode cX6_fits 21 = .ok (.goto 18, 3) := by decide +kernel
theorem dX6_fits_24 : decode cX6_fits 24 = .ok (.bipush 99, 2) := by decide +kernel
theorem dX6_fits_26 : decode cX6_fits 26 = .ok (.iload_n 1, 1) := by decide +kernel
theorem dX6_fits_27 : decode cX6_fits 27 = .ok (.iload_n 2, 1) := by decide +kernel
theorem dX6_fits_28 : decode cX6_fits 28 = .ok (.aload_n 0, 1) := by decide +kernel
theorem dX6_fits_29 : decode cX6_fits 29 = .ok (.getfield 9, 3) := by decide +kernel
theorem dX6_fits_32 : decode cX6_fits 32 = .ok (.iload_n 3, 1) := by decide +kernel
theorem dX6_fits_33 : decode cX6_fits 33 = .ok (.iaload, 1) := by decide +kernel
theorem dX6_fits_34 : decode cX6_fits 34 = .ok (.imul, 1) := by decide +kernel
theorem dX6_fits_35 : decode cX6_fits 35 = .ok (.iadd, 1) := by decide +kernel
theorem dX6_fits_36 : decode cX6_fits 36 = .ok (.invokestatic 29, 3) := by decide +kernel
theorem dX6_fits_39 : decode cX6_fits 39 = .ok (.istore 4, 2) := by decide +kernel
theorem dX6_fits_41 : decode cX6_fits 41 = .ok (.iload 4, 2) := by decide +kernel
theorem dX6_fits_43 : decode cX6_fits 43 = .ok (.aload_n 0, 1) := by decide +kernel
theorem dX6_fits_44 : decode cX6_fits 44 = .ok (.getfield 15, 3) := by decide +kernel
theorem dX6_fits_47 : decode cX6_fits 47 = .ok (.iload_n 3, 1) := by decide +kernel
theorem dX6_fits_48 : decode cX6_fits 48 = .ok (.iaload, 1) := by decide +kernel
theorem dX6_fits_49 : decode cX6_fits 49 = .ok (.if_icmp .lt 7, 3) := by decide +kernel
theorem dX6_fits_52 : decode cX6_fits 52 = .ok (.iconst 1, 1) := by decide +kernel
theorem dX6_fits_53 : decode cX6_fits 53 = .ok (.goto 4, 3) := by decide +kernel
theorem dX6_fits_56 : decode cX6_fits 56 = .ok (.iconst 0, 1) := by decide +kernel
theorem dX6_fits_57 : decode cX6_fits 57 = .ok (.aload_n 0, 1) := by decide +kernel
theorem dX6_fits_58 : decode cX6_fits 58 = .ok (.getfield 18, 3) := by decide +kernel
theorem dX6_fits_61 : decode cX6_fits 61 = .ok (.iload_n 3, 1) := by decide +kernel
theorem dX6_fits_62 : decode cX6_fits 62 = .ok (.iaload, 1) := by decide +kernel
theorem dX6_fits_63 : decode cX6_fits 63 = .ok (.iconst 1, 1) := by decide +kernel
theorem dX6_fits_64 : decode cX6_fits 64 = .ok (.if_icmp .ne 7, 3) := by decide +kernel
theorem dX6_fits_67 : decode cX6_fits 67 = .ok (.iconst 1, 1) := by decide +kernel
theorem dX6_fits_68 : decode cX6_fits 68 = .ok (.goto 4, 3) := by decide +kernel
theorem dX6_fits_71 : decode cX6_fits 71 = .ok (.iconst 0, 1) := by decide +kernel
theorem dX6_fits_72 : decode cX6_fits 72 = .ok (.if_icmp .eq 5, 3) := by decide +kernel
theorem dX6_fits_75 : decode cX6_fits 75 = .ok (.iconst 0, 1) := by decide +kernel
theorem dX6_fits_76 : decode cX6_fits 76 = .ok (.ireturn, 1) := by decide +kernel
theorem dX6_fits_77 : decode cX6_fits 77 = .ok (.iinc 3 1, 3) := by decide +kernel
theorem dX6_fits_80 : decode cX6_fits 80 = .ok (.goto (-78), 3) := by decide +kernel
theorem dX6_fits_83 : decode cX6_fits 83 = .ok (.iconst 1, 1) := by decide +kernel
theorem dX6_fits_84 : decode cX6_fits 84 = .ok (.ireturn, 1) := by decide +kernel
theorem dX7_init_0 : decode cX7_init 0 = .ok (.aload_n 0, 1) := by decide +kernel
theorem dX7_init_1 : decode cX7_init 1 = .ok (.invokespecial 3, 3) := by decide +kernel
theorem dX7_init_4 : decode cX7_init 4 = .ok (.aload_n 0, 1) := by decide +kernel
theorem dX7_init_5 : decode cX7_init 5 = .ok (.bipush 36, 2) := by decide +kernel
theorem dX7_init_7 : decode cX7_init 7 = .ok (.newarray .int, 2) := by decide +kernel
theorem dX7_init_9 : decode cX7_init 9 = .ok (.putfield 9, 3) := by decide +kernel
theorem dX7_init_12 : decode cX7_init 12 = .ok (.aload_n 0, 1) := by decide +kernel
theorem dX7_init_13 : decode cX7_init 13 = .ok (.iconst 0, 1) := by decide +kernel
theorem dX7_init_14 : decode cX7_init 14 = .ok (.putfield 15, 3) := by decide +kernel
theorem dX7_init_17 : decode cX7_init 17 = .ok (.return_, 1) := by decide +kernel
theorem dX7_append_0 : decode cX7_append 0 = .ok (.aload_n 0, 1) := by decide +kernel
theorem dX7_append_1 : decode cX7_append 1 = .ok (.getfield 15, 3) := by decide +kernel
theorem dX7_append_4 : decode cX7_append 4 = .ok (.ifCond .lt 15, 3) := by decide +kernel
theorem dX7_append_7 : decode cX7_append 7 = .ok (.aload_n 0, 1) := by decide +kernel
theorem dX7_append_8 : decode cX7_append 8 = .ok (.getfield 15, 3) := by decide +kernel
theorem dX7_append_11 : decode cX7_append 11 = .ok (.aload_n 0, 1) := by decide +kernel
theorem dX7_append_12 : decode cX7_append 12 = .ok (.getfield 9, 3) := by decide +kernel
theorem dX7_append_15 : decode cX7_append 15 = .ok (.arraylength, 1) := by decide +kernel
theorem dX7_append_16 : decode cX7_append 16 = .ok (.if_icmp .lt 5, 3) := by decide +kernel
theorem dX7_append_19 : decode cX7_append 19 = .ok (.iconst 0, 1) := by decide +kernel
theorem dX7_append_20 : decode cX7_append 20 = .ok (.ireturn, 1) := by decide +kernel
theorem dX7_append_21 : decode cX7_append 21 = .ok (.aload_n 0, 1) := by decide +kernel
theorem dX7_append_22 : decode cX7_append 22 = .ok (.getfield 9, 3) := by decide +kernel
theorem dX7_append_25 : decode cX7_append 25 = .ok (.aload_n 0, 1) := by decide +kernel
theorem dX7_append_26 : decode cX7_append 26 = .ok (.getfield 15, 3) := by decide +kernel
theorem dX7_append_29 : decode cX7_append 29 = .ok (.iload_n 1, 1) := by decide +kernel
theorem dX7_append_30 : decode cX7_append 30 = .ok (.iastore, 1) := by decide +kernel
theorem dX7_append_31 : decode cX7_append 31 = .ok (.aload_n 0, 1) := by decide +kernel
theorem dX7_append_32 : decode cX7_append 32 = .ok (.dup, 1) := by decide +kernel
theorem dX7_append_33 : decode cX7_append 33 = .ok (.getfield 15, 3) := by decide +kernel
theorem dX7_append_36 : decode cX7_append 36 = .ok (.iconst 1, 1) := by decide +kernel
theorem dX7_append_37 : decode cX7_append 37 = .ok (.iadd, 1) := by decide +kernel
theorem dX7_append_38 : decode cX7_append 38 = .ok (.putfield 15, 3) := by decide +kernel
theorem dX7_append_41 : decode cX7_append 41 = .ok (.iconst 1, 1) := by decide +kernel
theorem dX7_append_42 : decode cX7_append 42 = .ok (.ireturn, 1) := by decide +kernel
