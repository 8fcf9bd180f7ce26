theorem dX0_init_0 : decode cX0_init 0 = .ok (.aload_n 0, 1) := by decide +kernel
theorem dX0_init_1 : decode cX0_init 1 = .ok (.invokespecial 1, 3) := by decide +kernel
theorem dX0_init_4 : decode cX0_init 4 = .ok (.return_, 1) := by decide +kernel
theorem dX0_place_0 : decode cX0_place 0 = .ok (.aload_n 0, 1) := by decide +kernel
theorem dX0_place_1 : decode cX0_place 1 = .ok (.aload_n 1, 1) := by decide +kernel
theorem dX0_place_2 : decode cX0_place 2 = .ok (.iload_n 2, 1) := by decide +kernel
theorem dX0_place_3 : decode cX0_place 3 = .ok (.iload_n 3, 1) := by decide +kernel
theorem dX0_place_4 : decode cX0_place 4 = .ok (.invokespecial 7, 3) := by decide +kernel
theorem dX0_place_7 : decode cX0_place 7 = .ok (.istore 4, 2) := by decide +kernel
theorem dX0_place_9 : decode cX0_place 9 = .ok (.aload_n 1, 1) := by decide +kernel
theorem dX0_place_10 : decode cX0_place 10 = .ok (.iload 4, 2) := by decide +kernel
theorem dX0_place_12 : decode cX0_place 12 = .ok (.aload_n 0, 1) := by decide +kernel
theorem dX0_place_13 : decode cX0_place 13 = .ok (.iload_n 3, 1) := by decide +kernel
theorem dX0_place_14 : decode cX0_place 14 = .ok (.invokevirtual 11, 3) := by decide +kernel
theorem dX0_place_17 : decode cX0_place 17 = .ok (.invokevirtual 17, 3) := by decide +kernel
theorem dX0_place_20 : decode cX0_place 20 = .ok (.ifCond .eq 8, 3) := by decide +kernel
theorem dX0_place_23 : decode cX0_place 23 = .ok (.iload 4, 2) := by decide +kernel
theorem dX0_place_25 : decode cX0_place 25 = .ok (.goto 7, 3) := by decide +kernel
theorem dX0_place_28 : decode cX0_place 28 = .ok (.aload_n 1, 1) := by decide +kernel
theorem dX0_place_29 : decode cX0_place 29 = .ok (.invokevirtual 23, 3) := by decide +kernel
theorem dX0_place_32 : decode cX0_place 32 = .ok (.ireturn, 1) := by decide +kernel
theorem dX1_init_0 : decode cX1_init 0 = .ok (.aload_n 0, 1) := by decide +kernel
theorem dX1_init_1 : decode cX1_init 1 = .ok (.invokespecial 3, 3) := by decide +kernel
theorem dX1_init_4 : decode cX1_init 4 = .ok (.aload_n 0, 1) := by decide +kernel
theorem dX1_init_5 : decode cX1_init 5 = .ok (.bipush 7, 2) := by decide +kernel
theorem dX1_init_7 : decode cX1_init 7 = .ok (.anewarray 9, 3) := by decide +kernel
theorem dX1_init_10 : decode cX1_init 10 = .ok (.putfield 11, 3) := by decide +kernel
theorem dX1_init_13 : decode cX1_init 13 = .ok (.aload_n 0, 1) := by decide +kernel
theorem dX1_init_14 : decode cX1_init 14 = .ok (.bipush 6, 2) := by decide +kernel
theorem dX1_init_16 : decode cX1_init 16 = .ok (.newarray .int, 2) := by decide +kernel
theorem dX1_init_18 : decode cX1_init 18 = .ok (.putfield 17, 3) := by decide +kernel
theorem dX1_init_21 : decode cX1_init 21 = .ok (.aload_n 0, 1) := by decide +kernel
theorem dX1_init_22 : decode cX1_init 22 = .ok (.aload_n 1, 1) := by decide +kernel
theorem dX1_init_23 : decode cX1_init 23 = .ok (.getfield 21, 3) := by decide +kernel
theorem dX1_init_26 : decode cX1_init 26 = .ok (.putfield 27, 3) := by decide +kernel
theorem dX1_init_29 : decode cX1_init 29 = .ok (.aload_n 0, 1) := by decide +kernel
theorem dX1_init_30 : decode cX1_init 30 = .ok (.aload_n 1, 1) := by decide +kernel
theorem dX1_init_31 : decode cX1_init 31 = .ok (.getfield 28, 3) := by decide +kernel
theorem dX1_init_34 : decode cX1_init 34 = .ok (.putfield 32, 3) := by decide +kernel
theorem dX1_init_37 : decode cX1_init 37 = .ok (.iconst 0, 1) := by decide +kernel
theorem dX1_init_38 : decode cX1_init 38 = .ok (.istore_n 2, 1) := by decide +kernel
theorem dX1_init_39 : decode cX1_init 39 = .ok (.iload_n 2, 1) := by decide +kernel
theorem dX1_init_40 : decode cX1_init 40 = .ok (.aload_n 0, 1) := by decide +kernel
theorem dX1_init_41 : decode cX1_init 41 = .ok (.getfield 11, 3) := by decide +kernel
theorem dX1_init_44 : decode cX1_init 44 = .ok (.arraylength, 1) := by decide +kernel
theorem dX1_init_45 : decode cX1_init 45 = .ok (.if_icmp .ge 26, 3) := by decide +kernel
theorem dX1_init_48 : decode cX1_init 48 = .ok (.aload_n 0, 1) := by decide +kernel
theorem dX1_init_49 : decode cX1_init 49 = .ok (.getfield 11, 3) := by decide +kernel
theorem dX1_init_52 : decode cX1_init 52 = .ok (.iload_n 2, 1) := by decide +kernel
theorem dX1_init_53 : decode cX1_init 53 = .ok (.new 9, 3) := by decide +kernel
theorem dX1_init_56 : decode cX1_init 56 = .ok (.dup, 1) := by decide +kernel
theorem dX1_init_57 : decode cX1_init 57 = .ok (.aload_n 0, 1) := by decide +kernel
theorem dX1_init_58 : decode cX1_init 58 = .ok (.getfield 27, 3) := by decide +kernel
theorem dX1_init_61 : decode cX1_init 61 = .ok (.invokespecial 35, 3) := by decide +kernel
theorem dX1_init_64 : decode cX1_init 64 = .ok (.aastore, 1) := by decide +kernel
theorem dX1_init_65 : decode cX1_init 65 = .ok (.iinc 2 1, 3) := by decide +kernel
theorem dX1_init_68 : decode cX1_init 68 = .ok (.goto (-29), 3) := by decide +kernel
theorem dX1_init_71 : decode cX1_init 71 = .ok (.return_, 1) := by decide +kernel
theorem dX1_fresh_0 : decode cX1_fresh 0 = .ok (.aload_n 0, 1) := by decide +kernel
theorem dX1_fresh_1 : decode cX1_fresh 1 = .ok (.getfield 11, 3) := by decide +kernel
theorem dX1_fresh_4 : decode cX1_fresh 4 = .ok (.iconst 0, 1) := by decide +kernel
theorem dX1_fresh_5 : decode cX1_fresh 5 = .ok (.aaload, 1) := by decide +kernel
theorem dX1_fresh_6 : decode cX1_fresh 6 = .ok (.aload_n 0, 1) := by decide +kernel
theorem dX1_fresh_7 : decode cX1_fresh 7 = .ok (.getfield 32, 3) := by decide +kernel
theorem dX1_fresh_10 : decode cX1_fresh 10 = .ok (.invokevirtual 38, 3) := by decide +kernel
theorem dX1_fresh_13 : decode cX1_fresh 13 = .ok (.aload_n 0, 1) := by decide +kernel
theorem dX1_fresh_14 : decode cX1_fresh 14 = .ok (.getfield 11, 3) := by decide +kernel
theorem dX1_fresh_17 : decode cX1_fresh 17 = .ok (.iconst 0, 1) := by decide +kernel
theorem dX1_fresh_18 : decode cX1_fresh 18 = .ok (.aaload, 1) := by decide +kernel
theorem dX1_fresh_19 : decode cX1_fresh 19 = .ok (.areturn, 1) := by decide +kernel
theorem dX1_isDeepest_0 : decode cX1_isDeepest 0 = .ok (.iload_n 1, 1) := by decide +kernel
theorem dX1_isDeepest_1 : decode cX1_isDeepest 1 = .ok (.ifCond .lt 9, 3) := by decide +kernel
theorem dX1_isDeepest_4 : decode cX1_isDeepest 4 = .ok (.iload_n 1, 1) := by decide +kernel
theorem dX1_isDeepest_5 : decode cX1_isDeepest 5 = .ok (.bipush 6, 2) := by decide +kernel
theorem dX1_isDeepest_7 : decode cX1_isDeepest 7 = .ok (.if_icmp .lt 7, 3) := by decide +kernel
theorem dX1_isDeepest_10 : decode cX1_isDeepest 10 = .ok (.iconst 1, 1) := by decide +kernel
theorem dX1_isDeepest_11 : decode cX1_isDeepest 11 = .ok (.goto 4, 3) := by decide +kernel
theorem dX1_isDeepest_14 : decode cX1_isDeepest 14 = .ok (.iconst 0, 1) := by decide +kernel
theorem dX1_isDeepest_15 : decode cX1_isDeepest 15 = .ok (.ireturn, 1) := by decide +kernel
theorem dX1_afterFebruary_0 : decode cX1_afterFebruary 0 = .ok (.aload_n 0, 1) := by decide +kernel
theorem dX1_afterFebruary_1 : decode cX1_afterFebruary 1 = .ok (.invokevirtual 42, 3) := by decide +kernel
theorem dX1_afterFebruary_4 : decode cX1_afterFebruary 4 = .ok (.astore_n 1, 1) := by decide +kernel
theorem dX1_afterFebruary_5 : decode cX1_afterFebruary 5 = .ok (.iconst 0, 1) := by decide +kernel
theorem dX1_afterFebruary_6 : decode cX1_afterFebruary 6 = .ok (.istore_n 2, 1) := by decide +kernel
theorem dX1_afterFebruary_7 : decode cX1_afterFebruary 7 = .ok (.iload_n 2, 1) := by decide +kernel
theorem dX1_afterFebruary_8 : decode cX1_afterFebruary 8 = .ok (.aload_n 0, 1) := by decide +kernel
theorem dX1_afterFebruary_9 : decode cX1_afterFebruary 9 = .ok (.getfield 27, 3) := by decide +kernel
theorem dX1_afterFebruary_12 : decode cX1_afterFebruary 12 = .ok (.getfield 46, 3) := by decide +kernel
theorem dX1_afterFebruary_15 : decode cX1_afterFebruary 15 = .ok (.if_icmp .ge 14, 3) := by decide +kernel
theorem dX1_afterFebruary_18 : decode cX1_afterFebruary 18 = .ok (.aload_n 1, 1) := by decide +kernel
theorem dX1_afterFebruary_19 : decode cX1_afterFebruary 19 = .ok (.iload_n 2, 1) := by decide +kernel
theorem dX1_afterFebruary_20 : decode cX1_afterFebruary 20 = .ok (.invokevirtual 52, 3) := by decide +kernel
theorem dX1_afterFebruary_23 : decode cX1_afterFebruary 23 = .ok (.iinc 2 1, 3) := by decide +kernel
theorem dX1_afterFebruary_26 : decode cX1_afterFebruary 26 = .ok (.goto (-19), 3) := by decide +kernel
theorem dX1_afterFebruary_29 : decode cX1_afterFebruary 29 = .ok (.aload_n 1, 1) := by decide +kernel
theorem dX1_afterFebruary_30 : decode cX1_afterFebruary 30 = .ok (.areturn, 1) := by decide +kernel
theorem dX1_ordersWon_0 : decode cX1_ordersWon 0 = .ok (.aload_n 0, 1) := by decide +kernel
theorem dX1_ordersWon_1 : decode cX1_ordersWon 1 = .ok (.invokevirtual 42, 3) := by decide +kernel
theorem dX1_ordersWon_4 : decode cX1_ordersWon 4 = .ok (.pop, 1) := by decide +kernel
theorem dX1_ordersWon_5 : decode cX1_ordersWon 5 = .ok (.aload_n 0, 1) := by decide +kernel
theorem dX1_ordersWon_6 : decode cX1_ordersWon 6 = .ok (.iconst 0, 1) := by decide +kernel
theorem dX1_ordersWon_7 : decode cX1_ordersWon 7 = .ok (.putfield 56, 3) := by decide +kernel
theorem dX1_ordersWon_10 : decode cX1_ordersWon 10 = .ok (.aload_n 0, 1) := by decide +kernel
theorem dX1_ordersWon_11 : decode cX1_ordersWon 11 = .ok (.iconst 0, 1) := by decide +kernel
theorem dX1_ordersWon_12 : decode cX1_ordersWon 12 = .ok (.iload_n 1, 1) := by decide +kernel
theorem dX1_ordersWon_13 : decode cX1_ordersWon 13 = .ok (.iconst 0, 1) := by decide +kernel
theorem dX1_ordersWon_14 : decode cX1_ordersWon 14 = .ok (.invokevirtual 59, 3) := by decide +kernel
theorem dX1_ordersWon_17 : decode cX1_ordersWon 17 = .ok (.aload_n 0, 1) := by decide +kernel
theorem dX1_ordersWon_18 : decode cX1_ordersWon 18 = .ok (.getfield 56, 3) := by decide +kernel
theorem dX1_ordersWon_21 : decode cX1_ordersWon 21 = .ok (.ireturn, 1) := by decide +kernel
theorem dX1_countOrders_0 : decode cX1_countOrders 0 = .ok (.aload_n 0, 1) := by decide +kernel
theorem dX1_countOrders_1 : decode cX1_countOrders 1 = .ok (.getfield 27, 3) := by decide +kernel
theorem dX1_countOrders_4 : decode cX1_countOrders 4 = .ok (.getfield 46, 3) := by decide +kernel
theorem dX1_countOrders_7 : decode cX1_countOrders 7 = .ok (.iload_n 1, 1) := by decide +kernel
theorem dX1_countOrders_8 : decode cX1_countOrders 8 = .ok (.isub, 1) := by decide +kernel
theorem dX1_countOrders_9 : decode cX1_countOrders 9 = .ok (.istore 4, 2) := by decide +kernel
theorem dX1_countOrders_11 : decode cX1_countOrders 11 = .ok (.aload_n 0, 1) := by decide +kernel
theorem dX1_countOrders_12 : decode cX1_countOrders 12 = .ok (.getfield 11, 3) := by decide +kernel
theorem dX1_countOrders_15 : decode cX1_countOrders 15 = .ok (.iload_n 1, 1) := by decide +kernel
theorem dX1_countOrders_16 : decode cX1_countOrders 16 = .ok (.aaload, 1) := by decide +kernel
theorem dX1_countOrders_17 : decode cX1_countOrders 17 = .ok (.getfield 63, 3) := by decide +kernel
theorem dX1_countOrders_20 : decode cX1_countOrders 20 = .ok (.iconst (-1), 1) := by decide +kernel
theorem dX1_countOrders_21 : decode cX1_countOrders 21 = .ok (.if_icmp .ne 16, 3) := by decide +kernel
theorem dX1_countOrders_24 : decode cX1_countOrders 24 = .ok (.iload 4, 2) := by decide +kernel
theorem dX1_countOrders_26 : decode cX1_countOrders 26 = .ok (.ifCond .le 11, 3) := by decide +kernel
theorem dX1_countOrders_29 : decode cX1_countOrders 29 = .ok (.aload_n 0, 1) := by decide +kernel
theorem dX1_countOrders_30 : decode cX1_countOrders 30 = .ok (.iload_n 1, 1) := by decide +kernel
theorem dX1_countOrders_31 : decode cX1_countOrders 31 = .ok (.invokevirtual 66, 3) := by decide +kernel
theorem dX1_countOrders_34 : decode cX1_countOrders 34 = .ok (.ifCond .eq 37, 3) := by decide +kernel
theorem dX1_countOrders_37 : decode cX1_countOrders 37 = .ok (.aload_n 0, 1) := by decide +kernel
theorem dX1_countOrders_38 : decode cX1_countOrders 38 = .ok (.getfield 11, 3) := by decide +kernel
theorem dX1_countOrders_41 : decode cX1_countOrders 41 = .ok (.iload_n 1, 1) := by decide +kernel
theorem dX1_countOrders_42 : decode cX1_countOrders 42 = .ok (.aaload, 1) := by decide +kernel
theorem dX1_countOrders_43 : decode cX1_countOrders 43 = .ok (.getfield 63, 3) := by decide +kernel
theorem dX1_countOrders_46 : decode cX1_countOrders 46 = .ok (.iload_n 2, 1) := by decide +kernel
theorem dX1_countOrders_47 : decode cX1_countOrders 47 = .ok (.if_icmp .ne 23, 3) := by decide +kernel
theorem dX1_countOrders_50 : decode cX1_countOrders 50 = .ok (.aload_n 0, 1) := by decide +kernel
theorem dX1_countOrders_51 : decode cX1_countOrders 51 = .ok (.iload_n 1, 1) := by decide +kernel
theorem dX1_countOrders_52 : decode cX1_countOrders 52 = .ok (.iload_n 3, 1) := by decide +kernel
theorem dX1_countOrders_53 : decode cX1_countOrders 53 = .ok (.invokevirtual 70, 3) := by decide +kernel
theorem dX1_countOrders_56 : decode cX1_countOrders 56 = .ok (.aload_n 0, 1) := by decide +kernel
theorem dX1_countOrders_57 : decode cX1_countOrders 57 = .ok (.dup, 1) := by decide +kernel
theorem dX1_countOrders_58 : decode cX1_countOrders 58 = .ok (.getfield 56, 3) := by decide +kernel
theorem dX1_countOrders_61 : decode cX1_countOrders 61 = .ok (.iload 4, 2) := by decide +kernel
theorem dX1_countOrders_63 : decode cX1_countOrders 63 = .ok (.invokestatic 74, 3) := by decide +kernel
theorem dX1_countOrders_66 : decode cX1_countOrders 66 = .ok (.iadd, 1) := by decide +kernel
theorem dX1_countOrders_67 : decode cX1_countOrders 67 = .ok (.putfield 56, 3) := by decide +kernel
theorem dX1_countOrders_70 : decode cX1_countOrders 70 = .ok (.return_, 1) := by decide +kernel
theorem dX1_countOrders_71 : decode cX1_countOrders 71 = .ok (.iconst 0, 1) := by decide +kernel
theorem dX1_countOrders_72 : decode cX1_countOrders 72 = .ok (.istore 5, 2) := by decide +kernel
theorem dX1_countOrders_74 : decode cX1_countOrders 74 = .ok (.iload 5, 2) := by decide +kernel
theorem dX1_countOrders_76 : decode cX1_countOrders 76 = .ok (.aload_n 0, 1) := by decide +kernel
theorem dX1_countOrders_77 : decode cX1_countOrders 77 = .ok (.getfield 27, 3) := by decide +kernel
theorem dX1_countOrders_80 : decode cX1_countOrders 80 = .ok (.getfield 46, 3) := by decide +kernel
theorem dX1_countOrders_83 : decode cX1_countOrders 83 = .ok (.if_icmp .ge 77, 3) := by decide +kernel
theorem dX1_countOrders_86 : decode cX1_countOrders 86 = .ok (.iload_n 3, 1) := by decide +kernel
theorem dX1_countOrders_87 : decode cX1_countOrders 87 = .ok (.iload 5, 2) := by decide +kernel
theorem dX1_countOrders_89 : decode cX1_countOrders 89 = .ok (.invokestatic 78, 3) := by decide +kernel
theorem dX1_countOrders_92 : decode cX1_countOrders 92 = .ok (.ifCond .ne 62, 3) := by decide +kernel
theorem dX1_countOrders_95 : decode cX1_countOrders 95 = .ok (.aload_n 0, 1) := by decide +kernel
theorem dX1_countOrders_96 : decode cX1_countOrders 96 = .ok (.getfield 56, 3) := by decide +kernel
theorem dX1_countOrders_99 : decode cX1_countOrders 99 = .ok (.ifCond .ne 11, 3) := by decide +kernel
theorem dX1_countOrders_102 : decode cX1_countOrders 102 = .ok (.aload_n 0, 1) := by decide +kernel
theorem dX1_countOrders_103 : decode cX1_countOrders 103 = .ok (.getfield 17, 3) := by decide +kernel
theorem dX1_countOrders_106 : decode cX1_countOrders 106 = .ok (.iload_n 1, 1) := by decide +kernel
theorem dX1_countOrders_107 : decode cX1_countOrders 107 = .ok (.iload 5, 2) := by decide +kernel
theorem dX1_countOrders_109 : decode cX1_countOrders 109 = .ok (.iastore, 1) := by decide +kernel
theorem dX1_countOrders_110 : decode cX1_countOrders 110 = .ok (.aload_n 0, 1) := by decide +kernel
theorem dX1_countOrders_111 : decode cX1_countOrders 111 = .ok (.getfield 11, 3) := by decide +kernel
theorem dX1_countOrders_114 : decode cX1_countOrders 114 = .ok (.iload_n 1, 1) := by decide +kernel
theorem dX1_countOrders_115 : decode cX1_countOrders 115 = .ok (.iconst 1, 1) := by decide +kernel
theorem dX1_countOrders_116 : decode cX1_countOrders 116 = .ok (.iadd, 1) := by decide +kernel
theorem dX1_countOrders_117 : decode cX1_countOrders 117 = .ok (.aaload, 1) := by decide +kernel
theorem dX1_countOrders_118 : decode cX1_countOrders 118 = .ok (.aload_n 0, 1) := by decide +kernel
theorem dX1_countOrders_119 : decode cX1_countOrders 119 = .ok (.getfield 11, 3) := by decide +kernel
theorem dX1_countOrders_122 : decode cX1_countOrders 122 = .ok (.iload_n 1, 1) := by decide +kernel
theorem dX1_countOrders_123 : decode cX1_countOrders 123 = .ok (.aaload, 1) := by decide +kernel
theorem dX1_countOrders_124 : decode cX1_countOrders 124 = .ok (.invokevirtual 38, 3) := by decide +kernel
theorem dX1_countOrders_127 : decode cX1_countOrders 127 = .ok (.aload_n 0, 1) := by decide +kernel
theorem dX1_countOrders_128 : decode cX1_countOrders 128 = .ok (.getfield 11, 3) := by decide +kernel
theorem dX1_countOrders_131 : decode cX1_countOrders 131 = .ok (.iload_n 1, 1) := by decide +kernel
theorem dX1_countOrders_132 : decode cX1_countOrders 132 = .ok (.iconst 1, 1) := by decide +kernel
theorem dX1_countOrders_133 : decode cX1_countOrders 133 = .ok (.iadd, 1) := by decide +kernel
theorem dX1_countOrders_134 : decode cX1_countOrders 134 = .ok (.aaload, 1) := by decide +kernel
theorem dX1_countOrders_135 : decode cX1_countOrders 135 = .ok (.iload 5, 2) := by decide +kernel
theorem dX1_countOrders_137 : decode cX1_countOrders 137 = .ok (.invokevirtual 52, 3) := by decide +kernel
theorem dX1_countOrders_140 : decode cX1_countOrders 140 = .ok (.aload_n 0, 1) := by decide +kernel
theorem dX1_countOrders_141 : decode cX1_countOrders 141 = .ok (.iload_n 1, 1) := by decide +kernel
theorem dX1_countOrders_142 : decode cX1_countOrders 142 = .ok (.iconst 1, 1) := by decide +kernel
theorem dX1_countOrders_143 : decode cX1_countOrders 143 = .ok (.iadd, 1) := by decide +kernel
theorem dX1_countOrders_144 : decode cX1_countOrders 144 = .ok (.iload_n 2, 1) := by decide +kernel
theorem dX1_countOrders_145 : decode cX1_countOrders 145 = .ok (.iload_n 3, 1) := by decide +kernel
theorem dX1_countOrders_146 : decode cX1_countOrders 146 = .ok (.iconst 1, 1) := by decide +kernel
theorem dX1_countOrders_147 : decode cX1_countOrders 147 = .ok (.iload 5, 2) := by decide +kernel
theorem dX1_countOrders_149 : decode cX1_countOrders 149 = .ok (.ishl, 1) := by decide +kernel
theorem dX1_countOrders_150 : decode cX1_countOrders 150 = .ok (.ior, 1) := by decide +kernel
theorem dX1_countOrders_151 : decode cX1_countOrders 151 = .ok (.invokevirtual 59, 3) := by decide +kernel
theorem dX1_countOrders_154 : decode cX1_countOrders 154 = .ok (.iinc 5 1, 3) := by decide +kernel
theorem dX1_countOrders_157 : decode cX1_countOrders 157 = .ok (.goto (-83), 3) := by decide +kernel
theorem dX1_countOrders_160 : decode cX1_countOrders 160 = .ok (.return_, 1) := by decide +kernel
theorem dX1_fillOrder_0 : decode cX1_fillOrder 0 = .ok (.iload_n 1, 1) := by decide +kernel
theorem dX1_fillOrder_1 : decode cX1_fillOrder 1 = .ok (.istore_n 3, 1) := by decide +kernel
theorem dX1_fillOrder_2 : decode cX1_fillOrder 2 = .ok (.iconst 0, 1) := by decide +kernel
theorem dX1_fillOrder_3 : decode cX1_fillOrder 3 = .ok (.istore 4, 2) := by decide +kernel
theorem dX1_fillOrder_5 : decode cX1_fillOrder 5 = .ok (.iload 4, 2) := by decide +kernel
theorem dX1_fillOrder_7 : decode cX1_fillOrder 7 = .ok (.aload_n 0, 1) := by decide +kernel
theorem dX1_fillOrder_8 : decode cX1_fillOrder 8 = .ok (.getfield 27, 3) := by decide +kernel
theorem dX1_fillOrder_11 : decode cX1_fillOrder 11 = .ok (.getfield 46, 3) := by decide +kernel
theorem dX1_fillOrder_14 : decode cX1_fillOrder 14 = .ok (.if_icmp .ge 42, 3) := by decide +kernel
theorem dX1_fillOrder_17 : decode cX1_fillOrder 17 = .ok (.aload_n 0, 1) := by decide +kernel
theorem dX1_fillOrder_18 : decode cX1_fillOrder 18 = .ok (.getfield 56, 3) := by decide +kernel
theorem dX1_fillOrder_21 : decode cX1_fillOrder 21 = .ok (.ifCond .ne 35, 3) := by decide +kernel
theorem dX1_fillOrder_24 : decode cX1_fillOrder 24 = .ok (.iload_n 2, 1) := by decide +kernel
theorem dX1_fillOrder_25 : decode cX1_fillOrder 25 = .ok (.iload 4, 2) := by decide +kernel
theorem dX1_fillOrder_27 : decode cX1_fillOrder 27 = .ok (.invokestatic 78, 3) := by decide +kernel
theorem dX1_fillOrder_30 : decode cX1_fillOrder 30 = .ok (.ifCond .ne 20, 3) := by decide +kernel
theorem dX1_fillOrder_33 : decode cX1_fillOrder 33 = .ok (.iload_n 3, 1) := by decide +kernel
theorem dX1_fillOrder_34 : decode cX1_fillOrder 34 = .ok (.bipush 6, 2) := by decide +kernel
theorem dX1_fillOrder_36 : decode cX1_fillOrder 36 = .ok (.if_icmp .ge 14, 3) := by decide +kernel
theorem dX1_fillOrder_39 : decode cX1_fillOrder 39 = .ok (.aload_n 0, 1) := by decide +kernel
theorem dX1_fillOrder_40 : decode cX1_fillOrder 40 = .ok (.getfield 17, 3) := by decide +kernel
theorem dX1_fillOrder_43 : decode cX1_fillOrder 43 = .ok (.iload_n 3, 1) := by decide +kernel
theorem dX1_fillOrder_44 : decode cX1_fillOrder 44 = .ok (.iload 4, 2) := by decide +kernel
theorem dX1_fillOrder_46 : decode cX1_fillOrder 46 = .ok (.iastore, 1) := by decide +kernel
theorem dX1_fillOrder_47 : decode cX1_fillOrder 47 = .ok (.iinc 3 1, 3) := by decide +kernel
theorem dX1_fillOrder_50 : decode cX1_fillOrder 50 = .ok (.iinc 4 1, 3) := by decide +kernel
theorem dX1_fillOrder_53 : decode cX1_fillOrder 53 = .ok (.goto (-48), 3) := by decide +kernel
theorem dX1_fillOrder_56 : decode cX1_fillOrder 56 = .ok (.return_, 1) := by decide +kernel
theorem dX1_ordersOf_0 : decode cX1_ordersOf 0 = .ok (.iconst 1, 1) := by decide +kernel
theorem dX1_ordersOf_1 : decode cX1_ordersOf 1 = .ok (.istore_n 1, 1) := by decide +kernel
theorem dX1_ordersOf_2 : decode cX1_ordersOf 2 = .ok (.iconst 2, 1) := by decide +kernel
theorem dX1_ordersOf_3 : decode cX1_ordersOf 3 = .ok (.istore_n 2, 1) := by decide +kernel
theorem dX1_ordersOf_4 : decode cX1_ordersOf 4 = .ok (.iload_n 2, 1) := by decide +kernel
theorem dX1_ordersOf_5 : decode cX1_ordersOf 5 = .ok (.iload_n 0, 1) := by decide +kernel
theorem dX1_ordersOf_6 : decode cX1_ordersOf 6 = .ok (.if_icmp .gt 13, 3) := by decide +kernel
theorem dX1_ordersOf_9 : decode cX1_ordersOf 9 = .ok (.iload_n 1, 1) := by decide +kernel
theorem dX1_ordersOf_10 : decode cX1_ordersOf 10 = .ok (.iload_n 2, 1) := by decide +kernel
theorem dX1_ordersOf_11 : decode cX1_ordersOf 11 = .ok (.imul, 1) := by decide +kernel
theorem dX1_ordersOf_12 : decode cX1_ordersOf 12 = .ok (.istore_n 1, 1) := by decide +kernel
theorem dX1_ordersOf_13 : decode cX1_ordersOf 13 = .ok (.iinc 2 1, 3) := by decide +kernel
theorem dX1_ordersOf_16 : decode cX1_ordersOf 16 = .ok (.goto (-12), 3) := by decide +kernel
theorem dX1_ordersOf_19 : decode cX1_ordersOf 19 = .ok (.iload_n 1, 1) := by decide +kernel
theorem dX1_ordersOf_20 : decode cX1_ordersOf 20 = .ok (.ireturn, 1) := by decide +kernel
theorem dX1_fewestStones_0 : decode cX1_fewestStones 0 = .ok (.aload_n 0, 1) := by decide +kernel
theorem dX1_fewestStones_1 : decode cX1_fewestStones 1 = .ok (.invokevirtual 42, 3) := by decide +kernel
theorem dX1_fewestStones_4 : decode cX1_fewestStones 4 = .ok (.pop, 1) := by decide +kernel
theorem dX1_fewestStones_5 : decode cX1_fewestStones 5 = .ok (.aload_n 0, 1) := by decide +kernel
theorem dX1_fewestStones_6 : decode cX1_fewestStones 6 = .ok (.getfield 27, 3) := by decide +kernel
theorem dX1_fewestStones_9 : decode cX1_fewestStones 9 = .ok (.iload_n 1, 1) := by decide +kernel
theorem dX1_fewestStones_10 : decode cX1_fewestStones 10 = .ok (.invokevirtual 82, 3) := by decide +kernel
theorem dX1_fewestStones_13 : decode cX1_fewestStones 13 = .ok (.istore_n 2, 1) := by decide +kernel
theorem dX1_fewestStones_14 : decode cX1_fewestStones 14 = .ok (.iconst 1, 1) := by decide +kernel
theorem dX1_fewestStones_15 : decode cX1_fewestStones 15 = .ok (.istore_n 3, 1) := by decide +kernel
theorem dX1_fewestStones_16 : decode cX1_fewestStones 16 = .ok (.iload_n 3, 1) := by decide +kernel
theorem dX1_fewestStones_17 : decode cX1_fewestStones 17 = .ok (.iconst 5, 1) := by decide +kernel
theorem dX1_fewestStones_18 : decode cX1_fewestStones 18 = .ok (.if_icmp .gt 53, 3) := by decide +kernel
theorem dX1_fewestStones_21 : decode cX1_fewestStones 21 = .ok (.iconst 0, 1) := by decide +kernel
theorem dX1_fewestStones_22 : decode cX1_fewestStones 22 = .ok (.istore 4, 2) := by decide +kernel
theorem dX1_fewestStones_24 : decode cX1_fewestStones 24 = .ok (.iload 4, 2) := by decide +kernel
theorem dX1_fewestStones_26 : decode cX1_fewestStones 26 = .ok (.aload_n 0, 1) := by decide +kernel
theorem dX1_fewestStones_27 : decode cX1_fewestStones 27 = .ok (.getfield 27, 3) := by decide +kernel
theorem dX1_fewestStones_30 : decode cX1_fewestStones 30 = .ok (.getfield 85, 3) := by decide +kernel
theorem dX1_fewestStones_33 : decode cX1_fewestStones 33 = .ok (.if_icmp .ge 32, 3) := by decide +kernel
theorem dX1_fewestStones_36 : decode cX1_fewestStones 36 = .ok (.aload_n 0, 1) := by decide +kernel
theorem dX1_fewestStones_37 : decode cX1_fewestStones 37 = .ok (.iload 4, 2) := by decide +kernel
theorem dX1_fewestStones_39 : decode cX1_fewestStones 39 = .ok (.iload_n 1, 1) := by decide +kernel
theorem dX1_fewestStones_40 : decode cX1_fewestStones 40 = .ok (.iload_n 2, 1) := by decide +kernel
theorem dX1_fewestStones_41 : decode cX1_fewestStones 41 = .ok (.iload_n 3, 1) := by decide +kernel
theorem dX1_fewestStones_42 : decode cX1_fewestStones 42 = .ok (.iconst 1, 1) := by decide +kernel
theorem dX1_fewestStones_43 : decode cX1_fewestStones 43 = .ok (.isub, 1) := by decide +kernel
theorem dX1_fewestStones_44 : decode cX1_fewestStones 44 = .ok (.iconst 0, 1) := by decide +kernel
theorem dX1_fewestStones_45 : decode cX1_fewestStones 45 = .ok (.invokevirtual 88, 3) := by decide +kernel
theorem dX1_fewestStones_48 : decode cX1_fewestStones 48 = .ok (.ifCond .eq 11, 3) := by decide +kernel
theorem dX1_fewestStones_51 : decode cX1_fewestStones 51 = .ok (.aload_n 0, 1) := by decide +kernel
theorem dX1_fewestStones_52 : decode cX1_fewestStones 52 = .ok (.iload 4, 2) := by decide +kernel
theorem dX1_fewestStones_54 : decode cX1_fewestStones 54 = .ok (.putfield 92, 3) := by decide +kernel
theorem dX1_fewestStones_57 : decode cX1_fewestStones 57 = .ok (.iload_n 3, 1) := by decide +kernel
theorem dX1_fewestStones_58 : decode cX1_fewestStones 58 = .ok (.ireturn, 1) := by decide +kernel
theorem dX1_fewestStones_59 : decode cX1_fewestStones 59 = .ok (.iinc 4 1, 3) := by decide +kernel
theorem dX1_fewestStones_62 : decode cX1_fewestStones 62 = .ok (.goto (-38), 3) := by decide +kernel
theorem dX1_fewestStones_65 : decode cX1_fewestStones 65 = .ok (.iinc 3 1, 3) := by decide +kernel
theorem dX1_fewestStones_68 : decode cX1_fewestStones 68 = .ok (.goto (-52), 3) := by decide +kernel
theorem dX1_fewestStones_71 : decode cX1_fewestStones 71 = .ok (.aload_n 0, 1) := by decide +kernel
theorem dX1_fewestStones_72 : decode cX1_fewestStones 72 = .ok (.iconst (-1), 1) := by decide +kernel
theorem dX1_fewestStones_73 : decode cX1_fewestStones 73 = .ok (.putfield 92, 3) := by decide +kernel
theorem dX1_fewestStones_76 : decode cX1_fewestStones 76 = .ok (.iconst (-1), 1) := by decide +kernel
theorem dX1_fewestStones_77 : decode cX1_fewestStones 77 = .ok (.ireturn, 1) := by decide +kernel
theorem dX1_fallsBy_0 : decode cX1_fallsBy 0 = .ok (.aload_n 0, 1) := by decide +kernel
theorem dX1_fallsBy_1 : decode cX1_fallsBy 1 = .ok (.iload 5, 2) := by decide +kernel
theorem dX1_fallsBy_3 : decode cX1_fallsBy 3 = .ok (.invokevirtual 66, 3) := by decide +kernel
theorem dX1_fallsBy_6 : decode cX1_fallsBy 6 = .ok (.ifCond .eq 5, 3) := by decide +kernel
theorem dX1_fallsBy_9 : decode cX1_fallsBy 9 = .ok (.iconst 0, 1) := by decide +kernel
theorem dX1_fallsBy_10 : decode cX1_fallsBy 10 = .ok (.ireturn, 1) := by decide +kernel
theorem dX1_fallsBy_11 : decode cX1_fallsBy 11 = .ok (.aload_n 0, 1) := by decide +kernel
theorem dX1_fallsBy_12 : decode cX1_fallsBy 12 = .ok (.iload_n 1, 1) := by decide +kernel
theorem dX1_fallsBy_13 : decode cX1_fallsBy 13 = .ok (.iload 5, 2) := by decide +kernel
theorem dX1_fallsBy_15 : decode cX1_fallsBy 15 = .ok (.invokevirtual 95, 3) := by decide +kernel
theorem dX1_fallsBy_18 : decode cX1_fallsBy 18 = .ok (.astore 6, 2) := by decide +kernel
theorem dX1_fallsBy_20 : decode cX1_fallsBy 20 = .ok (.aload 6, 2) := by decide +kernel
theorem dX1_fallsBy_22 : decode cX1_fallsBy 22 = .ok (.getfield 99, 3) := by decide +kernel
theorem dX1_fallsBy_25 : decode cX1_fallsBy 25 = .ok (.iload_n 2, 1) := by decide +kernel
theorem dX1_fallsBy_26 : decode cX1_fallsBy 26 = .ok (.invokestatic 78, 3) := by decide +kernel
theorem dX1_fallsBy_29 : decode cX1_fallsBy 29 = .ok (.ifCond .ne 18, 3) := by decide +kernel
theorem dX1_fallsBy_32 : decode cX1_fallsBy 32 = .ok (.aload_n 0, 1) := by decide +kernel
theorem dX1_fallsBy_33 : decode cX1_fallsBy 33 = .ok (.iload_n 2, 1) := by decide +kernel
theorem dX1_fallsBy_34 : decode cX1_fallsBy 34 = .ok (.iload_n 3, 1) := by decide +kernel
theorem dX1_fallsBy_35 : decode cX1_fallsBy 35 = .ok (.iload 4, 2) := by decide +kernel
theorem dX1_fallsBy_37 : decode cX1_fallsBy 37 = .ok (.iload 5, 2) := by decide +kernel
theorem dX1_fallsBy_39 : decode cX1_fallsBy 39 = .ok (.iconst 1, 1) := by decide +kernel
theorem dX1_fallsBy_40 : decode cX1_fallsBy 40 = .ok (.iadd, 1) := by decide +kernel
theorem dX1_fallsBy_41 : decode cX1_fallsBy 41 = .ok (.invokevirtual 102, 3) := by decide +kernel
theorem dX1_fallsBy_44 : decode cX1_fallsBy 44 = .ok (.ifCond .eq 7, 3) := by decide +kernel
theorem dX1_fallsBy_47 : decode cX1_fallsBy 47 = .ok (.iconst 1, 1) := by decide +kernel
theorem dX1_fallsBy_48 : decode cX1_fallsBy 48 = .ok (.goto 4, 3) := by decide +kernel
theorem dX1_fallsBy_51 : decode cX1_fallsBy 51 = .ok (.iconst 0, 1) := by decide +kernel
theorem dX1_fallsBy_52 : decode cX1_fallsBy 52 = .ok (.ireturn, 1) := by decide +kernel
theorem dX1_fallsWithin_0 : decode cX1_fallsWithin 0 = .ok (.iload_n 3, 1) := by decide +kernel
theorem dX1_fallsWithin_1 : decode cX1_fallsWithin 1 = .ok (.ifCond .le 18, 3) := by decide +kernel
theorem dX1_fallsWithin_4 : decode cX1_fallsWithin 4 = .ok (.aload_n 0, 1) := by decide +kernel
theorem dX1_fallsWithin_5 : decode cX1_fallsWithin 5 = .ok (.getfield 11, 3) := by decide +kernel
theorem dX1_fallsWithin_8 : decode cX1_fallsWithin 8 = .ok (.iload 4, 2) := by decide +kernel
theorem dX1_fallsWithin_10 : decode cX1_fallsWithin 10 = .ok (.aaload, 1) := by decide +kernel
theorem dX1_fallsWithin_11 : decode cX1_fallsWithin 11 = .ok (.iload_n 2, 1) := by decide +kernel
theorem dX1_fallsWithin_12 : decode cX1_fallsWithin 12 = .ok (.iload_n 3, 1) := by decide +kernel
theorem dX1_fallsWithin_13 : decode cX1_fallsWithin 13 = .ok (.invokevirtual 106, 3) := by decide +kernel
theorem dX1_fallsWithin_16 : decode cX1_fallsWithin 16 = .ok (.ifCond .ne 5, 3) := by decide +kernel
theorem dX1_fallsWithin_19 : decode cX1_fallsWithin 19 = .ok (.iconst 0, 1) := by decide +kernel
theorem dX1_fallsWithin_20 : decode cX1_fallsWithin 20 = .ok (.ireturn, 1) := by decide +kernel
theorem dX1_fallsWithin_21 : decode cX1_fallsWithin 21 = .ok (.iconst 0, 1) := by decide +kernel
theorem dX1_fallsWithin_22 : decode cX1_fallsWithin 22 = .ok (.istore 5, 2) := by decide +kernel
theorem dX1_fallsWithin_24 : decode cX1_fallsWithin 24 = .ok (.iload 5, 2) := by decide +kernel
theorem dX1_fallsWithin_26 : decode cX1_fallsWithin 26 = .ok (.aload_n 0, 1) := by decide +kernel
theorem dX1_fallsWithin_27 : decode cX1_fallsWithin 27 = .ok (.getfield 27, 3) := by decide +kernel
theorem dX1_fallsWithin_30 : decode cX1_fallsWithin 30 = .ok (.getfield 85, 3) := by decide +kernel
theorem dX1_fallsWithin_33 : decode cX1_fallsWithin 33 = .ok (.if_icmp .ge 36, 3) := by decide +kernel
theorem dX1_fallsWithin_36 : decode cX1_fallsWithin 36 = .ok (.iload_n 2, 1) := by decide +kernel
theorem dX1_fallsWithin_37 : decode cX1_fallsWithin 37 = .ok (.iload 5, 2) := by decide +kernel
theorem dX1_fallsWithin_39 : decode cX1_fallsWithin 39 = .ok (.invokestatic 78, 3) := by decide +kernel
theorem dX1_fallsWithin_42 : decode cX1_fallsWithin 42 = .ok (.ifCond .eq 21, 3) := by decide +kernel
theorem dX1_fallsWithin_45 : decode cX1_fallsWithin 45 = .ok (.aload_n 0, 1) := by decide +kernel
theorem dX1_fallsWithin_46 : decode cX1_fallsWithin 46 = .ok (.iload 5, 2) := by decide +kernel
theorem dX1_fallsWithin_48 : decode cX1_fallsWithin 48 = .ok (.iload_n 1, 1) := by decide +kernel
theorem dX1_fallsWithin_49 : decode cX1_fallsWithin 49 = .ok (.iload_n 2, 1) := by decide +kernel
theorem dX1_fallsWithin_50 : decode cX1_fallsWithin 50 = .ok (.iload_n 3, 1) := by decide +kernel
theorem dX1_fallsWithin_51 : decode cX1_fallsWithin 51 = .ok (.iconst 1, 1) := by decide +kernel
theorem dX1_fallsWithin_52 : decode cX1_fallsWithin 52 = .ok (.isub, 1) := by decide +kernel
theorem dX1_fallsWithin_53 : decode cX1_fallsWithin 53 = .ok (.iload 4, 2) := by decide +kernel
theorem dX1_fallsWithin_55 : decode cX1_fallsWithin 55 = .ok (.invokevirtual 88, 3) := by decide +kernel
theorem dX1_fallsWithin_58 : decode cX1_fallsWithin 58 = .ok (.ifCond .eq 5, 3) := by decide +kernel
theorem dX1_fallsWithin_61 : decode cX1_fallsWithin 61 = .ok (.iconst 1, 1) := by decide +kernel
theorem dX1_fallsWithin_62 : decode cX1_fallsWithin 62 = .ok (.ireturn, 1) := by decide +kernel
theorem dX1_fallsWithin_63 : decode cX1_fallsWithin 63 = .ok (.iinc 5 1, 3) := by decide +kernel
theorem dX1_fallsWithin_66 : decode cX1_fallsWithin 66 = .ok (.goto (-42), 3) := by decide +kernel
theorem dX1_fallsWithin_69 : decode cX1_fallsWithin 69 = .ok (.iconst 0, 1) := by decide +kernel
theorem dX1_fallsWithin_70 : decode cX1_fallsWithin 70 = .ok (.ireturn, 1) := by decide +kernel
theorem dX1_afterStone_0 : decode cX1_afterStone 0 = .ok (.aload_n 0, 1) := by decide +kernel
theorem dX1_afterStone_1 : decode cX1_afterStone 1 = .ok (.getfield 11, 3) := by decide +kernel
theorem dX1_afterStone_4 : decode cX1_afterStone 4 = .ok (.iload_n 2, 1) := by decide +kernel
theorem dX1_afterStone_5 : decode cX1_afterStone 5 = .ok (.iconst 1, 1) := by decide +kernel
theorem dX1_afterStone_6 : decode cX1_afterStone 6 = .ok (.iadd, 1) := by decide +kernel
theorem dX1_afterStone_7 : decode cX1_afterStone 7 = .ok (.aaload, 1) := by decide +kernel
theorem dX1_afterStone_8 : decode cX1_afterStone 8 = .ok (.astore_n 3, 1) := by decide +kernel
theorem dX1_afterStone_9 : decode cX1_afterStone 9 = .ok (.aload_n 3, 1) := by decide +kernel
theorem dX1_afterStone_10 : decode cX1_afterStone 10 = .ok (.aload_n 0, 1) := by decide +kernel
theorem dX1_afterStone_11 : decode cX1_afterStone 11 = .ok (.getfield 11, 3) := by decide +kernel
theorem dX1_afterStone_14 : decode cX1_afterStone 14 = .ok (.iload_n 2, 1) := by decide +kernel
theorem dX1_afterStone_15 : decode cX1_afterStone 15 = .ok (.aaload, 1) := by decide +kernel
theorem dX1_afterStone_16 : decode cX1_afterStone 16 = .ok (.invokevirtual 38, 3) := by decide +kernel
theorem dX1_afterStone_19 : decode cX1_afterStone 19 = .ok (.aload_n 3, 1) := by decide +kernel
theorem dX1_afterStone_20 : decode cX1_afterStone 20 = .ok (.iload_n 1, 1) := by decide +kernel
theorem dX1_afterStone_21 : decode cX1_afterStone 21 = .ok (.iconst 1, 1) := by decide +kernel
theorem dX1_afterStone_22 : decode cX1_afterStone 22 = .ok (.invokevirtual 109, 3) := by decide +kernel
theorem dX1_afterStone_25 : decode cX1_afterStone 25 = .ok (.aload_n 3, 1) := by decide +kernel
theorem dX1_afterStone_26 : decode cX1_afterStone 26 = .ok (.invokevirtual 112, 3) := by decide +kernel
theorem dX1_afterStone_29 : decode cX1_afterStone 29 = .ok (.aload_n 3, 1) := by decide +kernel
theorem dX1_afterStone_30 : decode cX1_afterStone 30 = .ok (.areturn, 1) := by decide +kernel
theorem dX1_buriedBy_0 : decode cX1_buriedBy 0 = .ok (.aload_n 0, 1) := by decide +kernel
theorem dX1_buriedBy_1 : decode cX1_buriedBy 1 = .ok (.invokevirtual 42, 3) := by decide +kernel
theorem dX1_buriedBy_4 : decode cX1_buriedBy 4 = .ok (.astore_n 3, 1) := by decide +kernel
theorem dX1_buriedBy_5 : decode cX1_buriedBy 5 = .ok (.aload_n 3, 1) := by decide +kernel
theorem dX1_buriedBy_6 : decode cX1_buriedBy 6 = .ok (.iload_n 1, 1) := by decide +kernel
theorem dX1_buriedBy_7 : decode cX1_buriedBy 7 = .ok (.iload_n 2, 1) := by decide +kernel
theorem dX1_buriedBy_8 : decode cX1_buriedBy 8 = .ok (.invokevirtual 109, 3) := by decide +kernel
theorem dX1_buriedBy_11 : decode cX1_buriedBy 11 = .ok (.aload_n 3, 1) := by decide +kernel
theorem dX1_buriedBy_12 : decode cX1_buriedBy 12 = .ok (.invokevirtual 112, 3) := by decide +kernel
theorem dX1_buriedBy_15 : decode cX1_buriedBy 15 = .ok (.aload_n 3, 1) := by decide +kernel
theorem dX1_buriedBy_16 : decode cX1_buriedBy 16 = .ok (.getfield 115, 3) := by decide +kernel
theorem dX1_buriedBy_19 : decode cX1_buriedBy 19 = .ok (.ireturn, 1) := by decide +kernel
theorem dX1_nightsTill_0 : decode cX1_nightsTill 0 = .ok (.aload_n 0, 1) := by decide +kernel
theorem dX1_nightsTill_1 : decode cX1_nightsTill 1 = .ok (.invokevirtual 42, 3) := by decide +kernel
theorem dX1_nightsTill_4 : decode cX1_nightsTill 4 = .ok (.astore_n 3, 1) := by decide +kernel
theorem dX1_nightsTill_5 : decode cX1_nightsTill 5 = .ok (.iconst 1, 1) := by decide +kernel
theorem dX1_nightsTill_6 : decode cX1_nightsTill 6 = .ok (.istore 4, 2) := by decide +kernel
theorem dX1_nightsTill_8 : decode cX1_nightsTill 8 = .ok (.iload 4, 2) := by decide +kernel
theorem dX1_nightsTill_10 : decode cX1_nightsTill 10 = .ok (.bipush 60, 2) := by decide +kernel
theorem dX1_nightsTill_12 : decode cX1_nightsTill 12 = .ok (.if_icmp .gt 28, 3) := by decide +kernel
theorem dX1_nightsTill_15 : decode cX1_nightsTill 15 = .ok (.aload_n 3, 1) := by decide +kernel
theorem dX1_nightsTill_16 : decode cX1_nightsTill 16 = .ok (.iload_n 2, 1) := by decide +kernel
theorem dX1_nightsTill_17 : decode cX1_nightsTill 17 = .ok (.invokevirtual 118, 3) := by decide +kernel
theorem dX1_nightsTill_20 : decode cX1_nightsTill 20 = .ok (.aload_n 3, 1) := by decide +kernel
theorem dX1_nightsTill_21 : decode cX1_nightsTill 21 = .ok (.getfield 99, 3) := by decide +kernel
theorem dX1_nightsTill_24 : decode cX1_nightsTill 24 = .ok (.iload_n 1, 1) := by decide +kernel
theorem dX1_nightsTill_25 : decode cX1_nightsTill 25 = .ok (.invokestatic 78, 3) := by decide +kernel
theorem dX1_nightsTill_28 : decode cX1_nightsTill 28 = .ok (.ifCond .eq 6, 3) := by decide +kernel
theorem dX1_nightsTill_31 : decode cX1_nightsTill 31 = .ok (.iload 4, 2) := by decide +kernel
theorem dX1_nightsTill_33 : decode cX1_nightsTill 33 = .ok (.ireturn, 1) := by decide +kernel
theorem dX1_nightsTill_34 : decode cX1_nightsTill 34 = .ok (.iinc 4 1, 3) := by decide +kernel
theorem dX1_nightsTill_37 : decode cX1_nightsTill 37 = .ok (.goto (-29), 3) := by decide +kernel
theorem dX1_nightsTill_40 : decode cX1_nightsTill 40 = .ok (.iconst (-1), 1) := by decide +kernel
theorem dX1_nightsTill_41 : decode cX1_nightsTill 41 = .ok (.ireturn, 1) := by decide +kernel
theorem dX1_play_0 : decode cX1_play 0 = .ok (.aload_n 0, 1) := by decide +kernel
theorem dX1_play_1 : decode cX1_play 1 = .ok (.invokevirtual 42, 3) := by decide +kernel
theorem dX1_play_4 : decode cX1_play 4 = .ok (.pop, 1) := by decide +kernel
theorem dX1_play_5 : decode cX1_play 5 = .ok (.iconst (-1), 1) := by decide +kernel
theorem dX1_play_6 : decode cX1_play 6 = .ok (.istore 4, 2) := by decide +kernel
theorem dX1_play_8 : decode cX1_play 8 = .ok (.iconst 0, 1) := by decide +kernel
theorem dX1_play_9 : decode cX1_play 9 = .ok (.istore 5, 2) := by decide +kernel
theorem dX1_play_11 : decode cX1_play 11 = .ok (.iload 5, 2) := by decide +kernel
theorem dX1_play_13 : decode cX1_play 13 = .ok (.aload_n 0, 1) := by decide +kernel
theorem dX1_play_14 : decode cX1_play 14 = .ok (.getfield 27, 3) := by decide +kernel
theorem dX1_play_17 : decode cX1_play 17 = .ok (.getfield 85, 3) := by decide +kernel
theorem dX1_play_20 : decode cX1_play 20 = .ok (.if_icmp .ge 46, 3) := by decide +kernel
theorem dX1_play_23 : decode cX1_play 23 = .ok (.iload 4, 2) := by decide +kernel
theorem dX1_play_25 : decode cX1_play 25 = .ok (.iconst 2, 1) := by decide +kernel
theorem dX1_play_26 : decode cX1_play 26 = .ok (.if_icmp .ge 40, 3) := by decide +kernel
theorem dX1_play_29 : decode cX1_play 29 = .ok (.aload_n 0, 1) := by decide +kernel
theorem dX1_play_30 : decode cX1_play 30 = .ok (.iload 5, 2) := by decide +kernel
theorem dX1_play_32 : decode cX1_play 32 = .ok (.iload_n 1, 1) := by decide +kernel
theorem dX1_play_33 : decode cX1_play 33 = .ok (.iload_n 2, 1) := by decide +kernel
theorem dX1_play_34 : decode cX1_play 34 = .ok (.iload_n 3, 1) := by decide +kernel
theorem dX1_play_35 : decode cX1_play 35 = .ok (.iconst 1, 1) := by decide +kernel
theorem dX1_play_36 : decode cX1_play 36 = .ok (.isub, 1) := by decide +kernel
theorem dX1_play_37 : decode cX1_play 37 = .ok (.iconst 0, 1) := by decide +kernel
theorem dX1_play_38 : decode cX1_play 38 = .ok (.invokevirtual 121, 3) := by decide +kernel
theorem dX1_play_41 : decode cX1_play 41 = .ok (.istore 6, 2) := by decide +kernel
theorem dX1_play_43 : decode cX1_play 43 = .ok (.iload 6, 2) := by decide +kernel
theorem dX1_play_45 : decode cX1_play 45 = .ok (.iload 4, 2) := by decide +kernel
theorem dX1_play_47 : decode cX1_play 47 = .ok (.if_icmp .le 13, 3) := by decide +kernel
theorem dX1_play_50 : decode cX1_play 50 = .ok (.iload 6, 2) := by decide +kernel
theorem dX1_play_52 : decode cX1_play 52 = .ok (.istore 4, 2) := by decide +kernel
theorem dX1_play_54 : decode cX1_play 54 = .ok (.aload_n 0, 1) := by decide +kernel
theorem dX1_play_55 : decode cX1_play 55 = .ok (.iload 5, 2) := by decide +kernel
theorem dX1_play_57 : decode cX1_play 57 = .ok (.putfield 92, 3) := by decide +kernel
theorem dX1_play_60 : decode cX1_play 60 = .ok (.iinc 5 1, 3) := by decide +kernel
theorem dX1_play_63 : decode cX1_play 63 = .ok (.goto (-52), 3) := by decide +kernel
theorem dX1_play_66 : decode cX1_play 66 = .ok (.iload 4, 2) := by decide +kernel
theorem dX1_play_68 : decode cX1_play 68 = .ok (.ireturn, 1) := by decide +kernel
theorem dX1_outcomeOf_0 : decode cX1_outcomeOf 0 = .ok (.aload_n 0, 1) := by decide +kernel
theorem dX1_outcomeOf_1 : decode cX1_outcomeOf 1 = .ok (.iload 5, 2) := by decide +kernel
theorem dX1_outcomeOf_3 : decode cX1_outcomeOf 3 = .ok (.invokevirtual 66, 3) := by decide +kernel
theorem dX1_outcomeOf_6 : decode cX1_outcomeOf 6 = .ok (.ifCond .eq 5, 3) := by decide +kernel
theorem dX1_outcomeOf_9 : decode cX1_outcomeOf 9 = .ok (.iconst 1, 1) := by decide +kernel
theorem dX1_outcomeOf_10 : decode cX1_outcomeOf 10 = .ok (.ireturn, 1) := by decide +kernel
theorem dX1_outcomeOf_11 : decode cX1_outcomeOf 11 = .ok (.aload_n 0, 1) := by decide +kernel
theorem dX1_outcomeOf_12 : decode cX1_outcomeOf 12 = .ok (.iload_n 1, 1) := by decide +kernel
theorem dX1_outcomeOf_13 : decode cX1_outcomeOf 13 = .ok (.iload 5, 2) := by decide +kernel
theorem dX1_outcomeOf_15 : decode cX1_outcomeOf 15 = .ok (.invokevirtual 95, 3) := by decide +kernel
theorem dX1_outcomeOf_18 : decode cX1_outcomeOf 18 = .ok (.astore 6, 2) := by decide +kernel
theorem dX1_outcomeOf_20 : decode cX1_outcomeOf 20 = .ok (.aload 6, 2) := by decide +kernel
theorem dX1_outcomeOf_22 : decode cX1_outcomeOf 22 = .ok (.iload_n 2, 1) := by decide +kernel
theorem dX1_outcomeOf_23 : decode cX1_outcomeOf 23 = .ok (.iload_n 3, 1) := by decide +kernel
theorem dX1_outcomeOf_24 : decode cX1_outcomeOf 24 = .ok (.invokevirtual 125, 3) := by decide +kernel
theorem dX1_outcomeOf_27 : decode cX1_outcomeOf 27 = .ok (.ifCond .eq 5, 3) := by decide +kernel
theorem dX1_outcomeOf_30 : decode cX1_outcomeOf 30 = .ok (.iconst 2, 1) := by decide +kernel
theorem dX1_outcomeOf_31 : decode cX1_outcomeOf 31 = .ok (.ireturn, 1) := by decide +kernel
theorem dX1_outcomeOf_32 : decode cX1_outcomeOf 32 = .ok (.aload 6, 2) := by decide +kernel
theorem dX1_outcomeOf_34 : decode cX1_outcomeOf 34 = .ok (.iload_n 3, 1) := by decide +kernel
theorem dX1_outcomeOf_35 : decode cX1_outcomeOf 35 = .ok (.iload_n 2, 1) := by decide +kernel
theorem dX1_outcomeOf_36 : decode cX1_outcomeOf 36 = .ok (.invokevirtual 125, 3) := by decide +kernel
theorem dX1_outcomeOf_39 : decode cX1_outcomeOf 39 = .ok (.ifCond .eq 7, 3) := by decide +kernel
theorem dX1_outcomeOf_42 : decode cX1_outcomeOf 42 = .ok (.iconst 0, 1) := by decide +kernel
theorem dX1_outcomeOf_43 : decode cX1_outcomeOf 43 = .ok (.goto 15, 3) := by decide +kernel
theorem dX1_outcomeOf_46 : decode cX1_outcomeOf 46 = .ok (.aload_n 0, 1) := by decide +kernel
theorem dX1_outcomeOf_47 : decode cX1_outcomeOf 47 = .ok (.iload_n 2, 1) := by decide +kernel
theorem dX1_outcomeOf_48 : decode cX1_outcomeOf 48 = .ok (.iload_n 3, 1) := by decide +kernel
theorem dX1_outcomeOf_49 : decode cX1_outcomeOf 49 = .ok (.iload 4, 2) := by decide +kernel
theorem dX1_outcomeOf_51 : decode cX1_outcomeOf 51 = .ok (.iload 5, 2) := by decide +kernel
theorem dX1_outcomeOf_53 : decode cX1_outcomeOf 53 = .ok (.iconst 1, 1) := by decide +kernel
theorem dX1_outcomeOf_54 : decode cX1_outcomeOf 54 = .ok (.iadd, 1) := by decide +kernel
theorem dX1_outcomeOf_55 : decode cX1_outcomeOf 55 = .ok (.invokevirtual 128, 3) := by decide +kernel
theorem dX1_outcomeOf_58 : decode cX1_outcomeOf 58 = .ok (.ireturn, 1) := by decide +kernel
theorem dX1_bestOutcome_0 : decode cX1_bestOutcome 0 = .ok (.iload_n 3, 1) := by decide +kernel
theorem dX1_bestOutcome_1 : decode cX1_bestOutcome 1 = .ok (.ifCond .le 34, 3) := by decide +kernel
theorem dX1_bestOutcome_4 : decode cX1_bestOutcome 4 = .ok (.aload_n 0, 1) := by decide +kernel
theorem dX1_bestOutcome_5 : decode cX1_bestOutcome 5 = .ok (.getfield 11, 3) := by decide +kernel
theorem dX1_bestOutcome_8 : decode cX1_bestOutcome 8 = .ok (.iload 4, 2) := by decide +kernel
theorem dX1_bestOutcome_10 : decode cX1_bestOutcome 10 = .ok (.aaload, 1) := by decide +kernel
theorem dX1_bestOutcome_11 : decode cX1_bestOutcome 11 = .ok (.aload_n 0, 1) := by decide +kernel
theorem dX1_bestOutcome_12 : decode cX1_bestOutcome 12 = .ok (.getfield 27, 3) := by decide +kernel
theorem dX1_bestOutcome_15 : decode cX1_bestOutcome 15 = .ok (.iload_n 1, 1) := by decide +kernel
theorem dX1_bestOutcome_16 : decode cX1_bestOutcome 16 = .ok (.invokevirtual 82, 3) := by decide +kernel
theorem dX1_bestOutcome_19 : decode cX1_bestOutcome 19 = .ok (.aload_n 0, 1) := by decide +kernel
theorem dX1_bestOutcome_20 : decode cX1_bestOutcome 20 = .ok (.getfield 27, 3) := by decide +kernel
theorem dX1_bestOutcome_23 : decode cX1_bestOutcome 23 = .ok (.iload_n 2, 1) := by decide +kernel
theorem dX1_bestOutcome_24 : decode cX1_bestOutcome 24 = .ok (.invokevirtual 82, 3) := by decide +kernel
theorem dX1_bestOutcome_27 : decode cX1_bestOutcome 27 = .ok (.ior, 1) := by decide +kernel
theorem dX1_bestOutcome_28 : decode cX1_bestOutcome 28 = .ok (.iload_n 3, 1) := by decide +kernel
theorem dX1_bestOutcome_29 : decode cX1_bestOutcome 29 = .ok (.invokevirtual 106, 3) := by decide +kernel
theorem dX1_bestOutcome_32 : decode cX1_bestOutcome 32 = .ok (.ifCond .ne 5, 3) := by decide +kernel
theorem dX1_bestOutcome_35 : decode cX1_bestOutcome 35 = .ok (.iconst 1, 1) := by decide +kernel
theorem dX1_bestOutcome_36 : decode cX1_bestOutcome 36 = .ok (.ireturn, 1) := by decide +kernel
theorem dX1_bestOutcome_37 : decode cX1_bestOutcome 37 = .ok (.iload 4, 2) := by decide +kernel
theorem dX1_bestOutcome_39 : decode cX1_bestOutcome 39 = .ok (.iconst 2, 1) := by decide +kernel
theorem dX1_bestOutcome_40 : decode cX1_bestOutcome 40 = .ok (.irem, 1) := by decide +kernel
theorem dX1_bestOutcome_41 : decode cX1_bestOutcome 41 = .ok (.ifCond .ne 7, 3) := by decide +kernel
theorem dX1_bestOutcome_44 : decode cX1_bestOutcome 44 = .ok (.iconst 1, 1) := by decide +kernel
theorem dX1_bestOutcome_45 : decode cX1_bestOutcome 45 = .ok (.goto 4, 3) := by decide +kernel
theorem dX1_bestOutcome_48 : decode cX1_bestOutcome 48 = .ok (.iconst 0, 1) := by decide +kernel
theorem dX1_bestOutcome_49 : decode cX1_bestOutcome 49 = .ok (.istore 5, 2) := by decide +kernel
theorem dX1_bestOutcome_51 : decode cX1_bestOutcome 51 = .ok (.iload 5, 2) := by decide +kernel
theorem dX1_bestOutcome_53 : decode cX1_bestOutcome 53 = .ok (.ifCond .eq 7, 3) := by decide +kernel
theorem dX1_bestOutcome_56 : decode cX1_bestOutcome 56 = .ok (.iconst 2, 1) := by decide +kernel
theorem dX1_bestOutcome_57 : decode cX1_bestOutcome 57 = .ok (.goto 4, 3) := by decide +kernel
theorem dX1_bestOutcome_60 : decode cX1_bestOutcome 60 = .ok (.iconst 0, 1) := by decide +kernel
theorem dX1_bestOutcome_61 : decode cX1_bestOutcome 61 = .ok (.istore 6, 2) := by decide +kernel
theorem dX1_bestOutcome_63 : decode cX1_bestOutcome 63 = .ok (.iload 5, 2) := by decide +kernel
theorem dX1_bestOutcome_65 : decode cX1_bestOutcome 65 = .ok (.ifCond .eq 7, 3) := by decide +kernel
theorem dX1_bestOutcome_68 : decode cX1_bestOutcome 68 = .ok (.iconst 0, 1) := by decide +kernel
theorem dX1_bestOutcome_69 : decode cX1_bestOutcome 69 = .ok (.goto 4, 3) := by decide +kernel
theorem dX1_bestOutcome_72 : decode cX1_bestOutcome 72 = .ok (.iconst 2, 1) := by decide +kernel
theorem dX1_bestOutcome_73 : decode cX1_bestOutcome 73 = .ok (.istore 7, 2) := by decide +kernel
theorem dX1_bestOutcome_75 : decode cX1_bestOutcome 75 = .ok (.iconst 0, 1) := by decide +kernel
theorem dX1_bestOutcome_76 : decode cX1_bestOutcome 76 = .ok (.istore 8, 2) := by decide +kernel
theorem dX1_bestOutcome_78 : decode cX1_bestOutcome 78 = .ok (.iload 8, 2) := by decide +kernel
theorem dX1_bestOutcome_80 : decode cX1_bestOutcome 80 = .ok (.aload_n 0, 1) := by decide +kernel
theorem dX1_bestOutcome_81 : decode cX1_bestOutcome 81 = .ok (.getfield 27, 3) := by decide +kernel
theorem dX1_bestOutcome_84 : decode cX1_bestOutcome 84 = .ok (.getfield 85, 3) := by decide +kernel
theorem dX1_bestOutcome_87 : decode cX1_bestOutcome 87 = .ok (.if_icmp .ge 55, 3) := by decide +kernel
theorem dX1_bestOutcome_90 : decode cX1_bestOutcome 90 = .ok (.iload 7, 2) := by decide +kernel
theorem dX1_bestOutcome_92 : decode cX1_bestOutcome 92 = .ok (.iload 6, 2) := by decide +kernel
theorem dX1_bestOutcome_94 : decode cX1_bestOutcome 94 = .ok (.if_icmp .eq 48, 3) := by decide +kernel
theorem dX1_bestOutcome_97 : decode cX1_bestOutcome 97 = .ok (.aload_n 0, 1) := by decide +kernel
theorem dX1_bestOutcome_98 : decode cX1_bestOutcome 98 = .ok (.iload 8, 2) := by decide +kernel
theorem dX1_bestOutcome_100 : decode cX1_bestOutcome 100 = .ok (.iload_n 1, 1) := by decide +kernel
theorem dX1_bestOutcome_101 : decode cX1_bestOutcome 101 = .ok (.iload_n 2, 1) := by decide +kernel
theorem dX1_bestOutcome_102 : decode cX1_bestOutcome 102 = .ok (.iload_n 3, 1) := by decide +kernel
theorem dX1_bestOutcome_103 : decode cX1_bestOutcome 103 = .ok (.iconst 1, 1) := by decide +kernel
theorem dX1_bestOutcome_104 : decode cX1_bestOutcome 104 = .ok (.isub, 1) := by decide +kernel
theorem dX1_bestOutcome_105 : decode cX1_bestOutcome 105 = .ok (.iload 4, 2) := by decide +kernel
theorem dX1_bestOutcome_107 : decode cX1_bestOutcome 107 = .ok (.invokevirtual 121, 3) := by decide +kernel
theorem dX1_bestOutcome_110 : decode cX1_bestOutcome 110 = .ok (.istore 9, 2) := by decide +kernel
theorem dX1_bestOutcome_112 : decode cX1_bestOutcome 112 = .ok (.iload 5, 2) := by decide +kernel
theorem dX1_bestOutcome_114 : decode cX1_bestOutcome 114 = .ok (.ifCond .eq 13, 3) := by decide +kernel
theorem dX1_bestOutcome_117 : decode cX1_bestOutcome 117 = .ok (.iload 7, 2) := by decide +kernel
theorem dX1_bestOutcome_119 : decode cX1_bestOutcome 119 = .ok (.iload 9, 2) := by decide +kernel
theorem dX1_bestOutcome_121 : decode cX1_bestOutcome 121 = .ok (.invokestatic 132, 3) := by decide +kernel
theorem dX1_bestOutcome_124 : decode cX1_bestOutcome 124 = .ok (.goto 10, 3) := by decide +kernel
theorem dX1_bestOutcome_127 : decode cX1_bestOutcome 127 = .ok (.iload 7, 2) := by decide +kernel
theorem dX1_bestOutcome_129 : decode cX1_bestOutcome 129 = .ok (.iload 9, 2) := by decide +kernel
theorem dX1_bestOutcome_131 : decode cX1_bestOutcome 131 = .ok (.invokestatic 138, 3) := by decide +kernel
theorem dX1_bestOutcome_134 : decode cX1_bestOutcome 134 = .ok (.istore 7, 2) := by decide +kernel
theorem dX1_bestOutcome_136 : decode cX1_bestOutcome 136 = .ok (.iinc 8 1, 3) := by decide +kernel
theorem dX1_bestOutcome_139 : decode cX1_bestOutcome 139 = .ok (.goto (-61), 3) := by decide +kernel
theorem dX1_bestOutcome_142 : decode cX1_bestOutcome 142 = .ok (.iload 7, 2) := by decide +kernel
theorem dX1_bestOutcome_144 : decode cX1_bestOutcome 144 = .ok (.ireturn, 1) := by decide +kernel
theorem dX1_partsWon_0 : decode cX1_partsWon 0 = .ok (.aload_n 0, 1) := by decide +kernel
theorem dX1_partsWon_1 : decode cX1_partsWon 1 = .ok (.invokevirtual 42, 3) := by decide +kernel
theorem dX1_partsWon_4 : decode cX1_partsWon 4 = .ok (.pop, 1) := by decide +kernel
theorem dX1_partsWon_5 : decode cX1_partsWon 5 = .ok (.aload_n 0, 1) := by decide +kernel
theorem dX1_partsWon_6 : decode cX1_partsWon 6 = .ok (.iconst 0, 1) := by decide +kernel
theorem dX1_partsWon_7 : decode cX1_partsWon 7 = .ok (.iload_n 1, 1) := by decide +kernel
theorem dX1_partsWon_8 : decode cX1_partsWon 8 = .ok (.iload_n 2, 1) := by decide +kernel
theorem dX1_partsWon_9 : decode cX1_partsWon 9 = .ok (.iconst 0, 1) := by decide +kernel
theorem dX1_partsWon_10 : decode cX1_partsWon 10 = .ok (.invokevirtual 141, 3) := by decide +kernel
theorem dX1_partsWon_13 : decode cX1_partsWon 13 = .ok (.lreturn, 1) := by decide +kernel
theorem dX1_partsFrom_0 : decode cX1_partsFrom 0 = .ok (.aload_n 0, 1) := by decide +kernel
theorem dX1_partsFrom_1 : decode cX1_partsFrom 1 = .ok (.getfield 11, 3) := by decide +kernel
theorem dX1_partsFrom_4 : decode cX1_partsFrom 4 = .ok (.iload 4, 2) := by decide +kernel
theorem dX1_partsFrom_6 : decode cX1_partsFrom 6 = .ok (.aaload, 1) := by decide +kernel
theorem dX1_partsFrom_7 : decode cX1_partsFrom 7 = .ok (.astore 5, 2) := by decide +kernel
theorem dX1_partsFrom_9 : decode cX1_partsFrom 9 = .ok (.aload_n 0, 1) := by decide +kernel
theorem dX1_partsFrom_10 : decode cX1_partsFrom 10 = .ok (.getfield 27, 3) := by decide +kernel
theorem dX1_partsFrom_13 : decode cX1_partsFrom 13 = .ok (.getfield 46, 3) := by decide +kernel
theorem dX1_partsFrom_16 : decode cX1_partsFrom 16 = .ok (.iload_n 1, 1) := by decide +kernel
theorem dX1_partsFrom_17 : decode cX1_partsFrom 17 = .ok (.isub, 1) := by decide +kernel
theorem dX1_partsFrom_18 : decode cX1_partsFrom 18 = .ok (.istore 6, 2) := by decide +kernel
theorem dX1_partsFrom_20 : decode cX1_partsFrom 20 = .ok (.aload 5, 2) := by decide +kernel
theorem dX1_partsFrom_22 : decode cX1_partsFrom 22 = .ok (.getfield 63, 3) := by decide +kernel
theorem dX1_partsFrom_25 : decode cX1_partsFrom 25 = .ok (.iconst (-1), 1) := by decide +kernel
theorem dX1_partsFrom_26 : decode cX1_partsFrom 26 = .ok (.if_icmp .ne 17, 3) := by decide +kernel
theorem dX1_partsFrom_29 : decode cX1_partsFrom 29 = .ok (.iload 6, 2) := by decide +kernel
theorem dX1_partsFrom_31 : decode cX1_partsFrom 31 = .ok (.ifCond .le 12, 3) := by decide +kernel
theorem dX1_partsFrom_34 : decode cX1_partsFrom 34 = .ok (.aload_n 0, 1) := by decide +kernel
theorem dX1_partsFrom_35 : decode cX1_partsFrom 35 = .ok (.iload 4, 2) := by decide +kernel
theorem dX1_partsFrom_37 : decode cX1_partsFrom 37 = .ok (.invokevirtual 66, 3) := by decide +kernel
theorem dX1_partsFrom_40 : decode cX1_partsFrom 40 = .ok (.ifCond .eq 22, 3) := by decide +kernel
theorem dX1_partsFrom_43 : decode cX1_partsFrom 43 = .ok (.aload 5, 2) := by decide +kernel
theorem dX1_partsFrom_45 : decode cX1_partsFrom 45 = .ok (.getfield 63, 3) := by decide +kernel
theorem dX1_partsFrom_48 : decode cX1_partsFrom 48 = .ok (.iload_n 2, 1) := by decide +kernel
theorem dX1_partsFrom_49 : decode cX1_partsFrom 49 = .ok (.if_icmp .ne 11, 3) := by decide +kernel
theorem dX1_partsFrom_52 : decode cX1_partsFrom 52 = .ok (.iload 6, 2) := by decide +kernel
theorem dX1_partsFrom_54 : decode cX1_partsFrom 54 = .ok (.invokestatic 145, 3) := by decide +kernel
theorem dX1_partsFrom_57 : decode cX1_partsFrom 57 = .ok (.goto 4, 3) := by decide +kernel
theorem dX1_partsFrom_60 : decode cX1_partsFrom 60 = .ok (.lconst 0, 1) := by decide +kernel
theorem dX1_partsFrom_61 : decode cX1_partsFrom 61 = .ok (.lreturn, 1) := by decide +kernel
theorem dX1_partsFrom_62 : decode cX1_partsFrom 62 = .ok (.lconst 0, 1) := by decide +kernel
theorem dX1_partsFrom_63 : decode cX1_partsFrom 63 = .ok (.lstore 7, 2) := by decide +kernel
theorem dX1_partsFrom_65 : decode cX1_partsFrom 65 = .ok (.iload_n 3, 1) := by decide +kernel
theorem dX1_partsFrom_66 : decode cX1_partsFrom 66 = .ok (.ifCond .le 22, 3) := by decide +kernel
theorem dX1_partsFrom_69 : decode cX1_partsFrom 69 = .ok (.lload 7, 2) := by decide +kernel
theorem dX1_partsFrom_71 : decode cX1_partsFrom 71 = .ok (.iload_n 3, 1) := by decide +kernel
theorem dX1_partsFrom_72 : decode cX1_partsFrom 72 = .ok (.i2l, 1) := by decide +kernel
theorem dX1_partsFrom_73 : decode cX1_partsFrom 73 = .ok (.aload_n 0, 1) := by decide +kernel
theorem dX1_partsFrom_74 : decode cX1_partsFrom 74 = .ok (.iload_n 1, 1) := by decide +kernel
theorem dX1_partsFrom_75 : decode cX1_partsFrom 75 = .ok (.iconst 1, 1) := by decide +kernel
theorem dX1_partsFrom_76 : decode cX1_partsFrom 76 = .ok (.iadd, 1) := by decide +kernel
theorem dX1_partsFrom_77 : decode cX1_partsFrom 77 = .ok (.iload_n 2, 1) := by decide +kernel
theorem dX1_partsFrom_78 : decode cX1_partsFrom 78 = .ok (.iload_n 3, 1) := by decide +kernel
theorem dX1_partsFrom_79 : decode cX1_partsFrom 79 = .ok (.iload 4, 2) := by decide +kernel
theorem dX1_partsFrom_81 : decode cX1_partsFrom 81 = .ok (.invokevirtual 141, 3) := by decide +kernel
theorem dX1_partsFrom_84 : decode cX1_partsFrom 84 = .ok (.lmul, 1) := by decide +kernel
theorem dX1_partsFrom_85 : decode cX1_partsFrom 85 = .ok (.ladd, 1) := by decide +kernel
theorem dX1_partsFrom_86 : decode cX1_partsFrom 86 = .ok (.lstore 7, 2) := by decide +kernel
theorem dX1_partsFrom_88 : decode cX1_partsFrom 88 = .ok (.iload_n 3, 1) := by decide +kernel
theorem dX1_partsFrom_89 : decode cX1_partsFrom 89 = .ok (.bipush 10, 2) := by decide +kernel
theorem dX1_partsFrom_91 : decode cX1_partsFrom 91 = .ok (.if_icmp .ge 54, 3) := by decide +kernel
theorem dX1_partsFrom_94 : decode cX1_partsFrom 94 = .ok (.aload_n 0, 1) := by decide +kernel
theorem dX1_partsFrom_95 : decode cX1_partsFrom 95 = .ok (.getfield 11, 3) := by decide +kernel
theorem dX1_partsFrom_98 : decode cX1_partsFrom 98 = .ok (.iload 4, 2) := by decide +kernel
theorem dX1_partsFrom_100 : decode cX1_partsFrom 100 = .ok (.iconst 1, 1) := by decide +kernel
theorem dX1_partsFrom_101 : decode cX1_partsFrom 101 = .ok (.iadd, 1) := by decide +kernel
theorem dX1_partsFrom_102 : decode cX1_partsFrom 102 = .ok (.aaload, 1) := by decide +kernel
theorem dX1_partsFrom_103 : decode cX1_partsFrom 103 = .ok (.aload 5, 2) := by decide +kernel
theorem dX1_partsFrom_105 : decode cX1_partsFrom 105 = .ok (.invokevirtual 38, 3) := by decide +kernel
theorem dX1_partsFrom_108 : decode cX1_partsFrom 108 = .ok (.aload_n 0, 1) := by decide +kernel
theorem dX1_partsFrom_109 : decode cX1_partsFrom 109 = .ok (.getfield 11, 3) := by decide +kernel
theorem dX1_partsFrom_112 : decode cX1_partsFrom 112 = .ok (.iload 4, 2) := by decide +kernel
theorem dX1_partsFrom_114 : decode cX1_partsFrom 114 = .ok (.iconst 1, 1) := by decide +kernel
theorem dX1_partsFrom_115 : decode cX1_partsFrom 115 = .ok (.iadd, 1) := by decide +kernel
theorem dX1_partsFrom_116 : decode cX1_partsFrom 116 = .ok (.aaload, 1) := by decide +kernel
theorem dX1_partsFrom_117 : decode cX1_partsFrom 117 = .ok (.iload_n 1, 1) := by decide +kernel
theorem dX1_partsFrom_118 : decode cX1_partsFrom 118 = .ok (.invokevirtual 52, 3) := by decide +kernel
theorem dX1_partsFrom_121 : decode cX1_partsFrom 121 = .ok (.lload 7, 2) := by decide +kernel
theorem dX1_partsFrom_123 : decode cX1_partsFrom 123 = .ok (.bipush 10, 2) := by decide +kernel
theorem dX1_partsFrom_125 : decode cX1_partsFrom 125 = .ok (.iload_n 3, 1) := by decide +kernel
theorem dX1_partsFrom_126 : decode cX1_partsFrom 126 = .ok (.isub, 1) := by decide +kernel
theorem dX1_partsFrom_127 : decode cX1_partsFrom 127 = .ok (.i2l, 1) := by decide +kernel
theorem dX1_partsFrom_128 : decode cX1_partsFrom 128 = .ok (.aload_n 0, 1) := by decide +kernel
theorem dX1_partsFrom_129 : decode cX1_partsFrom 129 = .ok (.iload_n 1, 1) := by decide +kernel
theorem dX1_partsFrom_130 : decode cX1_partsFrom 130 = .ok (.iconst 1, 1) := by decide +kernel
theorem dX1_partsFrom_131 : decode cX1_partsFrom 131 = .ok (.iadd, 1) := by decide +kernel
theorem dX1_partsFrom_132 : decode cX1_partsFrom 132 = .ok (.iload_n 2, 1) := by decide +kernel
theorem dX1_partsFrom_133 : decode cX1_partsFrom 133 = .ok (.iload_n 3, 1) := by decide +kernel
theorem dX1_partsFrom_134 : decode cX1_partsFrom 134 = .ok (.iload 4, 2) := by decide +kernel
theorem dX1_partsFrom_136 : decode cX1_partsFrom 136 = .ok (.iconst 1, 1) := by decide +kernel
theorem dX1_partsFrom_137 : decode cX1_partsFrom 137 = .ok (.iadd, 1) := by decide +kernel
theorem dX1_partsFrom_138 : decode cX1_partsFrom 138 = .ok (.invokevirtual 141, 3) := by decide +kernel
theorem dX1_partsFrom_141 : decode cX1_partsFrom 141 = .ok (.lmul, 1) := by decide +kernel
theorem dX1_partsFrom_142 : decode cX1_partsFrom 142 = .ok (.ladd, 1) := by decide +kernel
theorem dX1_partsFrom_143 : decode cX1_partsFrom 143 = .ok (.lstore 7, 2) := by decide +kernel
theorem dX1_partsFrom_145 : decode cX1_partsFrom 145 = .ok (.lload 7, 2) := by decide +kernel
theorem dX1_partsFrom_147 : decode cX1_partsFrom 147 = .ok (.lreturn, 1) := by decide +kernel
theorem dX1_loadAfter_0 : decode cX1_loadAfter 0 = .ok (.aload_n 0, 1) := by decide +kernel
theorem dX1_loadAfter_1 : decode cX1_loadAfter 1 = .ok (.invokevirtual 42, 3) := by decide +kernel
theorem dX1_loadAfter_4 : decode cX1_loadAfter 4 = .ok (.astore_n 3, 1) := by decide +kernel
theorem dX1_loadAfter_5 : decode cX1_loadAfter 5 = .ok (.iload_n 1, 1) := by decide +kernel
theorem dX1_loadAfter_6 : decode cX1_loadAfter 6 = .ok (.i2l, 1) := by decide +kernel
theorem dX1_loadAfter_7 : decode cX1_loadAfter 7 = .ok (.lstore 4, 2) := by decide +kernel
theorem dX1_loadAfter_9 : decode cX1_loadAfter 9 = .ok (.iconst 0, 1) := by decide +kernel
theorem dX1_loadAfter_10 : decode cX1_loadAfter 10 = .ok (.istore 6, 2) := by decide +kernel
theorem dX1_loadAfter_12 : decode cX1_loadAfter 12 = .ok (.iload 6, 2) := by decide +kernel
theorem dX1_loadAfter_14 : decode cX1_loadAfter 14 = .ok (.iload_n 2, 1) := by decide +kernel
theorem dX1_loadAfter_15 : decode cX1_loadAfter 15 = .ok (.if_icmp .ge 55, 3) := by decide +kernel
theorem dX1_loadAfter_18 : decode cX1_loadAfter 18 = .ok (.aload_n 0, 1) := by decide +kernel
theorem dX1_loadAfter_19 : decode cX1_loadAfter 19 = .ok (.getfield 27, 3) := by decide +kernel
theorem dX1_loadAfter_22 : decode cX1_loadAfter 22 = .ok (.getfield 46, 3) := by decide +kernel
theorem dX1_loadAfter_25 : decode cX1_loadAfter 25 = .ok (.ifCond .le 45, 3) := by decide +kernel
theorem dX1_loadAfter_28 : decode cX1_loadAfter 28 = .ok (.lload 4, 2) := by decide +kernel
theorem dX1_loadAfter_30 : decode cX1_loadAfter 30 = .ok (.ldc2_w 149, 3) := by decide +kernel
theorem dX1_loadAfter_33 : decode cX1_loadAfter 33 = .ok (.lmul, 1) := by decide +kernel
theorem dX1_loadAfter_34 : decode cX1_loadAfter 34 = .ok (.ldc2_w 151, 3) := by decide +kernel
theorem dX1_loadAfter_37 : decode cX1_loadAfter 37 = .ok (.ladd, 1) := by decide +kernel
theorem dX1_loadAfter_38 : decode cX1_loadAfter 38 = .ok (.ldc2_w 153, 3) := by decide +kernel
theorem dX1_loadAfter_41 : decode cX1_loadAfter 41 = .ok (.lrem, 1) := by decide +kernel
theorem dX1_loadAfter_42 : decode cX1_loadAfter 42 = .ok (.lstore 4, 2) := by decide +kernel
theorem dX1_loadAfter_44 : decode cX1_loadAfter 44 = .ok (.aload_n 3, 1) := by decide +kernel
theorem dX1_loadAfter_45 : decode cX1_loadAfter 45 = .ok (.lload 4, 2) := by decide +kernel
theorem dX1_loadAfter_47 : decode cX1_loadAfter 47 = .ok (.ldc2_w 155, 3) := by decide +kernel
theorem dX1_loadAfter_50 : decode cX1_loadAfter 50 = .ok (.ldiv, 1) := by decide +kernel
theorem dX1_loadAfter_51 : decode cX1_loadAfter 51 = .ok (.aload_n 0, 1) := by decide +kernel
theorem dX1_loadAfter_52 : decode cX1_loadAfter 52 = .ok (.getfield 27, 3) := by decide +kernel
theorem dX1_loadAfter_55 : decode cX1_loadAfter 55 = .ok (.getfield 46, 3) := by decide +kernel
theorem dX1_loadAfter_58 : decode cX1_loadAfter 58 = .ok (.i2l, 1) := by decide +kernel
theorem dX1_loadAfter_59 : decode cX1_loadAfter 59 = .ok (.lrem, 1) := by decide +kernel
theorem dX1_loadAfter_60 : decode cX1_loadAfter 60 = .ok (.l2i, 1) := by decide +kernel
theorem dX1_loadAfter_61 : decode cX1_loadAfter 61 = .ok (.invokevirtual 52, 3) := by decide +kernel
theorem dX1_loadAfter_64 : decode cX1_loadAfter 64 = .ok (.iinc 6 1, 3) := by decide +kernel
theorem dX1_loadAfter_67 : decode cX1_loadAfter 67 = .ok (.goto (-55), 3) := by decide +kernel
theorem dX1_loadAfter_70 : decode cX1_loadAfter 70 = .ok (.aload_n 3, 1) := by decide +kernel
theorem dX1_loadAfter_71 : decode cX1_loadAfter 71 = .ok (.invokevirtual 157, 3) := by decide +kernel
theorem dX1_loadAfter_74 : decode cX1_loadAfter 74 = .ok (.ireturn, 1) := by decide +kernel
theorem dX2_init_0 : decode cX2_init 0 = .ok (.aload_n 0, 1) := by decide +kernel
theorem dX2_init_1 : decode cX2_init 1 = .ok (.invokespecial 3, 3) := by decide +kernel
theorem dX2_init_4 : decode cX2_init 4 = .ok (.return_, 1) := by decide +kernel
theorem dX2_place_0 : decode cX2_place 0 = .ok (.aload_n 0, 1) := by decide +kernel
theorem dX2_place_1 : decode cX2_place 1 = .ok (.aload_n 1, 1) := by decide +kernel
theorem dX2_place_2 : decode cX2_place 2 = .ok (.iload_n 2, 1) := by decide +kernel
theorem dX2_place_3 : decode cX2_place 3 = .ok (.iload_n 3, 1) := by decide +kernel
theorem dX2_place_4 : decode cX2_place 4 = .ok (.invokespecial 9, 3) := by decide +kernel
theorem dX2_place_7 : decode cX2_place 7 = .ok (.istore 4, 2) := by decide +kernel
theorem dX2_place_9 : decode cX2_place 9 = .ok (.aload_n 1, 1) := by decide +kernel
theorem dX2_place_10 : decode cX2_place 10 = .ok (.getfield 13, 3) := by decide +kernel
theorem dX2_place_13 : decode cX2_place 13 = .ok (.iload 4, 2) := by decide +kernel
theorem dX2_place_15 : decode cX2_place 15 = .ok (.invokevirtual 19, 3) := by decide +kernel
theorem dX2_place_18 : decode cX2_place 18 = .ok (.istore 5, 2) := by decide +kernel
theorem dX2_place_20 : decode cX2_place 20 = .ok (.iload 5, 2) := by decide +kernel
theorem dX2_place_22 : decode cX2_place 22 = .ok (.iconst (-1), 1) := by decide +kernel
theorem dX2_place_23 : decode cX2_place 23 = .ok (.if_icmp .ne 8, 3) := by decide +kernel
theorem dX2_place_26 : decode cX2_place 26 = .ok (.iload 4, 2) := by decide +kernel
theorem dX2_place_28 : decode cX2_place 28 = .ok (.goto 5, 3) := by decide +kernel
theorem dX2_place_31 : decode cX2_place 31 = .ok (.iload 5, 2) := by decide +kernel
theorem dX2_place_33 : decode cX2_place 33 = .ok (.ireturn, 1) := by decide +kernel
theorem dX3_init_0 : decode cX3_init 0 = .ok (.aload_n 0, 1) := by decide +kernel
theorem dX3_init_1 : decode cX3_init 1 = .ok (.invokespecial 1, 3) := by decide +kernel
theorem dX3_init_4 : decode cX3_init 4 = .ok (.return_, 1) := by decide +kernel
theorem dX3_heft_0 : decode cX3_heft 0 = .ok (.iconst 2, 1) := by decide +kernel
theorem dX3_heft_1 : decode cX3_heft 1 = .ok (.iload_n 1, 1) := by decide +kernel
theorem dX3_heft_2 : decode cX3_heft 2 = .ok (.imul, 1) := by decide +kernel
theorem dX3_heft_3 : decode cX3_heft 3 = .ok (.ireturn, 1) := by decide +kernel
theorem dX4_init_0 : decode cX4_init 0 = .ok (.aload_n 0, 1) := by decide +kernel
theorem dX4_init_1 : decode cX4_init 1 = .ok (.invokespecial 1, 3) := by decide +kernel
theorem dX4_init_4 : decode cX4_init 4 = .ok (.return_, 1) := by decide +kernel
theorem dX4_heft_0 : decode cX4_heft 0 = .ok (.iload_n 1, 1) := by decide +kernel
theorem dX4_heft_1 : decode cX4_heft 1 = .ok (.ireturn, 1) := by decide +kernel
theorem dX4_place_0 : decode cX4_place 0 = .ok (.iload_n 2, 1) := by decide +kernel
theorem dX4_place_1 : decode cX4_place 1 = .ok (.ireturn, 1) := by decide +kernel
theorem dX5_init_0 : decode cX5_init 0 = .ok (.aload_n 0, 1) := by decide +kernel
theorem dX5_init_1 : decode cX5_init 1 = .ok (.invokespecial 3, 3) := by decide +kernel
theorem dX5_init_4 : decode cX5_init 4 = .ok (.aload_n 0, 1) := by decide +kernel
theorem dX5_init_5 : decode cX5_init 5 = .ok (.sipush 150, 3) := by decide +kernel
theorem dX5_init_8 : decode cX5_init 8 = .ok (.newarray .byte, 2) := by decide +kernel
theorem dX5_init_10 : decode cX5_init 10 = .ok (.putfield 9, 3) := by decide +kernel
theorem dX5_init_13 : decode cX5_init 13 = .ok (.aload_n 0, 1) := by decide +kernel
theorem dX5_init_14 : decode cX5_init 14 = .ok (.iconst (-1), 1) := by decide +kernel
theorem dX5_init_15 : decode cX5_init 15 = .ok (.putfield 15, 3) := by decide +kernel
theorem dX5_init_18 : decode cX5_init 18 = .ok (.return_, 1) := by decide +kernel
theorem dX5_append_0 : decode cX5_append 0 = .ok (.aload_n 0, 1) := by decide +kernel
theorem dX5_append_1 : decode cX5_append 1 = .ok (.getfield 19, 3) := by decide +kernel
theorem dX5_append_4 : decode cX5_append 4 = .ok (.ifCond .lt 13, 3) := by decide +kernel
theorem dX5_append_7 : decode cX5_append 7 = .ok (.aload_n 0, 1) := by decide +kernel
theorem dX5_append_8 : decode cX5_append 8 = .ok (.getfield 19, 3) := by decide +kernel
theorem dX5_append_11 : decode cX5_append 11 = .ok (.sipush 150, 3) := by decide +kernel
theorem dX5_append_14 : decode cX5_append 14 = .ok (.if_icmp .lt 4, 3) := by decide +kernel
theorem dX5_append_17 : decode cX5_append 17 = .ok (.return_, 1) := by decide +kernel
theorem dX5_append_18 : decode cX5_append 18 = .ok (.aload_n 0, 1) := by decide +kernel
theorem dX5_append_19 : decode cX5_append 19 = .ok (.getfield 9, 3) := by decide +kernel
theorem dX5_append_22 : decode cX5_append 22 = .ok (.aload_n 0, 1) := by decide +kernel
theorem dX5_append_23 : decode cX5_append 23 = .ok (.getfield 19, 3) := by decide +kernel
theorem dX5_append_26 : decode cX5_append 26 = .ok (.iload_n 1, 1) := by decide +kernel
theorem dX5_append_27 : decode cX5_append 27 = .ok (.i2b, 1) := by decide +kernel
theorem dX5_append_28 : decode cX5_append 28 = .ok (.bastore, 1) := by decide +kernel
theorem dX5_append_29 : decode cX5_append 29 = .ok (.aload_n 0, 1) := by decide +kernel
theorem dX5_append_30 : decode cX5_append 30 = .ok (.dup, 1) := by decide +kernel
theorem dX5_append_31 : decode cX5_append 31 = .ok (.getfield 19, 3) := by decide +kernel
theorem dX5_append_34 : decode cX5_append 34 = .ok (.iconst 1, 1) := by decide +kernel
theorem dX5_append_35 : decode cX5_append 35 = .ok (.iadd, 1) := by decide +kernel
theorem dX5_append_36 : decode cX5_append 36 = .ok (.putfield 19, 3) := by decide +kernel
theorem dX5_append_39 : decode cX5_append 39 = .ok (.return_, 1) := by decide +kernel
theorem dX5_readInto_0 : decode cX5_readInto 0 = .ok (.aload_n 1, 1) := by decide +kernel
theorem dX5_readInto_1 : decode cX5_readInto 1 = .ok (.invokevirtual 22, 3) := by decide +kernel
theorem dX5_readInto_4 : decode cX5_readInto 4 = .ok (.aload_n 0, 1) := by decide +kernel
theorem dX5_readInto_5 : decode cX5_readInto 5 = .ok (.iconst 0, 1) := by decide +kernel
theorem dX5_readInto_6 : decode cX5_readInto 6 = .ok (.putfield 27, 3) := by decide +kernel
theorem dX5_readInto_9 : decode cX5_readInto 9 = .ok (.aload_n 0, 1) := by decide +kernel
theorem dX5_readInto_10 : decode cX5_readInto 10 = .ok (.iconst (-1), 1) := by decide +kernel
theorem dX5_readInto_11 : decode cX5_readInto 11 = .ok (.putfield 15, 3) := by decide +kernel
theorem dX5_readInto_14 : decode cX5_readInto 14 = .ok (.iconst 0, 1) := by decide +kernel
theorem dX5_readInto_15 : decode cX5_readInto 15 = .ok (.istore_n 2, 1) := by decide +kernel
theorem dX5_readInto_16 : decode cX5_readInto 16 = .ok (.iconst 0, 1) := by decide +kernel
theorem dX5_readInto_17 : decode cX5_readInto 17 = .ok (.istore_n 3, 1) := by decide +kernel
theorem dX5_readInto_18 : decode cX5_readInto 18 = .ok (.iload_n 3, 1) := by decide +kernel
theorem dX5_readInto_19 : decode cX5_readInto 19 = .ok (.aload_n 0, 1) := by decide +kernel
theorem dX5_readInto_20 : decode cX5_readInto 20 = .ok (.getfield 19, 3) := by decide +kernel
theorem dX5_readInto_23 : decode cX5_readInto 23 = .ok (.if_icmp .gt 53, 3) := by decide +kernel
theorem dX5_readInto_26 : decode cX5_readInto 26 = .ok (.aload_n 0, 1) := by decide +kernel
theorem dX5_readInto_27 : decode cX5_readInto 27 = .ok (.getfield 15, 3) := by decide +kernel
theorem dX5_readInto_30 : decode cX5_readInto 30 = .ok (.iconst (-1), 1) := by decide +kernel
theorem dX5_readInto_31 : decode cX5_readInto 31 = .ok (.if_icmp .ne 45, 3) := by decide +kernel
theorem dX5_readInto_34 : decode cX5_readInto 34 = .ok (.iload_n 3, 1) := by decide +kernel
theorem dX5_readInto_35 : decode cX5_readInto 35 = .ok (.ifCond .eq 14, 3) := by decide +kernel
theorem dX5_readInto_38 : decode cX5_readInto 38 = .ok (.aload_n 0, 1) := by decide +kernel
theorem dX5_readInto_39 : decode cX5_readInto 39 = .ok (.getfield 27, 3) := by decide +kernel
theorem dX5_readInto_42 : decode cX5_readInto 42 = .ok (.aload_n 0, 1) := by decide +kernel
theorem dX5_readInto_43 : decode cX5_readInto 43 = .ok (.getfield 19, 3) := by decide +kernel
theorem dX5_readInto_46 : decode cX5_readInto 46 = .ok (.if_icmp .ge 30, 3) := by decide +kernel
theorem dX5_readInto_49 : decode cX5_readInto 49 = .ok (.aload_n 0, 1) := by decide +kernel
theorem dX5_readInto_50 : decode cX5_readInto 50 = .ok (.aload_n 1, 1) := by decide +kernel
theorem dX5_readInto_51 : decode cX5_readInto 51 = .ok (.iload_n 3, 1) := by decide +kernel
theorem dX5_readInto_52 : decode cX5_readInto 52 = .ok (.ifCond .ne 7, 3) := by decide +kernel
theorem dX5_readInto_55 : decode cX5_readInto 55 = .ok (.iconst 1, 1) := by decide +kernel
theorem dX5_readInto_56 : decode cX5_readInto 56 = .ok (.goto 4, 3) := by decide +kernel
theorem dX5_readInto_59 : decode cX5_readInto 59 = .ok (.iconst 0, 1) := by decide +kernel
theorem dX5_readInto_60 : decode cX5_readInto 60 = .ok (.invokevirtual 30, 3) := by decide +kernel
theorem dX5_readInto_63 : decode cX5_readInto 63 = .ok (.iinc 2 1, 3) := by decide +kernel
theorem dX5_readInto_66 : decode cX5_readInto 66 = .ok (.aload_n 0, 1) := by decide +kernel
theorem dX5_readInto_67 : decode cX5_readInto 67 = .ok (.invokevirtual 34, 3) := by decide +kernel
theorem dX5_readInto_70 : decode cX5_readInto 70 = .ok (.iinc 3 1, 3) := by decide +kernel
theorem dX5_readInto_73 : decode cX5_readInto 73 = .ok (.goto (-55), 3) := by decide +kernel
theorem dX5_readInto_76 : decode cX5_readInto 76 = .ok (.iload_n 2, 1) := by decide +kernel
theorem dX5_readInto_77 : decode cX5_readInto 77 = .ok (.ireturn, 1) := by decide +kernel
theorem dX5_readItem_0 : decode cX5_readItem 0 = .ok (.aload_n 0, 1) := by decide +kernel
theorem dX5_readItem_1 : decode cX5_readItem 1 = .ok (.invokevirtual 37, 3) := by decide +kernel
theorem dX5_readItem_4 : decode cX5_readItem 4 = .ok (.aload_n 0, 1) := by decide +kernel
theorem dX5_readItem_5 : decode cX5_readItem 5 = .ok (.ldc 40, 2) := by decide +kernel
theorem dX5_readItem_7 : decode cX5_readItem 7 = .ok (.invokevirtual 42, 3) := by decide +kernel
theorem dX5_readItem_10 : decode cX5_readItem 10 = .ok (.iload_n 2, 1) := by decide +kernel
theorem dX5_readItem_11 : decode cX5_readItem 11 = .ok (.if_icmp .eq 14, 3) := by decide +kernel
theorem dX5_readItem_14 : decode cX5_readItem 14 = .ok (.aload_n 0, 1) := by decide +kernel
theorem dX5_readItem_15 : decode cX5_readItem 15 = .ok (.aload_n 0, 1) := by decide +kernel
theorem dX5_readItem_16 : decode cX5_readItem 16 = .ok (.getfield 46, 3) := by decide +kernel
theorem dX5_readItem_19 : decode cX5_readItem 19 = .ok (.putfield 15, 3) := by decide +kernel
theorem dX5_readItem_22 : decode cX5_readItem 22 = .ok (.goto 68, 3) := by decide +kernel
theorem dX5_readItem_25 : decode cX5_readItem 25 = .ok (.aload_n 0, 1) := by decide +kernel
theorem dX5_readItem_26 : decode cX5_readItem 26 = .ok (.ldc 49, 2) := by decide +kernel
theorem dX5_readItem_28 : decode cX5_readItem 28 = .ok (.invokevirtual 42, 3) := by decide +kernel
theorem dX5_readItem_31 : decode cX5_readItem 31 = .ok (.ifCond .eq 12, 3) := by decide +kernel
theorem dX5_readItem_34 : decode cX5_readItem 34 = .ok (.aload_n 0, 1) := by decide +kernel
theorem dX5_readItem_35 : decode cX5_readItem 35 = .ok (.aload_n 1, 1) := by decide +kernel
theorem dX5_readItem_36 : decode cX5_readItem 36 = .ok (.iconst 0, 1) := by decide +kernel
theorem dX5_readItem_37 : decode cX5_readItem 37 = .ok (.invokevirtual 51, 3) := by decide +kernel
theorem dX5_readItem_40 : decode cX5_readItem 40 = .ok (.goto 50, 3) := by decide +kernel
theorem dX5_readItem_43 : decode cX5_readItem 43 = .ok (.aload_n 0, 1) := by decide +kernel
theorem dX5_readItem_44 : decode cX5_readItem 44 = .ok (.ldc 54, 2) := by decide +kernel
theorem dX5_readItem_46 : decode cX5_readItem 46 = .ok (.invokevirtual 42, 3) := by decide +kernel
theorem dX5_readItem_49 : decode cX5_readItem 49 = .ok (.ifCond .eq 12, 3) := by decide +kernel
theorem dX5_readItem_52 : decode cX5_readItem 52 = .ok (.aload_n 0, 1) := by decide +kernel
theorem dX5_readItem_53 : decode cX5_readItem 53 = .ok (.aload_n 1, 1) := by decide +kernel
theorem dX5_readItem_54 : decode cX5_readItem 54 = .ok (.iconst 1, 1) := by decide +kernel
theorem dX5_readItem_55 : decode cX5_readItem 55 = .ok (.invokevirtual 51, 3) := by decide +kernel
theorem dX5_readItem_58 : decode cX5_readItem 58 = .ok (.goto 32, 3) := by decide +kernel
theorem dX5_readItem_61 : decode cX5_readItem 61 = .ok (.aload_n 0, 1) := by decide +kernel
theorem dX5_readItem_62 : decode cX5_readItem 62 = .ok (.ldc 56, 2) := by decide +kernel
theorem dX5_readItem_64 : decode cX5_readItem 64 = .ok (.invokevirtual 42, 3) := by decide +kernel
theorem dX5_readItem_67 : decode cX5_readItem 67 = .ok (.ifCond .eq 11, 3) := by decide +kernel
theorem dX5_readItem_70 : decode cX5_readItem 70 = .ok (.aload_n 0, 1) := by decide +kernel
theorem dX5_readItem_71 : decode cX5_readItem 71 = .ok (.aload_n 1, 1) := by decide +kernel
theorem dX5_readItem_72 : decode cX5_readItem 72 = .ok (.invokevirtual 58, 3) := by decide +kernel
theorem dX5_readItem_75 : decode cX5_readItem 75 = .ok (.goto 15, 3) := by decide +kernel
theorem dX5_readItem_78 : decode cX5_readItem 78 = .ok (.iload_n 2, 1) := by decide +kernel
theorem dX5_readItem_79 : decode cX5_readItem 79 = .ok (.ifCond .ne 11, 3) := by decide +kernel
theorem dX5_readItem_82 : decode cX5_readItem 82 = .ok (.aload_n 0, 1) := by decide +kernel
theorem dX5_readItem_83 : decode cX5_readItem 83 = .ok (.aload_n 0, 1) := by decide +kernel
theorem dX5_readItem_84 : decode cX5_readItem 84 = .ok (.getfield 46, 3) := by decide +kernel
theorem dX5_readItem_87 : decode cX5_readItem 87 = .ok (.putfield 15, 3) := by decide +kernel
theorem dX5_readItem_90 : decode cX5_readItem 90 = .ok (.aload_n 0, 1) := by decide +kernel
theorem dX5_readItem_91 : decode cX5_readItem 91 = .ok (.invokevirtual 62, 3) := by decide +kernel
theorem dX5_readItem_94 : decode cX5_readItem 94 = .ok (.return_, 1) := by decide +kernel
theorem dX5_readLedge_0 : decode cX5_readLedge 0 = .ok (.aload_n 1, 1) := by decide +kernel
theorem dX5_readLedge_1 : decode cX5_readLedge 1 = .ok (.getfield 65, 3) := by decide +kernel
theorem dX5_readLedge_4 : decode cX5_readLedge 4 = .ok (.getfield 69, 3) := by decide +kernel
theorem dX5_readLedge_7 : decode cX5_readLedge 7 = .ok (.bipush 8, 2) := by decide +kernel
theorem dX5_readLedge_9 : decode cX5_readLedge 9 = .ok (.if_icmp .lt 12, 3) := by decide +kernel
theorem dX5_readLedge_12 : decode cX5_readLedge 12 = .ok (.aload_n 0, 1) := by decide +kernel
theorem dX5_readLedge_13 : decode cX5_readLedge 13 = .ok (.aload_n 0, 1) := by decide +kernel
theorem dX5_readLedge_14 : decode cX5_readLedge 14 = .ok (.getfield 46, 3) := by decide +kernel
theorem dX5_readLedge_17 : decode cX5_readLedge 17 = .ok (.putfield 15, 3) := by decide +kernel
theorem dX5_readLedge_20 : decode cX5_readLedge 20 = .ok (.return_, 1) := by decide +kernel
theorem dX5_readLedge_21 : decode cX5_readLedge 21 = .ok (.aload_n 0, 1) := by decide +kernel
theorem dX5_readLedge_22 : decode cX5_readLedge 22 = .ok (.iconst 1, 1) := by decide +kernel
theorem dX5_readLedge_23 : decode cX5_readLedge 23 = .ok (.bipush 60, 2) := by decide +kernel
theorem dX5_readLedge_25 : decode cX5_readLedge 25 = .ok (.invokevirtual 74, 3) := by decide +kernel
theorem dX5_readLedge_28 : decode cX5_readLedge 28 = .ok (.istore_n 3, 1) := by decide +kernel
theorem dX5_readLedge_29 : decode cX5_readLedge 29 = .ok (.aload_n 0, 1) := by decide +kernel
theorem dX5_readLedge_30 : decode cX5_readLedge 30 = .ok (.iconst 0, 1) := by decide +kernel
theorem dX5_readLedge_31 : decode cX5_readLedge 31 = .ok (.bipush 30, 2) := by decide +kernel
theorem dX5_readLedge_33 : decode cX5_readLedge 33 = .ok (.invokevirtual 74, 3) := by decide +kernel
theorem dX5_readLedge_36 : decode cX5_readLedge 36 = .ok (.istore 4, 2) := by decide +kernel
theorem dX5_readLedge_38 : decode cX5_readLedge 38 = .ok (.iload_n 2, 1) := by decide +kernel
theorem dX5_readLedge_39 : decode cX5_readLedge 39 = .ok (.ifCond .eq 20, 3) := by decide +kernel
theorem dX5_readLedge_42 : decode cX5_readLedge 42 = .ok (.aload_n 0, 1) := by decide +kernel
theorem dX5_readLedge_43 : decode cX5_readLedge 43 = .ok (.iconst 0, 1) := by decide +kernel
theorem dX5_readLedge_44 : decode cX5_readLedge 44 = .ok (.aload_n 1, 1) := by decide +kernel
theorem dX5_readLedge_45 : decode cX5_readLedge 45 = .ok (.getfield 65, 3) := by decide +kernel
theorem dX5_readLedge_48 : decode cX5_readLedge 48 = .ok (.getfield 69, 3) := by decide +kernel
theorem dX5_readLedge_51 : decode cX5_readLedge 51 = .ok (.iconst 1, 1) := by decide +kernel
theorem dX5_readLedge_52 : decode cX5_readLedge 52 = .ok (.isub, 1) := by decide +kernel
theorem dX5_readLedge_53 : decode cX5_readLedge 53 = .ok (.invokevirtual 74, 3) := by decide +kernel
theorem dX5_readLedge_56 : decode cX5_readLedge 56 = .ok (.goto 4, 3) := by decide +kernel
theorem dX5_readLedge_59 : decode cX5_readLedge 59 = .ok (.iconst (-1), 1) := by decide +kernel
theorem dX5_readLedge_60 : decode cX5_readLedge 60 = .ok (.istore 5, 2) := by decide +kernel
theorem dX5_readLedge_62 : decode cX5_readLedge 62 = .ok (.aload_n 0, 1) := by decide +kernel
theorem dX5_readLedge_63 : decode cX5_readLedge 63 = .ok (.getfield 15, 3) := by decide +kernel
theorem dX5_readLedge_66 : decode cX5_readLedge 66 = .ok (.iconst (-1), 1) := by decide +kernel
theorem dX5_readLedge_67 : decode cX5_readLedge 67 = .ok (.if_icmp .ne 13, 3) := by decide +kernel
theorem dX5_readLedge_70 : decode cX5_readLedge 70 = .ok (.aload_n 1, 1) := by decide +kernel
theorem dX5_readLedge_71 : decode cX5_readLedge 71 = .ok (.iload_n 3, 1) := by decide +kernel
theorem dX5_readLedge_72 : decode cX5_readLedge 72 = .ok (.iload 4, 2) := by decide +kernel
theorem dX5_readLedge_74 : decode cX5_readLedge 74 = .ok (.iload 5, 2) := by decide +kernel
theorem dX5_readLedge_76 : decode cX5_readLedge 76 = .ok (.invokevirtual 78, 3) := by decide +kernel
theorem dX5_readLedge_79 : decode cX5_readLedge 79 = .ok (.pop, 1) := by decide +kernel
theorem dX5_readLedge_80 : decode cX5_readLedge 80 = .ok (.return_, 1) := by decide +kernel
theorem dX5_readVoter_0 : decode cX5_readVoter 0 = .ok (.aload_n 1, 1) := by decide +kernel
theorem dX5_readVoter_1 : decode cX5_readVoter 1 = .ok (.getfield 65, 3) := by decide +kernel
theorem dX5_readVoter_4 : decode cX5_readVoter 4 = .ok (.getfield 82, 3) := by decide +kernel
theorem dX5_readVoter_7 : decode cX5_readVoter 7 = .ok (.bipush 6, 2) := by decide +kernel
theorem dX5_readVoter_9 : decode cX5_readVoter 9 = .ok (.if_icmp .lt 12, 3) := by decide +kernel
theorem dX5_readVoter_12 : decode cX5_readVoter 12 = .ok (.aload_n 0, 1) := by decide +kernel
theorem dX5_readVoter_13 : decode cX5_readVoter 13 = .ok (.aload_n 0, 1) := by decide +kernel
theorem dX5_readVoter_14 : decode cX5_readVoter 14 = .ok (.getfield 46, 3) := by decide +kernel
theorem dX5_readVoter_17 : decode cX5_readVoter 17 = .ok (.putfield 15, 3) := by decide +kernel
theorem dX5_readVoter_20 : decode cX5_readVoter 20 = .ok (.return_, 1) := by decide +kernel
theorem dX5_readVoter_21 : decode cX5_readVoter 21 = .ok (.aload_n 0, 1) := by decide +kernel
theorem dX5_readVoter_22 : decode cX5_readVoter 22 = .ok (.iconst 0, 1) := by decide +kernel
theorem dX5_readVoter_23 : decode cX5_readVoter 23 = .ok (.iconst 5, 1) := by decide +kernel
theorem dX5_readVoter_24 : decode cX5_readVoter 24 = .ok (.invokevirtual 74, 3) := by decide +kernel
theorem dX5_readVoter_27 : decode cX5_readVoter 27 = .ok (.istore_n 2, 1) := by decide +kernel
theorem dX5_readVoter_28 : decode cX5_readVoter 28 = .ok (.aload_n 0, 1) := by decide +kernel
theorem dX5_readVoter_29 : decode cX5_readVoter 29 = .ok (.iconst 0, 1) := by decide +kernel
theorem dX5_readVoter_30 : decode cX5_readVoter 30 = .ok (.aload_n 1, 1) := by decide +kernel
theorem dX5_readVoter_31 : decode cX5_readVoter 31 = .ok (.getfield 65, 3) := by decide +kernel
theorem dX5_readVoter_34 : decode cX5_readVoter 34 = .ok (.getfield 69, 3) := by decide +kernel
theorem dX5_readVoter_37 : decode cX5_readVoter 37 = .ok (.iconst 1, 1) := by decide +kernel
theorem dX5_readVoter_38 : decode cX5_readVoter 38 = .ok (.isub, 1) := by decide +kernel
theorem dX5_readVoter_39 : decode cX5_readVoter 39 = .ok (.invokevirtual 74, 3) := by decide +kernel
theorem dX5_readVoter_42 : decode cX5_readVoter 42 = .ok (.istore_n 3, 1) := by decide +kernel
theorem dX5_readVoter_43 : decode cX5_readVoter 43 = .ok (.aload_n 0, 1) := by decide +kernel
theorem dX5_readVoter_44 : decode cX5_readVoter 44 = .ok (.iconst 1, 1) := by decide +kernel
theorem dX5_readVoter_45 : decode cX5_readVoter 45 = .ok (.bipush 9, 2) := by decide +kernel
theorem dX5_readVoter_47 : decode cX5_readVoter 47 = .ok (.invokevirtual 74, 3) := by decide +kernel
theorem dX5_readVoter_50 : decode cX5_readVoter 50 = .ok (.istore 4, 2) := by decide +kernel
theorem dX5_readVoter_52 : decode cX5_readVoter 52 = .ok (.aload_n 0, 1) := by decide +kernel
theorem dX5_readVoter_53 : decode cX5_readVoter 53 = .ok (.getfield 15, 3) := by decide +kernel
theorem dX5_readVoter_56 : decode cX5_readVoter 56 = .ok (.iconst (-1), 1) := by decide +kernel
theorem dX5_readVoter_57 : decode cX5_readVoter 57 = .ok (.if_icmp .ne 12, 3) := by decide +kernel
theorem dX5_readVoter_60 : decode cX5_readVoter 60 = .ok (.aload_n 1, 1) := by decide +kernel
theorem dX5_readVoter_61 : decode cX5_readVoter 61 = .ok (.iload_n 2, 1) := by decide +kernel
theorem dX5_readVoter_62 : decode cX5_readVoter 62 = .ok (.iload_n 3, 1) := by decide +kernel
theorem dX5_readVoter_63 : decode cX5_readVoter 63 = .ok (.iload 4, 2) := by decide +kernel
theorem dX5_readVoter_65 : decode cX5_readVoter 65 = .ok (.invokevirtual 85, 3) := by decide +kernel
theorem dX5_readVoter_68 : decode cX5_readVoter 68 = .ok (.pop, 1) := by decide +kernel
theorem dX5_readVoter_69 : decode cX5_readVoter 69 = .ok (.return_, 1) := by decide +kernel
theorem dX5_takeWord_0 : decode cX5_takeWord 0 = .ok (.aload_n 0, 1) := by decide +kernel
theorem dX5_takeWord_1 : decode cX5_takeWord 1 = .ok (.invokevirtual 34, 3) := by decide +kernel
theorem dX5_takeWord_4 : decode cX5_takeWord 4 = .ok (.aload_n 0, 1) := by decide +kernel
theorem dX5_takeWord_5 : decode cX5_takeWord 5 = .ok (.aload_n 0, 1) := by decide +kernel
theorem dX5_takeWord_6 : decode cX5_takeWord 6 = .ok (.getfield 27, 3) := by decide +kernel
theorem dX5_takeWord_9 : decode cX5_takeWord 9 = .ok (.putfield 46, 3) := by decide +kernel
theorem dX5_takeWord_12 : decode cX5_takeWord 12 = .ok (.aload_n 0, 1) := by decide +kernel
theorem dX5_takeWord_13 : decode cX5_takeWord 13 = .ok (.getfield 27, 3) := by decide +kernel
theorem dX5_takeWord_16 : decode cX5_takeWord 16 = .ok (.aload_n 0, 1) := by decide +kernel
theorem dX5_takeWord_17 : decode cX5_takeWord 17 = .ok (.getfield 19, 3) := by decide +kernel
theorem dX5_takeWord_20 : decode cX5_takeWord 20 = .ok (.if_icmp .ge 27, 3) := by decide +kernel
theorem dX5_takeWord_23 : decode cX5_takeWord 23 = .ok (.aload_n 0, 1) := by decide +kernel
theorem dX5_takeWord_24 : decode cX5_takeWord 24 = .ok (.bipush 97, 2) := by decide +kernel
theorem dX5_takeWord_26 : decode cX5_takeWord 26 = .ok (.bipush 122, 2) := by decide +kernel
theorem dX5_takeWord_28 : decode cX5_takeWord 28 = .ok (.invokevirtual 88, 3) := by decide +kernel
theorem dX5_takeWord_31 : decode cX5_takeWord 31 = .ok (.ifCond .eq 16, 3) := by decide +kernel
theorem dX5_takeWord_34 : decode cX5_takeWord 34 = .ok (.aload_n 0, 1) := by decide +kernel
theorem dX5_takeWord_35 : decode cX5_takeWord 35 = .ok (.dup, 1) := by decide +kernel
theorem dX5_takeWord_36 : decode cX5_takeWord 36 = .ok (.getfield 27, 3) := by decide +kernel
theorem dX5_takeWord_39 : decode cX5_takeWord 39 = .ok (.iconst 1, 1) := by decide +kernel
theorem dX5_takeWord_40 : decode cX5_takeWord 40 = .ok (.iadd, 1) := by decide +kernel
theorem dX5_takeWord_41 : decode cX5_takeWord 41 = .ok (.putfield 27, 3) := by decide +kernel
theorem dX5_takeWord_44 : decode cX5_takeWord 44 = .ok (.goto (-32), 3) := by decide +kernel
theorem dX5_takeWord_47 : decode cX5_takeWord 47 = .ok (.return_, 1) := by decide +kernel
theorem dX5_wordIs_0 : decode cX5_wordIs 0 = .ok (.aload_n 0, 1) := by decide +kernel
theorem dX5_wordIs_1 : decode cX5_wordIs 1 = .ok (.getfield 27, 3) := by decide +kernel
theorem dX5_wordIs_4 : decode cX5_wordIs 4 = .ok (.aload_n 0, 1) := by decide +kernel
theorem dX5_wordIs_5 : decode cX5_wordIs 5 = .ok (.getfield 46, 3) := by decide +kernel
theorem dX5_wordIs_8 : decode cX5_wordIs 8 = .ok (.isub, 1) := by decide +kernel
theorem dX5_wordIs_9 : decode cX5_wordIs 9 = .ok (.aload_n 1, 1) := by decide +kernel
theorem dX5_wordIs_10 : decode cX5_wordIs 10 = .ok (.invokevirtual 92, 3) := by decide +kernel
theorem dX5_wordIs_13 : decode cX5_wordIs 13 = .ok (.if_icmp .eq 5, 3) := by decide +kernel
theorem dX5_wordIs_16 : decode cX5_wordIs 16 = .ok (.iconst 0, 1) := by decide +kernel
theorem dX5_wordIs_17 : decode cX5_wordIs 17 = .ok (.ireturn, 1) := by decide +kernel
theorem dX5_wordIs_18 : decode cX5_wordIs 18 = .ok (.iconst 0, 1) := by decide +kernel
theorem dX5_wordIs_19 : decode cX5_wordIs 19 = .ok (.istore_n 2, 1) := by decide +kernel
theorem dX5_wordIs_20 : decode cX5_wordIs 20 = .ok (.iload_n 2, 1) := by decide +kernel
theorem dX5_wordIs_21 : decode cX5_wordIs 21 = .ok (.aload_n 1, 1) := by decide +kernel
theorem dX5_wordIs_22 : decode cX5_wordIs 22 = .ok (.invokevirtual 92, 3) := by decide +kernel
theorem dX5_wordIs_25 : decode cX5_wordIs 25 = .ok (.if_icmp .ge 30, 3) := by decide +kernel
theorem dX5_wordIs_28 : decode cX5_wordIs 28 = .ok (.aload_n 0, 1) := by decide +kernel
theorem dX5_wordIs_29 : decode cX5_wordIs 29 = .ok (.getfield 9, 3) := by decide +kernel
theorem dX5_wordIs_32 : decode cX5_wordIs 32 = .ok (.aload_n 0, 1) := by decide +kernel
theorem dX5_wordIs_33 : decode cX5_wordIs 33 = .ok (.getfield 46, 3) := by decide +kernel
theorem dX5_wordIs_36 : decode cX5_wordIs 36 = .ok (.iload_n 2, 1) := by decide +kernel
theorem dX5_wordIs_37 : decode cX5_wordIs 37 = .ok (.iadd, 1) := by decide +kernel
theorem dX5_wordIs_38 : decode cX5_wordIs 38 = .ok (.baload, 1) := by decide +kernel
theorem dX5_wordIs_39 : decode cX5_wordIs 39 = .ok (.aload_n 1, 1) := by decide +kernel
theorem dX5_wordIs_40 : decode cX5_wordIs 40 = .ok (.iload_n 2, 1) := by decide +kernel
theorem dX5_wordIs_41 : decode cX5_wordIs 41 = .ok (.invokevirtual 97, 3) := by decide +kernel
theorem dX5_wordIs_44 : decode cX5_wordIs 44 = .ok (.if_icmp .eq 5, 3) := by decide +kernel
theorem dX5_wordIs_47 : decode cX5_wordIs 47 = .ok (.iconst 0, 1) := by decide +kernel
theorem dX5_wordIs_48 : decode cX5_wordIs 48 = .ok (.ireturn, 1) := by decide +kernel
theorem dX5_wordIs_49 : decode cX5_wordIs 49 = .ok (.iinc 2 1, 3) := by decide +kernel
theorem dX5_wordIs_52 : decode cX5_wordIs 52 = .ok (.goto (-32), 3) := by decide +kernel
theorem dX5_wordIs_55 : decode cX5_wordIs 55 = .ok (.iconst 1, 1) := by decide +kernel
theorem dX5_wordIs_56 : decode cX5_wordIs 56 = .ok (.ireturn, 1) := by decide +kernel
theorem dX5_takeNumber_0 : decode cX5_takeNumber 0 = .ok (.aload_n 0, 1) := by decide +kernel
theorem dX5_takeNumber_1 : decode cX5_takeNumber 1 = .ok (.getfield 15, 3) := by decide +kernel
theorem dX5_takeNumber_4 : decode cX5_takeNumber 4 = .ok (.iconst (-1), 1) := by decide +kernel
theorem dX5_takeNumber_5 : decode cX5_takeNumber 5 = .ok (.if_icmp .eq 5, 3) := by decide +kernel
theorem dX5_takeNumber_8 : decode cX5_takeNumber 8 = .ok (.iconst 0, 1) := by decide +kernel
theorem dX5_takeNumber_9 : decode cX5_takeNumber 9 = .ok (.ireturn, 1) := by decide +kernel
theorem dX5_takeNumber_10 : decode cX5_takeNumber 10 = .ok (.aload_n 0, 1) := by decide +kernel
theorem dX5_takeNumber_11 : decode cX5_takeNumber 11 = .ok (.invokevirtual 34, 3) := by decide +kernel
theorem dX5_takeNumber_14 : decode cX5_takeNumber 14 = .ok (.aload_n 0, 1) := by decide +kernel
theorem dX5_takeNumber_15 : decode cX5_takeNumber 15 = .ok (.aload_n 0, 1) := by decide +kernel
theorem dX5_takeNumber_16 : decode cX5_takeNumber 16 = .ok (.getfield 27, 3) := by decide +kernel
theorem dX5_takeNumber_19 : decode cX5_takeNumber 19 = .ok (.putfield 46, 3) := by decide +kernel
theorem dX5_takeNumber_22 : decode cX5_takeNumber 22 = .ok (.iconst 0, 1) := by decide +kernel
theorem dX5_takeNumber_23 : decode cX5_takeNumber 23 = .ok (.istore_n 3, 1) := by decide +kernel
theorem dX5_takeNumber_24 : decode cX5_takeNumber 24 = .ok (.aload_n 0, 1) := by decide +kernel
theorem dX5_takeNumber_25 : decode cX5_takeNumber 25 = .ok (.getfield 27, 3) := by decide +kernel
theorem dX5_takeNumber_28 : decode cX5_takeNumber 28 = .ok (.aload_n 0, 1) := by decide +kernel
theorem dX5_takeNumber_29 : decode cX5_takeNumber 29 = .ok (.getfield 19, 3) := by decide +kernel
theorem dX5_takeNumber_32 : decode cX5_takeNumber 32 = .ok (.if_icmp .ge 62, 3) := by decide +kernel
theorem dX5_takeNumber_35 : decode cX5_takeNumber 35 = .ok (.aload_n 0, 1) := by decide +kernel
theorem dX5_takeNumber_36 : decode cX5_takeNumber 36 = .ok (.bipush 48, 2) := by decide +kernel
theorem dX5_takeNumber_38 : decode cX5_takeNumber 38 = .ok (.bipush 57, 2) := by decide +kernel
theorem dX5_takeNumber_40 : decode cX5_takeNumber 40 = .ok (.invokevirtual 88, 3) := by decide +kernel
theorem dX5_takeNumber_43 : decode cX5_takeNumber 43 = .ok (.ifCond .eq 51, 3) := by decide +kernel
theorem dX5_takeNumber_46 : decode cX5_takeNumber 46 = .ok (.aload_n 0, 1) := by decide +kernel
theorem dX5_takeNumber_47 : decode cX5_takeNumber 47 = .ok (.getfield 27, 3) := by decide +kernel
theorem dX5_takeNumber_50 : decode cX5_takeNumber 50 = .ok (.aload_n 0, 1) := by decide +kernel
theorem dX5_takeNumber_51 : decode cX5_takeNumber 51 = .ok (.getfield 46, 3) := by decide +kernel
theorem dX5_takeNumber_54 : decode cX5_takeNumber 54 = .ok (.isub, 1) := by decide +kernel
theorem dX5_takeNumber_55 : decode cX5_takeNumber 55 = .ok (.iconst 2, 1) := by decide +kernel
theorem dX5_takeNumber_56 : decode cX5_takeNumber 56 = .ok (.if_icmp .ge 23, 3) := by decide +kernel
theorem dX5_takeNumber_59 : decode cX5_takeNumber 59 = .ok (.bipush 10, 2) := by decide +kernel
theorem dX5_takeNumber_61 : decode cX5_takeNumber 61 = .ok (.iload_n 3, 1) := by decide +kernel
theorem dX5_takeNumber_62 : decode cX5_takeNumber 62 = .ok (.imul, 1) := by decide +kernel
theorem dX5_takeNumber_63 : decode cX5_takeNumber 63 = .ok (.aload_n 0, 1) := by decide +kernel
theorem dX5_takeNumber_64 : decode cX5_takeNumber 64 = .ok (.getfield 9, 3) := by decide +kernel
theorem dX5_takeNumber_67 : decode cX5_takeNumber 67 = .ok (.aload_n 0, 1) := by decide +kernel
theorem dX5_takeNumber_68 : decode cX5_takeNumber 68 = .ok (.getfield 27, 3) := by decide +kernel
theorem dX5_takeNumber_71 : decode cX5_takeNumber 71 = .ok (.baload, 1) := by decide +kernel
theorem dX5_takeNumber_72 : decode cX5_takeNumber 72 = .ok (.iadd, 1) := by decide +kernel
theorem dX5_takeNumber_73 : decode cX5_takeNumber 73 = .ok (.bipush 48, 2) := by decide +kernel
theorem dX5_takeNumber_75 : decode cX5_takeNumber 75 = .ok (.isub, 1) := by decide +kernel
theorem dX5_takeNumber_76 : decode cX5_takeNumber 76 = .ok (.goto 4, 3) := by decide +kernel
theorem dX5_takeNumber_79 : decode cX5_takeNumber 79 = .ok (.iload_n 3, 1) := by decide +kernel
theorem dX5_takeNumber_80 : decode cX5_takeNumber 80 = .ok (.istore_n 3, 1) := by decide +kernel
theorem dX5_takeNumber_81 : decode cX5_takeNumber 81 = .ok (.aload_n 0, 1) := by decide +kernel
theorem dX5_takeNumber_82 : decode cX5_takeNumber 82 = .ok (.dup, 1) := by decide +kernel
theorem dX5_takeNumber_83 : decode cX5_takeNumber 83 = .ok (.getfield 27, 3) := by decide +kernel
theorem dX5_takeNumber_86 : decode cX5_takeNumber 86 = .ok (.iconst 1, 1) := by decide +kernel
theorem dX5_takeNumber_87 : decode cX5_takeNumber 87 = .ok (.iadd, 1) := by decide +kernel
theorem dX5_takeNumber_88 : decode cX5_takeNumber 88 = .ok (.putfield 27, 3) := by decide +kernel
theorem dX5_takeNumber_91 : decode cX5_takeNumber 91 = .ok (.goto (-67), 3) := by decide +kernel
theorem dX5_takeNumber_94 : decode cX5_takeNumber 94 = .ok (.aload_n 0, 1) := by decide +kernel
theorem dX5_takeNumber_95 : decode cX5_takeNumber 95 = .ok (.getfield 27, 3) := by decide +kernel
theorem dX5_takeNumber_98 : decode cX5_takeNumber 98 = .ok (.aload_n 0, 1) := by decide +kernel
theorem dX5_takeNumber_99 : decode cX5_takeNumber 99 = .ok (.getfield 46, 3) := by decide +kernel
theorem dX5_takeNumber_102 : decode cX5_takeNumber 102 = .ok (.isub, 1) := by decide +kernel
theorem dX5_takeNumber_103 : decode cX5_takeNumber 103 = .ok (.istore 4, 2) := by decide +kernel
theorem dX5_takeNumber_105 : decode cX5_takeNumber 105 = .ok (.iload 4, 2) := by decide +kernel
theorem dX5_takeNumber_107 : decode cX5_takeNumber 107 = .ok (.iconst 1, 1) := by decide +kernel
theorem dX5_takeNumber_108 : decode cX5_takeNumber 108 = .ok (.if_icmp .lt 18, 3) := by decide +kernel
theorem dX5_takeNumber_111 : decode cX5_takeNumber 111 = .ok (.iload 4, 2) := by decide +kernel
theorem dX5_takeNumber_113 : decode cX5_takeNumber 113 = .ok (.iconst 2, 1) := by decide +kernel
theorem dX5_takeNumber_114 : decode cX5_takeNumber 114 = .ok (.if_icmp .gt 12, 3) := by decide +kernel
theorem dX5_takeNumber_117 : decode cX5_takeNumber 117 = .ok (.iload_n 3, 1) := by decide +kernel
theorem dX5_takeNumber_118 : decode cX5_takeNumber 118 = .ok (.iload_n 1, 1) := by decide +kernel
theorem dX5_takeNumber_119 : decode cX5_takeNumber 119 = .ok (.iload_n 2, 1) := by decide +kernel
theorem dX5_takeNumber_120 : decode cX5_takeNumber 120 = .ok (.invokestatic 101, 3) := by decide +kernel
theorem dX5_takeNumber_123 : decode cX5_takeNumber 123 = .ok (.ifCond .ne 11, 3) := by decide +kernel
theorem dX5_takeNumber_126 : decode cX5_takeNumber 126 = .ok (.aload_n 0, 1) := by decide +kernel
theorem dX5_takeNumber_127 : decode cX5_takeNumber 127 = .ok (.aload_n 0, 1) := by decide +kernel
theorem dX5_takeNumber_128 : decode cX5_takeNumber 128 = .ok (.getfield 46, 3) := by decide +kernel
theorem dX5_takeNumber_131 : decode cX5_takeNumber 131 = .ok (.putfield 15, 3) := by decide +kernel
theorem dX5_takeNumber_134 : decode cX5_takeNumber 134 = .ok (.iload_n 3, 1) := by decide +kernel
theorem dX5_takeNumber_135 : decode cX5_takeNumber 135 = .ok (.ireturn, 1) := by decide +kernel
theorem dX5_takeEnd_0 : decode cX5_takeEnd 0 = .ok (.aload_n 0, 1) := by decide +kernel
theorem dX5_takeEnd_1 : decode cX5_takeEnd 1 = .ok (.getfield 15, 3) := by decide +kernel
theorem dX5_takeEnd_4 : decode cX5_takeEnd 4 = .ok (.iconst (-1), 1) := by decide +kernel
theorem dX5_takeEnd_5 : decode cX5_takeEnd 5 = .ok (.if_icmp .eq 4, 3) := by decide +kernel
theorem dX5_takeEnd_8 : decode cX5_takeEnd 8 = .ok (.return_, 1) := by decide +kernel
theorem dX5_takeEnd_9 : decode cX5_takeEnd 9 = .ok (.aload_n 0, 1) := by decide +kernel
theorem dX5_takeEnd_10 : decode cX5_takeEnd 10 = .ok (.invokevirtual 34, 3) := by decide +kernel
theorem dX5_takeEnd_13 : decode cX5_takeEnd 13 = .ok (.aload_n 0, 1) := by decide +kernel
theorem dX5_takeEnd_14 : decode cX5_takeEnd 14 = .ok (.getfield 27, 3) := by decide +kernel
theorem dX5_takeEnd_17 : decode cX5_takeEnd 17 = .ok (.aload_n 0, 1) := by decide +kernel
theorem dX5_takeEnd_18 : decode cX5_takeEnd 18 = .ok (.getfield 19, 3) := by decide +kernel
theorem dX5_takeEnd_21 : decode cX5_takeEnd 21 = .ok (.if_icmp .ge 27, 3) := by decide +kernel
theorem dX5_takeEnd_24 : decode cX5_takeEnd 24 = .ok (.aload_n 0, 1) := by decide +kernel
theorem dX5_takeEnd_25 : decode cX5_takeEnd 25 = .ok (.bipush 59, 2) := by decide +kernel
theorem dX5_takeEnd_27 : decode cX5_takeEnd 27 = .ok (.bipush 59, 2) := by decide +kernel
theorem dX5_takeEnd_29 : decode cX5_takeEnd 29 = .ok (.invokevirtual 88, 3) := by decide +kernel
theorem dX5_takeEnd_32 : decode cX5_takeEnd 32 = .ok (.ifCond .eq 16, 3) := by decide +kernel
theorem dX5_takeEnd_35 : decode cX5_takeEnd 35 = .ok (.aload_n 0, 1) := by decide +kernel
theorem dX5_takeEnd_36 : decode cX5_takeEnd 36 = .ok (.dup, 1) := by decide +kernel
theorem dX5_takeEnd_37 : decode cX5_takeEnd 37 = .ok (.getfield 27, 3) := by decide +kernel
theorem dX5_takeEnd_40 : decode cX5_takeEnd 40 = .ok (.iconst 1, 1) := by decide +kernel
theorem dX5_takeEnd_41 : decode cX5_takeEnd 41 = .ok (.iadd, 1) := by decide +kernel
theorem dX5_takeEnd_42 : decode cX5_takeEnd 42 = .ok (.putfield 27, 3) := by decide +kernel
theorem dX5_takeEnd_45 : decode cX5_takeEnd 45 = .ok (.goto 11, 3) := by decide +kernel
theorem dX5_takeEnd_48 : decode cX5_takeEnd 48 = .ok (.aload_n 0, 1) := by decide +kernel
theorem dX5_takeEnd_49 : decode cX5_takeEnd 49 = .ok (.aload_n 0, 1) := by decide +kernel
theorem dX5_takeEnd_50 : decode cX5_takeEnd 50 = .ok (.getfield 27, 3) := by decide +kernel
theorem dX5_takeEnd_53 : decode cX5_takeEnd 53 = .ok (.putfield 15, 3) := by decide +kernel
theorem dX5_takeEnd_56 : decode cX5_takeEnd 56 = .ok (.return_, 1) := by decide +kernel
theorem dX5_skipBlanks_0 : decode cX5_skipBlanks 0 = .ok (.aload_n 0, 1) := by decide +kernel
theorem dX5_skipBlanks_1 : decode cX5_skipBlanks 1 = .ok (.getfield 27, 3) := by decide +kernel
theorem dX5_skipBlanks_4 : decode cX5_skipBlanks 4 = .ok (.aload_n 0, 1) := by decide +kernel
theorem dX5_skipBlanks_5 : decode cX5_skipBlanks 5 = .ok (.getfield 19, 3) := by decide +kernel
theorem dX5_skipBlanks_8 : decode cX5_skipBlanks 8 = .ok (.if_icmp .ge 27, 3) := by decide +kernel
theorem dX5_skipBlanks_11 : decode cX5_skipBlanks 11 = .ok (.aload_n 0, 1) := by decide +kernel
theorem dX5_skipBlanks_12 : decode cX5_skipBlanks 12 = .ok (.bipush 32, 2) := by decide +kernel
theorem dX5_skipBlanks_14 : decode cX5_skipBlanks 14 = .ok (.bipush 32, 2) := by decide +kernel
theorem dX5_skipBlanks_16 : decode cX5_skipBlanks 16 = .ok (.invokevirtual 88, 3) := by decide +kernel
theorem dX5_skipBlanks_19 : decode cX5_skipBlanks 19 = .ok (.ifCond .eq 16, 3) := by decide +kernel
theorem dX5_skipBlanks_22 : decode cX5_skipBlanks 22 = .ok (.aload_n 0, 1) := by decide +kernel
theorem dX5_skipBlanks_23 : decode cX5_skipBlanks 23 = .ok (.dup, 1) := by decide +kernel
theorem dX5_skipBlanks_24 : decode cX5_skipBlanks 24 = .ok (.getfield 27, 3) := by decide +kernel
theorem dX5_skipBlanks_27 : decode cX5_skipBlanks 27 = .ok (.iconst 1, 1) := by decide +kernel
theorem dX5_skipBlanks_28 : decode cX5_skipBlanks 28 = .ok (.iadd, 1) := by decide +kernel
theorem dX5_skipBlanks_29 : decode cX5_skipBlanks 29 = .ok (.putfield 27, 3) := by decide +kernel
theorem dX5_skipBlanks_32 : decode cX5_skipBlanks 32 = .ok (.goto (-32), 3) := by decide +kernel
theorem dX5_skipBlanks_35 : decode cX5_skipBlanks 35 = .ok (.return_, 1) := by decide +kernel
theorem dX5_isBetween_0 : decode cX5_isBetween 0 = .ok (.aload_n 0, 1) := by decide +kernel
theorem dX5_isBetween_1 : decode cX5_isBetween 1 = .ok (.getfield 27, 3) := by decide +kernel
theorem dX5_isBetween_4 : decode cX5_isBetween 4 = .ok (.ifCond .lt 43, 3) := by decide +kernel
theorem dX5_isBetween_7 : decode cX5_isBetween 7 = .ok (.aload_n 0, 1) := by decide +kernel
theorem dX5_isBetween_8 : decode cX5_isBetween 8 = .ok (.getfield 27, 3) := by decide +kernel
theorem dX5_isBetween_11 : decode cX5_isBetween 11 = .ok (.sipush 150, 3) := by decide +kernel
theorem dX5_isBetween_14 : decode cX5_isBetween 14 = .ok (.if_icmp .ge 33, 3) := by decide +kernel
theorem dX5_isBetween_17 : decode cX5_isBetween 17 = .ok (.aload_n 0, 1) := by decide +kernel
theorem dX5_isBetween_18 : decode cX5_isBetween 18 = .ok (.getfield 9, 3) := by decide +kernel
theorem dX5_isBetween_21 : decode cX5_isBetween 21 = .ok (.aload_n 0, 1) := by decide +kernel
theorem dX5_isBetween_22 : decode cX5_isBetween 22 = .ok (.getfield 27, 3) := by decide +kernel
theorem dX5_isBetween_25 : decode cX5_isBetween 25 = .ok (.baload, 1) := by decide +kernel
theorem dX5_isBetween_26 : decode cX5_isBetween 26 = .ok (.iload_n 1, 1) := by decide +kernel
theorem dX5_isBetween_27 : decode cX5_isBetween 27 = .ok (.if_icmp .lt 20, 3) := by decide +kernel
theorem dX5_isBetween_30 : decode cX5_isBetween 30 = .ok (.aload_n 0, 1) := by decide +kernel
theorem dX5_isBetween_31 : decode cX5_isBetween 31 = .ok (.getfield 9, 3) := by decide +kernel
theorem dX5_isBetween_34 : decode cX5_isBetween 34 = .ok (.aload_n 0, 1) := by decide +kernel
theorem dX5_isBetween_35 : decode cX5_isBetween 35 = .ok (.getfield 27, 3) := by decide +kernel
theorem dX5_isBetween_38 : decode cX5_isBetween 38 = .ok (.baload, 1) := by decide +kernel
theorem dX5_isBetween_39 : decode cX5_isBetween 39 = .ok (.iload_n 2, 1) := by decide +kernel
theorem dX5_isBetween_40 : decode cX5_isBetween 40 = .ok (.if_icmp .gt 7, 3) := by decide +kernel
theorem dX5_isBetween_43 : decode cX5_isBetween 43 = .ok (.iconst 1, 1) := by decide +kernel
theorem dX5_isBetween_44 : decode cX5_isBetween 44 = .ok (.goto 4, 3) := by decide +kernel
theorem dX5_isBetween_47 : decode cX5_isBetween 47 = .ok (.iconst 0, 1) := by decide +kernel
theorem dX5_isBetween_48 : decode cX5_isBetween 48 = .ok (.ireturn, 1) := by decide +kernel
theorem dX6_init_0 : decode cX6_init 0 = .ok (.aload_n 0, 1) := by decide +kernel
theorem dX6_init_1 : decode cX6_init 1 = .ok (.invokespecial 1, 3) := by decide +kernel
theorem dX6_init_4 : decode cX6_init 4 = .ok (.return_, 1) := by decide +kernel
theorem dX6_heft_0 : decode cX6_heft 0 = .ok (.iload_n 1, 1) := by decide +kernel
theorem dX6_heft_1 : decode cX6_heft 1 = .ok (.iconst 1, 1) := by decide +kernel
theorem dX6_heft_2 : decode cX6_heft 2 = .ok (.iadd, 1) := by decide +kernel
theorem dX6_heft_3 : decode cX6_heft 3 = .ok (.iconst 2, 1) := by decide +kernel
theorem dX6_heft_4 : decode cX6_heft 4 = .ok (.idiv, 1) := by decide +kernel
theorem dX6_heft_5 : decode cX6_heft 5 = .ok (.ireturn, 1) := by decide +kernel
theorem dX7_init_0 : decode cX7_init 0 = .ok (.aload_n 0, 1) := by decide +kernel
theorem dX7_init_1 : decode cX7_init 1 = .ok (.invokespecial 3, 3) := by decide +kernel
theorem dX7_init_4 : decode cX7_init 4 = .ok (.aload_n 0, 1) := by decide +kernel
theorem dX7_init_5 : decode cX7_init 5 = .ok (.bipush 8, 2) := by decide +kernel
theorem dX7_init_7 : decode cX7_init 7 = .ok (.newarray .int, 2) := by decide +kernel
theorem dX7_init_9 : decode cX7_init 9 = .ok (.putfield 9, 3) := by decide +kernel
theorem dX7_init_12 : decode cX7_init 12 = .ok (.aload_n 0, 1) := by decide +kernel
theorem dX7_init_13 : decode cX7_init 13 = .ok (.bipush 8, 2) := by decide +kernel
theorem dX7_init_15 : decode cX7_init 15 = .ok (.newarray .int, 2) := by decide +kernel
theorem dX7_init_17 : decode cX7_init 17 = .ok (.putfield 15, 3) := by decide +kernel
theorem dX7_init_20 : decode cX7_init 20 = .ok (.aload_n 0, 1) := by decide +kernel
theorem dX7_init_21 : decode cX7_init 21 = .ok (.iconst (-1), 1) := by decide +kernel
theorem dX7_init_22 : decode cX7_init 22 = .ok (.putfield 18, 3) := by decide +kernel
theorem dX7_init_25 : decode cX7_init 25 = .ok (.aload_n 0, 1) := by decide +kernel
theorem dX7_init_26 : decode cX7_init 26 = .ok (.bipush 8, 2) := by decide +kernel
theorem dX7_init_28 : decode cX7_init 28 = .ok (.newarray .int, 2) := by decide +kernel
theorem dX7_init_30 : decode cX7_init 30 = .ok (.putfield 22, 3) := by decide +kernel
theorem dX7_init_33 : decode cX7_init 33 = .ok (.aload_n 0, 1) := by decide +kernel
theorem dX7_init_34 : decode cX7_init 34 = .ok (.aload_n 1, 1) := by decide +kernel
theorem dX7_init_35 : decode cX7_init 35 = .ok (.putfield 25, 3) := by decide +kernel
theorem dX7_init_38 : decode cX7_init 38 = .ok (.return_, 1) := by decide +kernel
theorem dX7_copyFrom_0 : decode cX7_copyFrom 0 = .ok (.aload_n 1, 1) := by decide +kernel
theorem dX7_copyFrom_1 : decode cX7_copyFrom 1 = .ok (.getfield 9, 3) := by decide +kernel
theorem dX7_copyFrom_4 : decode cX7_copyFrom 4 = .ok (.iconst 0, 1) := by decide +kernel
theorem dX7_copyFrom_5 : decode cX7_copyFrom 5 = .ok (.aload_n 0, 1) := by decide +kernel
theorem dX7_copyFrom_6 : decode cX7_copyFrom 6 = .ok (.getfield 9, 3) := by decide +kernel
theorem dX7_copyFrom_9 : decode cX7_copyFrom 9 = .ok (.iconst 0, 1) := by decide +kernel
theorem dX7_copyFrom_10 : decode cX7_copyFrom 10 = .ok (.bipush 8, 2) := by decide +kernel
theorem dX7_copyFrom_12 : decode cX7_copyFrom 12 = .ok (.invokestatic 29, 3) := by decide +kernel
theorem dX7_copyFrom_15 : decode cX7_copyFrom 15 = .ok (.aload_n 1, 1) := by decide +kernel
theorem dX7_copyFrom_16 : decode cX7_copyFrom 16 = .ok (.getfield 15, 3) := by decide +kernel
theorem dX7_copyFrom_19 : decode cX7_copyFrom 19 = .ok (.iconst 0, 1) := by decide +kernel
theorem dX7_copyFrom_20 : decode cX7_copyFrom 20 = .ok (.aload_n 0, 1) := by decide +kernel
theorem dX7_copyFrom_21 : decode cX7_copyFrom 21 = .ok (.getfield 15, 3) := by decide +kernel
theorem dX7_copyFrom_24 : decode cX7_copyFrom 24 = .ok (.iconst 0, 1) := by decide +kernel
theorem dX7_copyFrom_25 : decode cX7_copyFrom 25 = .ok (.bipush 8, 2) := by decide +kernel
theorem dX7_copyFrom_27 : decode cX7_copyFrom 27 = .ok (.invokestatic 29, 3) := by decide +kernel
theorem dX7_copyFrom_30 : decode cX7_copyFrom 30 = .ok (.aload_n 0, 1) := by decide +kernel
theorem dX7_copyFrom_31 : decode cX7_copyFrom 31 = .ok (.aload_n 1, 1) := by decide +kernel
theorem dX7_copyFrom_32 : decode cX7_copyFrom 32 = .ok (.getfield 35, 3) := by decide +kernel
theorem dX7_copyFrom_35 : decode cX7_copyFrom 35 = .ok (.putfield 35, 3) := by decide +kernel
theorem dX7_copyFrom_38 : decode cX7_copyFrom 38 = .ok (.aload_n 0, 1) := by decide +kernel
theorem dX7_copyFrom_39 : decode cX7_copyFrom 39 = .ok (.aload_n 1, 1) := by decide +kernel
theorem dX7_copyFrom_40 : decode cX7_copyFrom 40 = .ok (.getfield 18, 3) := by decide +kernel
theorem dX7_copyFrom_43 : decode cX7_copyFrom 43 = .ok (.putfield 18, 3) := by decide +kernel
theorem dX7_copyFrom_46 : decode cX7_copyFrom 46 = .ok (.aload_n 0, 1) := by decide +kernel
theorem dX7_copyFrom_47 : decode cX7_copyFrom 47 = .ok (.aload_n 1, 1) := by decide +kernel
theorem dX7_copyFrom_48 : decode cX7_copyFrom 48 = .ok (.getfield 38, 3) := by decide +kernel
theorem dX7_copyFrom_51 : decode cX7_copyFrom 51 = .ok (.putfield 38, 3) := by decide +kernel
theorem dX7_copyFrom_54 : decode cX7_copyFrom 54 = .ok (.return_, 1) := by decide +kernel
theorem dX7_saveTo_0 : decode cX7_saveTo 0 = .ok (.iload_n 2, 1) := by decide +kernel
theorem dX7_saveTo_1 : decode cX7_saveTo 1 = .ok (.ifCond .lt 12, 3) := by decide +kernel
theorem dX7_saveTo_4 : decode cX7_saveTo 4 = .ok (.iload_n 2, 1) := by decide +kernel
theorem dX7_saveTo_5 : decode cX7_saveTo 5 = .ok (.bipush 19, 2) := by decide +kernel
theorem dX7_saveTo_7 : decode cX7_saveTo 7 = .ok (.iadd, 1) := by decide +kernel
theorem dX7_saveTo_8 : decode cX7_saveTo 8 = .ok (.aload_n 1, 1) := by decide +kernel
theorem dX7_saveTo_9 : decode cX7_saveTo 9 = .ok (.arraylength, 1) := by decide +kernel
theorem dX7_saveTo_10 : decode cX7_saveTo 10 = .ok (.if_icmp .le 4, 3) := by decide +kernel
theorem dX7_saveTo_13 : decode cX7_saveTo 13 = .ok (.return_, 1) := by decide +kernel
theorem dX7_saveTo_14 : decode cX7_saveTo 14 = .ok (.aload_n 0, 1) := by decide +kernel
theorem dX7_saveTo_15 : decode cX7_saveTo 15 = .ok (.getfield 9, 3) := by decide +kernel
theorem dX7_saveTo_18 : decode cX7_saveTo 18 = .ok (.iconst 0, 1) := by decide +kernel
theorem dX7_saveTo_19 : decode cX7_saveTo 19 = .ok (.aload_n 1, 1) := by decide +kernel
theorem dX7_saveTo_20 : decode cX7_saveTo 20 = .ok (.iload_n 2, 1) := by decide +kernel
theorem dX7_saveTo_21 : decode cX7_saveTo 21 = .ok (.bipush 8, 2) := by decide +kernel
theorem dX7_saveTo_23 : decode cX7_saveTo 23 = .ok (.invokestatic 29, 3) := by decide +kernel
theorem dX7_saveTo_26 : decode cX7_saveTo 26 = .ok (.aload_n 0, 1) := by decide +kernel
theorem dX7_saveTo_27 : decode cX7_saveTo 27 = .ok (.getfield 15, 3) := by decide +kernel
theorem dX7_saveTo_30 : decode cX7_saveTo 30 = .ok (.iconst 0, 1) := by decide +kernel
theorem dX7_saveTo_31 : decode cX7_saveTo 31 = .ok (.aload_n 1, 1) := by decide +kernel
theorem dX7_saveTo_32 : decode cX7_saveTo 32 = .ok (.iload_n 2, 1) := by decide +kernel
theorem dX7_saveTo_33 : decode cX7_saveTo 33 = .ok (.bipush 8, 2) := by decide +kernel
theorem dX7_saveTo_35 : decode cX7_saveTo 35 = .ok (.iadd, 1) := by decide +kernel
theorem dX7_saveTo_36 : decode cX7_saveTo 36 = .ok (.bipush 8, 2) := by decide +kernel
theorem dX7_saveTo_38 : decode cX7_saveTo 38 = .ok (.invokestatic 29, 3) := by decide +kernel
theorem dX7_saveTo_41 : decode cX7_saveTo 41 = .ok (.aload_n 1, 1) := by decide +kernel
theorem dX7_saveTo_42 : decode cX7_saveTo 42 = .ok (.iload_n 2, 1) := by decide +kernel
theorem dX7_saveTo_43 : decode cX7_saveTo 43 = .ok (.bipush 16, 2) := by decide +kernel
theorem dX7_saveTo_45 : decode cX7_saveTo 45 = .ok (.iadd, 1) := by decide +kernel
theorem dX7_saveTo_46 : decode cX7_saveTo 46 = .ok (.aload_n 0, 1) := by decide +kernel
theorem dX7_saveTo_47 : decode cX7_saveTo 47 = .ok (.getfield 35, 3) := by decide +kernel
theorem dX7_saveTo_50 : decode cX7_saveTo 50 = .ok (.iastore, 1) := by decide +kernel
theorem dX7_saveTo_51 : decode cX7_saveTo 51 = .ok (.aload_n 1, 1) := by decide +kernel
theorem dX7_saveTo_52 : decode cX7_saveTo 52 = .ok (.iload_n 2, 1) := by decide +kernel
theorem dX7_saveTo_53 : decode cX7_saveTo 53 = .ok (.bipush 16, 2) := by decide +kernel
theorem dX7_saveTo_55 : decode cX7_saveTo 55 = .ok (.iadd, 1) := by decide +kernel
theorem dX7_saveTo_56 : decode cX7_saveTo 56 = .ok (.iconst 1, 1) := by decide +kernel
theorem dX7_saveTo_57 : decode cX7_saveTo 57 = .ok (.iadd, 1) := by decide +kernel
theorem dX7_saveTo_58 : decode cX7_saveTo 58 = .ok (.aload_n 0, 1) := by decide +kernel
theorem dX7_saveTo_59 : decode cX7_saveTo 59 = .ok (.getfield 18, 3) := by decide +kernel
theorem dX7_saveTo_62 : decode cX7_saveTo 62 = .ok (.iastore, 1) := by decide +kernel
theorem dX7_saveTo_63 : decode cX7_saveTo 63 = .ok (.aload_n 1, 1) := by decide +kernel
theorem dX7_saveTo_64 : decode cX7_saveTo 64 = .ok (.iload_n 2, 1) := by decide +kernel
theorem dX7_saveTo_65 : decode cX7_saveTo 65 = .ok (.bipush 16, 2) := by decide +kernel
theorem dX7_saveTo_67 : decode cX7_saveTo 67 = .ok (.iadd, 1) := by decide +kernel
theorem dX7_saveTo_68 : decode cX7_saveTo 68 = .ok (.iconst 2, 1) := by decide +kernel
theorem dX7_saveTo_69 : decode cX7_saveTo 69 = .ok (.iadd, 1) := by decide +kernel
theorem dX7_saveTo_70 : decode cX7_saveTo 70 = .ok (.aload_n 0, 1) := by decide +kernel
theorem dX7_saveTo_71 : decode cX7_saveTo 71 = .ok (.getfield 38, 3) := by decide +kernel
theorem dX7_saveTo_74 : decode cX7_saveTo 74 = .ok (.iastore, 1) := by decide +kernel
theorem dX7_saveTo_75 : decode cX7_saveTo 75 = .ok (.return_, 1) := by decide +kernel
theorem dX7_loadFrom_0 : decode cX7_loadFrom 0 = .ok (.iload_n 2, 1) := by decide +kernel
theorem dX7_loadFrom_1 : decode cX7_loadFrom 1 = .ok (.ifCond .lt 12, 3) := by decide +kernel
theorem dX7_loadFrom_4 : decode cX7_loadFrom 4 = .ok (.iload_n 2, 1) := by decide +kernel
theorem dX7_loadFrom_5 : decode cX7_loadFrom 5 = .ok (.bipush 19, 2) := by decide +kernel
theorem dX7_loadFrom_7 : decode cX7_loadFrom 7 = .ok (.iadd, 1) := by decide +kernel
theorem dX7_loadFrom_8 : decode cX7_loadFrom 8 = .ok (.aload_n 1, 1) := by decide +kernel
theorem dX7_loadFrom_9 : decode cX7_loadFrom 9 = .ok (.arraylength, 1) := by decide +kernel
theorem dX7_loadFrom_10 : decode cX7_loadFrom 10 = .ok (.if_icmp .le 4, 3) := by decide +kernel
theorem dX7_loadFrom_13 : decode cX7_loadFrom 13 = .ok (.return_, 1) := by decide +kernel
theorem dX7_loadFrom_14 : decode cX7_loadFrom 14 = .ok (.aload_n 1, 1) := by decide +kernel
theorem dX7_loadFrom_15 : decode cX7_loadFrom 15 = .ok (.iload_n 2, 1) := by decide +kernel
theorem dX7_loadFrom_16 : decode cX7_loadFrom 16 = .ok (.aload_n 0, 1) := by decide +kernel
theorem dX7_loadFrom_17 : decode cX7_loadFrom 17 = .ok (.getfield 9, 3) := by decide +kernel
theorem dX7_loadFrom_20 : decode cX7_loadFrom 20 = .ok (.iconst 0, 1) := by decide +kernel
theorem dX7_loadFrom_21 : decode cX7_loadFrom 21 = .ok (.bipush 8, 2) := by decide +kernel
theorem dX7_loadFrom_23 : decode cX7_loadFrom 23 = .ok (.invokestatic 29, 3) := by decide +kernel
theorem dX7_loadFrom_26 : decode cX7_loadFrom 26 = .ok (.aload_n 1, 1) := by decide +kernel
theorem dX7_loadFrom_27 : decode cX7_loadFrom 27 = .ok (.iload_n 2, 1) := by decide +kernel
theorem dX7_loadFrom_28 : decode cX7_loadFrom 28 = .ok (.bipush 8, 2) := by decide +kernel
theorem dX7_loadFrom_30 : decode cX7_loadFrom 30 = .ok (.iadd, 1) := by decide +kernel
theorem dX7_loadFrom_31 : decode cX7_loadFrom 31 = .ok (.aload_n 0, 1) := by decide +kernel
theorem dX7_loadFrom_32 : decode cX7_loadFrom 32 = .ok (.getfield 15, 3) := by decide +kernel
theorem dX7_loadFrom_35 : decode cX7_loadFrom 35 = .ok (.iconst 0, 1) := by decide +kernel
theorem dX7_loadFrom_36 : decode cX7_loadFrom 36 = .ok (.bipush 8, 2) := by decide +kernel
theorem dX7_loadFrom_38 : decode cX7_loadFrom 38 = .ok (.invokestatic 29, 3) := by decide +kernel
theorem dX7_loadFrom_41 : decode cX7_loadFrom 41 = .ok (.aload_n 0, 1) := by decide +kernel
theorem dX7_loadFrom_42 : decode cX7_loadFrom 42 = .ok (.aload_n 1, 1) := by decide +kernel
theorem dX7_loadFrom_43 : decode cX7_loadFrom 43 = .ok (.iload_n 2, 1) := by decide +kernel
theorem dX7_loadFrom_44 : decode cX7_loadFrom 44 = .ok (.bipush 16, 2) := by decide +kernel
theorem dX7_loadFrom_46 : decode cX7_loadFrom 46 = .ok (.iadd, 1) := by decide +kernel
theorem dX7_loadFrom_47 : decode cX7_loadFrom 47 = .ok (.iaload, 1) := by decide +kernel
theorem dX7_loadFrom_48 : decode cX7_loadFrom 48 = .ok (.putfield 35, 3) := by decide +kernel
theorem dX7_loadFrom_51 : decode cX7_loadFrom 51 = .ok (.aload_n 0, 1) := by decide +kernel
theorem dX7_loadFrom_52 : decode cX7_loadFrom 52 = .ok (.aload_n 1, 1) := by decide +kernel
theorem dX7_loadFrom_53 : decode cX7_loadFrom 53 = .ok (.iload_n 2, 1) := by decide +kernel
theorem dX7_loadFrom_54 : decode cX7_loadFrom 54 = .ok (.bipush 16, 2) := by decide +kernel
theorem dX7_loadFrom_56 : decode cX7_loadFrom 56 = .ok (.iadd, 1) := by decide +kernel
theorem dX7_loadFrom_57 : decode cX7_loadFrom 57 = .ok (.iconst 1, 1) := by decide +kernel
theorem dX7_loadFrom_58 : decode cX7_loadFrom 58 = .ok (.iadd, 1) := by decide +kernel
theorem dX7_loadFrom_59 : decode cX7_loadFrom 59 = .ok (.iaload, 1) := by decide +kernel
theorem dX7_loadFrom_60 : decode cX7_loadFrom 60 = .ok (.putfield 18, 3) := by decide +kernel
theorem dX7_loadFrom_63 : decode cX7_loadFrom 63 = .ok (.aload_n 0, 1) := by decide +kernel
theorem dX7_loadFrom_64 : decode cX7_loadFrom 64 = .ok (.aload_n 1, 1) := by decide +kernel
theorem dX7_loadFrom_65 : decode cX7_loadFrom 65 = .ok (.iload_n 2, 1) := by decide +kernel
theorem dX7_loadFrom_66 : decode cX7_loadFrom 66 = .ok (.bipush 16, 2) := by decide +kernel
theorem dX7_loadFrom_68 : decode cX7_loadFrom 68 = .ok (.iadd, 1) := by decide +kernel
theorem dX7_loadFrom_69 : decode cX7_loadFrom 69 = .ok (.iconst 2, 1) := by decide +kernel
theorem dX7_loadFrom_70 : decode cX7_loadFrom 70 = .ok (.iadd, 1) := by decide +kernel
theorem dX7_loadFrom_71 : decode cX7_loadFrom 71 = .ok (.iaload, 1) := by decide +kernel
theorem dX7_loadFrom_72 : decode cX7_loadFrom 72 = .ok (.putfield 38, 3) := by decide +kernel
theorem dX7_loadFrom_75 : decode cX7_loadFrom 75 = .ok (.return_, 1) := by decide +kernel
theorem dX7_startAnew_0 : decode cX7_startAnew 0 = .ok (.aload_n 0, 1) := by decide +kernel
theorem dX7_startAnew_1 : decode cX7_startAnew 1 = .ok (.getfield 9, 3) := by decide +kernel
theorem dX7_startAnew_4 : decode cX7_startAnew 4 = .ok (.iconst 0, 1) := by decide +kernel
theorem dX7_startAnew_5 : decode cX7_startAnew 5 = .ok (.invokestatic 41, 3) := by decide +kernel
theorem dX7_startAnew_8 : decode cX7_startAnew 8 = .ok (.aload_n 0, 1) := by decide +kernel
theorem dX7_startAnew_9 : decode cX7_startAnew 9 = .ok (.getfield 15, 3) := by decide +kernel
theorem dX7_startAnew_12 : decode cX7_startAnew 12 = .ok (.iconst 0, 1) := by decide +kernel
theorem dX7_startAnew_13 : decode cX7_startAnew 13 = .ok (.invokestatic 41, 3) := by decide +kernel
theorem dX7_startAnew_16 : decode cX7_startAnew 16 = .ok (.aload_n 0, 1) := by decide +kernel
theorem dX7_startAnew_17 : decode cX7_startAnew 17 = .ok (.iconst 0, 1) := by decide +kernel
theorem dX7_startAnew_18 : decode cX7_startAnew 18 = .ok (.putfield 35, 3) := by decide +kernel
theorem dX7_startAnew_21 : decode cX7_startAnew 21 = .ok (.aload_n 0, 1) := by decide +kernel
theorem dX7_startAnew_22 : decode cX7_startAnew 22 = .ok (.iconst (-1), 1) := by decide +kernel
theorem dX7_startAnew_23 : decode cX7_startAnew 23 = .ok (.putfield 18, 3) := by decide +kernel
theorem dX7_startAnew_26 : decode cX7_startAnew 26 = .ok (.aload_n 0, 1) := by decide +kernel
theorem dX7_startAnew_27 : decode cX7_startAnew 27 = .ok (.iconst 0, 1) := by decide +kernel
theorem dX7_startAnew_28 : decode cX7_startAnew 28 = .ok (.putfield 38, 3) := by decide +kernel
theorem dX7_startAnew_31 : decode cX7_startAnew 31 = .ok (.return_, 1) := by decide +kernel
theorem dX7_cast_0 : decode cX7_cast 0 = .ok (.iload_n 1, 1) := by decide +kernel
theorem dX7_cast_1 : decode cX7_cast 1 = .ok (.iconst 0, 1) := by decide +kernel
theorem dX7_cast_2 : decode cX7_cast 2 = .ok (.aload_n 0, 1) := by decide +kernel
theorem dX7_cast_3 : decode cX7_cast 3 = .ok (.getfield 25, 3) := by decide +kernel
theorem dX7_cast_6 : decode cX7_cast 6 = .ok (.getfield 47, 3) := by decide +kernel
theorem dX7_cast_9 : decode cX7_cast 9 = .ok (.iconst 1, 1) := by decide +kernel
theorem dX7_cast_10 : decode cX7_cast 10 = .ok (.isub, 1) := by decide +kernel
theorem dX7_cast_11 : decode cX7_cast 11 = .ok (.invokestatic 52, 3) := by decide +kernel
theorem dX7_cast_14 : decode cX7_cast 14 = .ok (.ifCond .ne 4, 3) := by decide +kernel
theorem dX7_cast_17 : decode cX7_cast 17 = .ok (.return_, 1) := by decide +kernel
theorem dX7_cast_18 : decode cX7_cast 18 = .ok (.aload_n 0, 1) := by decide +kernel
theorem dX7_cast_19 : decode cX7_cast 19 = .ok (.getfield 25, 3) := by decide +kernel
theorem dX7_cast_22 : decode cX7_cast 22 = .ok (.aload_n 0, 1) := by decide +kernel
theorem dX7_cast_23 : decode cX7_cast 23 = .ok (.getfield 25, 3) := by decide +kernel
theorem dX7_cast_26 : decode cX7_cast 26 = .ok (.getfield 56, 3) := by decide +kernel
theorem dX7_cast_29 : decode cX7_cast 29 = .ok (.iload_n 1, 1) := by decide +kernel
theorem dX7_cast_30 : decode cX7_cast 30 = .ok (.iaload, 1) := by decide +kernel
theorem dX7_cast_31 : decode cX7_cast 31 = .ok (.invokevirtual 59, 3) := by decide +kernel
theorem dX7_cast_34 : decode cX7_cast 34 = .ok (.astore_n 2, 1) := by decide +kernel
theorem dX7_cast_35 : decode cX7_cast 35 = .ok (.aload_n 0, 1) := by decide +kernel
theorem dX7_cast_36 : decode cX7_cast 36 = .ok (.getfield 25, 3) := by decide +kernel
theorem dX7_cast_39 : decode cX7_cast 39 = .ok (.getfield 63, 3) := by decide +kernel
theorem dX7_cast_42 : decode cX7_cast 42 = .ok (.iload_n 1, 1) := by decide +kernel
theorem dX7_cast_43 : decode cX7_cast 43 = .ok (.iaload, 1) := by decide +kernel
theorem dX7_cast_44 : decode cX7_cast 44 = .ok (.istore_n 3, 1) := by decide +kernel
theorem dX7_cast_45 : decode cX7_cast 45 = .ok (.aload_n 0, 1) := by decide +kernel
theorem dX7_cast_46 : decode cX7_cast 46 = .ok (.aload_n 2, 1) := by decide +kernel
theorem dX7_cast_47 : decode cX7_cast 47 = .ok (.aload_n 0, 1) := by decide +kernel
theorem dX7_cast_48 : decode cX7_cast 48 = .ok (.aload_n 0, 1) := by decide +kernel
theorem dX7_cast_49 : decode cX7_cast 49 = .ok (.getfield 25, 3) := by decide +kernel
theorem dX7_cast_52 : decode cX7_cast 52 = .ok (.getfield 66, 3) := by decide +kernel
theorem dX7_cast_55 : decode cX7_cast 55 = .ok (.iload_n 1, 1) := by decide +kernel
theorem dX7_cast_56 : decode cX7_cast 56 = .ok (.iaload, 1) := by decide +kernel
theorem dX7_cast_57 : decode cX7_cast 57 = .ok (.iload_n 3, 1) := by decide +kernel
theorem dX7_cast_58 : decode cX7_cast 58 = .ok (.invokevirtual 69, 3) := by decide +kernel
theorem dX7_cast_61 : decode cX7_cast 61 = .ok (.aload_n 2, 1) := by decide +kernel
theorem dX7_cast_62 : decode cX7_cast 62 = .ok (.iload_n 3, 1) := by decide +kernel
theorem dX7_cast_63 : decode cX7_cast 63 = .ok (.invokevirtual 75, 3) := by decide +kernel
theorem dX7_cast_66 : decode cX7_cast 66 = .ok (.invokevirtual 79, 3) := by decide +kernel
theorem dX7_cast_69 : decode cX7_cast 69 = .ok (.aload_n 0, 1) := by decide +kernel
theorem dX7_cast_70 : decode cX7_cast 70 = .ok (.invokevirtual 83, 3) := by decide +kernel
theorem dX7_cast_73 : decode cX7_cast 73 = .ok (.aload_n 0, 1) := by decide +kernel
theorem dX7_cast_74 : decode cX7_cast 74 = .ok (.dup, 1) := by decide +kernel
theorem dX7_cast_75 : decode cX7_cast 75 = .ok (.getfield 35, 3) := by decide +kernel
theorem dX7_cast_78 : decode cX7_cast 78 = .ok (.iconst 1, 1) := by decide +kernel
theorem dX7_cast_79 : decode cX7_cast 79 = .ok (.iadd, 1) := by decide +kernel
theorem dX7_cast_80 : decode cX7_cast 80 = .ok (.putfield 35, 3) := by decide +kernel
theorem dX7_cast_83 : decode cX7_cast 83 = .ok (.return_, 1) := by decide +kernel
theorem dX7_lay_0 : decode cX7_lay 0 = .ok (.iload_n 1, 1) := by decide +kernel
theorem dX7_lay_1 : decode cX7_lay 1 = .ok (.iconst 0, 1) := by decide +kernel
theorem dX7_lay_2 : decode cX7_lay 2 = .ok (.aload_n 0, 1) := by decide +kernel
theorem dX7_lay_3 : decode cX7_lay 3 = .ok (.getfield 25, 3) := by decide +kernel
theorem dX7_lay_6 : decode cX7_lay 6 = .ok (.getfield 86, 3) := by decide +kernel
theorem dX7_lay_9 : decode cX7_lay 9 = .ok (.iconst 1, 1) := by decide +kernel
theorem dX7_lay_10 : decode cX7_lay 10 = .ok (.isub, 1) := by decide +kernel
theorem dX7_lay_11 : decode cX7_lay 11 = .ok (.invokestatic 52, 3) := by decide +kernel
theorem dX7_lay_14 : decode cX7_lay 14 = .ok (.ifCond .eq 13, 3) := by decide +kernel
theorem dX7_lay_17 : decode cX7_lay 17 = .ok (.aload_n 0, 1) := by decide +kernel
theorem dX7_lay_18 : decode cX7_lay 18 = .ok (.getfield 15, 3) := by decide +kernel
theorem dX7_lay_21 : decode cX7_lay 21 = .ok (.iload_n 1, 1) := by decide +kernel
theorem dX7_lay_22 : decode cX7_lay 22 = .ok (.dup2, 1) := by decide +kernel
theorem dX7_lay_23 : decode cX7_lay 23 = .ok (.iaload, 1) := by decide +kernel
theorem dX7_lay_24 : decode cX7_lay 24 = .ok (.iload_n 2, 1) := by decide +kernel
theorem dX7_lay_25 : decode cX7_lay 25 = .ok (.iadd, 1) := by decide +kernel
theorem dX7_lay_26 : decode cX7_lay 26 = .ok (.iastore, 1) := by decide +kernel
theorem dX7_lay_27 : decode cX7_lay 27 = .ok (.return_, 1) := by decide +kernel
theorem dX7_snowOver_0 : decode cX7_snowOver 0 = .ok (.iconst 0, 1) := by decide +kernel
theorem dX7_snowOver_1 : decode cX7_snowOver 1 = .ok (.istore_n 2, 1) := by decide +kernel
theorem dX7_snowOver_2 : decode cX7_snowOver 2 = .ok (.iload_n 2, 1) := by decide +kernel
theorem dX7_snowOver_3 : decode cX7_snowOver 3 = .ok (.aload_n 0, 1) := by decide +kernel
theorem dX7_snowOver_4 : decode cX7_snowOver 4 = .ok (.getfield 25, 3) := by decide +kernel
theorem dX7_snowOver_7 : decode cX7_snowOver 7 = .ok (.getfield 86, 3) := by decide +kernel
theorem dX7_snowOver_10 : decode cX7_snowOver 10 = .ok (.if_icmp .ge 19, 3) := by decide +kernel
theorem dX7_snowOver_13 : decode cX7_snowOver 13 = .ok (.aload_n 0, 1) := by decide +kernel
theorem dX7_snowOver_14 : decode cX7_snowOver 14 = .ok (.getfield 9, 3) := by decide +kernel
theorem dX7_snowOver_17 : decode cX7_snowOver 17 = .ok (.iload_n 2, 1) := by decide +kernel
theorem dX7_snowOver_18 : decode cX7_snowOver 18 = .ok (.dup2, 1) := by decide +kernel
theorem dX7_snowOver_19 : decode cX7_snowOver 19 = .ok (.iaload, 1) := by decide +kernel
theorem dX7_snowOver_20 : decode cX7_snowOver 20 = .ok (.iload_n 1, 1) := by decide +kernel
theorem dX7_snowOver_21 : decode cX7_snowOver 21 = .ok (.iadd, 1) := by decide +kernel
theorem dX7_snowOver_22 : decode cX7_snowOver 22 = .ok (.iastore, 1) := by decide +kernel
theorem dX7_snowOver_23 : decode cX7_snowOver 23 = .ok (.iinc 2 1, 3) := by decide +kernel
theorem dX7_snowOver_26 : decode cX7_snowOver 26 = .ok (.goto (-24), 3) := by decide +kernel
theorem dX7_snowOver_29 : decode cX7_snowOver 29 = .ok (.aload_n 0, 1) := by decide +kernel
theorem dX7_snowOver_30 : decode cX7_snowOver 30 = .ok (.invokevirtual 83, 3) := by decide +kernel
theorem dX7_snowOver_33 : decode cX7_snowOver 33 = .ok (.return_, 1) := by decide +kernel
theorem dX7_comeDown_0 : decode cX7_comeDown 0 = .ok (.aload_n 0, 1) := by decide +kernel
theorem dX7_comeDown_1 : decode cX7_comeDown 1 = .ok (.getfield 18, 3) := by decide +kernel
theorem dX7_comeDown_4 : decode cX7_comeDown 4 = .ok (.iconst (-1), 1) := by decide +kernel
theorem dX7_comeDown_5 : decode cX7_comeDown 5 = .ok (.if_icmp .ne 7, 3) := by decide +kernel
theorem dX7_comeDown_8 : decode cX7_comeDown 8 = .ok (.iconst 1, 1) := by decide +kernel
theorem dX7_comeDown_9 : decode cX7_comeDown 9 = .ok (.goto 4, 3) := by decide +kernel
theorem dX7_comeDown_12 : decode cX7_comeDown 12 = .ok (.iconst 0, 1) := by decide +kernel
theorem dX7_comeDown_13 : decode cX7_comeDown 13 = .ok (.istore_n 1, 1) := by decide +kernel
theorem dX7_comeDown_14 : decode cX7_comeDown 14 = .ok (.aload_n 0, 1) := by decide +kernel
theorem dX7_comeDown_15 : decode cX7_comeDown 15 = .ok (.iconst 0, 1) := by decide +kernel
theorem dX7_comeDown_16 : decode cX7_comeDown 16 = .ok (.putfield 89, 3) := by decide +kernel
theorem dX7_comeDown_19 : decode cX7_comeDown 19 = .ok (.aload_n 0, 1) := by decide +kernel
theorem dX7_comeDown_20 : decode cX7_comeDown 20 = .ok (.iconst 0, 1) := by decide +kernel
theorem dX7_comeDown_21 : decode cX7_comeDown 21 = .ok (.putfield 92, 3) := by decide +kernel
theorem dX7_comeDown_24 : decode cX7_comeDown 24 = .ok (.iconst 0, 1) := by decide +kernel
theorem dX7_comeDown_25 : decode cX7_comeDown 25 = .ok (.istore_n 2, 1) := by decide +kernel
theorem dX7_comeDown_26 : decode cX7_comeDown 26 = .ok (.iload_n 2, 1) := by decide +kernel
theorem dX7_comeDown_27 : decode cX7_comeDown 27 = .ok (.aload_n 0, 1) := by decide +kernel
theorem dX7_comeDown_28 : decode cX7_comeDown 28 = .ok (.getfield 25, 3) := by decide +kernel
theorem dX7_comeDown_31 : decode cX7_comeDown 31 = .ok (.getfield 86, 3) := by decide +kernel
theorem dX7_comeDown_34 : decode cX7_comeDown 34 = .ok (.if_icmp .ge 42, 3) := by decide +kernel
theorem dX7_comeDown_37 : decode cX7_comeDown 37 = .ok (.iload_n 2, 1) := by decide +kernel
theorem dX7_comeDown_38 : decode cX7_comeDown 38 = .ok (.istore_n 3, 1) := by decide +kernel
theorem dX7_comeDown_39 : decode cX7_comeDown 39 = .ok (.iconst 0, 1) := by decide +kernel
theorem dX7_comeDown_40 : decode cX7_comeDown 40 = .ok (.istore 4, 2) := by decide +kernel
theorem dX7_comeDown_42 : decode cX7_comeDown 42 = .ok (.iload 4, 2) := by decide +kernel
theorem dX7_comeDown_44 : decode cX7_comeDown 44 = .ok (.bipush 8, 2) := by decide +kernel
theorem dX7_comeDown_46 : decode cX7_comeDown 46 = .ok (.if_icmp .ge 24, 3) := by decide +kernel
theorem dX7_comeDown_49 : decode cX7_comeDown 49 = .ok (.aload_n 0, 1) := by decide +kernel
theorem dX7_comeDown_50 : decode cX7_comeDown 50 = .ok (.iload_n 3, 1) := by decide +kernel
theorem dX7_comeDown_51 : decode cX7_comeDown 51 = .ok (.iconst 0, 1) := by decide +kernel
theorem dX7_comeDown_52 : decode cX7_comeDown 52 = .ok (.invokevirtual 95, 3) := by decide +kernel
theorem dX7_comeDown_55 : decode cX7_comeDown 55 = .ok (.ifCond .ne 15, 3) := by decide +kernel
theorem dX7_comeDown_58 : decode cX7_comeDown 58 = .ok (.aload_n 0, 1) := by decide +kernel
theorem dX7_comeDown_59 : decode cX7_comeDown 59 = .ok (.iload_n 3, 1) := by decide +kernel
theorem dX7_comeDown_60 : decode cX7_comeDown 60 = .ok (.invokevirtual 99, 3) := by decide +kernel
theorem dX7_comeDown_63 : decode cX7_comeDown 63 = .ok (.istore_n 3, 1) := by decide +kernel
theorem dX7_comeDown_64 : decode cX7_comeDown 64 = .ok (.iinc 4 1, 3) := by decide +kernel
theorem dX7_comeDown_67 : decode cX7_comeDown 67 = .ok (.goto (-25), 3) := by decide +kernel
theorem dX7_comeDown_70 : decode cX7_comeDown 70 = .ok (.iinc 2 1, 3) := by decide +kernel
theorem dX7_comeDown_73 : decode cX7_comeDown 73 = .ok (.goto (-47), 3) := by decide +kernel
theorem dX7_comeDown_76 : decode cX7_comeDown 76 = .ok (.iload_n 1, 1) := by decide +kernel
theorem dX7_comeDown_77 : decode cX7_comeDown 77 = .ok (.ifCond .eq 11, 3) := by decide +kernel
theorem dX7_comeDown_80 : decode cX7_comeDown 80 = .ok (.aload_n 0, 1) := by decide +kernel
theorem dX7_comeDown_81 : decode cX7_comeDown 81 = .ok (.aload_n 0, 1) := by decide +kernel
theorem dX7_comeDown_82 : decode cX7_comeDown 82 = .ok (.getfield 89, 3) := by decide +kernel
theorem dX7_comeDown_85 : decode cX7_comeDown 85 = .ok (.putfield 38, 3) := by decide +kernel
theorem dX7_comeDown_88 : decode cX7_comeDown 88 = .ok (.return_, 1) := by decide +kernel
theorem dX7_drop_0 : decode cX7_drop 0 = .ok (.aload_n 0, 1) := by decide +kernel
theorem dX7_drop_1 : decode cX7_drop 1 = .ok (.getfield 18, 3) := by decide +kernel
theorem dX7_drop_4 : decode cX7_drop 4 = .ok (.iconst (-1), 1) := by decide +kernel
theorem dX7_drop_5 : decode cX7_drop 5 = .ok (.if_icmp .ne 8, 3) := by decide +kernel
theorem dX7_drop_8 : decode cX7_drop 8 = .ok (.aload_n 0, 1) := by decide +kernel
theorem dX7_drop_9 : decode cX7_drop 9 = .ok (.iload_n 1, 1) := by decide +kernel
theorem dX7_drop_10 : decode cX7_drop 10 = .ok (.putfield 18, 3) := by decide +kernel
theorem dX7_drop_13 : decode cX7_drop 13 = .ok (.aload_n 0, 1) := by decide +kernel
theorem dX7_drop_14 : decode cX7_drop 14 = .ok (.getfield 89, 3) := by decide +kernel
theorem dX7_drop_17 : decode cX7_drop 17 = .ok (.iload_n 1, 1) := by decide +kernel
theorem dX7_drop_18 : decode cX7_drop 18 = .ok (.invokestatic 102, 3) := by decide +kernel
theorem dX7_drop_21 : decode cX7_drop 21 = .ok (.ifCond .ne 28, 3) := by decide +kernel
theorem dX7_drop_24 : decode cX7_drop 24 = .ok (.aload_n 0, 1) := by decide +kernel
theorem dX7_drop_25 : decode cX7_drop 25 = .ok (.getfield 22, 3) := by decide +kernel
theorem dX7_drop_28 : decode cX7_drop 28 = .ok (.iload_n 1, 1) := by decide +kernel
theorem dX7_drop_29 : decode cX7_drop 29 = .ok (.aload_n 0, 1) := by decide +kernel
theorem dX7_drop_30 : decode cX7_drop 30 = .ok (.getfield 89, 3) := by decide +kernel
theorem dX7_drop_33 : decode cX7_drop 33 = .ok (.invokestatic 105, 3) := by decide +kernel
theorem dX7_drop_36 : decode cX7_drop 36 = .ok (.iastore, 1) := by decide +kernel
theorem dX7_drop_37 : decode cX7_drop 37 = .ok (.aload_n 0, 1) := by decide +kernel
theorem dX7_drop_38 : decode cX7_drop 38 = .ok (.dup, 1) := by decide +kernel
theorem dX7_drop_39 : decode cX7_drop 39 = .ok (.getfield 89, 3) := by decide +kernel
theorem dX7_drop_42 : decode cX7_drop 42 = .ok (.iconst 1, 1) := by decide +kernel
theorem dX7_drop_43 : decode cX7_drop 43 = .ok (.iload_n 1, 1) := by decide +kernel
theorem dX7_drop_44 : decode cX7_drop 44 = .ok (.ishl, 1) := by decide +kernel
theorem dX7_drop_45 : decode cX7_drop 45 = .ok (.ior, 1) := by decide +kernel
theorem dX7_drop_46 : decode cX7_drop 46 = .ok (.putfield 89, 3) := by decide +kernel
theorem dX7_drop_49 : decode cX7_drop 49 = .ok (.aload_n 0, 1) := by decide +kernel
theorem dX7_drop_50 : decode cX7_drop 50 = .ok (.getfield 25, 3) := by decide +kernel
theorem dX7_drop_53 : decode cX7_drop 53 = .ok (.getfield 110, 3) := by decide +kernel
theorem dX7_drop_56 : decode cX7_drop 56 = .ok (.iload_n 1, 1) := by decide +kernel
theorem dX7_drop_57 : decode cX7_drop 57 = .ok (.iaload, 1) := by decide +kernel
theorem dX7_drop_58 : decode cX7_drop 58 = .ok (.istore_n 2, 1) := by decide +kernel
theorem dX7_drop_59 : decode cX7_drop 59 = .ok (.iload_n 2, 1) := by decide +kernel
theorem dX7_drop_60 : decode cX7_drop 60 = .ok (.iconst (-1), 1) := by decide +kernel
theorem dX7_drop_61 : decode cX7_drop 61 = .ok (.if_icmp .eq 29, 3) := by decide +kernel
theorem dX7_drop_64 : decode cX7_drop 64 = .ok (.aload_n 0, 1) := by decide +kernel
theorem dX7_drop_65 : decode cX7_drop 65 = .ok (.getfield 9, 3) := by decide +kernel
theorem dX7_drop_68 : decode cX7_drop 68 = .ok (.iload_n 2, 1) := by decide +kernel
theorem dX7_drop_69 : decode cX7_drop 69 = .ok (.dup2, 1) := by decide +kernel
theorem dX7_drop_70 : decode cX7_drop 70 = .ok (.iaload, 1) := by decide +kernel
theorem dX7_drop_71 : decode cX7_drop 71 = .ok (.aload_n 0, 1) := by decide +kernel
theorem dX7_drop_72 : decode cX7_drop 72 = .ok (.iload_n 1, 1) := by decide +kernel
theorem dX7_drop_73 : decode cX7_drop 73 = .ok (.invokevirtual 113, 3) := by decide +kernel
theorem dX7_drop_76 : decode cX7_drop 76 = .ok (.iadd, 1) := by decide +kernel
theorem dX7_drop_77 : decode cX7_drop 77 = .ok (.iastore, 1) := by decide +kernel
theorem dX7_drop_78 : decode cX7_drop 78 = .ok (.aload_n 0, 1) := by decide +kernel
theorem dX7_drop_79 : decode cX7_drop 79 = .ok (.dup, 1) := by decide +kernel
theorem dX7_drop_80 : decode cX7_drop 80 = .ok (.getfield 92, 3) := by decide +kernel
theorem dX7_drop_83 : decode cX7_drop 83 = .ok (.iconst 1, 1) := by decide +kernel
theorem dX7_drop_84 : decode cX7_drop 84 = .ok (.iload_n 2, 1) := by decide +kernel
theorem dX7_drop_85 : decode cX7_drop 85 = .ok (.ishl, 1) := by decide +kernel
theorem dX7_drop_86 : decode cX7_drop 86 = .ok (.ior, 1) := by decide +kernel
theorem dX7_drop_87 : decode cX7_drop 87 = .ok (.putfield 92, 3) := by decide +kernel
theorem dX7_drop_90 : decode cX7_drop 90 = .ok (.aload_n 0, 1) := by decide +kernel
theorem dX7_drop_91 : decode cX7_drop 91 = .ok (.getfield 9, 3) := by decide +kernel
theorem dX7_drop_94 : decode cX7_drop 94 = .ok (.iload_n 1, 1) := by decide +kernel
theorem dX7_drop_95 : decode cX7_drop 95 = .ok (.iconst 0, 1) := by decide +kernel
theorem dX7_drop_96 : decode cX7_drop 96 = .ok (.iastore, 1) := by decide +kernel
theorem dX7_drop_97 : decode cX7_drop 97 = .ok (.aload_n 0, 1) := by decide +kernel
theorem dX7_drop_98 : decode cX7_drop 98 = .ok (.getfield 15, 3) := by decide +kernel
theorem dX7_drop_101 : decode cX7_drop 101 = .ok (.iload_n 1, 1) := by decide +kernel
theorem dX7_drop_102 : decode cX7_drop 102 = .ok (.iconst 0, 1) := by decide +kernel
theorem dX7_drop_103 : decode cX7_drop 103 = .ok (.iastore, 1) := by decide +kernel
theorem dX7_drop_104 : decode cX7_drop 104 = .ok (.iload_n 2, 1) := by decide +kernel
theorem dX7_drop_105 : decode cX7_drop 105 = .ok (.ireturn, 1) := by decide +kernel
theorem dX7_fellAhead_0 : decode cX7_fellAhead 0 = .ok (.aload_n 0, 1) := by decide +kernel
theorem dX7_fellAhead_1 : decode cX7_fellAhead 1 = .ok (.getfield 89, 3) := by decide +kernel
theorem dX7_fellAhead_4 : decode cX7_fellAhead 4 = .ok (.iload_n 1, 1) := by decide +kernel
theorem dX7_fellAhead_5 : decode cX7_fellAhead 5 = .ok (.invokestatic 102, 3) := by decide +kernel
theorem dX7_fellAhead_8 : decode cX7_fellAhead 8 = .ok (.ifCond .eq 33, 3) := by decide +kernel
theorem dX7_fellAhead_11 : decode cX7_fellAhead 11 = .ok (.aload_n 0, 1) := by decide +kernel
theorem dX7_fellAhead_12 : decode cX7_fellAhead 12 = .ok (.getfield 89, 3) := by decide +kernel
theorem dX7_fellAhead_15 : decode cX7_fellAhead 15 = .ok (.iload_n 2, 1) := by decide +kernel
theorem dX7_fellAhead_16 : decode cX7_fellAhead 16 = .ok (.invokestatic 102, 3) := by decide +kernel
theorem dX7_fellAhead_19 : decode cX7_fellAhead 19 = .ok (.ifCond .eq 18, 3) := by decide +kernel
theorem dX7_fellAhead_22 : decode cX7_fellAhead 22 = .ok (.aload_n 0, 1) := by decide +kernel
theorem dX7_fellAhead_23 : decode cX7_fellAhead 23 = .ok (.getfield 22, 3) := by decide +kernel
theorem dX7_fellAhead_26 : decode cX7_fellAhead 26 = .ok (.iload_n 1, 1) := by decide +kernel
theorem dX7_fellAhead_27 : decode cX7_fellAhead 27 = .ok (.iaload, 1) := by decide +kernel
theorem dX7_fellAhead_28 : decode cX7_fellAhead 28 = .ok (.aload_n 0, 1) := by decide +kernel
theorem dX7_fellAhead_29 : decode cX7_fellAhead 29 = .ok (.getfield 22, 3) := by decide +kernel
theorem dX7_fellAhead_32 : decode cX7_fellAhead 32 = .ok (.iload_n 2, 1) := by decide +kernel
theorem dX7_fellAhead_33 : decode cX7_fellAhead 33 = .ok (.iaload, 1) := by decide +kernel
theorem dX7_fellAhead_34 : decode cX7_fellAhead 34 = .ok (.if_icmp .ge 7, 3) := by decide +kernel
theorem dX7_fellAhead_37 : decode cX7_fellAhead 37 = .ok (.iconst 1, 1) := by decide +kernel
theorem dX7_fellAhead_38 : decode cX7_fellAhead 38 = .ok (.goto 4, 3) := by decide +kernel
theorem dX7_fellAhead_41 : decode cX7_fellAhead 41 = .ok (.iconst 0, 1) := by decide +kernel
theorem dX7_fellAhead_42 : decode cX7_fellAhead 42 = .ok (.ireturn, 1) := by decide +kernel
theorem dX7_bears_0 : decode cX7_bears 0 = .ok (.iload_n 1, 1) := by decide +kernel
theorem dX7_bears_1 : decode cX7_bears 1 = .ok (.iconst 0, 1) := by decide +kernel
theorem dX7_bears_2 : decode cX7_bears 2 = .ok (.aload_n 0, 1) := by decide +kernel
theorem dX7_bears_3 : decode cX7_bears 3 = .ok (.getfield 25, 3) := by decide +kernel
theorem dX7_bears_6 : decode cX7_bears 6 = .ok (.getfield 86, 3) := by decide +kernel
theorem dX7_bears_9 : decode cX7_bears 9 = .ok (.iconst 1, 1) := by decide +kernel
theorem dX7_bears_10 : decode cX7_bears 10 = .ok (.isub, 1) := by decide +kernel
theorem dX7_bears_11 : decode cX7_bears 11 = .ok (.invokestatic 52, 3) := by decide +kernel
theorem dX7_bears_14 : decode cX7_bears 14 = .ok (.ifCond .eq 22, 3) := by decide +kernel
theorem dX7_bears_17 : decode cX7_bears 17 = .ok (.aload_n 0, 1) := by decide +kernel
theorem dX7_bears_18 : decode cX7_bears 18 = .ok (.iload_n 1, 1) := by decide +kernel
theorem dX7_bears_19 : decode cX7_bears 19 = .ok (.invokevirtual 113, 3) := by decide +kernel
theorem dX7_bears_22 : decode cX7_bears 22 = .ok (.iload_n 2, 1) := by decide +kernel
theorem dX7_bears_23 : decode cX7_bears 23 = .ok (.iadd, 1) := by decide +kernel
theorem dX7_bears_24 : decode cX7_bears 24 = .ok (.aload_n 0, 1) := by decide +kernel
theorem dX7_bears_25 : decode cX7_bears 25 = .ok (.getfield 25, 3) := by decide +kernel
theorem dX7_bears_28 : decode cX7_bears 28 = .ok (.getfield 116, 3) := by decide +kernel
theorem dX7_bears_31 : decode cX7_bears 31 = .ok (.iload_n 1, 1) := by decide +kernel
theorem dX7_bears_32 : decode cX7_bears 32 = .ok (.iaload, 1) := by decide +kernel
theorem dX7_bears_33 : decode cX7_bears 33 = .ok (.if_icmp .gt 7, 3) := by decide +kernel
theorem dX7_bears_36 : decode cX7_bears 36 = .ok (.iconst 1, 1) := by decide +kernel
theorem dX7_bears_37 : decode cX7_bears 37 = .ok (.goto 4, 3) := by decide +kernel
theorem dX7_bears_40 : decode cX7_bears 40 = .ok (.iconst 0, 1) := by decide +kernel
theorem dX7_bears_41 : decode cX7_bears 41 = .ok (.ireturn, 1) := by decide +kernel
theorem dX7_loadOf_0 : decode cX7_loadOf 0 = .ok (.aload_n 0, 1) := by decide +kernel
theorem dX7_loadOf_1 : decode cX7_loadOf 1 = .ok (.getfield 9, 3) := by decide +kernel
theorem dX7_loadOf_4 : decode cX7_loadOf 4 = .ok (.iload_n 1, 1) := by decide +kernel
theorem dX7_loadOf_5 : decode cX7_loadOf 5 = .ok (.iaload, 1) := by decide +kernel
theorem dX7_loadOf_6 : decode cX7_loadOf 6 = .ok (.aload_n 0, 1) := by decide +kernel
theorem dX7_loadOf_7 : decode cX7_loadOf 7 = .ok (.getfield 15, 3) := by decide +kernel
theorem dX7_loadOf_10 : decode cX7_loadOf 10 = .ok (.iload_n 1, 1) := by decide +kernel
theorem dX7_loadOf_11 : decode cX7_loadOf 11 = .ok (.iaload, 1) := by decide +kernel
theorem dX7_loadOf_12 : decode cX7_loadOf 12 = .ok (.iadd, 1) := by decide +kernel
theorem dX7_loadOf_13 : decode cX7_loadOf 13 = .ok (.ireturn, 1) := by decide +kernel
theorem dX7_loadOfAll_0 : decode cX7_loadOfAll 0 = .ok (.iconst 0, 1) := by decide +kernel
theorem dX7_loadOfAll_1 : decode cX7_loadOfAll 1 = .ok (.istore_n 1, 1) := by decide +kernel
theorem dX7_loadOfAll_2 : decode cX7_loadOfAll 2 = .ok (.iconst 0, 1) := by decide +kernel
theorem dX7_loadOfAll_3 : decode cX7_loadOfAll 3 = .ok (.istore_n 2, 1) := by decide +kernel
theorem dX7_loadOfAll_4 : decode cX7_loadOfAll 4 = .ok (.iload_n 2, 1) := by decide +kernel
theorem dX7_loadOfAll_5 : decode cX7_loadOfAll 5 = .ok (.aload_n 0, 1) := by decide +kernel
theorem dX7_loadOfAll_6 : decode cX7_loadOfAll 6 = .ok (.getfield 25, 3) := by decide +kernel
theorem dX7_loadOfAll_9 : decode cX7_loadOfAll 9 = .ok (.getfield 86, 3) := by decide +kernel
theorem dX7_loadOfAll_12 : decode cX7_loadOfAll 12 = .ok (.if_icmp .ge 17, 3) := by decide +kernel
theorem dX7_loadOfAll_15 : decode cX7_loadOfAll 15 = .ok (.iload_n 1, 1) := by decide +kernel
theorem dX7_loadOfAll_16 : decode cX7_loadOfAll 16 = .ok (.aload_n 0, 1) := by decide +kernel
theorem dX7_loadOfAll_17 : decode cX7_loadOfAll 17 = .ok (.iload_n 2, 1) := by decide +kernel
theorem dX7_loadOfAll_18 : decode cX7_loadOfAll 18 = .ok (.invokevirtual 113, 3) := by decide +kernel
theorem dX7_loadOfAll_21 : decode cX7_loadOfAll 21 = .ok (.iadd, 1) := by decide +kernel
theorem dX7_loadOfAll_22 : decode cX7_loadOfAll 22 = .ok (.istore_n 1, 1) := by decide +kernel
theorem dX7_loadOfAll_23 : decode cX7_loadOfAll 23 = .ok (.iinc 2 1, 3) := by decide +kernel
theorem dX7_loadOfAll_26 : decode cX7_loadOfAll 26 = .ok (.goto (-22), 3) := by decide +kernel
theorem dX7_loadOfAll_29 : decode cX7_loadOfAll 29 = .ok (.iload_n 1, 1) := by decide +kernel
theorem dX7_loadOfAll_30 : decode cX7_loadOfAll 30 = .ok (.ireturn, 1) := by decide +kernel
theorem dX7_lightest_0 : decode cX7_lightest 0 = .ok (.iconst 0, 1) := by decide +kernel
theorem dX7_lightest_1 : decode cX7_lightest 1 = .ok (.istore_n 1, 1) := by decide +kernel
theorem dX7_lightest_2 : decode cX7_lightest 2 = .ok (.iconst 1, 1) := by decide +kernel
theorem dX7_lightest_3 : decode cX7_lightest 3 = .ok (.istore_n 2, 1) := by decide +kernel
theorem dX7_lightest_4 : decode cX7_lightest 4 = .ok (.iload_n 2, 1) := by decide +kernel
theorem dX7_lightest_5 : decode cX7_lightest 5 = .ok (.aload_n 0, 1) := by decide +kernel
theorem dX7_lightest_6 : decode cX7_lightest 6 = .ok (.getfield 25, 3) := by decide +kernel
theorem dX7_lightest_9 : decode cX7_lightest 9 = .ok (.getfield 86, 3) := by decide +kernel
theorem dX7_lightest_12 : decode cX7_lightest 12 = .ok (.if_icmp .ge 24, 3) := by decide +kernel
theorem dX7_lightest_15 : decode cX7_lightest 15 = .ok (.aload_n 0, 1) := by decide +kernel
theorem dX7_lightest_16 : decode cX7_lightest 16 = .ok (.iload_n 2, 1) := by decide +kernel
theorem dX7_lightest_17 : decode cX7_lightest 17 = .ok (.invokevirtual 113, 3) := by decide +kernel
theorem dX7_lightest_20 : decode cX7_lightest 20 = .ok (.aload_n 0, 1) := by decide +kernel
theorem dX7_lightest_21 : decode cX7_lightest 21 = .ok (.iload_n 1, 1) := by decide +kernel
theorem dX7_lightest_22 : decode cX7_lightest 22 = .ok (.invokevirtual 113, 3) := by decide +kernel
theorem dX7_lightest_25 : decode cX7_lightest 25 = .ok (.if_icmp .ge 5, 3) := by decide +kernel
theorem dX7_lightest_28 : decode cX7_lightest 28 = .ok (.iload_n 2, 1) := by decide +kernel
theorem dX7_lightest_29 : decode cX7_lightest 29 = .ok (.istore_n 1, 1) := by decide +kernel
theorem dX7_lightest_30 : decode cX7_lightest 30 = .ok (.iinc 2 1, 3) := by decide +kernel
theorem dX7_lightest_33 : decode cX7_lightest 33 = .ok (.goto (-29), 3) := by decide +kernel
theorem dX7_lightest_36 : decode cX7_lightest 36 = .ok (.iload_n 1, 1) := by decide +kernel
theorem dX7_lightest_37 : decode cX7_lightest 37 = .ok (.ireturn, 1) := by decide +kernel
theorem dX7_heaviest_0 : decode cX7_heaviest 0 = .ok (.iconst 0, 1) := by decide +kernel
theorem dX7_heaviest_1 : decode cX7_heaviest 1 = .ok (.istore_n 1, 1) := by decide +kernel
theorem dX7_heaviest_2 : decode cX7_heaviest 2 = .ok (.iconst 1, 1) := by decide +kernel
theorem dX7_heaviest_3 : decode cX7_heaviest 3 = .ok (.istore_n 2, 1) := by decide +kernel
theorem dX7_heaviest_4 : decode cX7_heaviest 4 = .ok (.iload_n 2, 1) := by decide +kernel
theorem dX7_heaviest_5 : decode cX7_heaviest 5 = .ok (.aload_n 0, 1) := by decide +kernel
theorem dX7_heaviest_6 : decode cX7_heaviest 6 = .ok (.getfield 25, 3) := by decide +kernel
theorem dX7_heaviest_9 : decode cX7_heaviest 9 = .ok (.getfield 86, 3) := by decide +kernel
theorem dX7_heaviest_12 : decode cX7_heaviest 12 = .ok (.if_icmp .ge 24, 3) := by decide +kernel
theorem dX7_heaviest_15 : decode cX7_heaviest 15 = .ok (.aload_n 0, 1) := by decide +kernel
theorem dX7_heaviest_16 : decode cX7_heaviest 16 = .ok (.iload_n 2, 1) := by decide +kernel
theorem dX7_heaviest_17 : decode cX7_heaviest 17 = .ok (.invokevirtual 113, 3) := by decide +kernel
theorem dX7_heaviest_20 : decode cX7_heaviest 20 = .ok (.aload_n 0, 1) := by decide +kernel
theorem dX7_heaviest_21 : decode cX7_heaviest 21 = .ok (.iload_n 1, 1) := by decide +kernel
theorem dX7_heaviest_22 : decode cX7_heaviest 22 = .ok (.invokevirtual 113, 3) := by decide +kernel
theorem dX7_heaviest_25 : decode cX7_heaviest 25 = .ok (.if_icmp .le 5, 3) := by decide +kernel
theorem dX7_heaviest_28 : decode cX7_heaviest 28 = .ok (.iload_n 2, 1) := by decide +kernel
theorem dX7_heaviest_29 : decode cX7_heaviest 29 = .ok (.istore_n 1, 1) := by decide +kernel
theorem dX7_heaviest_30 : decode cX7_heaviest 30 = .ok (.iinc 2 1, 3) := by decide +kernel
theorem dX7_heaviest_33 : decode cX7_heaviest 33 = .ok (.goto (-29), 3) := by decide +kernel
theorem dX7_heaviest_36 : decode cX7_heaviest 36 = .ok (.iload_n 1, 1) := by decide +kernel
theorem dX7_heaviest_37 : decode cX7_heaviest 37 = .ok (.ireturn, 1) := by decide +kernel
theorem dX7_mayStart_0 : decode cX7_mayStart 0 = .ok (.iconst 0, 1) := by decide +kernel
theorem dX7_mayStart_1 : decode cX7_mayStart 1 = .ok (.istore_n 3, 1) := by decide +kernel
theorem dX7_mayStart_2 : decode cX7_mayStart 2 = .ok (.iload_n 3, 1) := by decide +kernel
theorem dX7_mayStart_3 : decode cX7_mayStart 3 = .ok (.aload_n 0, 1) := by decide +kernel
theorem dX7_mayStart_4 : decode cX7_mayStart 4 = .ok (.getfield 25, 3) := by decide +kernel
theorem dX7_mayStart_7 : decode cX7_mayStart 7 = .ok (.getfield 86, 3) := by decide +kernel
theorem dX7_mayStart_10 : decode cX7_mayStart 10 = .ok (.if_icmp .ge 28, 3) := by decide +kernel
theorem dX7_mayStart_13 : decode cX7_mayStart 13 = .ok (.iload_n 1, 1) := by decide +kernel
theorem dX7_mayStart_14 : decode cX7_mayStart 14 = .ok (.iload_n 3, 1) := by decide +kernel
theorem dX7_mayStart_15 : decode cX7_mayStart 15 = .ok (.invokestatic 102, 3) := by decide +kernel
theorem dX7_mayStart_18 : decode cX7_mayStart 18 = .ok (.ifCond .eq 14, 3) := by decide +kernel
theorem dX7_mayStart_21 : decode cX7_mayStart 21 = .ok (.aload_n 0, 1) := by decide +kernel
theorem dX7_mayStart_22 : decode cX7_mayStart 22 = .ok (.iload_n 3, 1) := by decide +kernel
theorem dX7_mayStart_23 : decode cX7_mayStart 23 = .ok (.iload_n 2, 1) := by decide +kernel
theorem dX7_mayStart_24 : decode cX7_mayStart 24 = .ok (.invokevirtual 95, 3) := by decide +kernel
theorem dX7_mayStart_27 : decode cX7_mayStart 27 = .ok (.ifCond .ne 5, 3) := by decide +kernel
theorem dX7_mayStart_30 : decode cX7_mayStart 30 = .ok (.iconst 1, 1) := by decide +kernel
theorem dX7_mayStart_31 : decode cX7_mayStart 31 = .ok (.ireturn, 1) := by decide +kernel
theorem dX7_mayStart_32 : decode cX7_mayStart 32 = .ok (.iinc 3 1, 3) := by decide +kernel
theorem dX7_mayStart_35 : decode cX7_mayStart 35 = .ok (.goto (-33), 3) := by decide +kernel
theorem dX7_mayStart_38 : decode cX7_mayStart 38 = .ok (.iconst 0, 1) := by decide +kernel
theorem dX7_mayStart_39 : decode cX7_mayStart 39 = .ok (.ireturn, 1) := by decide +kernel
