theorem dX12_init_0 : decode cX12_init 0 = .ok (.aload_n 0, 1) := by decide +kernel
theorem dX12_init_1 : decode cX12_init 1 = .ok (.invokespecial 1, 3) := by decide +kernel
theorem dX12_init_4 : decode cX12_init 4 = .ok (.aload_n 0, 1) := by decide +kernel
theorem dX12_init_5 : decode cX12_init 5 = .ok (.sipush 221, 3) := by decide +kernel
theorem dX12_init_8 : decode cX12_init 8 = .ok (.newarray .int, 2) := by decide +kernel
theorem dX12_init_10 : decode cX12_init 10 = .ok (.putfield 7, 3) := by decide +kernel
theorem dX12_init_13 : decode cX12_init 13 = .ok (.aload_n 0, 1) := by decide +kernel
theorem dX12_init_14 : decode cX12_init 14 = .ok (.sipush 442, 3) := by decide +kernel
theorem dX12_init_17 : decode cX12_init 17 = .ok (.newarray .int, 2) := by decide +kernel
theorem dX12_init_19 : decode cX12_init 19 = .ok (.putfield 13, 3) := by decide +kernel
theorem dX12_init_22 : decode cX12_init 22 = .ok (.aload_n 0, 1) := by decide +kernel
theorem dX12_init_23 : decode cX12_init 23 = .ok (.iconst 2, 1) := by decide +kernel
theorem dX12_init_24 : decode cX12_init 24 = .ok (.newarray .boolean, 2) := by decide +kernel
theorem dX12_init_26 : decode cX12_init 26 = .ok (.putfield 16, 3) := by decide +kernel
theorem dX12_init_29 : decode cX12_init 29 = .ok (.aload_n 0, 1) := by decide +kernel
theorem dX12_init_30 : decode cX12_init 30 = .ok (.iconst 3, 1) := by decide +kernel
theorem dX12_init_31 : decode cX12_init 31 = .ok (.newarray .int, 2) := by decide +kernel
theorem dX12_init_33 : decode cX12_init 33 = .ok (.putfield 20, 3) := by decide +kernel
theorem dX12_init_36 : decode cX12_init 36 = .ok (.aload_n 0, 1) := by decide +kernel
theorem dX12_init_37 : decode cX12_init 37 = .ok (.lconst 1, 1) := by decide +kernel
theorem dX12_init_38 : decode cX12_init 38 = .ok (.putfield 23, 3) := by decide +kernel
theorem dX12_init_41 : decode cX12_init 41 = .ok (.aload_n 0, 1) := by decide +kernel
theorem dX12_init_42 : decode cX12_init 42 = .ok (.bipush 8, 2) := by decide +kernel
theorem dX12_init_44 : decode cX12_init 44 = .ok (.newarray .int, 2) := by decide +kernel
theorem dX12_init_46 : decode cX12_init 46 = .ok (.putfield 27, 3) := by decide +kernel
theorem dX12_init_49 : decode cX12_init 49 = .ok (.aload_n 0, 1) := by decide +kernel
theorem dX12_init_50 : decode cX12_init 50 = .ok (.bipush 8, 2) := by decide +kernel
theorem dX12_init_52 : decode cX12_init 52 = .ok (.newarray .int, 2) := by decide +kernel
theorem dX12_init_54 : decode cX12_init 54 = .ok (.putfield 30, 3) := by decide +kernel
theorem dX12_init_57 : decode cX12_init 57 = .ok (.aload_n 0, 1) := by decide +kernel
theorem dX12_init_58 : decode cX12_init 58 = .ok (.bipush 6, 2) := by decide +kernel
theorem dX12_init_60 : decode cX12_init 60 = .ok (.newarray .int, 2) := by decide +kernel
theorem dX12_init_62 : decode cX12_init 62 = .ok (.putfield 33, 3) := by decide +kernel
theorem dX12_init_65 : decode cX12_init 65 = .ok (.aload_n 0, 1) := by decide +kernel
theorem dX12_init_66 : decode cX12_init 66 = .ok (.bipush 6, 2) := by decide +kernel
theorem dX12_init_68 : decode cX12_init 68 = .ok (.newarray .int, 2) := by decide +kernel
theorem dX12_init_70 : decode cX12_init 70 = .ok (.putfield 36, 3) := by decide +kernel
theorem dX12_init_73 : decode cX12_init 73 = .ok (.aload_n 0, 1) := by decide +kernel
theorem dX12_init_74 : decode cX12_init 74 = .ok (.iconst 5, 1) := by decide +kernel
theorem dX12_init_75 : decode cX12_init 75 = .ok (.newarray .int, 2) := by decide +kernel
theorem dX12_init_77 : decode cX12_init 77 = .ok (.putfield 39, 3) := by decide +kernel
theorem dX12_init_80 : decode cX12_init 80 = .ok (.aload_n 0, 1) := by decide +kernel
theorem dX12_init_81 : decode cX12_init 81 = .ok (.iconst 5, 1) := by decide +kernel
theorem dX12_init_82 : decode cX12_init 82 = .ok (.newarray .int, 2) := by decide +kernel
theorem dX12_init_84 : decode cX12_init 84 = .ok (.putfield 42, 3) := by decide +kernel
theorem dX12_init_87 : decode cX12_init 87 = .ok (.aload_n 0, 1) := by decide +kernel
theorem dX12_init_88 : decode cX12_init 88 = .ok (.bipush 40, 2) := by decide +kernel
theorem dX12_init_90 : decode cX12_init 90 = .ok (.newarray .int, 2) := by decide +kernel
theorem dX12_init_92 : decode cX12_init 92 = .ok (.putfield 45, 3) := by decide +kernel
theorem dX12_init_95 : decode cX12_init 95 = .ok (.aload_n 0, 1) := by decide +kernel
theorem dX12_init_96 : decode cX12_init 96 = .ok (.bipush 40, 2) := by decide +kernel
theorem dX12_init_98 : decode cX12_init 98 = .ok (.newarray .int, 2) := by decide +kernel
theorem dX12_init_100 : decode cX12_init 100 = .ok (.putfield 48, 3) := by decide +kernel
theorem dX12_init_103 : decode cX12_init 103 = .ok (.aload_n 0, 1) := by decide +kernel
theorem dX12_init_104 : decode cX12_init 104 = .ok (.sipush 150, 3) := by decide +kernel
theorem dX12_init_107 : decode cX12_init 107 = .ok (.newarray .int, 2) := by decide +kernel
theorem dX12_init_109 : decode cX12_init 109 = .ok (.putfield 51, 3) := by decide +kernel
theorem dX12_init_112 : decode cX12_init 112 = .ok (.aload_n 0, 1) := by decide +kernel
theorem dX12_init_113 : decode cX12_init 113 = .ok (.bipush 69, 2) := by decide +kernel
theorem dX12_init_115 : decode cX12_init 115 = .ok (.newarray .int, 2) := by decide +kernel
theorem dX12_init_117 : decode cX12_init 117 = .ok (.putfield 54, 3) := by decide +kernel
theorem dX12_init_120 : decode cX12_init 120 = .ok (.aload_n 0, 1) := by decide +kernel
theorem dX12_init_121 : decode cX12_init 121 = .ok (.iconst 3, 1) := by decide +kernel
theorem dX12_init_122 : decode cX12_init 122 = .ok (.newarray .int, 2) := by decide +kernel
theorem dX12_init_124 : decode cX12_init 124 = .ok (.putfield 57, 3) := by decide +kernel
theorem dX12_init_127 : decode cX12_init 127 = .ok (.aload_n 0, 1) := by decide +kernel
theorem dX12_init_128 : decode cX12_init 128 = .ok (.getfield 7, 3) := by decide +kernel
theorem dX12_init_131 : decode cX12_init 131 = .ok (.invokestatic 60, 3) := by decide +kernel
theorem dX12_init_134 : decode cX12_init 134 = .ok (.return_, 1) := by decide +kernel
theorem dX12_in_0 : decode cX12_in 0 = .ok (.lload_n 0, 1) := by decide +kernel
theorem dX12_in_1 : decode cX12_in 1 = .ok (.lload_n 2, 1) := by decide +kernel
theorem dX12_in_2 : decode cX12_in 2 = .ok (.lcmp, 1) := by decide +kernel
theorem dX12_in_3 : decode cX12_in 3 = .ok (.ifCond .lt 14, 3) := by decide +kernel
theorem dX12_in_6 : decode cX12_in 6 = .ok (.lload_n 0, 1) := by decide +kernel
theorem dX12_in_7 : decode cX12_in 7 = .ok (.lload 4, 2) := by decide +kernel
theorem dX12_in_9 : decode cX12_in 9 = .ok (.lcmp, 1) := by decide +kernel
theorem dX12_in_10 : decode cX12_in 10 = .ok (.ifCond .gt 7, 3) := by decide +kernel
theorem dX12_in_13 : decode cX12_in 13 = .ok (.iconst 1, 1) := by decide +kernel
theorem dX12_in_14 : decode cX12_in 14 = .ok (.goto 4, 3) := by decide +kernel
theorem dX12_in_17 : decode cX12_in 17 = .ok (.iconst 0, 1) := by decide +kernel
theorem dX12_in_18 : decode cX12_in 18 = .ok (.ireturn, 1) := by decide +kernel
theorem dX12_bad_0 : decode cX12_bad 0 = .ok (.aload_n 0, 1) := by decide +kernel
theorem dX12_bad_1 : decode cX12_bad 1 = .ok (.getfield 20, 3) := by decide +kernel
theorem dX12_bad_4 : decode cX12_bad 4 = .ok (.iconst 0, 1) := by decide +kernel
theorem dX12_bad_5 : decode cX12_bad 5 = .ok (.dup2, 1) := by decide +kernel
theorem dX12_bad_6 : decode cX12_bad 6 = .ok (.iaload, 1) := by decide +kernel
theorem dX12_bad_7 : decode cX12_bad 7 = .ok (.iconst 1, 1) := by decide +kernel
theorem dX12_bad_8 : decode cX12_bad 8 = .ok (.iadd, 1) := by decide +kernel
theorem dX12_bad_9 : decode cX12_bad 9 = .ok (.iastore, 1) := by decide +kernel
theorem dX12_bad_10 : decode cX12_bad 10 = .ok (.iload_n 1, 1) := by decide +kernel
theorem dX12_bad_11 : decode cX12_bad 11 = .ok (.ireturn, 1) := by decide +kernel
theorem dX12_no_0 : decode cX12_no 0 = .ok (.aload_n 0, 1) := by decide +kernel
theorem dX12_no_1 : decode cX12_no 1 = .ok (.getfield 20, 3) := by decide +kernel
theorem dX12_no_4 : decode cX12_no 4 = .ok (.iconst 1, 1) := by decide +kernel
theorem dX12_no_5 : decode cX12_no 5 = .ok (.dup2, 1) := by decide +kernel
theorem dX12_no_6 : decode cX12_no 6 = .ok (.iaload, 1) := by decide +kernel
theorem dX12_no_7 : decode cX12_no 7 = .ok (.iconst 1, 1) := by decide +kernel
theorem dX12_no_8 : decode cX12_no 8 = .ok (.iadd, 1) := by decide +kernel
theorem dX12_no_9 : decode cX12_no 9 = .ok (.iastore, 1) := by decide +kernel
theorem dX12_no_10 : decode cX12_no 10 = .ok (.bipush (-3), 2) := by decide +kernel
theorem dX12_no_12 : decode cX12_no 12 = .ok (.ireturn, 1) := by decide +kernel
theorem dX12_full_0 : decode cX12_full 0 = .ok (.aload_n 0, 1) := by decide +kernel
theorem dX12_full_1 : decode cX12_full 1 = .ok (.getfield 20, 3) := by decide +kernel
theorem dX12_full_4 : decode cX12_full 4 = .ok (.iconst 2, 1) := by decide +kernel
theorem dX12_full_5 : decode cX12_full 5 = .ok (.dup2, 1) := by decide +kernel
theorem dX12_full_6 : decode cX12_full 6 = .ok (.iaload, 1) := by decide +kernel
theorem dX12_full_7 : decode cX12_full 7 = .ok (.iconst 1, 1) := by decide +kernel
theorem dX12_full_8 : decode cX12_full 8 = .ok (.iadd, 1) := by decide +kernel
theorem dX12_full_9 : decode cX12_full 9 = .ok (.iastore, 1) := by decide +kernel
theorem dX12_full_10 : decode cX12_full 10 = .ok (.bipush (-4), 2) := by decide +kernel
theorem dX12_full_12 : decode cX12_full 12 = .ok (.ireturn, 1) := by decide +kernel
theorem dX12_begin_0 : decode cX12_begin 0 = .ok (.iconst 0, 1) := by decide +kernel
theorem dX12_begin_1 : decode cX12_begin 1 = .ok (.istore_n 1, 1) := by decide +kernel
theorem dX12_begin_2 : decode cX12_begin 2 = .ok (.iload_n 1, 1) := by decide +kernel
theorem dX12_begin_3 : decode cX12_begin 3 = .ok (.bipush 69, 2) := by decide +kernel
theorem dX12_begin_5 : decode cX12_begin 5 = .ok (.if_icmp .ge 13, 3) := by decide +kernel
theorem dX12_begin_8 : decode cX12_begin 8 = .ok (.aload_n 0, 1) := by decide +kernel
theorem dX12_begin_9 : decode cX12_begin 9 = .ok (.iload_n 1, 1) := by decide +kernel
theorem dX12_begin_10 : decode cX12_begin 10 = .ok (.iconst 0, 1) := by decide +kernel
theorem dX12_begin_11 : decode cX12_begin 11 = .ok (.iastore, 1) := by decide +kernel
theorem dX12_begin_12 : decode cX12_begin 12 = .ok (.iinc 1 1, 3) := by decide +kernel
theorem dX12_begin_15 : decode cX12_begin 15 = .ok (.goto (-13), 3) := by decide +kernel
theorem dX12_begin_18 : decode cX12_begin 18 = .ok (.aload_n 0, 1) := by decide +kernel
theorem dX12_begin_19 : decode cX12_begin 19 = .ok (.iconst 5, 1) := by decide +kernel
theorem dX12_begin_20 : decode cX12_begin 20 = .ok (.iconst (-1), 1) := by decide +kernel
theorem dX12_begin_21 : decode cX12_begin 21 = .ok (.iastore, 1) := by decide +kernel
theorem dX12_begin_22 : decode cX12_begin 22 = .ok (.return_, 1) := by decide +kernel
theorem dX12_ledges_0 : decode cX12_ledges 0 = .ok (.aload_n 0, 1) := by decide +kernel
theorem dX12_ledges_1 : decode cX12_ledges 1 = .ok (.getfield 7, 3) := by decide +kernel
theorem dX12_ledges_4 : decode cX12_ledges 4 = .ok (.iconst 0, 1) := by decide +kernel
theorem dX12_ledges_5 : decode cX12_ledges 5 = .ok (.iaload, 1) := by decide +kernel
theorem dX12_ledges_6 : decode cX12_ledges 6 = .ok (.ireturn, 1) := by decide +kernel
theorem dX12_voters_0 : decode cX12_voters 0 = .ok (.aload_n 0, 1) := by decide +kernel
theorem dX12_voters_1 : decode cX12_voters 1 = .ok (.getfield 7, 3) := by decide +kernel
theorem dX12_voters_4 : decode cX12_voters 4 = .ok (.iconst 1, 1) := by decide +kernel
theorem dX12_voters_5 : decode cX12_voters 5 = .ok (.iaload, 1) := by decide +kernel
theorem dX12_voters_6 : decode cX12_voters 6 = .ok (.ireturn, 1) := by decide +kernel
theorem dX12_isLedge_0 : decode cX12_isLedge 0 = .ok (.iload_n 1, 1) := by decide +kernel
theorem dX12_isLedge_1 : decode cX12_isLedge 1 = .ok (.i2l, 1) := by decide +kernel
theorem dX12_isLedge_2 : decode cX12_isLedge 2 = .ok (.lconst 0, 1) := by decide +kernel
theorem dX12_isLedge_3 : decode cX12_isLedge 3 = .ok (.aload_n 0, 1) := by decide +kernel
theorem dX12_isLedge_4 : decode cX12_isLedge 4 = .ok (.invokevirtual 64, 3) := by decide +kernel
theorem dX12_isLedge_7 : decode cX12_isLedge 7 = .ok (.iconst 1, 1) := by decide +kernel
theorem dX12_isLedge_8 : decode cX12_isLedge 8 = .ok (.isub, 1) := by decide +kernel
theorem dX12_isLedge_9 : decode cX12_isLedge 9 = .ok (.i2l, 1) := by decide +kernel
theorem dX12_isLedge_10 : decode cX12_isLedge 10 = .ok (.invokestatic 68, 3) := by decide +kernel
theorem dX12_isLedge_13 : decode cX12_isLedge 13 = .ok (.ireturn, 1) := by decide +kernel
theorem dX12_isVoter_0 : decode cX12_isVoter 0 = .ok (.iload_n 1, 1) := by decide +kernel
theorem dX12_isVoter_1 : decode cX12_isVoter 1 = .ok (.i2l, 1) := by decide +kernel
theorem dX12_isVoter_2 : decode cX12_isVoter 2 = .ok (.lconst 0, 1) := by decide +kernel
theorem dX12_isVoter_3 : decode cX12_isVoter 3 = .ok (.aload_n 0, 1) := by decide +kernel
theorem dX12_isVoter_4 : decode cX12_isVoter 4 = .ok (.invokevirtual 72, 3) := by decide +kernel
theorem dX12_isVoter_7 : decode cX12_isVoter 7 = .ok (.iconst 1, 1) := by decide +kernel
theorem dX12_isVoter_8 : decode cX12_isVoter 8 = .ok (.isub, 1) := by decide +kernel
theorem dX12_isVoter_9 : decode cX12_isVoter 9 = .ok (.i2l, 1) := by decide +kernel
theorem dX12_isVoter_10 : decode cX12_isVoter 10 = .ok (.invokestatic 68, 3) := by decide +kernel
theorem dX12_isVoter_13 : decode cX12_isVoter 13 = .ok (.ireturn, 1) := by decide +kernel
theorem dX12_get_0 : decode cX12_get 0 = .ok (.aload_n 0, 1) := by decide +kernel
theorem dX12_get_1 : decode cX12_get 1 = .ok (.getfield 7, 3) := by decide +kernel
theorem dX12_get_4 : decode cX12_get 4 = .ok (.bipush 7, 2) := by decide +kernel
theorem dX12_get_6 : decode cX12_get 6 = .ok (.iconst 4, 1) := by decide +kernel
theorem dX12_get_7 : decode cX12_get 7 = .ok (.iload_n 1, 1) := by decide +kernel
theorem dX12_get_8 : decode cX12_get 8 = .ok (.imul, 1) := by decide +kernel
theorem dX12_get_9 : decode cX12_get 9 = .ok (.iadd, 1) := by decide +kernel
theorem dX12_get_10 : decode cX12_get 10 = .ok (.iload_n 2, 1) := by decide +kernel
theorem dX12_get_11 : decode cX12_get 11 = .ok (.iadd, 1) := by decide +kernel
theorem dX12_get_12 : decode cX12_get 12 = .ok (.iaload, 1) := by decide +kernel
theorem dX12_get_13 : decode cX12_get 13 = .ok (.ireturn, 1) := by decide +kernel
theorem dX12_tells_0 : decode cX12_tells 0 = .ok (.aload_n 0, 1) := by decide +kernel
theorem dX12_tells_1 : decode cX12_tells 1 = .ok (.getfield 7, 3) := by decide +kernel
theorem dX12_tells_4 : decode cX12_tells 4 = .ok (.bipush 39, 2) := by decide +kernel
theorem dX12_tells_6 : decode cX12_tells 6 = .ok (.iconst 3, 1) := by decide +kernel
theorem dX12_tells_7 : decode cX12_tells 7 = .ok (.iload_n 1, 1) := by decide +kernel
theorem dX12_tells_8 : decode cX12_tells 8 = .ok (.imul, 1) := by decide +kernel
theorem dX12_tells_9 : decode cX12_tells 9 = .ok (.iadd, 1) := by decide +kernel
theorem dX12_tells_10 : decode cX12_tells 10 = .ok (.iload_n 2, 1) := by decide +kernel
theorem dX12_tells_11 : decode cX12_tells 11 = .ok (.iadd, 1) := by decide +kernel
theorem dX12_tells_12 : decode cX12_tells 12 = .ok (.iaload, 1) := by decide +kernel
theorem dX12_tells_13 : decode cX12_tells 13 = .ok (.ireturn, 1) := by decide +kernel
theorem dX12_mountain_0 : decode cX12_mountain 0 = .ok (.aload_n 0, 1) := by decide +kernel
theorem dX12_mountain_1 : decode cX12_mountain 1 = .ok (.invokevirtual 64, 3) := by decide +kernel
theorem dX12_mountain_4 : decode cX12_mountain 4 = .ok (.istore_n 1, 1) := by decide +kernel
theorem dX12_mountain_5 : decode cX12_mountain 5 = .ok (.aload_n 0, 1) := by decide +kernel
theorem dX12_mountain_6 : decode cX12_mountain 6 = .ok (.getfield 7, 3) := by decide +kernel
theorem dX12_mountain_9 : decode cX12_mountain 9 = .ok (.invokestatic 60, 3) := by decide +kernel
theorem dX12_mountain_12 : decode cX12_mountain 12 = .ok (.iload_n 1, 1) := by decide +kernel
theorem dX12_mountain_13 : decode cX12_mountain 13 = .ok (.ireturn, 1) := by decide +kernel
theorem dX12_layLedge_0 : decode cX12_layLedge 0 = .ok (.bipush 7, 2) := by decide +kernel
theorem dX12_layLedge_2 : decode cX12_layLedge 2 = .ok (.iconst 4, 1) := by decide +kernel
theorem dX12_layLedge_3 : decode cX12_layLedge 3 = .ok (.aload_n 0, 1) := by decide +kernel
theorem dX12_layLedge_4 : decode cX12_layLedge 4 = .ok (.iconst 0, 1) := by decide +kernel
theorem dX12_layLedge_5 : decode cX12_layLedge 5 = .ok (.iaload, 1) := by decide +kernel
theorem dX12_layLedge_6 : decode cX12_layLedge 6 = .ok (.imul, 1) := by decide +kernel
theorem dX12_layLedge_7 : decode cX12_layLedge 7 = .ok (.iadd, 1) := by decide +kernel
theorem dX12_layLedge_8 : decode cX12_layLedge 8 = .ok (.istore 4, 2) := by decide +kernel
theorem dX12_layLedge_10 : decode cX12_layLedge 10 = .ok (.aload_n 0, 1) := by decide +kernel
theorem dX12_layLedge_11 : decode cX12_layLedge 11 = .ok (.iload 4, 2) := by decide +kernel
theorem dX12_layLedge_13 : decode cX12_layLedge 13 = .ok (.iconst 0, 1) := by decide +kernel
theorem dX12_layLedge_14 : decode cX12_layLedge 14 = .ok (.iadd, 1) := by decide +kernel
theorem dX12_layLedge_15 : decode cX12_layLedge 15 = .ok (.iload_n 1, 1) := by decide +kernel
theorem dX12_layLedge_16 : decode cX12_layLedge 16 = .ok (.iastore, 1) := by decide +kernel
theorem dX12_layLedge_17 : decode cX12_layLedge 17 = .ok (.aload_n 0, 1) := by decide +kernel
theorem dX12_layLedge_18 : decode cX12_layLedge 18 = .ok (.iload 4, 2) := by decide +kernel
theorem dX12_layLedge_20 : decode cX12_layLedge 20 = .ok (.iconst 1, 1) := by decide +kernel
theorem dX12_layLedge_21 : decode cX12_layLedge 21 = .ok (.iadd, 1) := by decide +kernel
theorem dX12_layLedge_22 : decode cX12_layLedge 22 = .ok (.iload_n 2, 1) := by decide +kernel
theorem dX12_layLedge_23 : decode cX12_layLedge 23 = .ok (.iastore, 1) := by decide +kernel
theorem dX12_layLedge_24 : decode cX12_layLedge 24 = .ok (.aload_n 0, 1) := by decide +kernel
theorem dX12_layLedge_25 : decode cX12_layLedge 25 = .ok (.iload 4, 2) := by decide +kernel
theorem dX12_layLedge_27 : decode cX12_layLedge 27 = .ok (.iconst 2, 1) := by decide +kernel
theorem dX12_layLedge_28 : decode cX12_layLedge 28 = .ok (.iadd, 1) := by decide +kernel
theorem dX12_layLedge_29 : decode cX12_layLedge 29 = .ok (.iconst 0, 1) := by decide +kernel
theorem dX12_layLedge_30 : decode cX12_layLedge 30 = .ok (.iastore, 1) := by decide +kernel
theorem dX12_layLedge_31 : decode cX12_layLedge 31 = .ok (.aload_n 0, 1) := by decide +kernel
theorem dX12_layLedge_32 : decode cX12_layLedge 32 = .ok (.iload 4, 2) := by decide +kernel
theorem dX12_layLedge_34 : decode cX12_layLedge 34 = .ok (.iconst 3, 1) := by decide +kernel
theorem dX12_layLedge_35 : decode cX12_layLedge 35 = .ok (.iadd, 1) := by decide +kernel
theorem dX12_layLedge_36 : decode cX12_layLedge 36 = .ok (.iload_n 3, 1) := by decide +kernel
theorem dX12_layLedge_37 : decode cX12_layLedge 37 = .ok (.iastore, 1) := by decide +kernel
theorem dX12_layLedge_38 : decode cX12_layLedge 38 = .ok (.aload_n 0, 1) := by decide +kernel
theorem dX12_layLedge_39 : decode cX12_layLedge 39 = .ok (.iconst 0, 1) := by decide +kernel
theorem dX12_layLedge_40 : decode cX12_layLedge 40 = .ok (.dup2, 1) := by decide +kernel
theorem dX12_layLedge_41 : decode cX12_layLedge 41 = .ok (.iaload, 1) := by decide +kernel
theorem dX12_layLedge_42 : decode cX12_layLedge 42 = .ok (.iconst 1, 1) := by decide +kernel
theorem dX12_layLedge_43 : decode cX12_layLedge 43 = .ok (.iadd, 1) := by decide +kernel
theorem dX12_layLedge_44 : decode cX12_layLedge 44 = .ok (.iastore, 1) := by decide +kernel
theorem dX12_layLedge_45 : decode cX12_layLedge 45 = .ok (.return_, 1) := by decide +kernel
theorem dX12_ledge_0 : decode cX12_ledge 0 = .ok (.iload_n 1, 1) := by decide +kernel
theorem dX12_ledge_1 : decode cX12_ledge 1 = .ok (.i2l, 1) := by decide +kernel
theorem dX12_ledge_2 : decode cX12_ledge 2 = .ok (.lconst 1, 1) := by decide +kernel
theorem dX12_ledge_3 : decode cX12_ledge 3 = .ok (.ldc2_w 75, 3) := by decide +kernel
theorem dX12_ledge_6 : decode cX12_ledge 6 = .ok (.invokestatic 68, 3) := by decide +kernel
theorem dX12_ledge_9 : decode cX12_ledge 9 = .ok (.ifCond .eq 33, 3) := by decide +kernel
theorem dX12_ledge_12 : decode cX12_ledge 12 = .ok (.iload_n 2, 1) := by decide +kernel
theorem dX12_ledge_13 : decode cX12_ledge 13 = .ok (.i2l, 1) := by decide +kernel
theorem dX12_ledge_14 : decode cX12_ledge 14 = .ok (.lconst 0, 1) := by decide +kernel
theorem dX12_ledge_15 : decode cX12_ledge 15 = .ok (.ldc2_w 77, 3) := by decide +kernel
theorem dX12_ledge_18 : decode cX12_ledge 18 = .ok (.invokestatic 68, 3) := by decide +kernel
theorem dX12_ledge_21 : decode cX12_ledge 21 = .ok (.ifCond .eq 21, 3) := by decide +kernel
theorem dX12_ledge_24 : decode cX12_ledge 24 = .ok (.iload_n 3, 1) := by decide +kernel
theorem dX12_ledge_25 : decode cX12_ledge 25 = .ok (.i2l, 1) := by decide +kernel
theorem dX12_ledge_26 : decode cX12_ledge 26 = .ok (.ldc2_w 79, 3) := by decide +kernel
theorem dX12_ledge_29 : decode cX12_ledge 29 = .ok (.aload_n 0, 1) := by decide +kernel
theorem dX12_ledge_30 : decode cX12_ledge 30 = .ok (.invokevirtual 64, 3) := by decide +kernel
theorem dX12_ledge_33 : decode cX12_ledge 33 = .ok (.iconst 1, 1) := by decide +kernel
theorem dX12_ledge_34 : decode cX12_ledge 34 = .ok (.isub, 1) := by decide +kernel
theorem dX12_ledge_35 : decode cX12_ledge 35 = .ok (.i2l, 1) := by decide +kernel
theorem dX12_ledge_36 : decode cX12_ledge 36 = .ok (.invokestatic 68, 3) := by decide +kernel
theorem dX12_ledge_39 : decode cX12_ledge 39 = .ok (.ifCond .ne 10, 3) := by decide +kernel
theorem dX12_ledge_42 : decode cX12_ledge 42 = .ok (.aload_n 0, 1) := by decide +kernel
theorem dX12_ledge_43 : decode cX12_ledge 43 = .ok (.bipush (-2), 2) := by decide +kernel
theorem dX12_ledge_45 : decode cX12_ledge 45 = .ok (.invokevirtual 81, 3) := by decide +kernel
theorem dX12_ledge_48 : decode cX12_ledge 48 = .ok (.ireturn, 1) := by decide +kernel
theorem dX12_ledge_49 : decode cX12_ledge 49 = .ok (.aload_n 0, 1) := by decide +kernel
theorem dX12_ledge_50 : decode cX12_ledge 50 = .ok (.invokevirtual 64, 3) := by decide +kernel
theorem dX12_ledge_53 : decode cX12_ledge 53 = .ok (.bipush 8, 2) := by decide +kernel
theorem dX12_ledge_55 : decode cX12_ledge 55 = .ok (.if_icmp .ne 8, 3) := by decide +kernel
theorem dX12_ledge_58 : decode cX12_ledge 58 = .ok (.aload_n 0, 1) := by decide +kernel
theorem dX12_ledge_59 : decode cX12_ledge 59 = .ok (.invokevirtual 85, 3) := by decide +kernel
theorem dX12_ledge_62 : decode cX12_ledge 62 = .ok (.ireturn, 1) := by decide +kernel
theorem dX12_ledge_63 : decode cX12_ledge 63 = .ok (.aload_n 0, 1) := by decide +kernel
theorem dX12_ledge_64 : decode cX12_ledge 64 = .ok (.getfield 7, 3) := by decide +kernel
theorem dX12_ledge_67 : decode cX12_ledge 67 = .ok (.iload_n 1, 1) := by decide +kernel
theorem dX12_ledge_68 : decode cX12_ledge 68 = .ok (.iload_n 2, 1) := by decide +kernel
theorem dX12_ledge_69 : decode cX12_ledge 69 = .ok (.iload_n 3, 1) := by decide +kernel
theorem dX12_ledge_70 : decode cX12_ledge 70 = .ok (.invokestatic 88, 3) := by decide +kernel
theorem dX12_ledge_73 : decode cX12_ledge 73 = .ok (.aload_n 0, 1) := by decide +kernel
theorem dX12_ledge_74 : decode cX12_ledge 74 = .ok (.getfield 7, 3) := by decide +kernel
theorem dX12_ledge_77 : decode cX12_ledge 77 = .ok (.iconst 4, 1) := by decide +kernel
theorem dX12_ledge_78 : decode cX12_ledge 78 = .ok (.iconst 0, 1) := by decide +kernel
theorem dX12_ledge_79 : decode cX12_ledge 79 = .ok (.iastore, 1) := by decide +kernel
theorem dX12_ledge_80 : decode cX12_ledge 80 = .ok (.aload_n 0, 1) := by decide +kernel
theorem dX12_ledge_81 : decode cX12_ledge 81 = .ok (.invokevirtual 64, 3) := by decide +kernel
theorem dX12_ledge_84 : decode cX12_ledge 84 = .ok (.iconst 1, 1) := by decide +kernel
theorem dX12_ledge_85 : decode cX12_ledge 85 = .ok (.isub, 1) := by decide +kernel
theorem dX12_ledge_86 : decode cX12_ledge 86 = .ok (.ireturn, 1) := by decide +kernel
theorem dX12_layVoter_0 : decode cX12_layVoter 0 = .ok (.bipush 39, 2) := by decide +kernel
theorem dX12_layVoter_2 : decode cX12_layVoter 2 = .ok (.iconst 3, 1) := by decide +kernel
theorem dX12_layVoter_3 : decode cX12_layVoter 3 = .ok (.aload_n 0, 1) := by decide +kernel
theorem dX12_layVoter_4 : decode cX12_layVoter 4 = .ok (.iconst 1, 1) := by decide +kernel
theorem dX12_layVoter_5 : decode cX12_layVoter 5 = .ok (.iaload, 1) := by decide +kernel
theorem dX12_layVoter_6 : decode cX12_layVoter 6 = .ok (.imul, 1) := by decide +kernel
theorem dX12_layVoter_7 : decode cX12_layVoter 7 = .ok (.iadd, 1) := by decide +kernel
theorem dX12_layVoter_8 : decode cX12_layVoter 8 = .ok (.istore 4, 2) := by decide +kernel
theorem dX12_layVoter_10 : decode cX12_layVoter 10 = .ok (.aload_n 0, 1) := by decide +kernel
theorem dX12_layVoter_11 : decode cX12_layVoter 11 = .ok (.iload 4, 2) := by decide +kernel
theorem dX12_layVoter_13 : decode cX12_layVoter 13 = .ok (.iconst 0, 1) := by decide +kernel
theorem dX12_layVoter_14 : decode cX12_layVoter 14 = .ok (.iadd, 1) := by decide +kernel
theorem dX12_layVoter_15 : decode cX12_layVoter 15 = .ok (.iload_n 1, 1) := by decide +kernel
theorem dX12_layVoter_16 : decode cX12_layVoter 16 = .ok (.iastore, 1) := by decide +kernel
theorem dX12_layVoter_17 : decode cX12_layVoter 17 = .ok (.aload_n 0, 1) := by decide +kernel
theorem dX12_layVoter_18 : decode cX12_layVoter 18 = .ok (.iload 4, 2) := by decide +kernel
theorem dX12_layVoter_20 : decode cX12_layVoter 20 = .ok (.iconst 1, 1) := by decide +kernel
theorem dX12_layVoter_21 : decode cX12_layVoter 21 = .ok (.iadd, 1) := by decide +kernel
theorem dX12_layVoter_22 : decode cX12_layVoter 22 = .ok (.iload_n 2, 1) := by decide +kernel
theorem dX12_layVoter_23 : decode cX12_layVoter 23 = .ok (.iastore, 1) := by decide +kernel
theorem dX12_layVoter_24 : decode cX12_layVoter 24 = .ok (.aload_n 0, 1) := by decide +kernel
theorem dX12_layVoter_25 : decode cX12_layVoter 25 = .ok (.iload 4, 2) := by decide +kernel
theorem dX12_layVoter_27 : decode cX12_layVoter 27 = .ok (.iconst 2, 1) := by decide +kernel
theorem dX12_layVoter_28 : decode cX12_layVoter 28 = .ok (.iadd, 1) := by decide +kernel
theorem dX12_layVoter_29 : decode cX12_layVoter 29 = .ok (.iload_n 3, 1) := by decide +kernel
theorem dX12_layVoter_30 : decode cX12_layVoter 30 = .ok (.iastore, 1) := by decide +kernel
theorem dX12_layVoter_31 : decode cX12_layVoter 31 = .ok (.aload_n 0, 1) := by decide +kernel
theorem dX12_layVoter_32 : decode cX12_layVoter 32 = .ok (.iconst 1, 1) := by decide +kernel
theorem dX12_layVoter_33 : decode cX12_layVoter 33 = .ok (.dup2, 1) := by decide +kernel
theorem dX12_layVoter_34 : decode cX12_layVoter 34 = .ok (.iaload, 1) := by decide +kernel
theorem dX12_layVoter_35 : decode cX12_layVoter 35 = .ok (.iconst 1, 1) := by decide +kernel
theorem dX12_layVoter_36 : decode cX12_layVoter 36 = .ok (.iadd, 1) := by decide +kernel
theorem dX12_layVoter_37 : decode cX12_layVoter 37 = .ok (.iastore, 1) := by decide +kernel
theorem dX12_layVoter_38 : decode cX12_layVoter 38 = .ok (.return_, 1) := by decide +kernel
theorem dX12_voter_0 : decode cX12_voter 0 = .ok (.iload_n 1, 1) := by decide +kernel
theorem dX12_voter_1 : decode cX12_voter 1 = .ok (.i2l, 1) := by decide +kernel
theorem dX12_voter_2 : decode cX12_voter 2 = .ok (.lconst 0, 1) := by decide +kernel
theorem dX12_voter_3 : decode cX12_voter 3 = .ok (.ldc2_w 92, 3) := by decide +kernel
theorem dX12_voter_6 : decode cX12_voter 6 = .ok (.invokestatic 68, 3) := by decide +kernel
theorem dX12_voter_9 : decode cX12_voter 9 = .ok (.ifCond .eq 23, 3) := by decide +kernel
theorem dX12_voter_12 : decode cX12_voter 12 = .ok (.aload_n 0, 1) := by decide +kernel
theorem dX12_voter_13 : decode cX12_voter 13 = .ok (.iload_n 2, 1) := by decide +kernel
theorem dX12_voter_14 : decode cX12_voter 14 = .ok (.invokevirtual 94, 3) := by decide +kernel
theorem dX12_voter_17 : decode cX12_voter 17 = .ok (.ifCond .eq 15, 3) := by decide +kernel
theorem dX12_voter_20 : decode cX12_voter 20 = .ok (.iload_n 3, 1) := by decide +kernel
theorem dX12_voter_21 : decode cX12_voter 21 = .ok (.i2l, 1) := by decide +kernel
theorem dX12_voter_22 : decode cX12_voter 22 = .ok (.lconst 1, 1) := by decide +kernel
theorem dX12_voter_23 : decode cX12_voter 23 = .ok (.ldc2_w 98, 3) := by decide +kernel
theorem dX12_voter_26 : decode cX12_voter 26 = .ok (.invokestatic 68, 3) := by decide +kernel
theorem dX12_voter_29 : decode cX12_voter 29 = .ok (.ifCond .ne 10, 3) := by decide +kernel
theorem dX12_voter_32 : decode cX12_voter 32 = .ok (.aload_n 0, 1) := by decide +kernel
theorem dX12_voter_33 : decode cX12_voter 33 = .ok (.bipush (-2), 2) := by decide +kernel
theorem dX12_voter_35 : decode cX12_voter 35 = .ok (.invokevirtual 81, 3) := by decide +kernel
theorem dX12_voter_38 : decode cX12_voter 38 = .ok (.ireturn, 1) := by decide +kernel
theorem dX12_voter_39 : decode cX12_voter 39 = .ok (.aload_n 0, 1) := by decide +kernel
theorem dX12_voter_40 : decode cX12_voter 40 = .ok (.invokevirtual 72, 3) := by decide +kernel
theorem dX12_voter_43 : decode cX12_voter 43 = .ok (.bipush 6, 2) := by decide +kernel
theorem dX12_voter_45 : decode cX12_voter 45 = .ok (.if_icmp .ne 8, 3) := by decide +kernel
theorem dX12_voter_48 : decode cX12_voter 48 = .ok (.aload_n 0, 1) := by decide +kernel
theorem dX12_voter_49 : decode cX12_voter 49 = .ok (.invokevirtual 85, 3) := by decide +kernel
theorem dX12_voter_52 : decode cX12_voter 52 = .ok (.ireturn, 1) := by decide +kernel
theorem dX12_voter_53 : decode cX12_voter 53 = .ok (.aload_n 0, 1) := by decide +kernel
theorem dX12_voter_54 : decode cX12_voter 54 = .ok (.getfield 7, 3) := by decide +kernel
theorem dX12_voter_57 : decode cX12_voter 57 = .ok (.iload_n 1, 1) := by decide +kernel
theorem dX12_voter_58 : decode cX12_voter 58 = .ok (.iload_n 2, 1) := by decide +kernel
theorem dX12_voter_59 : decode cX12_voter 59 = .ok (.iload_n 3, 1) := by decide +kernel
theorem dX12_voter_60 : decode cX12_voter 60 = .ok (.invokestatic 100, 3) := by decide +kernel
theorem dX12_voter_63 : decode cX12_voter 63 = .ok (.aload_n 0, 1) := by decide +kernel
theorem dX12_voter_64 : decode cX12_voter 64 = .ok (.getfield 7, 3) := by decide +kernel
theorem dX12_voter_67 : decode cX12_voter 67 = .ok (.iconst 4, 1) := by decide +kernel
theorem dX12_voter_68 : decode cX12_voter 68 = .ok (.iconst 0, 1) := by decide +kernel
theorem dX12_voter_69 : decode cX12_voter 69 = .ok (.iastore, 1) := by decide +kernel
theorem dX12_voter_70 : decode cX12_voter 70 = .ok (.aload_n 0, 1) := by decide +kernel
theorem dX12_voter_71 : decode cX12_voter 71 = .ok (.invokevirtual 72, 3) := by decide +kernel
theorem dX12_voter_74 : decode cX12_voter 74 = .ok (.iconst 1, 1) := by decide +kernel
theorem dX12_voter_75 : decode cX12_voter 75 = .ok (.isub, 1) := by decide +kernel
theorem dX12_voter_76 : decode cX12_voter 76 = .ok (.ireturn, 1) := by decide +kernel
theorem dX12_layHand_0 : decode cX12_layHand 0 = .ok (.iconst 0, 1) := by decide +kernel
theorem dX12_layHand_1 : decode cX12_layHand 1 = .ok (.istore_n 1, 1) := by decide +kernel
theorem dX12_layHand_2 : decode cX12_layHand 2 = .ok (.iload_n 1, 1) := by decide +kernel
theorem dX12_layHand_3 : decode cX12_layHand 3 = .ok (.aload_n 0, 1) := by decide +kernel
theorem dX12_layHand_4 : decode cX12_layHand 4 = .ok (.invokevirtual 64, 3) := by decide +kernel
theorem dX12_layHand_7 : decode cX12_layHand 7 = .ok (.if_icmp .ge 33, 3) := by decide +kernel
theorem dX12_layHand_10 : decode cX12_layHand 10 = .ok (.aload_n 0, 1) := by decide +kernel
theorem dX12_layHand_11 : decode cX12_layHand 11 = .ok (.getfield 27, 3) := by decide +kernel
theorem dX12_layHand_14 : decode cX12_layHand 14 = .ok (.iload_n 1, 1) := by decide +kernel
theorem dX12_layHand_15 : decode cX12_layHand 15 = .ok (.aload_n 0, 1) := by decide +kernel
theorem dX12_layHand_16 : decode cX12_layHand 16 = .ok (.iload_n 1, 1) := by decide +kernel
theorem dX12_layHand_17 : decode cX12_layHand 17 = .ok (.iconst 1, 1) := by decide +kernel
theorem dX12_layHand_18 : decode cX12_layHand 18 = .ok (.invokevirtual 103, 3) := by decide +kernel
theorem dX12_layHand_21 : decode cX12_layHand 21 = .ok (.iastore, 1) := by decide +kernel
theorem dX12_layHand_22 : decode cX12_layHand 22 = .ok (.aload_n 0, 1) := by decide +kernel
theorem dX12_layHand_23 : decode cX12_layHand 23 = .ok (.getfield 30, 3) := by decide +kernel
theorem dX12_layHand_26 : decode cX12_layHand 26 = .ok (.iload_n 1, 1) := by decide +kernel
theorem dX12_layHand_27 : decode cX12_layHand 27 = .ok (.aload_n 0, 1) := by decide +kernel
theorem dX12_layHand_28 : decode cX12_layHand 28 = .ok (.iload_n 1, 1) := by decide +kernel
theorem dX12_layHand_29 : decode cX12_layHand 29 = .ok (.iconst 2, 1) := by decide +kernel
theorem dX12_layHand_30 : decode cX12_layHand 30 = .ok (.invokevirtual 103, 3) := by decide +kernel
theorem dX12_layHand_33 : decode cX12_layHand 33 = .ok (.iastore, 1) := by decide +kernel
theorem dX12_layHand_34 : decode cX12_layHand 34 = .ok (.iinc 1 1, 3) := by decide +kernel
theorem dX12_layHand_37 : decode cX12_layHand 37 = .ok (.goto (-35), 3) := by decide +kernel
theorem dX12_layHand_40 : decode cX12_layHand 40 = .ok (.aload_n 0, 1) := by decide +kernel
theorem dX12_layHand_41 : decode cX12_layHand 41 = .ok (.aload_n 0, 1) := by decide +kernel
theorem dX12_layHand_42 : decode cX12_layHand 42 = .ok (.getfield 7, 3) := by decide +kernel
theorem dX12_layHand_45 : decode cX12_layHand 45 = .ok (.iconst 2, 1) := by decide +kernel
theorem dX12_layHand_46 : decode cX12_layHand 46 = .ok (.iaload, 1) := by decide +kernel
theorem dX12_layHand_47 : decode cX12_layHand 47 = .ok (.putfield 107, 3) := by decide +kernel
theorem dX12_layHand_50 : decode cX12_layHand 50 = .ok (.aload_n 0, 1) := by decide +kernel
theorem dX12_layHand_51 : decode cX12_layHand 51 = .ok (.aload_n 0, 1) := by decide +kernel
theorem dX12_layHand_52 : decode cX12_layHand 52 = .ok (.getfield 7, 3) := by decide +kernel
theorem dX12_layHand_55 : decode cX12_layHand 55 = .ok (.iconst 5, 1) := by decide +kernel
theorem dX12_layHand_56 : decode cX12_layHand 56 = .ok (.iaload, 1) := by decide +kernel
theorem dX12_layHand_57 : decode cX12_layHand 57 = .ok (.putfield 111, 3) := by decide +kernel
theorem dX12_layHand_60 : decode cX12_layHand 60 = .ok (.aload_n 0, 1) := by decide +kernel
theorem dX12_layHand_61 : decode cX12_layHand 61 = .ok (.aload_n 0, 1) := by decide +kernel
theorem dX12_layHand_62 : decode cX12_layHand 62 = .ok (.getfield 7, 3) := by decide +kernel
theorem dX12_layHand_65 : decode cX12_layHand 65 = .ok (.bipush 6, 2) := by decide +kernel
theorem dX12_layHand_67 : decode cX12_layHand 67 = .ok (.iaload, 1) := by decide +kernel
theorem dX12_layHand_68 : decode cX12_layHand 68 = .ok (.putfield 114, 3) := by decide +kernel
theorem dX12_layHand_71 : decode cX12_layHand 71 = .ok (.return_, 1) := by decide +kernel
theorem dX12_load_0 : decode cX12_load 0 = .ok (.aload_n 0, 1) := by decide +kernel
theorem dX12_load_1 : decode cX12_load 1 = .ok (.getfield 27, 3) := by decide +kernel
theorem dX12_load_4 : decode cX12_load 4 = .ok (.iload_n 1, 1) := by decide +kernel
theorem dX12_load_5 : decode cX12_load 5 = .ok (.iaload, 1) := by decide +kernel
theorem dX12_load_6 : decode cX12_load 6 = .ok (.aload_n 0, 1) := by decide +kernel
theorem dX12_load_7 : decode cX12_load 7 = .ok (.getfield 30, 3) := by decide +kernel
theorem dX12_load_10 : decode cX12_load 10 = .ok (.iload_n 1, 1) := by decide +kernel
theorem dX12_load_11 : decode cX12_load 11 = .ok (.iaload, 1) := by decide +kernel
theorem dX12_load_12 : decode cX12_load 12 = .ok (.iadd, 1) := by decide +kernel
theorem dX12_load_13 : decode cX12_load 13 = .ok (.ireturn, 1) := by decide +kernel
theorem dX12_firstOver_0 : decode cX12_firstOver 0 = .ok (.iconst 0, 1) := by decide +kernel
theorem dX12_firstOver_1 : decode cX12_firstOver 1 = .ok (.istore_n 1, 1) := by decide +kernel
theorem dX12_firstOver_2 : decode cX12_firstOver 2 = .ok (.iload_n 1, 1) := by decide +kernel
theorem dX12_firstOver_3 : decode cX12_firstOver 3 = .ok (.aload_n 0, 1) := by decide +kernel
theorem dX12_firstOver_4 : decode cX12_firstOver 4 = .ok (.invokevirtual 64, 3) := by decide +kernel
theorem dX12_firstOver_7 : decode cX12_firstOver 7 = .ok (.if_icmp .ge 25, 3) := by decide +kernel
theorem dX12_firstOver_10 : decode cX12_firstOver 10 = .ok (.aload_n 0, 1) := by decide +kernel
theorem dX12_firstOver_11 : decode cX12_firstOver 11 = .ok (.iload_n 1, 1) := by decide +kernel
theorem dX12_firstOver_12 : decode cX12_firstOver 12 = .ok (.invokevirtual 117, 3) := by decide +kernel
theorem dX12_firstOver_15 : decode cX12_firstOver 15 = .ok (.aload_n 0, 1) := by decide +kernel
theorem dX12_firstOver_16 : decode cX12_firstOver 16 = .ok (.iload_n 1, 1) := by decide +kernel
theorem dX12_firstOver_17 : decode cX12_firstOver 17 = .ok (.iconst 0, 1) := by decide +kernel
theorem dX12_firstOver_18 : decode cX12_firstOver 18 = .ok (.invokevirtual 103, 3) := by decide +kernel
theorem dX12_firstOver_21 : decode cX12_firstOver 21 = .ok (.if_icmp .le 5, 3) := by decide +kernel
theorem dX12_firstOver_24 : decode cX12_firstOver 24 = .ok (.iload_n 1, 1) := by decide +kernel
theorem dX12_firstOver_25 : decode cX12_firstOver 25 = .ok (.ireturn, 1) := by decide +kernel
theorem dX12_firstOver_26 : decode cX12_firstOver 26 = .ok (.iinc 1 1, 3) := by decide +kernel
theorem dX12_firstOver_29 : decode cX12_firstOver 29 = .ok (.goto (-27), 3) := by decide +kernel
theorem dX12_firstOver_32 : decode cX12_firstOver 32 = .ok (.iconst (-1), 1) := by decide +kernel
theorem dX12_firstOver_33 : decode cX12_firstOver 33 = .ok (.ireturn, 1) := by decide +kernel
theorem dX12_comesDown_0 : decode cX12_comesDown 0 = .ok (.iconst 0, 1) := by decide +kernel
theorem dX12_comesDown_1 : decode cX12_comesDown 1 = .ok (.istore_n 1, 1) := by decide +kernel
theorem dX12_comesDown_2 : decode cX12_comesDown 2 = .ok (.aload_n 0, 1) := by decide +kernel
theorem dX12_comesDown_3 : decode cX12_comesDown 3 = .ok (.iconst (-1), 1) := by decide +kernel
theorem dX12_comesDown_4 : decode cX12_comesDown 4 = .ok (.putfield 120, 3) := by decide +kernel
theorem dX12_comesDown_7 : decode cX12_comesDown 7 = .ok (.aload_n 0, 1) := by decide +kernel
theorem dX12_comesDown_8 : decode cX12_comesDown 8 = .ok (.iconst 0, 1) := by decide +kernel
theorem dX12_comesDown_9 : decode cX12_comesDown 9 = .ok (.putfield 123, 3) := by decide +kernel
theorem dX12_comesDown_12 : decode cX12_comesDown 12 = .ok (.aload_n 0, 1) := by decide +kernel
theorem dX12_comesDown_13 : decode cX12_comesDown 13 = .ok (.invokevirtual 126, 3) := by decide +kernel
theorem dX12_comesDown_16 : decode cX12_comesDown 16 = .ok (.istore_n 2, 1) := by decide +kernel
theorem dX12_comesDown_17 : decode cX12_comesDown 17 = .ok (.iload_n 2, 1) := by decide +kernel
theorem dX12_comesDown_18 : decode cX12_comesDown 18 = .ok (.iconst (-1), 1) := by decide +kernel
theorem dX12_comesDown_19 : decode cX12_comesDown 19 = .ok (.if_icmp .eq 89, 3) := by decide +kernel
theorem dX12_comesDown_22 : decode cX12_comesDown 22 = .ok (.aload_n 0, 1) := by decide +kernel
theorem dX12_comesDown_23 : decode cX12_comesDown 23 = .ok (.iload_n 2, 1) := by decide +kernel
theorem dX12_comesDown_24 : decode cX12_comesDown 24 = .ok (.iconst 3, 1) := by decide +kernel
theorem dX12_comesDown_25 : decode cX12_comesDown 25 = .ok (.invokevirtual 103, 3) := by decide +kernel
theorem dX12_comesDown_28 : decode cX12_comesDown 28 = .ok (.istore_n 3, 1) := by decide +kernel
theorem dX12_comesDown_29 : decode cX12_comesDown 29 = .ok (.iload_n 3, 1) := by decide +kernel
theorem dX12_comesDown_30 : decode cX12_comesDown 30 = .ok (.iconst (-1), 1) := by decide +kernel
theorem dX12_comesDown_31 : decode cX12_comesDown 31 = .ok (.if_icmp .eq 29, 3) := by decide +kernel
theorem dX12_comesDown_34 : decode cX12_comesDown 34 = .ok (.aload_n 0, 1) := by decide +kernel
theorem dX12_comesDown_35 : decode cX12_comesDown 35 = .ok (.getfield 27, 3) := by decide +kernel
theorem dX12_comesDown_38 : decode cX12_comesDown 38 = .ok (.iload_n 3, 1) := by decide +kernel
theorem dX12_comesDown_39 : decode cX12_comesDown 39 = .ok (.dup2, 1) := by decide +kernel
theorem dX12_comesDown_40 : decode cX12_comesDown 40 = .ok (.iaload, 1) := by decide +kernel
theorem dX12_comesDown_41 : decode cX12_comesDown 41 = .ok (.aload_n 0, 1) := by decide +kernel
theorem dX12_comesDown_42 : decode cX12_comesDown 42 = .ok (.iload_n 2, 1) := by decide +kernel
theorem dX12_comesDown_43 : decode cX12_comesDown 43 = .ok (.invokevirtual 117, 3) := by decide +kernel
theorem dX12_comesDown_46 : decode cX12_comesDown 46 = .ok (.iadd, 1) := by decide +kernel
theorem dX12_comesDown_47 : decode cX12_comesDown 47 = .ok (.iastore, 1) := by decide +kernel
theorem dX12_comesDown_48 : decode cX12_comesDown 48 = .ok (.aload_n 0, 1) := by decide +kernel
theorem dX12_comesDown_49 : decode cX12_comesDown 49 = .ok (.dup, 1) := by decide +kernel
theorem dX12_comesDown_50 : decode cX12_comesDown 50 = .ok (.getfield 123, 3) := by decide +kernel
theorem dX12_comesDown_53 : decode cX12_comesDown 53 = .ok (.iconst 1, 1) := by decide +kernel
theorem dX12_comesDown_54 : decode cX12_comesDown 54 = .ok (.iload_n 3, 1) := by decide +kernel
theorem dX12_comesDown_55 : decode cX12_comesDown 55 = .ok (.ishl, 1) := by decide +kernel
theorem dX12_comesDown_56 : decode cX12_comesDown 56 = .ok (.ior, 1) := by decide +kernel
theorem dX12_comesDown_57 : decode cX12_comesDown 57 = .ok (.putfield 123, 3) := by decide +kernel
theorem dX12_comesDown_60 : decode cX12_comesDown 60 = .ok (.aload_n 0, 1) := by decide +kernel
theorem dX12_comesDown_61 : decode cX12_comesDown 61 = .ok (.getfield 27, 3) := by decide +kernel
theorem dX12_comesDown_64 : decode cX12_comesDown 64 = .ok (.iload_n 2, 1) := by decide +kernel
theorem dX12_comesDown_65 : decode cX12_comesDown 65 = .ok (.iconst 0, 1) := by decide +kernel
theorem dX12_comesDown_66 : decode cX12_comesDown 66 = .ok (.iastore, 1) := by decide +kernel
theorem dX12_comesDown_67 : decode cX12_comesDown 67 = .ok (.aload_n 0, 1) := by decide +kernel
theorem dX12_comesDown_68 : decode cX12_comesDown 68 = .ok (.getfield 30, 3) := by decide +kernel
theorem dX12_comesDown_71 : decode cX12_comesDown 71 = .ok (.iload_n 2, 1) := by decide +kernel
theorem dX12_comesDown_72 : decode cX12_comesDown 72 = .ok (.iconst 0, 1) := by decide +kernel
theorem dX12_comesDown_73 : decode cX12_comesDown 73 = .ok (.iastore, 1) := by decide +kernel
theorem dX12_comesDown_74 : decode cX12_comesDown 74 = .ok (.aload_n 0, 1) := by decide +kernel
theorem dX12_comesDown_75 : decode cX12_comesDown 75 = .ok (.aload_n 0, 1) := by decide +kernel
theorem dX12_comesDown_76 : decode cX12_comesDown 76 = .ok (.getfield 120, 3) := by decide +kernel
theorem dX12_comesDown_79 : decode cX12_comesDown 79 = .ok (.iconst (-1), 1) := by decide +kernel
theorem dX12_comesDown_80 : decode cX12_comesDown 80 = .ok (.if_icmp .ne 7, 3) := by decide +kernel
theorem dX12_comesDown_83 : decode cX12_comesDown 83 = .ok (.iload_n 2, 1) := by decide +kernel
theorem dX12_comesDown_84 : decode cX12_comesDown 84 = .ok (.goto 7, 3) := by decide +kernel
theorem dX12_comesDown_87 : decode cX12_comesDown 87 = .ok (.aload_n 0, 1) := by decide +kernel
theorem dX12_comesDown_88 : decode cX12_comesDown 88 = .ok (.getfield 120, 3) := by decide +kernel
theorem dX12_comesDown_91 : decode cX12_comesDown 91 = .ok (.putfield 120, 3) := by decide +kernel
theorem dX12_comesDown_94 : decode cX12_comesDown 94 = .ok (.iload_n 1, 1) := by decide +kernel
theorem dX12_comesDown_95 : decode cX12_comesDown 95 = .ok (.iconst 1, 1) := by decide +kernel
theorem dX12_comesDown_96 : decode cX12_comesDown 96 = .ok (.iload_n 2, 1) := by decide +kernel
theorem dX12_comesDown_97 : decode cX12_comesDown 97 = .ok (.ishl, 1) := by decide +kernel
theorem dX12_comesDown_98 : decode cX12_comesDown 98 = .ok (.ior, 1) := by decide +kernel
theorem dX12_comesDown_99 : decode cX12_comesDown 99 = .ok (.istore_n 1, 1) := by decide +kernel
theorem dX12_comesDown_100 : decode cX12_comesDown 100 = .ok (.aload_n 0, 1) := by decide +kernel
theorem dX12_comesDown_101 : decode cX12_comesDown 101 = .ok (.invokevirtual 126, 3) := by decide +kernel
theorem dX12_comesDown_104 : decode cX12_comesDown 104 = .ok (.istore_n 2, 1) := by decide +kernel
theorem dX12_comesDown_105 : decode cX12_comesDown 105 = .ok (.goto (-88), 3) := by decide +kernel
theorem dX12_comesDown_108 : decode cX12_comesDown 108 = .ok (.aload_n 0, 1) := by decide +kernel
theorem dX12_comesDown_109 : decode cX12_comesDown 109 = .ok (.getfield 111, 3) := by decide +kernel
theorem dX12_comesDown_112 : decode cX12_comesDown 112 = .ok (.iconst (-1), 1) := by decide +kernel
theorem dX12_comesDown_113 : decode cX12_comesDown 113 = .ok (.if_icmp .ne 20, 3) := by decide +kernel
theorem dX12_comesDown_116 : decode cX12_comesDown 116 = .ok (.iload_n 1, 1) := by decide +kernel
theorem dX12_comesDown_117 : decode cX12_comesDown 117 = .ok (.ifCond .eq 16, 3) := by decide +kernel
theorem dX12_comesDown_120 : decode cX12_comesDown 120 = .ok (.aload_n 0, 1) := by decide +kernel
theorem dX12_comesDown_121 : decode cX12_comesDown 121 = .ok (.aload_n 0, 1) := by decide +kernel
theorem dX12_comesDown_122 : decode cX12_comesDown 122 = .ok (.getfield 120, 3) := by decide +kernel
theorem dX12_comesDown_125 : decode cX12_comesDown 125 = .ok (.putfield 111, 3) := by decide +kernel
theorem dX12_comesDown_128 : decode cX12_comesDown 128 = .ok (.aload_n 0, 1) := by decide +kernel
theorem dX12_comesDown_129 : decode cX12_comesDown 129 = .ok (.iload_n 1, 1) := by decide +kernel
theorem dX12_comesDown_130 : decode cX12_comesDown 130 = .ok (.putfield 114, 3) := by decide +kernel
theorem dX12_comesDown_133 : decode cX12_comesDown 133 = .ok (.iload_n 1, 1) := by decide +kernel
theorem dX12_comesDown_134 : decode cX12_comesDown 134 = .ok (.ireturn, 1) := by decide +kernel
theorem dX12_heavy_0 : decode cX12_heavy 0 = .ok (.iload_n 1, 1) := by decide +kernel
theorem dX12_heavy_1 : decode cX12_heavy 1 = .ok (.iconst 2, 1) := by decide +kernel
theorem dX12_heavy_2 : decode cX12_heavy 2 = .ok (.if_icmp .eq 8, 3) := by decide +kernel
theorem dX12_heavy_5 : decode cX12_heavy 5 = .ok (.iload_n 1, 1) := by decide +kernel
theorem dX12_heavy_6 : decode cX12_heavy 6 = .ok (.iconst 5, 1) := by decide +kernel
theorem dX12_heavy_7 : decode cX12_heavy 7 = .ok (.if_icmp .ne 9, 3) := by decide +kernel
theorem dX12_heavy_10 : decode cX12_heavy 10 = .ok (.iconst 2, 1) := by decide +kernel
theorem dX12_heavy_11 : decode cX12_heavy 11 = .ok (.iload_n 2, 1) := by decide +kernel
theorem dX12_heavy_12 : decode cX12_heavy 12 = .ok (.imul, 1) := by decide +kernel
theorem dX12_heavy_13 : decode cX12_heavy 13 = .ok (.goto 17, 3) := by decide +kernel
theorem dX12_heavy_16 : decode cX12_heavy 16 = .ok (.iload_n 1, 1) := by decide +kernel
theorem dX12_heavy_17 : decode cX12_heavy 17 = .ok (.iconst 3, 1) := by decide +kernel
theorem dX12_heavy_18 : decode cX12_heavy 18 = .ok (.if_icmp .ne 11, 3) := by decide +kernel
theorem dX12_heavy_21 : decode cX12_heavy 21 = .ok (.iload_n 2, 1) := by decide +kernel
theorem dX12_heavy_22 : decode cX12_heavy 22 = .ok (.iconst 1, 1) := by decide +kernel
theorem dX12_heavy_23 : decode cX12_heavy 23 = .ok (.iadd, 1) := by decide +kernel
theorem dX12_heavy_24 : decode cX12_heavy 24 = .ok (.iconst 2, 1) := by decide +kernel
theorem dX12_heavy_25 : decode cX12_heavy 25 = .ok (.idiv, 1) := by decide +kernel
theorem dX12_heavy_26 : decode cX12_heavy 26 = .ok (.goto 4, 3) := by decide +kernel
theorem dX12_heavy_29 : decode cX12_heavy 29 = .ok (.iload_n 2, 1) := by decide +kernel
theorem dX12_heavy_30 : decode cX12_heavy 30 = .ok (.ireturn, 1) := by decide +kernel
theorem dX12_byLoad_0 : decode cX12_byLoad 0 = .ok (.iconst 0, 1) := by decide +kernel
theorem dX12_byLoad_1 : decode cX12_byLoad 1 = .ok (.istore_n 2, 1) := by decide +kernel
theorem dX12_byLoad_2 : decode cX12_byLoad 2 = .ok (.iconst 1, 1) := by decide +kernel
theorem dX12_byLoad_3 : decode cX12_byLoad 3 = .ok (.istore_n 3, 1) := by decide +kernel
theorem dX12_byLoad_4 : decode cX12_byLoad 4 = .ok (.iload_n 3, 1) := by decide +kernel
theorem dX12_byLoad_5 : decode cX12_byLoad 5 = .ok (.aload_n 0, 1) := by decide +kernel
theorem dX12_byLoad_6 : decode cX12_byLoad 6 = .ok (.invokevirtual 64, 3) := by decide +kernel
theorem dX12_byLoad_9 : decode cX12_byLoad 9 = .ok (.if_icmp .ge 65, 3) := by decide +kernel
theorem dX12_byLoad_12 : decode cX12_byLoad 12 = .ok (.iload_n 1, 1) := by decide +kernel
theorem dX12_byLoad_13 : decode cX12_byLoad 13 = .ok (.ifCond .eq 24, 3) := by decide +kernel
theorem dX12_byLoad_16 : decode cX12_byLoad 16 = .ok (.aload_n 0, 1) := by decide +kernel
theorem dX12_byLoad_17 : decode cX12_byLoad 17 = .ok (.iload_n 3, 1) := by decide +kernel
theorem dX12_byLoad_18 : decode cX12_byLoad 18 = .ok (.invokevirtual 117, 3) := by decide +kernel
theorem dX12_byLoad_21 : decode cX12_byLoad 21 = .ok (.aload_n 0, 1) := by decide +kernel
theorem dX12_byLoad_22 : decode cX12_byLoad 22 = .ok (.iload_n 2, 1) := by decide +kernel
theorem dX12_byLoad_23 : decode cX12_byLoad 23 = .ok (.invokevirtual 117, 3) := by decide +kernel
theorem dX12_byLoad_26 : decode cX12_byLoad 26 = .ok (.if_icmp .ge 7, 3) := by decide +kernel
theorem dX12_byLoad_29 : decode cX12_byLoad 29 = .ok (.iconst 1, 1) := by decide +kernel
theorem dX12_byLoad_30 : decode cX12_byLoad 30 = .ok (.goto 25, 3) := by decide +kernel
theorem dX12_byLoad_33 : decode cX12_byLoad 33 = .ok (.iconst 0, 1) := by decide +kernel
theorem dX12_byLoad_34 : decode cX12_byLoad 34 = .ok (.goto 21, 3) := by decide +kernel
theorem dX12_byLoad_37 : decode cX12_byLoad 37 = .ok (.aload_n 0, 1) := by decide +kernel
theorem dX12_byLoad_38 : decode cX12_byLoad 38 = .ok (.iload_n 3, 1) := by decide +kernel
theorem dX12_byLoad_39 : decode cX12_byLoad 39 = .ok (.invokevirtual 117, 3) := by decide +kernel
theorem dX12_byLoad_42 : decode cX12_byLoad 42 = .ok (.aload_n 0, 1) := by decide +kernel
theorem dX12_byLoad_43 : decode cX12_byLoad 43 = .ok (.iload_n 2, 1) := by decide +kernel
theorem dX12_byLoad_44 : decode cX12_byLoad 44 = .ok (.invokevirtual 117, 3) := by decide +kernel
theorem dX12_byLoad_47 : decode cX12_byLoad 47 = .ok (.if_icmp .le 7, 3) := by decide +kernel
theorem dX12_byLoad_50 : decode cX12_byLoad 50 = .ok (.iconst 1, 1) := by decide +kernel
theorem dX12_byLoad_51 : decode cX12_byLoad 51 = .ok (.goto 4, 3) := by decide +kernel
theorem dX12_byLoad_54 : decode cX12_byLoad 54 = .ok (.iconst 0, 1) := by decide +kernel
theorem dX12_byLoad_55 : decode cX12_byLoad 55 = .ok (.istore 4, 2) := by decide +kernel
theorem dX12_byLoad_57 : decode cX12_byLoad 57 = .ok (.iload 4, 2) := by decide +kernel
theorem dX12_byLoad_59 : decode cX12_byLoad 59 = .ok (.ifCond .eq 7, 3) := by decide +kernel
theorem dX12_byLoad_62 : decode cX12_byLoad 62 = .ok (.iload_n 3, 1) := by decide +kernel
theorem dX12_byLoad_63 : decode cX12_byLoad 63 = .ok (.goto 4, 3) := by decide +kernel
theorem dX12_byLoad_66 : decode cX12_byLoad 66 = .ok (.iload_n 2, 1) := by decide +kernel
theorem dX12_byLoad_67 : decode cX12_byLoad 67 = .ok (.istore_n 2, 1) := by decide +kernel
theorem dX12_byLoad_68 : decode cX12_byLoad 68 = .ok (.iinc 3 1, 3) := by decide +kernel
theorem dX12_byLoad_71 : decode cX12_byLoad 71 = .ok (.goto (-67), 3) := by decide +kernel
theorem dX12_byLoad_74 : decode cX12_byLoad 74 = .ok (.iload_n 2, 1) := by decide +kernel
theorem dX12_byLoad_75 : decode cX12_byLoad 75 = .ok (.ireturn, 1) := by decide +kernel
theorem dX12_where_0 : decode cX12_where 0 = .ok (.iload_n 1, 1) := by decide +kernel
theorem dX12_where_1 : decode cX12_where 1 = .ok (.tableswitch 107 1 5 #[35, 107, 35, 66, 87], 35) := by decide +kernel
theorem dX12_where_36 : decode cX12_where 36 = .ok (.aload_n 0, 1) := by decide +kernel
theorem dX12_where_37 : decode cX12_where 37 = .ok (.iload_n 2, 1) := by decide +kernel
theorem dX12_where_38 : decode cX12_where 38 = .ok (.invokevirtual 117, 3) := by decide +kernel
theorem dX12_where_41 : decode cX12_where 41 = .ok (.aload_n 0, 1) := by decide +kernel
theorem dX12_where_42 : decode cX12_where 42 = .ok (.iload_n 1, 1) := by decide +kernel
theorem dX12_where_43 : decode cX12_where 43 = .ok (.iload_n 3, 1) := by decide +kernel
theorem dX12_where_44 : decode cX12_where 44 = .ok (.invokevirtual 129, 3) := by decide +kernel
theorem dX12_where_47 : decode cX12_where 47 = .ok (.iadd, 1) := by decide +kernel
theorem dX12_where_48 : decode cX12_where 48 = .ok (.aload_n 0, 1) := by decide +kernel
theorem dX12_where_49 : decode cX12_where 49 = .ok (.iload_n 2, 1) := by decide +kernel
theorem dX12_where_50 : decode cX12_where 50 = .ok (.iconst 0, 1) := by decide +kernel
theorem dX12_where_51 : decode cX12_where 51 = .ok (.invokevirtual 103, 3) := by decide +kernel
theorem dX12_where_54 : decode cX12_where 54 = .ok (.if_icmp .le 11, 3) := by decide +kernel
theorem dX12_where_57 : decode cX12_where 57 = .ok (.aload_n 0, 1) := by decide +kernel
theorem dX12_where_58 : decode cX12_where 58 = .ok (.iconst 1, 1) := by decide +kernel
theorem dX12_where_59 : decode cX12_where 59 = .ok (.invokevirtual 132, 3) := by decide +kernel
theorem dX12_where_62 : decode cX12_where 62 = .ok (.goto 4, 3) := by decide +kernel
theorem dX12_where_65 : decode cX12_where 65 = .ok (.iload_n 2, 1) := by decide +kernel
theorem dX12_where_66 : decode cX12_where 66 = .ok (.ireturn, 1) := by decide +kernel
theorem dX12_where_67 : decode cX12_where 67 = .ok (.aload_n 0, 1) := by decide +kernel
theorem dX12_where_68 : decode cX12_where 68 = .ok (.iload_n 2, 1) := by decide +kernel
theorem dX12_where_69 : decode cX12_where 69 = .ok (.iconst 3, 1) := by decide +kernel
theorem dX12_where_70 : decode cX12_where 70 = .ok (.invokevirtual 103, 3) := by decide +kernel
theorem dX12_where_73 : decode cX12_where 73 = .ok (.iconst (-1), 1) := by decide +kernel
theorem dX12_where_74 : decode cX12_where 74 = .ok (.if_icmp .ne 7, 3) := by decide +kernel
theorem dX12_where_77 : decode cX12_where 77 = .ok (.iload_n 2, 1) := by decide +kernel
theorem dX12_where_78 : decode cX12_where 78 = .ok (.goto 9, 3) := by decide +kernel
theorem dX12_where_81 : decode cX12_where 81 = .ok (.aload_n 0, 1) := by decide +kernel
theorem dX12_where_82 : decode cX12_where 82 = .ok (.iload_n 2, 1) := by decide +kernel
theorem dX12_where_83 : decode cX12_where 83 = .ok (.iconst 3, 1) := by decide +kernel
theorem dX12_where_84 : decode cX12_where 84 = .ok (.invokevirtual 103, 3) := by decide +kernel
theorem dX12_where_87 : decode cX12_where 87 = .ok (.ireturn, 1) := by decide +kernel
theorem dX12_where_88 : decode cX12_where 88 = .ok (.aload_n 0, 1) := by decide +kernel
theorem dX12_where_89 : decode cX12_where 89 = .ok (.getfield 107, 3) := by decide +kernel
theorem dX12_where_92 : decode cX12_where 92 = .ok (.iconst 2, 1) := by decide +kernel
theorem dX12_where_93 : decode cX12_where 93 = .ok (.irem, 1) := by decide +kernel
theorem dX12_where_94 : decode cX12_where 94 = .ok (.iconst 1, 1) := by decide +kernel
theorem dX12_where_95 : decode cX12_where 95 = .ok (.if_icmp .ne 11, 3) := by decide +kernel
theorem dX12_where_98 : decode cX12_where 98 = .ok (.aload_n 0, 1) := by decide +kernel
theorem dX12_where_99 : decode cX12_where 99 = .ok (.iconst 0, 1) := by decide +kernel
theorem dX12_where_100 : decode cX12_where 100 = .ok (.invokevirtual 132, 3) := by decide +kernel
theorem dX12_where_103 : decode cX12_where 103 = .ok (.goto 4, 3) := by decide +kernel
theorem dX12_where_106 : decode cX12_where 106 = .ok (.iload_n 2, 1) := by decide +kernel
theorem dX12_where_107 : decode cX12_where 107 = .ok (.ireturn, 1) := by decide +kernel
theorem dX12_where_108 : decode cX12_where 108 = .ok (.iload_n 2, 1) := by decide +kernel
theorem dX12_where_109 : decode cX12_where 109 = .ok (.ireturn, 1) := by decide +kernel
theorem dX12_whereBy_0 : decode cX12_whereBy 0 = .ok (.aload_n 0, 1) := by decide +kernel
theorem dX12_whereBy_1 : decode cX12_whereBy 1 = .ok (.aload_n 0, 1) := by decide +kernel
theorem dX12_whereBy_2 : decode cX12_whereBy 2 = .ok (.iload_n 1, 1) := by decide +kernel
theorem dX12_whereBy_3 : decode cX12_whereBy 3 = .ok (.iconst 0, 1) := by decide +kernel
theorem dX12_whereBy_4 : decode cX12_whereBy 4 = .ok (.invokevirtual 136, 3) := by decide +kernel
theorem dX12_whereBy_7 : decode cX12_whereBy 7 = .ok (.aload_n 0, 1) := by decide +kernel
theorem dX12_whereBy_8 : decode cX12_whereBy 8 = .ok (.iload_n 1, 1) := by decide +kernel
theorem dX12_whereBy_9 : decode cX12_whereBy 9 = .ok (.iconst 1, 1) := by decide +kernel
theorem dX12_whereBy_10 : decode cX12_whereBy 10 = .ok (.invokevirtual 136, 3) := by decide +kernel
theorem dX12_whereBy_13 : decode cX12_whereBy 13 = .ok (.aload_n 0, 1) := by decide +kernel
theorem dX12_whereBy_14 : decode cX12_whereBy 14 = .ok (.iload_n 1, 1) := by decide +kernel
theorem dX12_whereBy_15 : decode cX12_whereBy 15 = .ok (.iconst 2, 1) := by decide +kernel
theorem dX12_whereBy_16 : decode cX12_whereBy 16 = .ok (.invokevirtual 136, 3) := by decide +kernel
theorem dX12_whereBy_19 : decode cX12_whereBy 19 = .ok (.invokevirtual 139, 3) := by decide +kernel
theorem dX12_whereBy_22 : decode cX12_whereBy 22 = .ok (.ireturn, 1) := by decide +kernel
theorem dX12_heavyBy_0 : decode cX12_heavyBy 0 = .ok (.aload_n 0, 1) := by decide +kernel
theorem dX12_heavyBy_1 : decode cX12_heavyBy 1 = .ok (.aload_n 0, 1) := by decide +kernel
theorem dX12_heavyBy_2 : decode cX12_heavyBy 2 = .ok (.iload_n 1, 1) := by decide +kernel
theorem dX12_heavyBy_3 : decode cX12_heavyBy 3 = .ok (.iconst 0, 1) := by decide +kernel
theorem dX12_heavyBy_4 : decode cX12_heavyBy 4 = .ok (.invokevirtual 136, 3) := by decide +kernel
theorem dX12_heavyBy_7 : decode cX12_heavyBy 7 = .ok (.aload_n 0, 1) := by decide +kernel
theorem dX12_heavyBy_8 : decode cX12_heavyBy 8 = .ok (.iload_n 1, 1) := by decide +kernel
theorem dX12_heavyBy_9 : decode cX12_heavyBy 9 = .ok (.iconst 2, 1) := by decide +kernel
theorem dX12_heavyBy_10 : decode cX12_heavyBy 10 = .ok (.invokevirtual 136, 3) := by decide +kernel
theorem dX12_heavyBy_13 : decode cX12_heavyBy 13 = .ok (.invokevirtual 129, 3) := by decide +kernel
theorem dX12_heavyBy_16 : decode cX12_heavyBy 16 = .ok (.ireturn, 1) := by decide +kernel
theorem dX12_goStone_0 : decode cX12_goStone 0 = .ok (.aload_n 0, 1) := by decide +kernel
theorem dX12_goStone_1 : decode cX12_goStone 1 = .ok (.getfield 30, 3) := by decide +kernel
theorem dX12_goStone_4 : decode cX12_goStone 4 = .ok (.iload_n 1, 1) := by decide +kernel
theorem dX12_goStone_5 : decode cX12_goStone 5 = .ok (.dup2, 1) := by decide +kernel
theorem dX12_goStone_6 : decode cX12_goStone 6 = .ok (.iaload, 1) := by decide +kernel
theorem dX12_goStone_7 : decode cX12_goStone 7 = .ok (.iload_n 2, 1) := by decide +kernel
theorem dX12_goStone_8 : decode cX12_goStone 8 = .ok (.iadd, 1) := by decide +kernel
theorem dX12_goStone_9 : decode cX12_goStone 9 = .ok (.iastore, 1) := by decide +kernel
theorem dX12_goStone_10 : decode cX12_goStone 10 = .ok (.aload_n 0, 1) := by decide +kernel
theorem dX12_goStone_11 : decode cX12_goStone 11 = .ok (.invokevirtual 143, 3) := by decide +kernel
theorem dX12_goStone_14 : decode cX12_goStone 14 = .ok (.ireturn, 1) := by decide +kernel
theorem dX12_goVote_0 : decode cX12_goVote 0 = .ok (.aload_n 0, 1) := by decide +kernel
theorem dX12_goVote_1 : decode cX12_goVote 1 = .ok (.aload_n 0, 1) := by decide +kernel
theorem dX12_goVote_2 : decode cX12_goVote 2 = .ok (.iload_n 1, 1) := by decide +kernel
theorem dX12_goVote_3 : decode cX12_goVote 3 = .ok (.invokevirtual 146, 3) := by decide +kernel
theorem dX12_goVote_6 : decode cX12_goVote 6 = .ok (.aload_n 0, 1) := by decide +kernel
theorem dX12_goVote_7 : decode cX12_goVote 7 = .ok (.iload_n 1, 1) := by decide +kernel
theorem dX12_goVote_8 : decode cX12_goVote 8 = .ok (.invokevirtual 149, 3) := by decide +kernel
theorem dX12_goVote_11 : decode cX12_goVote 11 = .ok (.invokevirtual 152, 3) := by decide +kernel
theorem dX12_goVote_14 : decode cX12_goVote 14 = .ok (.istore_n 2, 1) := by decide +kernel
theorem dX12_goVote_15 : decode cX12_goVote 15 = .ok (.aload_n 0, 1) := by decide +kernel
theorem dX12_goVote_16 : decode cX12_goVote 16 = .ok (.dup, 1) := by decide +kernel
theorem dX12_goVote_17 : decode cX12_goVote 17 = .ok (.getfield 107, 3) := by decide +kernel
theorem dX12_goVote_20 : decode cX12_goVote 20 = .ok (.iconst 1, 1) := by decide +kernel
theorem dX12_goVote_21 : decode cX12_goVote 21 = .ok (.iadd, 1) := by decide +kernel
theorem dX12_goVote_22 : decode cX12_goVote 22 = .ok (.putfield 107, 3) := by decide +kernel
theorem dX12_goVote_25 : decode cX12_goVote 25 = .ok (.iload_n 2, 1) := by decide +kernel
theorem dX12_goVote_26 : decode cX12_goVote 26 = .ok (.ireturn, 1) := by decide +kernel
theorem dX12_goNight_0 : decode cX12_goNight 0 = .ok (.iconst 0, 1) := by decide +kernel
theorem dX12_goNight_1 : decode cX12_goNight 1 = .ok (.istore_n 2, 1) := by decide +kernel
theorem dX12_goNight_2 : decode cX12_goNight 2 = .ok (.iload_n 2, 1) := by decide +kernel
theorem dX12_goNight_3 : decode cX12_goNight 3 = .ok (.aload_n 0, 1) := by decide +kernel
theorem dX12_goNight_4 : decode cX12_goNight 4 = .ok (.invokevirtual 64, 3) := by decide +kernel
theorem dX12_goNight_7 : decode cX12_goNight 7 = .ok (.if_icmp .ge 19, 3) := by decide +kernel
theorem dX12_goNight_10 : decode cX12_goNight 10 = .ok (.aload_n 0, 1) := by decide +kernel
theorem dX12_goNight_11 : decode cX12_goNight 11 = .ok (.getfield 27, 3) := by decide +kernel
theorem dX12_goNight_14 : decode cX12_goNight 14 = .ok (.iload_n 2, 1) := by decide +kernel
theorem dX12_goNight_15 : decode cX12_goNight 15 = .ok (.dup2, 1) := by decide +kernel
theorem dX12_goNight_16 : decode cX12_goNight 16 = .ok (.iaload, 1) := by decide +kernel
theorem dX12_goNight_17 : decode cX12_goNight 17 = .ok (.iload_n 1, 1) := by decide +kernel
theorem dX12_goNight_18 : decode cX12_goNight 18 = .ok (.iadd, 1) := by decide +kernel
theorem dX12_goNight_19 : decode cX12_goNight 19 = .ok (.iastore, 1) := by decide +kernel
theorem dX12_goNight_20 : decode cX12_goNight 20 = .ok (.iinc 2 1, 3) := by decide +kernel
theorem dX12_goNight_23 : decode cX12_goNight 23 = .ok (.goto (-21), 3) := by decide +kernel
theorem dX12_goNight_26 : decode cX12_goNight 26 = .ok (.aload_n 0, 1) := by decide +kernel
theorem dX12_goNight_27 : decode cX12_goNight 27 = .ok (.invokevirtual 143, 3) := by decide +kernel
theorem dX12_goNight_30 : decode cX12_goNight 30 = .ok (.ireturn, 1) := by decide +kernel
theorem dX12_keep_0 : decode cX12_keep 0 = .ok (.aload_n 0, 1) := by decide +kernel
theorem dX12_keep_1 : decode cX12_keep 1 = .ok (.getfield 7, 3) := by decide +kernel
theorem dX12_keep_4 : decode cX12_keep 4 = .ok (.iconst 4, 1) := by decide +kernel
theorem dX12_keep_5 : decode cX12_keep 5 = .ok (.iaload, 1) := by decide +kernel
theorem dX12_keep_6 : decode cX12_keep 6 = .ok (.bipush 8, 2) := by decide +kernel
theorem dX12_keep_8 : decode cX12_keep 8 = .ok (.if_icmp .ne 44, 3) := by decide +kernel
theorem dX12_keep_11 : decode cX12_keep 11 = .ok (.iconst 0, 1) := by decide +kernel
theorem dX12_keep_12 : decode cX12_keep 12 = .ok (.istore_n 1, 1) := by decide +kernel
theorem dX12_keep_13 : decode cX12_keep 13 = .ok (.iload_n 1, 1) := by decide +kernel
theorem dX12_keep_14 : decode cX12_keep 14 = .ok (.sipush 133, 3) := by decide +kernel
theorem dX12_keep_17 : decode cX12_keep 17 = .ok (.if_icmp .ge 27, 3) := by decide +kernel
theorem dX12_keep_20 : decode cX12_keep 20 = .ok (.aload_n 0, 1) := by decide +kernel
theorem dX12_keep_21 : decode cX12_keep 21 = .ok (.getfield 7, 3) := by decide +kernel
theorem dX12_keep_24 : decode cX12_keep 24 = .ok (.bipush 69, 2) := by decide +kernel
theorem dX12_keep_26 : decode cX12_keep 26 = .ok (.iload_n 1, 1) := by decide +kernel
theorem dX12_keep_27 : decode cX12_keep 27 = .ok (.iadd, 1) := by decide +kernel
theorem dX12_keep_28 : decode cX12_keep 28 = .ok (.aload_n 0, 1) := by decide +kernel
theorem dX12_keep_29 : decode cX12_keep 29 = .ok (.getfield 7, 3) := by decide +kernel
theorem dX12_keep_32 : decode cX12_keep 32 = .ok (.bipush 88, 2) := by decide +kernel
theorem dX12_keep_34 : decode cX12_keep 34 = .ok (.iload_n 1, 1) := by decide +kernel
theorem dX12_keep_35 : decode cX12_keep 35 = .ok (.iadd, 1) := by decide +kernel
theorem dX12_keep_36 : decode cX12_keep 36 = .ok (.iaload, 1) := by decide +kernel
theorem dX12_keep_37 : decode cX12_keep 37 = .ok (.iastore, 1) := by decide +kernel
theorem dX12_keep_38 : decode cX12_keep 38 = .ok (.iinc 1 1, 3) := by decide +kernel
theorem dX12_keep_41 : decode cX12_keep 41 = .ok (.goto (-28), 3) := by decide +kernel
theorem dX12_keep_44 : decode cX12_keep 44 = .ok (.aload_n 0, 1) := by decide +kernel
theorem dX12_keep_45 : decode cX12_keep 45 = .ok (.getfield 7, 3) := by decide +kernel
theorem dX12_keep_48 : decode cX12_keep 48 = .ok (.iconst 4, 1) := by decide +kernel
theorem dX12_keep_49 : decode cX12_keep 49 = .ok (.bipush 7, 2) := by decide +kernel
theorem dX12_keep_51 : decode cX12_keep 51 = .ok (.iastore, 1) := by decide +kernel
theorem dX12_keep_52 : decode cX12_keep 52 = .ok (.bipush 69, 2) := by decide +kernel
theorem dX12_keep_54 : decode cX12_keep 54 = .ok (.bipush 19, 2) := by decide +kernel
theorem dX12_keep_56 : decode cX12_keep 56 = .ok (.aload_n 0, 1) := by decide +kernel
theorem dX12_keep_57 : decode cX12_keep 57 = .ok (.getfield 7, 3) := by decide +kernel
theorem dX12_keep_60 : decode cX12_keep 60 = .ok (.iconst 4, 1) := by decide +kernel
theorem dX12_keep_61 : decode cX12_keep 61 = .ok (.iaload, 1) := by decide +kernel
theorem dX12_keep_62 : decode cX12_keep 62 = .ok (.imul, 1) := by decide +kernel
theorem dX12_keep_63 : decode cX12_keep 63 = .ok (.iadd, 1) := by decide +kernel
theorem dX12_keep_64 : decode cX12_keep 64 = .ok (.istore_n 1, 1) := by decide +kernel
theorem dX12_keep_65 : decode cX12_keep 65 = .ok (.iconst 0, 1) := by decide +kernel
theorem dX12_keep_66 : decode cX12_keep 66 = .ok (.istore_n 2, 1) := by decide +kernel
theorem dX12_keep_67 : decode cX12_keep 67 = .ok (.iload_n 2, 1) := by decide +kernel
theorem dX12_keep_68 : decode cX12_keep 68 = .ok (.bipush 8, 2) := by decide +kernel
theorem dX12_keep_70 : decode cX12_keep 70 = .ok (.if_icmp .ge 40, 3) := by decide +kernel
theorem dX12_keep_73 : decode cX12_keep 73 = .ok (.aload_n 0, 1) := by decide +kernel
theorem dX12_keep_74 : decode cX12_keep 74 = .ok (.getfield 7, 3) := by decide +kernel
theorem dX12_keep_77 : decode cX12_keep 77 = .ok (.iload_n 1, 1) := by decide +kernel
theorem dX12_keep_78 : decode cX12_keep 78 = .ok (.iload_n 2, 1) := by decide +kernel
theorem dX12_keep_79 : decode cX12_keep 79 = .ok (.iadd, 1) := by decide +kernel
theorem dX12_keep_80 : decode cX12_keep 80 = .ok (.aload_n 0, 1) := by decide +kernel
theorem dX12_keep_81 : decode cX12_keep 81 = .ok (.iload_n 2, 1) := by decide +kernel
theorem dX12_keep_82 : decode cX12_keep 82 = .ok (.iconst 1, 1) := by decide +kernel
theorem dX12_keep_83 : decode cX12_keep 83 = .ok (.invokevirtual 103, 3) := by decide +kernel
theorem dX12_keep_86 : decode cX12_keep 86 = .ok (.iastore, 1) := by decide +kernel
theorem dX12_keep_87 : decode cX12_keep 87 = .ok (.aload_n 0, 1) := by decide +kernel
theorem dX12_keep_88 : decode cX12_keep 88 = .ok (.getfield 7, 3) := by decide +kernel
theorem dX12_keep_91 : decode cX12_keep 91 = .ok (.iload_n 1, 1) := by decide +kernel
theorem dX12_keep_92 : decode cX12_keep 92 = .ok (.bipush 8, 2) := by decide +kernel
theorem dX12_keep_94 : decode cX12_keep 94 = .ok (.iadd, 1) := by decide +kernel
theorem dX12_keep_95 : decode cX12_keep 95 = .ok (.iload_n 2, 1) := by decide +kernel
theorem dX12_keep_96 : decode cX12_keep 96 = .ok (.iadd, 1) := by decide +kernel
theorem dX12_keep_97 : decode cX12_keep 97 = .ok (.aload_n 0, 1) := by decide +kernel
theorem dX12_keep_98 : decode cX12_keep 98 = .ok (.iload_n 2, 1) := by decide +kernel
theorem dX12_keep_99 : decode cX12_keep 99 = .ok (.iconst 2, 1) := by decide +kernel
theorem dX12_keep_100 : decode cX12_keep 100 = .ok (.invokevirtual 103, 3) := by decide +kernel
theorem dX12_keep_103 : decode cX12_keep 103 = .ok (.iastore, 1) := by decide +kernel
theorem dX12_keep_104 : decode cX12_keep 104 = .ok (.iinc 2 1, 3) := by decide +kernel
theorem dX12_keep_107 : decode cX12_keep 107 = .ok (.goto (-40), 3) := by decide +kernel
theorem dX12_keep_110 : decode cX12_keep 110 = .ok (.aload_n 0, 1) := by decide +kernel
theorem dX12_keep_111 : decode cX12_keep 111 = .ok (.getfield 7, 3) := by decide +kernel
theorem dX12_keep_114 : decode cX12_keep 114 = .ok (.iload_n 1, 1) := by decide +kernel
theorem dX12_keep_115 : decode cX12_keep 115 = .ok (.bipush 16, 2) := by decide +kernel
theorem dX12_keep_117 : decode cX12_keep 117 = .ok (.iadd, 1) := by decide +kernel
theorem dX12_keep_118 : decode cX12_keep 118 = .ok (.aload_n 0, 1) := by decide +kernel
theorem dX12_keep_119 : decode cX12_keep 119 = .ok (.getfield 7, 3) := by decide +kernel
theorem dX12_keep_122 : decode cX12_keep 122 = .ok (.iconst 2, 1) := by decide +kernel
theorem dX12_keep_123 : decode cX12_keep 123 = .ok (.iaload, 1) := by decide +kernel
theorem dX12_keep_124 : decode cX12_keep 124 = .ok (.iastore, 1) := by decide +kernel
theorem dX12_keep_125 : decode cX12_keep 125 = .ok (.aload_n 0, 1) := by decide +kernel
theorem dX12_keep_126 : decode cX12_keep 126 = .ok (.getfield 7, 3) := by decide +kernel
theorem dX12_keep_129 : decode cX12_keep 129 = .ok (.iload_n 1, 1) := by decide +kernel
theorem dX12_keep_130 : decode cX12_keep 130 = .ok (.bipush 17, 2) := by decide +kernel
theorem dX12_keep_132 : decode cX12_keep 132 = .ok (.iadd, 1) := by decide +kernel
theorem dX12_keep_133 : decode cX12_keep 133 = .ok (.aload_n 0, 1) := by decide +kernel
theorem dX12_keep_134 : decode cX12_keep 134 = .ok (.getfield 7, 3) := by decide +kernel
theorem dX12_keep_137 : decode cX12_keep 137 = .ok (.iconst 5, 1) := by decide +kernel
theorem dX12_keep_138 : decode cX12_keep 138 = .ok (.iaload, 1) := by decide +kernel
theorem dX12_keep_139 : decode cX12_keep 139 = .ok (.iastore, 1) := by decide +kernel
theorem dX12_keep_140 : decode cX12_keep 140 = .ok (.aload_n 0, 1) := by decide +kernel
theorem dX12_keep_141 : decode cX12_keep 141 = .ok (.getfield 7, 3) := by decide +kernel
theorem dX12_keep_144 : decode cX12_keep 144 = .ok (.iload_n 1, 1) := by decide +kernel
theorem dX12_keep_145 : decode cX12_keep 145 = .ok (.bipush 18, 2) := by decide +kernel
theorem dX12_keep_147 : decode cX12_keep 147 = .ok (.iadd, 1) := by decide +kernel
theorem dX12_keep_148 : decode cX12_keep 148 = .ok (.aload_n 0, 1) := by decide +kernel
theorem dX12_keep_149 : decode cX12_keep 149 = .ok (.getfield 7, 3) := by decide +kernel
theorem dX12_keep_152 : decode cX12_keep 152 = .ok (.bipush 6, 2) := by decide +kernel
theorem dX12_keep_154 : decode cX12_keep 154 = .ok (.iaload, 1) := by decide +kernel
theorem dX12_keep_155 : decode cX12_keep 155 = .ok (.iastore, 1) := by decide +kernel
theorem dX12_keep_156 : decode cX12_keep 156 = .ok (.aload_n 0, 1) := by decide +kernel
theorem dX12_keep_157 : decode cX12_keep 157 = .ok (.getfield 7, 3) := by decide +kernel
theorem dX12_keep_160 : decode cX12_keep 160 = .ok (.iconst 4, 1) := by decide +kernel
theorem dX12_keep_161 : decode cX12_keep 161 = .ok (.dup2, 1) := by decide +kernel
theorem dX12_keep_162 : decode cX12_keep 162 = .ok (.iaload, 1) := by decide +kernel
theorem dX12_keep_163 : decode cX12_keep 163 = .ok (.iconst 1, 1) := by decide +kernel
theorem dX12_keep_164 : decode cX12_keep 164 = .ok (.iadd, 1) := by decide +kernel
theorem dX12_keep_165 : decode cX12_keep 165 = .ok (.iastore, 1) := by decide +kernel
theorem dX12_keep_166 : decode cX12_keep 166 = .ok (.return_, 1) := by decide +kernel
theorem dX12_layNow_0 : decode cX12_layNow 0 = .ok (.iconst 0, 1) := by decide +kernel
theorem dX12_layNow_1 : decode cX12_layNow 1 = .ok (.istore_n 1, 1) := by decide +kernel
theorem dX12_layNow_2 : decode cX12_layNow 2 = .ok (.iload_n 1, 1) := by decide +kernel
theorem dX12_layNow_3 : decode cX12_layNow 3 = .ok (.aload_n 0, 1) := by decide +kernel
theorem dX12_layNow_4 : decode cX12_layNow 4 = .ok (.invokevirtual 64, 3) := by decide +kernel
theorem dX12_layNow_7 : decode cX12_layNow 7 = .ok (.if_icmp .ge 47, 3) := by decide +kernel
theorem dX12_layNow_10 : decode cX12_layNow 10 = .ok (.aload_n 0, 1) := by decide +kernel
theorem dX12_layNow_11 : decode cX12_layNow 11 = .ok (.getfield 7, 3) := by decide +kernel
theorem dX12_layNow_14 : decode cX12_layNow 14 = .ok (.bipush 7, 2) := by decide +kernel
theorem dX12_layNow_16 : decode cX12_layNow 16 = .ok (.iconst 4, 1) := by decide +kernel
theorem dX12_layNow_17 : decode cX12_layNow 17 = .ok (.iload_n 1, 1) := by decide +kernel
theorem dX12_layNow_18 : decode cX12_layNow 18 = .ok (.imul, 1) := by decide +kernel
theorem dX12_layNow_19 : decode cX12_layNow 19 = .ok (.iadd, 1) := by decide +kernel
theorem dX12_layNow_20 : decode cX12_layNow 20 = .ok (.iconst 1, 1) := by decide +kernel
theorem dX12_layNow_21 : decode cX12_layNow 21 = .ok (.iadd, 1) := by decide +kernel
theorem dX12_layNow_22 : decode cX12_layNow 22 = .ok (.aload_n 0, 1) := by decide +kernel
theorem dX12_layNow_23 : decode cX12_layNow 23 = .ok (.getfield 27, 3) := by decide +kernel
theorem dX12_layNow_26 : decode cX12_layNow 26 = .ok (.iload_n 1, 1) := by decide +kernel
theorem dX12_layNow_27 : decode cX12_layNow 27 = .ok (.iaload, 1) := by decide +kernel
theorem dX12_layNow_28 : decode cX12_layNow 28 = .ok (.iastore, 1) := by decide +kernel
theorem dX12_layNow_29 : decode cX12_layNow 29 = .ok (.aload_n 0, 1) := by decide +kernel
theorem dX12_layNow_30 : decode cX12_layNow 30 = .ok (.getfield 7, 3) := by decide +kernel
theorem dX12_layNow_33 : decode cX12_layNow 33 = .ok (.bipush 7, 2) := by decide +kernel
theorem dX12_layNow_35 : decode cX12_layNow 35 = .ok (.iconst 4, 1) := by decide +kernel
theorem dX12_layNow_36 : decode cX12_layNow 36 = .ok (.iload_n 1, 1) := by decide +kernel
theorem dX12_layNow_37 : decode cX12_layNow 37 = .ok (.imul, 1) := by decide +kernel
theorem dX12_layNow_38 : decode cX12_layNow 38 = .ok (.iadd, 1) := by decide +kernel
theorem dX12_layNow_39 : decode cX12_layNow 39 = .ok (.iconst 2, 1) := by decide +kernel
theorem dX12_layNow_40 : decode cX12_layNow 40 = .ok (.iadd, 1) := by decide +kernel
theorem dX12_layNow_41 : decode cX12_layNow 41 = .ok (.aload_n 0, 1) := by decide +kernel
theorem dX12_layNow_42 : decode cX12_layNow 42 = .ok (.getfield 30, 3) := by decide +kernel
theorem dX12_layNow_45 : decode cX12_layNow 45 = .ok (.iload_n 1, 1) := by decide +kernel
theorem dX12_layNow_46 : decode cX12_layNow 46 = .ok (.iaload, 1) := by decide +kernel
theorem dX12_layNow_47 : decode cX12_layNow 47 = .ok (.iastore, 1) := by decide +kernel
theorem dX12_layNow_48 : decode cX12_layNow 48 = .ok (.iinc 1 1, 3) := by decide +kernel
theorem dX12_layNow_51 : decode cX12_layNow 51 = .ok (.goto (-49), 3) := by decide +kernel
theorem dX12_layNow_54 : decode cX12_layNow 54 = .ok (.aload_n 0, 1) := by decide +kernel
theorem dX12_layNow_55 : decode cX12_layNow 55 = .ok (.getfield 7, 3) := by decide +kernel
theorem dX12_layNow_58 : decode cX12_layNow 58 = .ok (.iconst 2, 1) := by decide +kernel
theorem dX12_layNow_59 : decode cX12_layNow 59 = .ok (.aload_n 0, 1) := by decide +kernel
theorem dX12_layNow_60 : decode cX12_layNow 60 = .ok (.getfield 107, 3) := by decide +kernel
theorem dX12_layNow_63 : decode cX12_layNow 63 = .ok (.iastore, 1) := by decide +kernel
theorem dX12_layNow_64 : decode cX12_layNow 64 = .ok (.aload_n 0, 1) := by decide +kernel
theorem dX12_layNow_65 : decode cX12_layNow 65 = .ok (.getfield 7, 3) := by decide +kernel
theorem dX12_layNow_68 : decode cX12_layNow 68 = .ok (.iconst 5, 1) := by decide +kernel
theorem dX12_layNow_69 : decode cX12_layNow 69 = .ok (.aload_n 0, 1) := by decide +kernel
theorem dX12_layNow_70 : decode cX12_layNow 70 = .ok (.getfield 111, 3) := by decide +kernel
theorem dX12_layNow_73 : decode cX12_layNow 73 = .ok (.iastore, 1) := by decide +kernel
theorem dX12_layNow_74 : decode cX12_layNow 74 = .ok (.aload_n 0, 1) := by decide +kernel
theorem dX12_layNow_75 : decode cX12_layNow 75 = .ok (.getfield 7, 3) := by decide +kernel
theorem dX12_layNow_78 : decode cX12_layNow 78 = .ok (.bipush 6, 2) := by decide +kernel
theorem dX12_layNow_80 : decode cX12_layNow 80 = .ok (.aload_n 0, 1) := by decide +kernel
theorem dX12_layNow_81 : decode cX12_layNow 81 = .ok (.getfield 114, 3) := by decide +kernel
theorem dX12_layNow_84 : decode cX12_layNow 84 = .ok (.iastore, 1) := by decide +kernel
theorem dX12_layNow_85 : decode cX12_layNow 85 = .ok (.return_, 1) := by decide +kernel
theorem dX12_vote_0 : decode cX12_vote 0 = .ok (.aload_n 0, 1) := by decide +kernel
theorem dX12_vote_1 : decode cX12_vote 1 = .ok (.iload_n 1, 1) := by decide +kernel
theorem dX12_vote_2 : decode cX12_vote 2 = .ok (.invokevirtual 155, 3) := by decide +kernel
theorem dX12_vote_5 : decode cX12_vote 5 = .ok (.ifCond .ne 10, 3) := by decide +kernel
theorem dX12_vote_8 : decode cX12_vote 8 = .ok (.aload_n 0, 1) := by decide +kernel
theorem dX12_vote_9 : decode cX12_vote 9 = .ok (.bipush (-2), 2) := by decide +kernel
theorem dX12_vote_11 : decode cX12_vote 11 = .ok (.invokevirtual 81, 3) := by decide +kernel
theorem dX12_vote_14 : decode cX12_vote 14 = .ok (.ireturn, 1) := by decide +kernel
theorem dX12_vote_15 : decode cX12_vote 15 = .ok (.aload_n 0, 1) := by decide +kernel
theorem dX12_vote_16 : decode cX12_vote 16 = .ok (.invokevirtual 158, 3) := by decide +kernel
theorem dX12_vote_19 : decode cX12_vote 19 = .ok (.aload_n 0, 1) := by decide +kernel
theorem dX12_vote_20 : decode cX12_vote 20 = .ok (.invokevirtual 161, 3) := by decide +kernel
theorem dX12_vote_23 : decode cX12_vote 23 = .ok (.aload_n 0, 1) := by decide +kernel
theorem dX12_vote_24 : decode cX12_vote 24 = .ok (.iload_n 1, 1) := by decide +kernel
theorem dX12_vote_25 : decode cX12_vote 25 = .ok (.invokevirtual 164, 3) := by decide +kernel
theorem dX12_vote_28 : decode cX12_vote 28 = .ok (.istore_n 2, 1) := by decide +kernel
theorem dX12_vote_29 : decode cX12_vote 29 = .ok (.aload_n 0, 1) := by decide +kernel
theorem dX12_vote_30 : decode cX12_vote 30 = .ok (.invokevirtual 167, 3) := by decide +kernel
theorem dX12_vote_33 : decode cX12_vote 33 = .ok (.iload_n 2, 1) := by decide +kernel
theorem dX12_vote_34 : decode cX12_vote 34 = .ok (.ireturn, 1) := by decide +kernel
theorem dX12_night_0 : decode cX12_night 0 = .ok (.iload_n 1, 1) := by decide +kernel
theorem dX12_night_1 : decode cX12_night 1 = .ok (.i2l, 1) := by decide +kernel
theorem dX12_night_2 : decode cX12_night 2 = .ok (.lconst 1, 1) := by decide +kernel
theorem dX12_night_3 : decode cX12_night 3 = .ok (.ldc2_w 98, 3) := by decide +kernel
theorem dX12_night_6 : decode cX12_night 6 = .ok (.invokestatic 68, 3) := by decide +kernel
theorem dX12_night_9 : decode cX12_night 9 = .ok (.ifCond .ne 10, 3) := by decide +kernel
theorem dX12_night_12 : decode cX12_night 12 = .ok (.aload_n 0, 1) := by decide +kernel
theorem dX12_night_13 : decode cX12_night 13 = .ok (.bipush (-2), 2) := by decide +kernel
theorem dX12_night_15 : decode cX12_night 15 = .ok (.invokevirtual 81, 3) := by decide +kernel
theorem dX12_night_18 : decode cX12_night 18 = .ok (.ireturn, 1) := by decide +kernel
theorem dX12_night_19 : decode cX12_night 19 = .ok (.aload_n 0, 1) := by decide +kernel
theorem dX12_night_20 : decode cX12_night 20 = .ok (.invokevirtual 158, 3) := by decide +kernel
theorem dX12_night_23 : decode cX12_night 23 = .ok (.aload_n 0, 1) := by decide +kernel
theorem dX12_night_24 : decode cX12_night 24 = .ok (.invokevirtual 161, 3) := by decide +kernel
theorem dX12_night_27 : decode cX12_night 27 = .ok (.aload_n 0, 1) := by decide +kernel
theorem dX12_night_28 : decode cX12_night 28 = .ok (.iload_n 1, 1) := by decide +kernel
theorem dX12_night_29 : decode cX12_night 29 = .ok (.invokevirtual 170, 3) := by decide +kernel
theorem dX12_night_32 : decode cX12_night 32 = .ok (.istore_n 2, 1) := by decide +kernel
theorem dX12_night_33 : decode cX12_night 33 = .ok (.aload_n 0, 1) := by decide +kernel
theorem dX12_night_34 : decode cX12_night 34 = .ok (.invokevirtual 167, 3) := by decide +kernel
theorem dX12_night_37 : decode cX12_night 37 = .ok (.iload_n 2, 1) := by decide +kernel
theorem dX12_night_38 : decode cX12_night 38 = .ok (.ireturn, 1) := by decide +kernel
theorem dX12_undo_0 : decode cX12_undo 0 = .ok (.aload_n 0, 1) := by decide +kernel
theorem dX12_undo_1 : decode cX12_undo 1 = .ok (.getfield 7, 3) := by decide +kernel
theorem dX12_undo_4 : decode cX12_undo 4 = .ok (.iconst 4, 1) := by decide +kernel
theorem dX12_undo_5 : decode cX12_undo 5 = .ok (.iaload, 1) := by decide +kernel
theorem dX12_undo_6 : decode cX12_undo 6 = .ok (.ifCond .ne 8, 3) := by decide +kernel
theorem dX12_undo_9 : decode cX12_undo 9 = .ok (.aload_n 0, 1) := by decide +kernel
theorem dX12_undo_10 : decode cX12_undo 10 = .ok (.invokevirtual 173, 3) := by decide +kernel
theorem dX12_undo_13 : decode cX12_undo 13 = .ok (.ireturn, 1) := by decide +kernel
theorem dX12_undo_14 : decode cX12_undo 14 = .ok (.aload_n 0, 1) := by decide +kernel
theorem dX12_undo_15 : decode cX12_undo 15 = .ok (.getfield 7, 3) := by decide +kernel
theorem dX12_undo_18 : decode cX12_undo 18 = .ok (.iconst 4, 1) := by decide +kernel
theorem dX12_undo_19 : decode cX12_undo 19 = .ok (.dup2, 1) := by decide +kernel
theorem dX12_undo_20 : decode cX12_undo 20 = .ok (.iaload, 1) := by decide +kernel
theorem dX12_undo_21 : decode cX12_undo 21 = .ok (.iconst 1, 1) := by decide +kernel
theorem dX12_undo_22 : decode cX12_undo 22 = .ok (.isub, 1) := by decide +kernel
theorem dX12_undo_23 : decode cX12_undo 23 = .ok (.iastore, 1) := by decide +kernel
theorem dX12_undo_24 : decode cX12_undo 24 = .ok (.bipush 69, 2) := by decide +kernel
theorem dX12_undo_26 : decode cX12_undo 26 = .ok (.bipush 19, 2) := by decide +kernel
theorem dX12_undo_28 : decode cX12_undo 28 = .ok (.aload_n 0, 1) := by decide +kernel
theorem dX12_undo_29 : decode cX12_undo 29 = .ok (.getfield 7, 3) := by decide +kernel
theorem dX12_undo_32 : decode cX12_undo 32 = .ok (.iconst 4, 1) := by decide +kernel
theorem dX12_undo_33 : decode cX12_undo 33 = .ok (.iaload, 1) := by decide +kernel
theorem dX12_undo_34 : decode cX12_undo 34 = .ok (.imul, 1) := by decide +kernel
theorem dX12_undo_35 : decode cX12_undo 35 = .ok (.iadd, 1) := by decide +kernel
theorem dX12_undo_36 : decode cX12_undo 36 = .ok (.istore_n 1, 1) := by decide +kernel
theorem dX12_undo_37 : decode cX12_undo 37 = .ok (.iconst 0, 1) := by decide +kernel
theorem dX12_undo_38 : decode cX12_undo 38 = .ok (.istore_n 2, 1) := by decide +kernel
theorem dX12_undo_39 : decode cX12_undo 39 = .ok (.iload_n 2, 1) := by decide +kernel
theorem dX12_undo_40 : decode cX12_undo 40 = .ok (.bipush 8, 2) := by decide +kernel
theorem dX12_undo_42 : decode cX12_undo 42 = .ok (.if_icmp .ge 54, 3) := by decide +kernel
theorem dX12_undo_45 : decode cX12_undo 45 = .ok (.aload_n 0, 1) := by decide +kernel
theorem dX12_undo_46 : decode cX12_undo 46 = .ok (.getfield 7, 3) := by decide +kernel
theorem dX12_undo_49 : decode cX12_undo 49 = .ok (.bipush 7, 2) := by decide +kernel
theorem dX12_undo_51 : decode cX12_undo 51 = .ok (.iconst 4, 1) := by decide +kernel
theorem dX12_undo_52 : decode cX12_undo 52 = .ok (.iload_n 2, 1) := by decide +kernel
theorem dX12_undo_53 : decode cX12_undo 53 = .ok (.imul, 1) := by decide +kernel
theorem dX12_undo_54 : decode cX12_undo 54 = .ok (.iadd, 1) := by decide +kernel
theorem dX12_undo_55 : decode cX12_undo 55 = .ok (.iconst 1, 1) := by decide +kernel
theorem dX12_undo_56 : decode cX12_undo 56 = .ok (.iadd, 1) := by decide +kernel
theorem dX12_undo_57 : decode cX12_undo 57 = .ok (.aload_n 0, 1) := by decide +kernel
theorem dX12_undo_58 : decode cX12_undo 58 = .ok (.getfield 7, 3) := by decide +kernel
theorem dX12_undo_61 : decode cX12_undo 61 = .ok (.iload_n 1, 1) := by decide +kernel
theorem dX12_undo_62 : decode cX12_undo 62 = .ok (.iload_n 2, 1) := by decide +kernel
theorem dX12_undo_63 : decode cX12_undo 63 = .ok (.iadd, 1) := by decide +kernel
theorem dX12_undo_64 : decode cX12_undo 64 = .ok (.iaload, 1) := by decide +kernel
theorem dX12_undo_65 : decode cX12_undo 65 = .ok (.iastore, 1) := by decide +kernel
theorem dX12_undo_66 : decode cX12_undo 66 = .ok (.aload_n 0, 1) := by decide +kernel
theorem dX12_undo_67 : decode cX12_undo 67 = .ok (.getfield 7, 3) := by decide +kernel
theorem dX12_undo_70 : decode cX12_undo 70 = .ok (.bipush 7, 2) := by decide +kernel
theorem dX12_undo_72 : decode cX12_undo 72 = .ok (.iconst 4, 1) := by decide +kernel
theorem dX12_undo_73 : decode cX12_undo 73 = .ok (.iload_n 2, 1) := by decide +kernel
theorem dX12_undo_74 : decode cX12_undo 74 = .ok (.imul, 1) := by decide +kernel
theorem dX12_undo_75 : decode cX12_undo 75 = .ok (.iadd, 1) := by decide +kernel
theorem dX12_undo_76 : decode cX12_undo 76 = .ok (.iconst 2, 1) := by decide +kernel
theorem dX12_undo_77 : decode cX12_undo 77 = .ok (.iadd, 1) := by decide +kernel
theorem dX12_undo_78 : decode cX12_undo 78 = .ok (.aload_n 0, 1) := by decide +kernel
theorem dX12_undo_79 : decode cX12_undo 79 = .ok (.getfield 7, 3) := by decide +kernel
theorem dX12_undo_82 : decode cX12_undo 82 = .ok (.iload_n 1, 1) := by decide +kernel
theorem dX12_undo_83 : decode cX12_undo 83 = .ok (.bipush 8, 2) := by decide +kernel
theorem dX12_undo_85 : decode cX12_undo 85 = .ok (.iadd, 1) := by decide +kernel
theorem dX12_undo_86 : decode cX12_undo 86 = .ok (.iload_n 2, 1) := by decide +kernel
theorem dX12_undo_87 : decode cX12_undo 87 = .ok (.iadd, 1) := by decide +kernel
theorem dX12_undo_88 : decode cX12_undo 88 = .ok (.iaload, 1) := by decide +kernel
theorem dX12_undo_89 : decode cX12_undo 89 = .ok (.iastore, 1) := by decide +kernel
theorem dX12_undo_90 : decode cX12_undo 90 = .ok (.iinc 2 1, 3) := by decide +kernel
theorem dX12_undo_93 : decode cX12_undo 93 = .ok (.goto (-54), 3) := by decide +kernel
theorem dX12_undo_96 : decode cX12_undo 96 = .ok (.aload_n 0, 1) := by decide +kernel
theorem dX12_undo_97 : decode cX12_undo 97 = .ok (.getfield 7, 3) := by decide +kernel
theorem dX12_undo_100 : decode cX12_undo 100 = .ok (.iconst 2, 1) := by decide +kernel
theorem dX12_undo_101 : decode cX12_undo 101 = .ok (.aload_n 0, 1) := by decide +kernel
theorem dX12_undo_102 : decode cX12_undo 102 = .ok (.getfield 7, 3) := by decide +kernel
theorem dX12_undo_105 : decode cX12_undo 105 = .ok (.iload_n 1, 1) := by decide +kernel
theorem dX12_undo_106 : decode cX12_undo 106 = .ok (.bipush 16, 2) := by decide +kernel
theorem dX12_undo_108 : decode cX12_undo 108 = .ok (.iadd, 1) := by decide +kernel
theorem dX12_undo_109 : decode cX12_undo 109 = .ok (.iaload, 1) := by decide +kernel
theorem dX12_undo_110 : decode cX12_undo 110 = .ok (.iastore, 1) := by decide +kernel
theorem dX12_undo_111 : decode cX12_undo 111 = .ok (.aload_n 0, 1) := by decide +kernel
theorem dX12_undo_112 : decode cX12_undo 112 = .ok (.getfield 7, 3) := by decide +kernel
theorem dX12_undo_115 : decode cX12_undo 115 = .ok (.iconst 5, 1) := by decide +kernel
theorem dX12_undo_116 : decode cX12_undo 116 = .ok (.aload_n 0, 1) := by decide +kernel
theorem dX12_undo_117 : decode cX12_undo 117 = .ok (.getfield 7, 3) := by decide +kernel
theorem dX12_undo_120 : decode cX12_undo 120 = .ok (.iload_n 1, 1) := by decide +kernel
theorem dX12_undo_121 : decode cX12_undo 121 = .ok (.bipush 17, 2) := by decide +kernel
theorem dX12_undo_123 : decode cX12_undo 123 = .ok (.iadd, 1) := by decide +kernel
theorem dX12_undo_124 : decode cX12_undo 124 = .ok (.iaload, 1) := by decide +kernel
theorem dX12_undo_125 : decode cX12_undo 125 = .ok (.iastore, 1) := by decide +kernel
theorem dX12_undo_126 : decode cX12_undo 126 = .ok (.aload_n 0, 1) := by decide +kernel
theorem dX12_undo_127 : decode cX12_undo 127 = .ok (.getfield 7, 3) := by decide +kernel
theorem dX12_undo_130 : decode cX12_undo 130 = .ok (.bipush 6, 2) := by decide +kernel
theorem dX12_undo_132 : decode cX12_undo 132 = .ok (.aload_n 0, 1) := by decide +kernel
theorem dX12_undo_133 : decode cX12_undo 133 = .ok (.getfield 7, 3) := by decide +kernel
theorem dX12_undo_136 : decode cX12_undo 136 = .ok (.iload_n 1, 1) := by decide +kernel
theorem dX12_undo_137 : decode cX12_undo 137 = .ok (.bipush 18, 2) := by decide +kernel
theorem dX12_undo_139 : decode cX12_undo 139 = .ok (.iadd, 1) := by decide +kernel
theorem dX12_undo_140 : decode cX12_undo 140 = .ok (.iaload, 1) := by decide +kernel
theorem dX12_undo_141 : decode cX12_undo 141 = .ok (.iastore, 1) := by decide +kernel
theorem dX12_undo_142 : decode cX12_undo 142 = .ok (.aload_n 0, 1) := by decide +kernel
theorem dX12_undo_143 : decode cX12_undo 143 = .ok (.getfield 7, 3) := by decide +kernel
theorem dX12_undo_146 : decode cX12_undo 146 = .ok (.iconst 2, 1) := by decide +kernel
theorem dX12_undo_147 : decode cX12_undo 147 = .ok (.iaload, 1) := by decide +kernel
theorem dX12_undo_148 : decode cX12_undo 148 = .ok (.ireturn, 1) := by decide +kernel
theorem dX12_of_0 : decode cX12_of 0 = .ok (.aload_n 0, 1) := by decide +kernel
theorem dX12_of_1 : decode cX12_of 1 = .ok (.iload_n 1, 1) := by decide +kernel
theorem dX12_of_2 : decode cX12_of 2 = .ok (.invokevirtual 94, 3) := by decide +kernel
theorem dX12_of_5 : decode cX12_of 5 = .ok (.ifCond .eq 24, 3) := by decide +kernel
theorem dX12_of_8 : decode cX12_of 8 = .ok (.iload_n 2, 1) := by decide +kernel
theorem dX12_of_9 : decode cX12_of 9 = .ok (.i2l, 1) := by decide +kernel
theorem dX12_of_10 : decode cX12_of 10 = .ok (.lconst 0, 1) := by decide +kernel
theorem dX12_of_11 : decode cX12_of 11 = .ok (.ldc2_w 176, 3) := by decide +kernel
theorem dX12_of_14 : decode cX12_of 14 = .ok (.invokestatic 68, 3) := by decide +kernel
theorem dX12_of_17 : decode cX12_of 17 = .ok (.ifCond .eq 12, 3) := by decide +kernel
theorem dX12_of_20 : decode cX12_of 20 = .ok (.aload_n 0, 1) := by decide +kernel
theorem dX12_of_21 : decode cX12_of 21 = .ok (.iload_n 1, 1) := by decide +kernel
theorem dX12_of_22 : decode cX12_of 22 = .ok (.iload_n 2, 1) := by decide +kernel
theorem dX12_of_23 : decode cX12_of 23 = .ok (.invokevirtual 103, 3) := by decide +kernel
theorem dX12_of_26 : decode cX12_of 26 = .ok (.goto 9, 3) := by decide +kernel
theorem dX12_of_29 : decode cX12_of 29 = .ok (.aload_n 0, 1) := by decide +kernel
theorem dX12_of_30 : decode cX12_of 30 = .ok (.bipush (-10), 2) := by decide +kernel
theorem dX12_of_32 : decode cX12_of 32 = .ok (.invokevirtual 81, 3) := by decide +kernel
theorem dX12_of_35 : decode cX12_of 35 = .ok (.ireturn, 1) := by decide +kernel
theorem dX12_about_0 : decode cX12_about 0 = .ok (.aload_n 0, 1) := by decide +kernel
theorem dX12_about_1 : decode cX12_about 1 = .ok (.iload_n 1, 1) := by decide +kernel
theorem dX12_about_2 : decode cX12_about 2 = .ok (.invokevirtual 155, 3) := by decide +kernel
theorem dX12_about_5 : decode cX12_about 5 = .ok (.ifCond .eq 15, 3) := by decide +kernel
theorem dX12_about_8 : decode cX12_about 8 = .ok (.iload_n 2, 1) := by decide +kernel
theorem dX12_about_9 : decode cX12_about 9 = .ok (.i2l, 1) := by decide +kernel
theorem dX12_about_10 : decode cX12_about 10 = .ok (.lconst 0, 1) := by decide +kernel
theorem dX12_about_11 : decode cX12_about 11 = .ok (.ldc2_w 178, 3) := by decide +kernel
theorem dX12_about_14 : decode cX12_about 14 = .ok (.invokestatic 68, 3) := by decide +kernel
theorem dX12_about_17 : decode cX12_about 17 = .ok (.ifCond .ne 10, 3) := by decide +kernel
theorem dX12_about_20 : decode cX12_about 20 = .ok (.aload_n 0, 1) := by decide +kernel
theorem dX12_about_21 : decode cX12_about 21 = .ok (.bipush (-2), 2) := by decide +kernel
theorem dX12_about_23 : decode cX12_about 23 = .ok (.invokevirtual 81, 3) := by decide +kernel
theorem dX12_about_26 : decode cX12_about 26 = .ok (.ireturn, 1) := by decide +kernel
theorem dX12_about_27 : decode cX12_about 27 = .ok (.aload_n 0, 1) := by decide +kernel
theorem dX12_about_28 : decode cX12_about 28 = .ok (.invokevirtual 161, 3) := by decide +kernel
theorem dX12_about_31 : decode cX12_about 31 = .ok (.iload_n 2, 1) := by decide +kernel
theorem dX12_about_32 : decode cX12_about 32 = .ok (.iconst 3, 1) := by decide +kernel
theorem dX12_about_33 : decode cX12_about 33 = .ok (.if_icmp .ge 12, 3) := by decide +kernel
theorem dX12_about_36 : decode cX12_about 36 = .ok (.aload_n 0, 1) := by decide +kernel
theorem dX12_about_37 : decode cX12_about 37 = .ok (.iload_n 1, 1) := by decide +kernel
theorem dX12_about_38 : decode cX12_about 38 = .ok (.iload_n 2, 1) := by decide +kernel
theorem dX12_about_39 : decode cX12_about 39 = .ok (.invokevirtual 136, 3) := by decide +kernel
theorem dX12_about_42 : decode cX12_about 42 = .ok (.goto 21, 3) := by decide +kernel
theorem dX12_about_45 : decode cX12_about 45 = .ok (.iload_n 2, 1) := by decide +kernel
theorem dX12_about_46 : decode cX12_about 46 = .ok (.iconst 3, 1) := by decide +kernel
theorem dX12_about_47 : decode cX12_about 47 = .ok (.if_icmp .ne 11, 3) := by decide +kernel
theorem dX12_about_50 : decode cX12_about 50 = .ok (.aload_n 0, 1) := by decide +kernel
theorem dX12_about_51 : decode cX12_about 51 = .ok (.iload_n 1, 1) := by decide +kernel
theorem dX12_about_52 : decode cX12_about 52 = .ok (.invokevirtual 146, 3) := by decide +kernel
theorem dX12_about_55 : decode cX12_about 55 = .ok (.goto 8, 3) := by decide +kernel
theorem dX12_about_58 : decode cX12_about 58 = .ok (.aload_n 0, 1) := by decide +kernel
theorem dX12_about_59 : decode cX12_about 59 = .ok (.iload_n 1, 1) := by decide +kernel
theorem dX12_about_60 : decode cX12_about 60 = .ok (.invokevirtual 149, 3) := by decide +kernel
theorem dX12_about_63 : decode cX12_about 63 = .ok (.ireturn, 1) := by decide +kernel
theorem dX12_winner_0 : decode cX12_winner 0 = .ok (.aload_n 0, 1) := by decide +kernel
theorem dX12_winner_1 : decode cX12_winner 1 = .ok (.getfield 7, 3) := by decide +kernel
theorem dX12_winner_4 : decode cX12_winner 4 = .ok (.iconst 5, 1) := by decide +kernel
theorem dX12_winner_5 : decode cX12_winner 5 = .ok (.iaload, 1) := by decide +kernel
theorem dX12_winner_6 : decode cX12_winner 6 = .ok (.ireturn, 1) := by decide +kernel
theorem dX12_coalition_0 : decode cX12_coalition 0 = .ok (.aload_n 0, 1) := by decide +kernel
theorem dX12_coalition_1 : decode cX12_coalition 1 = .ok (.getfield 7, 3) := by decide +kernel
theorem dX12_coalition_4 : decode cX12_coalition 4 = .ok (.bipush 6, 2) := by decide +kernel
theorem dX12_coalition_6 : decode cX12_coalition 6 = .ok (.iaload, 1) := by decide +kernel
theorem dX12_coalition_7 : decode cX12_coalition 7 = .ok (.ireturn, 1) := by decide +kernel
theorem dX12_february_0 : decode cX12_february 0 = .ok (.iload_n 1, 1) := by decide +kernel
theorem dX12_february_1 : decode cX12_february 1 = .ok (.i2l, 1) := by decide +kernel
theorem dX12_february_2 : decode cX12_february 2 = .ok (.lconst 0, 1) := by decide +kernel
theorem dX12_february_3 : decode cX12_february 3 = .ok (.lconst 1, 1) := by decide +kernel
theorem dX12_february_4 : decode cX12_february 4 = .ok (.invokestatic 68, 3) := by decide +kernel
theorem dX12_february_7 : decode cX12_february 7 = .ok (.ifCond .ne 10, 3) := by decide +kernel
theorem dX12_february_10 : decode cX12_february 10 = .ok (.aload_n 0, 1) := by decide +kernel
theorem dX12_february_11 : decode cX12_february 11 = .ok (.bipush (-2), 2) := by decide +kernel
theorem dX12_february_13 : decode cX12_february 13 = .ok (.invokevirtual 81, 3) := by decide +kernel
theorem dX12_february_16 : decode cX12_february 16 = .ok (.ireturn, 1) := by decide +kernel
theorem dX12_february_17 : decode cX12_february 17 = .ok (.aload_n 0, 1) := by decide +kernel
theorem dX12_february_18 : decode cX12_february 18 = .ok (.invokevirtual 161, 3) := by decide +kernel
theorem dX12_february_21 : decode cX12_february 21 = .ok (.iconst 0, 1) := by decide +kernel
theorem dX12_february_22 : decode cX12_february 22 = .ok (.istore_n 2, 1) := by decide +kernel
theorem dX12_february_23 : decode cX12_february 23 = .ok (.iload_n 2, 1) := by decide +kernel
theorem dX12_february_24 : decode cX12_february 24 = .ok (.aload_n 0, 1) := by decide +kernel
theorem dX12_february_25 : decode cX12_february 25 = .ok (.invokevirtual 72, 3) := by decide +kernel
theorem dX12_february_28 : decode cX12_february 28 = .ok (.if_icmp .ge 15, 3) := by decide +kernel
theorem dX12_february_31 : decode cX12_february 31 = .ok (.aload_n 0, 1) := by decide +kernel
theorem dX12_february_32 : decode cX12_february 32 = .ok (.iload_n 2, 1) := by decide +kernel
theorem dX12_february_33 : decode cX12_february 33 = .ok (.invokevirtual 164, 3) := by decide +kernel
theorem dX12_february_36 : decode cX12_february 36 = .ok (.istore_n 3, 1) := by decide +kernel
theorem dX12_february_37 : decode cX12_february 37 = .ok (.iinc 2 1, 3) := by decide +kernel
theorem dX12_february_40 : decode cX12_february 40 = .ok (.goto (-17), 3) := by decide +kernel
theorem dX12_february_43 : decode cX12_february 43 = .ok (.iload_n 1, 1) := by decide +kernel
theorem dX12_february_44 : decode cX12_february 44 = .ok (.ifCond .ne 10, 3) := by decide +kernel
theorem dX12_february_47 : decode cX12_february 47 = .ok (.aload_n 0, 1) := by decide +kernel
theorem dX12_february_48 : decode cX12_february 48 = .ok (.getfield 111, 3) := by decide +kernel
theorem dX12_february_51 : decode cX12_february 51 = .ok (.goto 7, 3) := by decide +kernel
theorem dX12_february_54 : decode cX12_february 54 = .ok (.aload_n 0, 1) := by decide +kernel
theorem dX12_february_55 : decode cX12_february 55 = .ok (.getfield 114, 3) := by decide +kernel
theorem dX12_february_58 : decode cX12_february 58 = .ok (.ireturn, 1) := by decide +kernel
theorem dX12_areUnlike_0 : decode cX12_areUnlike 0 = .ok (.iconst 0, 1) := by decide +kernel
theorem dX12_areUnlike_1 : decode cX12_areUnlike 1 = .ok (.istore_n 1, 1) := by decide +kernel
theorem dX12_areUnlike_2 : decode cX12_areUnlike 2 = .ok (.iconst 0, 1) := by decide +kernel
theorem dX12_areUnlike_3 : decode cX12_areUnlike 3 = .ok (.istore_n 2, 1) := by decide +kernel
theorem dX12_areUnlike_4 : decode cX12_areUnlike 4 = .ok (.iload_n 2, 1) := by decide +kernel
theorem dX12_areUnlike_5 : decode cX12_areUnlike 5 = .ok (.aload_n 0, 1) := by decide +kernel
theorem dX12_areUnlike_6 : decode cX12_areUnlike 6 = .ok (.invokevirtual 72, 3) := by decide +kernel
theorem dX12_areUnlike_9 : decode cX12_areUnlike 9 = .ok (.if_icmp .ge 20, 3) := by decide +kernel
theorem dX12_areUnlike_12 : decode cX12_areUnlike 12 = .ok (.iload_n 1, 1) := by decide +kernel
theorem dX12_areUnlike_13 : decode cX12_areUnlike 13 = .ok (.iconst 1, 1) := by decide +kernel
theorem dX12_areUnlike_14 : decode cX12_areUnlike 14 = .ok (.aload_n 0, 1) := by decide +kernel
theorem dX12_areUnlike_15 : decode cX12_areUnlike 15 = .ok (.getfield 33, 3) := by decide +kernel
theorem dX12_areUnlike_18 : decode cX12_areUnlike 18 = .ok (.iload_n 2, 1) := by decide +kernel
theorem dX12_areUnlike_19 : decode cX12_areUnlike 19 = .ok (.iaload, 1) := by decide +kernel
theorem dX12_areUnlike_20 : decode cX12_areUnlike 20 = .ok (.ishl, 1) := by decide +kernel
theorem dX12_areUnlike_21 : decode cX12_areUnlike 21 = .ok (.ior, 1) := by decide +kernel
theorem dX12_areUnlike_22 : decode cX12_areUnlike 22 = .ok (.istore_n 1, 1) := by decide +kernel
theorem dX12_areUnlike_23 : decode cX12_areUnlike 23 = .ok (.iinc 2 1, 3) := by decide +kernel
theorem dX12_areUnlike_26 : decode cX12_areUnlike 26 = .ok (.goto (-22), 3) := by decide +kernel
theorem dX12_areUnlike_29 : decode cX12_areUnlike 29 = .ok (.iload_n 1, 1) := by decide +kernel
theorem dX12_areUnlike_30 : decode cX12_areUnlike 30 = .ok (.iconst 1, 1) := by decide +kernel
theorem dX12_areUnlike_31 : decode cX12_areUnlike 31 = .ok (.aload_n 0, 1) := by decide +kernel
theorem dX12_areUnlike_32 : decode cX12_areUnlike 32 = .ok (.invokevirtual 72, 3) := by decide +kernel
theorem dX12_areUnlike_35 : decode cX12_areUnlike 35 = .ok (.ishl, 1) := by decide +kernel
theorem dX12_areUnlike_36 : decode cX12_areUnlike 36 = .ok (.iconst 1, 1) := by decide +kernel
theorem dX12_areUnlike_37 : decode cX12_areUnlike 37 = .ok (.isub, 1) := by decide +kernel
theorem dX12_areUnlike_38 : decode cX12_areUnlike 38 = .ok (.if_icmp .ne 7, 3) := by decide +kernel
theorem dX12_areUnlike_41 : decode cX12_areUnlike 41 = .ok (.iconst 1, 1) := by decide +kernel
theorem dX12_areUnlike_42 : decode cX12_areUnlike 42 = .ok (.goto 4, 3) := by decide +kernel
theorem dX12_areUnlike_45 : decode cX12_areUnlike 45 = .ok (.iconst 0, 1) := by decide +kernel
theorem dX12_areUnlike_46 : decode cX12_areUnlike 46 = .ok (.ireturn, 1) := by decide +kernel
theorem dX12_layRow_0 : decode cX12_layRow 0 = .ok (.iload_n 1, 1) := by decide +kernel
theorem dX12_layRow_1 : decode cX12_layRow 1 = .ok (.istore 4, 2) := by decide +kernel
theorem dX12_layRow_3 : decode cX12_layRow 3 = .ok (.iload_n 2, 1) := by decide +kernel
theorem dX12_layRow_4 : decode cX12_layRow 4 = .ok (.iconst 1, 1) := by decide +kernel
theorem dX12_layRow_5 : decode cX12_layRow 5 = .ok (.isub, 1) := by decide +kernel
theorem dX12_layRow_6 : decode cX12_layRow 6 = .ok (.istore 5, 2) := by decide +kernel
theorem dX12_layRow_8 : decode cX12_layRow 8 = .ok (.iload 5, 2) := by decide +kernel
theorem dX12_layRow_10 : decode cX12_layRow 10 = .ok (.ifCond .lt 26, 3) := by decide +kernel
theorem dX12_layRow_13 : decode cX12_layRow 13 = .ok (.aload_n 0, 1) := by decide +kernel
theorem dX12_layRow_14 : decode cX12_layRow 14 = .ok (.getfield 33, 3) := by decide +kernel
theorem dX12_layRow_17 : decode cX12_layRow 17 = .ok (.iload 5, 2) := by decide +kernel
theorem dX12_layRow_19 : decode cX12_layRow 19 = .ok (.iload 4, 2) := by decide +kernel
theorem dX12_layRow_21 : decode cX12_layRow 21 = .ok (.iload_n 3, 1) := by decide +kernel
theorem dX12_layRow_22 : decode cX12_layRow 22 = .ok (.irem, 1) := by decide +kernel
theorem dX12_layRow_23 : decode cX12_layRow 23 = .ok (.iastore, 1) := by decide +kernel
theorem dX12_layRow_24 : decode cX12_layRow 24 = .ok (.iload 4, 2) := by decide +kernel
theorem dX12_layRow_26 : decode cX12_layRow 26 = .ok (.iload_n 3, 1) := by decide +kernel
theorem dX12_layRow_27 : decode cX12_layRow 27 = .ok (.idiv, 1) := by decide +kernel
theorem dX12_layRow_28 : decode cX12_layRow 28 = .ok (.istore 4, 2) := by decide +kernel
theorem dX12_layRow_30 : decode cX12_layRow 30 = .ok (.iinc 5 (-1), 3) := by decide +kernel
theorem dX12_layRow_33 : decode cX12_layRow 33 = .ok (.goto (-25), 3) := by decide +kernel
theorem dX12_layRow_36 : decode cX12_layRow 36 = .ok (.return_, 1) := by decide +kernel
theorem dX12_power_0 : decode cX12_power 0 = .ok (.iconst 1, 1) := by decide +kernel
theorem dX12_power_1 : decode cX12_power 1 = .ok (.istore_n 2, 1) := by decide +kernel
theorem dX12_power_2 : decode cX12_power 2 = .ok (.iconst 0, 1) := by decide +kernel
theorem dX12_power_3 : decode cX12_power 3 = .ok (.istore_n 3, 1) := by decide +kernel
theorem dX12_power_4 : decode cX12_power 4 = .ok (.iload_n 3, 1) := by decide +kernel
theorem dX12_power_5 : decode cX12_power 5 = .ok (.iload_n 1, 1) := by decide +kernel
theorem dX12_power_6 : decode cX12_power 6 = .ok (.if_icmp .ge 13, 3) := by decide +kernel
theorem dX12_power_9 : decode cX12_power 9 = .ok (.iload_n 2, 1) := by decide +kernel
theorem dX12_power_10 : decode cX12_power 10 = .ok (.iload_n 0, 1) := by decide +kernel
theorem dX12_power_11 : decode cX12_power 11 = .ok (.imul, 1) := by decide +kernel
theorem dX12_power_12 : decode cX12_power 12 = .ok (.istore_n 2, 1) := by decide +kernel
theorem dX12_power_13 : decode cX12_power 13 = .ok (.iinc 3 1, 3) := by decide +kernel
theorem dX12_power_16 : decode cX12_power 16 = .ok (.goto (-12), 3) := by decide +kernel
theorem dX12_power_19 : decode cX12_power 19 = .ok (.iload_n 2, 1) := by decide +kernel
theorem dX12_power_20 : decode cX12_power 20 = .ok (.ireturn, 1) := by decide +kernel
theorem dX12_orders_0 : decode cX12_orders 0 = .ok (.aload_n 0, 1) := by decide +kernel
theorem dX12_orders_1 : decode cX12_orders 1 = .ok (.iload_n 1, 1) := by decide +kernel
theorem dX12_orders_2 : decode cX12_orders 2 = .ok (.invokevirtual 94, 3) := by decide +kernel
theorem dX12_orders_5 : decode cX12_orders 5 = .ok (.ifCond .eq 8, 3) := by decide +kernel
theorem dX12_orders_8 : decode cX12_orders 8 = .ok (.iload_n 2, 1) := by decide +kernel
theorem dX12_orders_9 : decode cX12_orders 9 = .ok (.iconst (-1), 1) := by decide +kernel
theorem dX12_orders_10 : decode cX12_orders 10 = .ok (.if_icmp .ge 10, 3) := by decide +kernel
theorem dX12_orders_13 : decode cX12_orders 13 = .ok (.aload_n 0, 1) := by decide +kernel
theorem dX12_orders_14 : decode cX12_orders 14 = .ok (.bipush (-10), 2) := by decide +kernel
theorem dX12_orders_16 : decode cX12_orders 16 = .ok (.invokevirtual 81, 3) := by decide +kernel
theorem dX12_orders_19 : decode cX12_orders 19 = .ok (.ireturn, 1) := by decide +kernel
theorem dX12_orders_20 : decode cX12_orders 20 = .ok (.aload_n 0, 1) := by decide +kernel
theorem dX12_orders_21 : decode cX12_orders 21 = .ok (.getfield 7, 3) := by decide +kernel
theorem dX12_orders_24 : decode cX12_orders 24 = .ok (.iconst 5, 1) := by decide +kernel
theorem dX12_orders_25 : decode cX12_orders 25 = .ok (.iaload, 1) := by decide +kernel
theorem dX12_orders_26 : decode cX12_orders 26 = .ok (.iconst (-1), 1) := by decide +kernel
theorem dX12_orders_27 : decode cX12_orders 27 = .ok (.if_icmp .eq 8, 3) := by decide +kernel
theorem dX12_orders_30 : decode cX12_orders 30 = .ok (.aload_n 0, 1) := by decide +kernel
theorem dX12_orders_31 : decode cX12_orders 31 = .ok (.invokevirtual 173, 3) := by decide +kernel
theorem dX12_orders_34 : decode cX12_orders 34 = .ok (.ireturn, 1) := by decide +kernel
theorem dX12_orders_35 : decode cX12_orders 35 = .ok (.aload_n 0, 1) := by decide +kernel
theorem dX12_orders_36 : decode cX12_orders 36 = .ok (.invokevirtual 72, 3) := by decide +kernel
theorem dX12_orders_39 : decode cX12_orders 39 = .ok (.istore_n 3, 1) := by decide +kernel
theorem dX12_orders_40 : decode cX12_orders 40 = .ok (.iconst 0, 1) := by decide +kernel
theorem dX12_orders_41 : decode cX12_orders 41 = .ok (.istore 4, 2) := by decide +kernel
theorem dX12_orders_43 : decode cX12_orders 43 = .ok (.iconst 0, 1) := by decide +kernel
theorem dX12_orders_44 : decode cX12_orders 44 = .ok (.istore 5, 2) := by decide +kernel
theorem dX12_orders_46 : decode cX12_orders 46 = .ok (.iload 5, 2) := by decide +kernel
theorem dX12_orders_48 : decode cX12_orders 48 = .ok (.iload_n 3, 1) := by decide +kernel
theorem dX12_orders_49 : decode cX12_orders 49 = .ok (.iload_n 3, 1) := by decide +kernel
theorem dX12_orders_50 : decode cX12_orders 50 = .ok (.invokestatic 180, 3) := by decide +kernel
theorem dX12_orders_53 : decode cX12_orders 53 = .ok (.if_icmp .ge 116, 3) := by decide +kernel
theorem dX12_orders_56 : decode cX12_orders 56 = .ok (.aload_n 0, 1) := by decide +kernel
theorem dX12_orders_57 : decode cX12_orders 57 = .ok (.iload 5, 2) := by decide +kernel
theorem dX12_orders_59 : decode cX12_orders 59 = .ok (.iload_n 3, 1) := by decide +kernel
theorem dX12_orders_60 : decode cX12_orders 60 = .ok (.iload_n 3, 1) := by decide +kernel
theorem dX12_orders_61 : decode cX12_orders 61 = .ok (.invokevirtual 183, 3) := by decide +kernel
theorem dX12_orders_64 : decode cX12_orders 64 = .ok (.aload_n 0, 1) := by decide +kernel
theorem dX12_orders_65 : decode cX12_orders 65 = .ok (.invokevirtual 187, 3) := by decide +kernel
theorem dX12_orders_68 : decode cX12_orders 68 = .ok (.ifCond .eq 95, 3) := by decide +kernel
theorem dX12_orders_71 : decode cX12_orders 71 = .ok (.aload_n 0, 1) := by decide +kernel
theorem dX12_orders_72 : decode cX12_orders 72 = .ok (.invokevirtual 161, 3) := by decide +kernel
theorem dX12_orders_75 : decode cX12_orders 75 = .ok (.iconst 0, 1) := by decide +kernel
theorem dX12_orders_76 : decode cX12_orders 76 = .ok (.istore 6, 2) := by decide +kernel
theorem dX12_orders_78 : decode cX12_orders 78 = .ok (.iload 6, 2) := by decide +kernel
theorem dX12_orders_80 : decode cX12_orders 80 = .ok (.iload_n 3, 1) := by decide +kernel
theorem dX12_orders_81 : decode cX12_orders 81 = .ok (.if_icmp .ge 22, 3) := by decide +kernel
theorem dX12_orders_84 : decode cX12_orders 84 = .ok (.aload_n 0, 1) := by decide +kernel
theorem dX12_orders_85 : decode cX12_orders 85 = .ok (.aload_n 0, 1) := by decide +kernel
theorem dX12_orders_86 : decode cX12_orders 86 = .ok (.getfield 33, 3) := by decide +kernel
theorem dX12_orders_89 : decode cX12_orders 89 = .ok (.iload 6, 2) := by decide +kernel
theorem dX12_orders_91 : decode cX12_orders 91 = .ok (.iaload, 1) := by decide +kernel
theorem dX12_orders_92 : decode cX12_orders 92 = .ok (.invokevirtual 164, 3) := by decide +kernel
theorem dX12_orders_95 : decode cX12_orders 95 = .ok (.istore 7, 2) := by decide +kernel
theorem dX12_orders_97 : decode cX12_orders 97 = .ok (.iinc 6 1, 3) := by decide +kernel
theorem dX12_orders_100 : decode cX12_orders 100 = .ok (.goto (-22), 3) := by decide +kernel
theorem dX12_orders_103 : decode cX12_orders 103 = .ok (.iconst 0, 1) := by decide +kernel
theorem dX12_orders_104 : decode cX12_orders 104 = .ok (.istore 6, 2) := by decide +kernel
theorem dX12_orders_106 : decode cX12_orders 106 = .ok (.iload 6, 2) := by decide +kernel
theorem dX12_orders_108 : decode cX12_orders 108 = .ok (.iload_n 3, 1) := by decide +kernel
theorem dX12_orders_109 : decode cX12_orders 109 = .ok (.if_icmp .ge 36, 3) := by decide +kernel
theorem dX12_orders_112 : decode cX12_orders 112 = .ok (.aload_n 0, 1) := by decide +kernel
theorem dX12_orders_113 : decode cX12_orders 113 = .ok (.getfield 111, 3) := by decide +kernel
theorem dX12_orders_116 : decode cX12_orders 116 = .ok (.iload_n 1, 1) := by decide +kernel
theorem dX12_orders_117 : decode cX12_orders 117 = .ok (.if_icmp .ne 28, 3) := by decide +kernel
theorem dX12_orders_120 : decode cX12_orders 120 = .ok (.iload 4, 2) := by decide +kernel
theorem dX12_orders_122 : decode cX12_orders 122 = .ok (.ifCond .ne 23, 3) := by decide +kernel
theorem dX12_orders_125 : decode cX12_orders 125 = .ok (.aload_n 0, 1) := by decide +kernel
theorem dX12_orders_126 : decode cX12_orders 126 = .ok (.getfield 36, 3) := by decide +kernel
theorem dX12_orders_129 : decode cX12_orders 129 = .ok (.iload 6, 2) := by decide +kernel
theorem dX12_orders_131 : decode cX12_orders 131 = .ok (.aload_n 0, 1) := by decide +kernel
theorem dX12_orders_132 : decode cX12_orders 132 = .ok (.getfield 33, 3) := by decide +kernel
theorem dX12_orders_135 : decode cX12_orders 135 = .ok (.iload 6, 2) := by decide +kernel
theorem dX12_orders_137 : decode cX12_orders 137 = .ok (.iaload, 1) := by decide +kernel
theorem dX12_orders_138 : decode cX12_orders 138 = .ok (.iastore, 1) := by decide +kernel
theorem dX12_orders_139 : decode cX12_orders 139 = .ok (.iinc 6 1, 3) := by decide +kernel
theorem dX12_orders_142 : decode cX12_orders 142 = .ok (.goto (-36), 3) := by decide +kernel
theorem dX12_orders_145 : decode cX12_orders 145 = .ok (.iload 4, 2) := by decide +kernel
theorem dX12_orders_147 : decode cX12_orders 147 = .ok (.aload_n 0, 1) := by decide +kernel
theorem dX12_orders_148 : decode cX12_orders 148 = .ok (.getfield 111, 3) := by decide +kernel
theorem dX12_orders_151 : decode cX12_orders 151 = .ok (.iload_n 1, 1) := by decide +kernel
theorem dX12_orders_152 : decode cX12_orders 152 = .ok (.if_icmp .ne 7, 3) := by decide +kernel
theorem dX12_orders_155 : decode cX12_orders 155 = .ok (.iconst 1, 1) := by decide +kernel
theorem dX12_orders_156 : decode cX12_orders 156 = .ok (.goto 4, 3) := by decide +kernel
theorem dX12_orders_159 : decode cX12_orders 159 = .ok (.iconst 0, 1) := by decide +kernel
theorem dX12_orders_160 : decode cX12_orders 160 = .ok (.iadd, 1) := by decide +kernel
theorem dX12_orders_161 : decode cX12_orders 161 = .ok (.istore 4, 2) := by decide +kernel
theorem dX12_orders_163 : decode cX12_orders 163 = .ok (.iinc 5 1, 3) := by decide +kernel
theorem dX12_orders_166 : decode cX12_orders 166 = .ok (.goto (-120), 3) := by decide +kernel
theorem dX12_orders_169 : decode cX12_orders 169 = .ok (.iload_n 2, 1) := by decide +kernel
theorem dX12_orders_170 : decode cX12_orders 170 = .ok (.iconst (-1), 1) := by decide +kernel
theorem dX12_orders_171 : decode cX12_orders 171 = .ok (.if_icmp .ne 8, 3) := by decide +kernel
theorem dX12_orders_174 : decode cX12_orders 174 = .ok (.iload 4, 2) := by decide +kernel
theorem dX12_orders_176 : decode cX12_orders 176 = .ok (.goto 28, 3) := by decide +kernel
theorem dX12_orders_179 : decode cX12_orders 179 = .ok (.iload 4, 2) := by decide +kernel
theorem dX12_orders_181 : decode cX12_orders 181 = .ok (.ifCond .ne 7, 3) := by decide +kernel
theorem dX12_orders_184 : decode cX12_orders 184 = .ok (.iconst (-1), 1) := by decide +kernel
theorem dX12_orders_185 : decode cX12_orders 185 = .ok (.goto 19, 3) := by decide +kernel
theorem dX12_orders_188 : decode cX12_orders 188 = .ok (.iload_n 2, 1) := by decide +kernel
theorem dX12_orders_189 : decode cX12_orders 189 = .ok (.iload_n 3, 1) := by decide +kernel
theorem dX12_orders_190 : decode cX12_orders 190 = .ok (.if_icmp .ge 12, 3) := by decide +kernel
theorem dX12_orders_193 : decode cX12_orders 193 = .ok (.aload_n 0, 1) := by decide +kernel
theorem dX12_orders_194 : decode cX12_orders 194 = .ok (.getfield 36, 3) := by decide +kernel
theorem dX12_orders_197 : decode cX12_orders 197 = .ok (.iload_n 2, 1) := by decide +kernel
theorem dX12_orders_198 : decode cX12_orders 198 = .ok (.iaload, 1) := by decide +kernel
theorem dX12_orders_199 : decode cX12_orders 199 = .ok (.goto 5, 3) := by decide +kernel
theorem dX12_orders_202 : decode cX12_orders 202 = .ok (.bipush (-5), 2) := by decide +kernel
theorem dX12_orders_204 : decode cX12_orders 204 = .ok (.ireturn, 1) := by decide +kernel
theorem dX12_stones_0 : decode cX12_stones 0 = .ok (.aload_n 0, 1) := by decide +kernel
theorem dX12_stones_1 : decode cX12_stones 1 = .ok (.iload_n 1, 1) := by decide +kernel
theorem dX12_stones_2 : decode cX12_stones 2 = .ok (.invokevirtual 94, 3) := by decide +kernel
theorem dX12_stones_5 : decode cX12_stones 5 = .ok (.ifCond .eq 13, 3) := by decide +kernel
theorem dX12_stones_8 : decode cX12_stones 8 = .ok (.iload_n 2, 1) := by decide +kernel
theorem dX12_stones_9 : decode cX12_stones 9 = .ok (.i2l, 1) := by decide +kernel
theorem dX12_stones_10 : decode cX12_stones 10 = .ok (.lconst 0, 1) := by decide +kernel
theorem dX12_stones_11 : decode cX12_stones 11 = .ok (.lconst 1, 1) := by decide +kernel
theorem dX12_stones_12 : decode cX12_stones 12 = .ok (.invokestatic 68, 3) := by decide +kernel
theorem dX12_stones_15 : decode cX12_stones 15 = .ok (.ifCond .ne 10, 3) := by decide +kernel
theorem dX12_stones_18 : decode cX12_stones 18 = .ok (.aload_n 0, 1) := by decide +kernel
theorem dX12_stones_19 : decode cX12_stones 19 = .ok (.bipush (-2), 2) := by decide +kernel
theorem dX12_stones_21 : decode cX12_stones 21 = .ok (.invokevirtual 81, 3) := by decide +kernel
theorem dX12_stones_24 : decode cX12_stones 24 = .ok (.ireturn, 1) := by decide +kernel
theorem dX12_stones_25 : decode cX12_stones 25 = .ok (.iconst 1, 1) := by decide +kernel
theorem dX12_stones_26 : decode cX12_stones 26 = .ok (.istore_n 3, 1) := by decide +kernel
theorem dX12_stones_27 : decode cX12_stones 27 = .ok (.iload_n 3, 1) := by decide +kernel
theorem dX12_stones_28 : decode cX12_stones 28 = .ok (.bipush 6, 2) := by decide +kernel
theorem dX12_stones_30 : decode cX12_stones 30 = .ok (.if_icmp .ge 103, 3) := by decide +kernel
theorem dX12_stones_33 : decode cX12_stones 33 = .ok (.iconst 0, 1) := by decide +kernel
theorem dX12_stones_34 : decode cX12_stones 34 = .ok (.istore 4, 2) := by decide +kernel
theorem dX12_stones_36 : decode cX12_stones 36 = .ok (.iload 4, 2) := by decide +kernel
theorem dX12_stones_38 : decode cX12_stones 38 = .ok (.aload_n 0, 1) := by decide +kernel
theorem dX12_stones_39 : decode cX12_stones 39 = .ok (.invokevirtual 64, 3) := by decide +kernel
theorem dX12_stones_42 : decode cX12_stones 42 = .ok (.iload_n 3, 1) := by decide +kernel
theorem dX12_stones_43 : decode cX12_stones 43 = .ok (.invokestatic 180, 3) := by decide +kernel
theorem dX12_stones_46 : decode cX12_stones 46 = .ok (.if_icmp .ge 81, 3) := by decide +kernel
theorem dX12_stones_49 : decode cX12_stones 49 = .ok (.aload_n 0, 1) := by decide +kernel
theorem dX12_stones_50 : decode cX12_stones 50 = .ok (.iload 4, 2) := by decide +kernel
theorem dX12_stones_52 : decode cX12_stones 52 = .ok (.iload_n 3, 1) := by decide +kernel
theorem dX12_stones_53 : decode cX12_stones 53 = .ok (.aload_n 0, 1) := by decide +kernel
theorem dX12_stones_54 : decode cX12_stones 54 = .ok (.invokevirtual 64, 3) := by decide +kernel
theorem dX12_stones_57 : decode cX12_stones 57 = .ok (.invokevirtual 183, 3) := by decide +kernel
theorem dX12_stones_60 : decode cX12_stones 60 = .ok (.aload_n 0, 1) := by decide +kernel
theorem dX12_stones_61 : decode cX12_stones 61 = .ok (.invokevirtual 161, 3) := by decide +kernel
theorem dX12_stones_64 : decode cX12_stones 64 = .ok (.iconst 0, 1) := by decide +kernel
theorem dX12_stones_65 : decode cX12_stones 65 = .ok (.istore 5, 2) := by decide +kernel
theorem dX12_stones_67 : decode cX12_stones 67 = .ok (.iconst 0, 1) := by decide +kernel
theorem dX12_stones_68 : decode cX12_stones 68 = .ok (.istore 6, 2) := by decide +kernel
theorem dX12_stones_70 : decode cX12_stones 70 = .ok (.iload 6, 2) := by decide +kernel
theorem dX12_stones_72 : decode cX12_stones 72 = .ok (.iload_n 3, 1) := by decide +kernel
theorem dX12_stones_73 : decode cX12_stones 73 = .ok (.if_icmp .ge 23, 3) := by decide +kernel
theorem dX12_stones_76 : decode cX12_stones 76 = .ok (.aload_n 0, 1) := by decide +kernel
theorem dX12_stones_77 : decode cX12_stones 77 = .ok (.aload_n 0, 1) := by decide +kernel
theorem dX12_stones_78 : decode cX12_stones 78 = .ok (.getfield 33, 3) := by decide +kernel
theorem dX12_stones_81 : decode cX12_stones 81 = .ok (.iload 6, 2) := by decide +kernel
theorem dX12_stones_83 : decode cX12_stones 83 = .ok (.iaload, 1) := by decide +kernel
theorem dX12_stones_84 : decode cX12_stones 84 = .ok (.iconst 1, 1) := by decide +kernel
theorem dX12_stones_85 : decode cX12_stones 85 = .ok (.invokevirtual 152, 3) := by decide +kernel
theorem dX12_stones_88 : decode cX12_stones 88 = .ok (.istore 5, 2) := by decide +kernel
theorem dX12_stones_90 : decode cX12_stones 90 = .ok (.iinc 6 1, 3) := by decide +kernel
theorem dX12_stones_93 : decode cX12_stones 93 = .ok (.goto (-23), 3) := by decide +kernel
theorem dX12_stones_96 : decode cX12_stones 96 = .ok (.iload 5, 2) := by decide +kernel
theorem dX12_stones_98 : decode cX12_stones 98 = .ok (.iload_n 1, 1) := by decide +kernel
theorem dX12_stones_99 : decode cX12_stones 99 = .ok (.ishr, 1) := by decide +kernel
theorem dX12_stones_100 : decode cX12_stones 100 = .ok (.iconst 1, 1) := by decide +kernel
theorem dX12_stones_101 : decode cX12_stones 101 = .ok (.iand, 1) := by decide +kernel
theorem dX12_stones_102 : decode cX12_stones 102 = .ok (.iconst 1, 1) := by decide +kernel
theorem dX12_stones_103 : decode cX12_stones 103 = .ok (.if_icmp .ne 18, 3) := by decide +kernel
theorem dX12_stones_106 : decode cX12_stones 106 = .ok (.iload_n 2, 1) := by decide +kernel
theorem dX12_stones_107 : decode cX12_stones 107 = .ok (.ifCond .ne 7, 3) := by decide +kernel
theorem dX12_stones_110 : decode cX12_stones 110 = .ok (.iload_n 3, 1) := by decide +kernel
theorem dX12_stones_111 : decode cX12_stones 111 = .ok (.goto 9, 3) := by decide +kernel
theorem dX12_stones_114 : decode cX12_stones 114 = .ok (.aload_n 0, 1) := by decide +kernel
theorem dX12_stones_115 : decode cX12_stones 115 = .ok (.getfield 33, 3) := by decide +kernel
theorem dX12_stones_118 : decode cX12_stones 118 = .ok (.iconst 0, 1) := by decide +kernel
theorem dX12_stones_119 : decode cX12_stones 119 = .ok (.iaload, 1) := by decide +kernel
theorem dX12_stones_120 : decode cX12_stones 120 = .ok (.ireturn, 1) := by decide +kernel
theorem dX12_stones_121 : decode cX12_stones 121 = .ok (.iinc 4 1, 3) := by decide +kernel
theorem dX12_stones_124 : decode cX12_stones 124 = .ok (.goto (-88), 3) := by decide +kernel
theorem dX12_stones_127 : decode cX12_stones 127 = .ok (.iinc 3 1, 3) := by decide +kernel
theorem dX12_stones_130 : decode cX12_stones 130 = .ok (.goto (-103), 3) := by decide +kernel
theorem dX12_stones_133 : decode cX12_stones 133 = .ok (.iconst (-1), 1) := by decide +kernel
theorem dX12_stones_134 : decode cX12_stones 134 = .ok (.ireturn, 1) := by decide +kernel
theorem dX12_buried_0 : decode cX12_buried 0 = .ok (.aload_n 0, 1) := by decide +kernel
theorem dX12_buried_1 : decode cX12_buried 1 = .ok (.iload_n 1, 1) := by decide +kernel
theorem dX12_buried_2 : decode cX12_buried 2 = .ok (.invokevirtual 94, 3) := by decide +kernel
theorem dX12_buried_5 : decode cX12_buried 5 = .ok (.ifCond .eq 15, 3) := by decide +kernel
theorem dX12_buried_8 : decode cX12_buried 8 = .ok (.iload_n 2, 1) := by decide +kernel
theorem dX12_buried_9 : decode cX12_buried 9 = .ok (.i2l, 1) := by decide +kernel
theorem dX12_buried_10 : decode cX12_buried 10 = .ok (.lconst 1, 1) := by decide +kernel
theorem dX12_buried_11 : decode cX12_buried 11 = .ok (.ldc2_w 191, 3) := by decide +kernel
theorem dX12_buried_14 : decode cX12_buried 14 = .ok (.invokestatic 68, 3) := by decide +kernel
theorem dX12_buried_17 : decode cX12_buried 17 = .ok (.ifCond .ne 10, 3) := by decide +kernel
theorem dX12_buried_20 : decode cX12_buried 20 = .ok (.aload_n 0, 1) := by decide +kernel
theorem dX12_buried_21 : decode cX12_buried 21 = .ok (.bipush (-2), 2) := by decide +kernel
theorem dX12_buried_23 : decode cX12_buried 23 = .ok (.invokevirtual 81, 3) := by decide +kernel
theorem dX12_buried_26 : decode cX12_buried 26 = .ok (.ireturn, 1) := by decide +kernel
theorem dX12_buried_27 : decode cX12_buried 27 = .ok (.aload_n 0, 1) := by decide +kernel
theorem dX12_buried_28 : decode cX12_buried 28 = .ok (.invokevirtual 161, 3) := by decide +kernel
theorem dX12_buried_31 : decode cX12_buried 31 = .ok (.aload_n 0, 1) := by decide +kernel
theorem dX12_buried_32 : decode cX12_buried 32 = .ok (.iload_n 1, 1) := by decide +kernel
theorem dX12_buried_33 : decode cX12_buried 33 = .ok (.iload_n 2, 1) := by decide +kernel
theorem dX12_buried_34 : decode cX12_buried 34 = .ok (.invokevirtual 152, 3) := by decide +kernel
theorem dX12_buried_37 : decode cX12_buried 37 = .ok (.istore_n 3, 1) := by decide +kernel
theorem dX12_buried_38 : decode cX12_buried 38 = .ok (.aload_n 0, 1) := by decide +kernel
theorem dX12_buried_39 : decode cX12_buried 39 = .ok (.getfield 123, 3) := by decide +kernel
theorem dX12_buried_42 : decode cX12_buried 42 = .ok (.ireturn, 1) := by decide +kernel
theorem dX12_nights_0 : decode cX12_nights 0 = .ok (.aload_n 0, 1) := by decide +kernel
theorem dX12_nights_1 : decode cX12_nights 1 = .ok (.iload_n 1, 1) := by decide +kernel
theorem dX12_nights_2 : decode cX12_nights 2 = .ok (.invokevirtual 94, 3) := by decide +kernel
theorem dX12_nights_5 : decode cX12_nights 5 = .ok (.ifCond .eq 15, 3) := by decide +kernel
theorem dX12_nights_8 : decode cX12_nights 8 = .ok (.iload_n 2, 1) := by decide +kernel
theorem dX12_nights_9 : decode cX12_nights 9 = .ok (.i2l, 1) := by decide +kernel
theorem dX12_nights_10 : decode cX12_nights 10 = .ok (.lconst 1, 1) := by decide +kernel
theorem dX12_nights_11 : decode cX12_nights 11 = .ok (.ldc2_w 98, 3) := by decide +kernel
theorem dX12_nights_14 : decode cX12_nights 14 = .ok (.invokestatic 68, 3) := by decide +kernel
theorem dX12_nights_17 : decode cX12_nights 17 = .ok (.ifCond .ne 10, 3) := by decide +kernel
theorem dX12_nights_20 : decode cX12_nights 20 = .ok (.aload_n 0, 1) := by decide +kernel
theorem dX12_nights_21 : decode cX12_nights 21 = .ok (.bipush (-2), 2) := by decide +kernel
theorem dX12_nights_23 : decode cX12_nights 23 = .ok (.invokevirtual 81, 3) := by decide +kernel
theorem dX12_nights_26 : decode cX12_nights 26 = .ok (.ireturn, 1) := by decide +kernel
theorem dX12_nights_27 : decode cX12_nights 27 = .ok (.aload_n 0, 1) := by decide +kernel
theorem dX12_nights_28 : decode cX12_nights 28 = .ok (.invokevirtual 161, 3) := by decide +kernel
theorem dX12_nights_31 : decode cX12_nights 31 = .ok (.iconst 1, 1) := by decide +kernel
theorem dX12_nights_32 : decode cX12_nights 32 = .ok (.istore_n 3, 1) := by decide +kernel
theorem dX12_nights_33 : decode cX12_nights 33 = .ok (.iload_n 3, 1) := by decide +kernel
theorem dX12_nights_34 : decode cX12_nights 34 = .ok (.bipush 60, 2) := by decide +kernel
theorem dX12_nights_36 : decode cX12_nights 36 = .ok (.if_icmp .gt 24, 3) := by decide +kernel
theorem dX12_nights_39 : decode cX12_nights 39 = .ok (.aload_n 0, 1) := by decide +kernel
theorem dX12_nights_40 : decode cX12_nights 40 = .ok (.iload_n 2, 1) := by decide +kernel
theorem dX12_nights_41 : decode cX12_nights 41 = .ok (.invokevirtual 170, 3) := by decide +kernel
theorem dX12_nights_44 : decode cX12_nights 44 = .ok (.iload_n 1, 1) := by decide +kernel
theorem dX12_nights_45 : decode cX12_nights 45 = .ok (.ishr, 1) := by decide +kernel
theorem dX12_nights_46 : decode cX12_nights 46 = .ok (.iconst 1, 1) := by decide +kernel
theorem dX12_nights_47 : decode cX12_nights 47 = .ok (.iand, 1) := by decide +kernel
theorem dX12_nights_48 : decode cX12_nights 48 = .ok (.iconst 1, 1) := by decide +kernel
theorem dX12_nights_49 : decode cX12_nights 49 = .ok (.if_icmp .ne 5, 3) := by decide +kernel
theorem dX12_nights_52 : decode cX12_nights 52 = .ok (.iload_n 3, 1) := by decide +kernel
theorem dX12_nights_53 : decode cX12_nights 53 = .ok (.ireturn, 1) := by decide +kernel
theorem dX12_nights_54 : decode cX12_nights 54 = .ok (.iinc 3 1, 3) := by decide +kernel
theorem dX12_nights_57 : decode cX12_nights 57 = .ok (.goto (-24), 3) := by decide +kernel
theorem dX12_nights_60 : decode cX12_nights 60 = .ok (.iconst (-1), 1) := by decide +kernel
theorem dX12_nights_61 : decode cX12_nights 61 = .ok (.ireturn, 1) := by decide +kernel
theorem dX12_layTurn_0 : decode cX12_layTurn 0 = .ok (.aload_n 0, 1) := by decide +kernel
theorem dX12_layTurn_1 : decode cX12_layTurn 1 = .ok (.getfield 39, 3) := by decide +kernel
theorem dX12_layTurn_4 : decode cX12_layTurn 4 = .ok (.iload_n 1, 1) := by decide +kernel
theorem dX12_layTurn_5 : decode cX12_layTurn 5 = .ok (.iconst 0, 1) := by decide +kernel
theorem dX12_layTurn_6 : decode cX12_layTurn 6 = .ok (.iastore, 1) := by decide +kernel
theorem dX12_layTurn_7 : decode cX12_layTurn 7 = .ok (.aload_n 0, 1) := by decide +kernel
theorem dX12_layTurn_8 : decode cX12_layTurn 8 = .ok (.getfield 42, 3) := by decide +kernel
theorem dX12_layTurn_11 : decode cX12_layTurn 11 = .ok (.iload_n 1, 1) := by decide +kernel
theorem dX12_layTurn_12 : decode cX12_layTurn 12 = .ok (.iconst (-1), 1) := by decide +kernel
theorem dX12_layTurn_13 : decode cX12_layTurn 13 = .ok (.iastore, 1) := by decide +kernel
theorem dX12_layTurn_14 : decode cX12_layTurn 14 = .ok (.iconst 0, 1) := by decide +kernel
theorem dX12_layTurn_15 : decode cX12_layTurn 15 = .ok (.istore_n 2, 1) := by decide +kernel
theorem dX12_layTurn_16 : decode cX12_layTurn 16 = .ok (.iload_n 2, 1) := by decide +kernel
theorem dX12_layTurn_17 : decode cX12_layTurn 17 = .ok (.bipush 8, 2) := by decide +kernel
theorem dX12_layTurn_19 : decode cX12_layTurn 19 = .ok (.if_icmp .ge 43, 3) := by decide +kernel
theorem dX12_layTurn_22 : decode cX12_layTurn 22 = .ok (.aload_n 0, 1) := by decide +kernel
theorem dX12_layTurn_23 : decode cX12_layTurn 23 = .ok (.getfield 45, 3) := by decide +kernel
theorem dX12_layTurn_26 : decode cX12_layTurn 26 = .ok (.bipush 8, 2) := by decide +kernel
theorem dX12_layTurn_28 : decode cX12_layTurn 28 = .ok (.iload_n 1, 1) := by decide +kernel
theorem dX12_layTurn_29 : decode cX12_layTurn 29 = .ok (.imul, 1) := by decide +kernel
theorem dX12_layTurn_30 : decode cX12_layTurn 30 = .ok (.iload_n 2, 1) := by decide +kernel
theorem dX12_layTurn_31 : decode cX12_layTurn 31 = .ok (.iadd, 1) := by decide +kernel
theorem dX12_layTurn_32 : decode cX12_layTurn 32 = .ok (.aload_n 0, 1) := by decide +kernel
theorem dX12_layTurn_33 : decode cX12_layTurn 33 = .ok (.getfield 27, 3) := by decide +kernel
theorem dX12_layTurn_36 : decode cX12_layTurn 36 = .ok (.iload_n 2, 1) := by decide +kernel
theorem dX12_layTurn_37 : decode cX12_layTurn 37 = .ok (.iaload, 1) := by decide +kernel
theorem dX12_layTurn_38 : decode cX12_layTurn 38 = .ok (.iastore, 1) := by decide +kernel
theorem dX12_layTurn_39 : decode cX12_layTurn 39 = .ok (.aload_n 0, 1) := by decide +kernel
theorem dX12_layTurn_40 : decode cX12_layTurn 40 = .ok (.getfield 48, 3) := by decide +kernel
theorem dX12_layTurn_43 : decode cX12_layTurn 43 = .ok (.bipush 8, 2) := by decide +kernel
theorem dX12_layTurn_45 : decode cX12_layTurn 45 = .ok (.iload_n 1, 1) := by decide +kernel
theorem dX12_layTurn_46 : decode cX12_layTurn 46 = .ok (.imul, 1) := by decide +kernel
theorem dX12_layTurn_47 : decode cX12_layTurn 47 = .ok (.iload_n 2, 1) := by decide +kernel
theorem dX12_layTurn_48 : decode cX12_layTurn 48 = .ok (.iadd, 1) := by decide +kernel
theorem dX12_layTurn_49 : decode cX12_layTurn 49 = .ok (.aload_n 0, 1) := by decide +kernel
theorem dX12_layTurn_50 : decode cX12_layTurn 50 = .ok (.getfield 30, 3) := by decide +kernel
theorem dX12_layTurn_53 : decode cX12_layTurn 53 = .ok (.iload_n 2, 1) := by decide +kernel
theorem dX12_layTurn_54 : decode cX12_layTurn 54 = .ok (.iaload, 1) := by decide +kernel
theorem dX12_layTurn_55 : decode cX12_layTurn 55 = .ok (.iastore, 1) := by decide +kernel
theorem dX12_layTurn_56 : decode cX12_layTurn 56 = .ok (.iinc 2 1, 3) := by decide +kernel
theorem dX12_layTurn_59 : decode cX12_layTurn 59 = .ok (.goto (-43), 3) := by decide +kernel
theorem dX12_layTurn_62 : decode cX12_layTurn 62 = .ok (.return_, 1) := by decide +kernel
theorem dX12_backTo_0 : decode cX12_backTo 0 = .ok (.iconst 0, 1) := by decide +kernel
theorem dX12_backTo_1 : decode cX12_backTo 1 = .ok (.istore_n 2, 1) := by decide +kernel
theorem dX12_backTo_2 : decode cX12_backTo 2 = .ok (.iload_n 2, 1) := by decide +kernel
theorem dX12_backTo_3 : decode cX12_backTo 3 = .ok (.bipush 8, 2) := by decide +kernel
theorem dX12_backTo_5 : decode cX12_backTo 5 = .ok (.if_icmp .ge 43, 3) := by decide +kernel
theorem dX12_backTo_8 : decode cX12_backTo 8 = .ok (.aload_n 0, 1) := by decide +kernel
theorem dX12_backTo_9 : decode cX12_backTo 9 = .ok (.getfield 27, 3) := by decide +kernel
theorem dX12_backTo_12 : decode cX12_backTo 12 = .ok (.iload_n 2, 1) := by decide +kernel
theorem dX12_backTo_13 : decode cX12_backTo 13 = .ok (.aload_n 0, 1) := by decide +kernel
theorem dX12_backTo_14 : decode cX12_backTo 14 = .ok (.getfield 45, 3) := by decide +kernel
theorem dX12_backTo_17 : decode cX12_backTo 17 = .ok (.bipush 8, 2) := by decide +kernel
theorem dX12_backTo_19 : decode cX12_backTo 19 = .ok (.iload_n 1, 1) := by decide +kernel
theorem dX12_backTo_20 : decode cX12_backTo 20 = .ok (.imul, 1) := by decide +kernel
theorem dX12_backTo_21 : decode cX12_backTo 21 = .ok (.iload_n 2, 1) := by decide +kernel
theorem dX12_backTo_22 : decode cX12_backTo 22 = .ok (.iadd, 1) := by decide +kernel
theorem dX12_backTo_23 : decode cX12_backTo 23 = .ok (.iaload, 1) := by decide +kernel
theorem dX12_backTo_24 : decode cX12_backTo 24 = .ok (.iastore, 1) := by decide +kernel
theorem dX12_backTo_25 : decode cX12_backTo 25 = .ok (.aload_n 0, 1) := by decide +kernel
theorem dX12_backTo_26 : decode cX12_backTo 26 = .ok (.getfield 30, 3) := by decide +kernel
theorem dX12_backTo_29 : decode cX12_backTo 29 = .ok (.iload_n 2, 1) := by decide +kernel
theorem dX12_backTo_30 : decode cX12_backTo 30 = .ok (.aload_n 0, 1) := by decide +kernel
theorem dX12_backTo_31 : decode cX12_backTo 31 = .ok (.getfield 48, 3) := by decide +kernel
theorem dX12_backTo_34 : decode cX12_backTo 34 = .ok (.bipush 8, 2) := by decide +kernel
theorem dX12_backTo_36 : decode cX12_backTo 36 = .ok (.iload_n 1, 1) := by decide +kernel
theorem dX12_backTo_37 : decode cX12_backTo 37 = .ok (.imul, 1) := by decide +kernel
theorem dX12_backTo_38 : decode cX12_backTo 38 = .ok (.iload_n 2, 1) := by decide +kernel
theorem dX12_backTo_39 : decode cX12_backTo 39 = .ok (.iadd, 1) := by decide +kernel
theorem dX12_backTo_40 : decode cX12_backTo 40 = .ok (.iaload, 1) := by decide +kernel
theorem dX12_backTo_41 : decode cX12_backTo 41 = .ok (.iastore, 1) := by decide +kernel
theorem dX12_backTo_42 : decode cX12_backTo 42 = .ok (.iinc 2 1, 3) := by decide +kernel
theorem dX12_backTo_45 : decode cX12_backTo 45 = .ok (.goto (-43), 3) := by decide +kernel
theorem dX12_backTo_48 : decode cX12_backTo 48 = .ok (.return_, 1) := by decide +kernel
theorem dX12_judge_0 : decode cX12_judge 0 = .ok (.aload_n 0, 1) := by decide +kernel
theorem dX12_judge_1 : decode cX12_judge 1 = .ok (.getfield 42, 3) := by decide +kernel
theorem dX12_judge_4 : decode cX12_judge 4 = .ok (.iload_n 1, 1) := by decide +kernel
theorem dX12_judge_5 : decode cX12_judge 5 = .ok (.iaload, 1) := by decide +kernel
theorem dX12_judge_6 : decode cX12_judge 6 = .ok (.iconst (-1), 1) := by decide +kernel
theorem dX12_judge_7 : decode cX12_judge 7 = .ok (.if_icmp .eq 32, 3) := by decide +kernel
theorem dX12_judge_10 : decode cX12_judge 10 = .ok (.iload_n 1, 1) := by decide +kernel
theorem dX12_judge_11 : decode cX12_judge 11 = .ok (.iconst 2, 1) := by decide +kernel
theorem dX12_judge_12 : decode cX12_judge 12 = .ok (.irem, 1) := by decide +kernel
theorem dX12_judge_13 : decode cX12_judge 13 = .ok (.ifCond .ne 16, 3) := by decide +kernel
theorem dX12_judge_16 : decode cX12_judge 16 = .ok (.iload_n 2, 1) := by decide +kernel
theorem dX12_judge_17 : decode cX12_judge 17 = .ok (.aload_n 0, 1) := by decide +kernel
theorem dX12_judge_18 : decode cX12_judge 18 = .ok (.getfield 42, 3) := by decide +kernel
theorem dX12_judge_21 : decode cX12_judge 21 = .ok (.iload_n 1, 1) := by decide +kernel
theorem dX12_judge_22 : decode cX12_judge 22 = .ok (.iaload, 1) := by decide +kernel
theorem dX12_judge_23 : decode cX12_judge 23 = .ok (.if_icmp .le 20, 3) := by decide +kernel
theorem dX12_judge_26 : decode cX12_judge 26 = .ok (.goto 13, 3) := by decide +kernel
theorem dX12_judge_29 : decode cX12_judge 29 = .ok (.iload_n 2, 1) := by decide +kernel
theorem dX12_judge_30 : decode cX12_judge 30 = .ok (.aload_n 0, 1) := by decide +kernel
theorem dX12_judge_31 : decode cX12_judge 31 = .ok (.getfield 42, 3) := by decide +kernel
theorem dX12_judge_34 : decode cX12_judge 34 = .ok (.iload_n 1, 1) := by decide +kernel
theorem dX12_judge_35 : decode cX12_judge 35 = .ok (.iaload, 1) := by decide +kernel
theorem dX12_judge_36 : decode cX12_judge 36 = .ok (.if_icmp .ge 7, 3) := by decide +kernel
theorem dX12_judge_39 : decode cX12_judge 39 = .ok (.iconst 1, 1) := by decide +kernel
theorem dX12_judge_40 : decode cX12_judge 40 = .ok (.goto 4, 3) := by decide +kernel
theorem dX12_judge_43 : decode cX12_judge 43 = .ok (.iconst 0, 1) := by decide +kernel
theorem dX12_judge_44 : decode cX12_judge 44 = .ok (.istore_n 3, 1) := by decide +kernel
theorem dX12_judge_45 : decode cX12_judge 45 = .ok (.aload_n 0, 1) := by decide +kernel
theorem dX12_judge_46 : decode cX12_judge 46 = .ok (.getfield 42, 3) := by decide +kernel
theorem dX12_judge_49 : decode cX12_judge 49 = .ok (.iload_n 1, 1) := by decide +kernel
theorem dX12_judge_50 : decode cX12_judge 50 = .ok (.iload_n 3, 1) := by decide +kernel
theorem dX12_judge_51 : decode cX12_judge 51 = .ok (.ifCond .eq 7, 3) := by decide +kernel
theorem dX12_judge_54 : decode cX12_judge 54 = .ok (.iload_n 2, 1) := by decide +kernel
theorem dX12_judge_55 : decode cX12_judge 55 = .ok (.goto 9, 3) := by decide +kernel
theorem dX12_judge_58 : decode cX12_judge 58 = .ok (.aload_n 0, 1) := by decide +kernel
theorem dX12_judge_59 : decode cX12_judge 59 = .ok (.getfield 42, 3) := by decide +kernel
theorem dX12_judge_62 : decode cX12_judge 62 = .ok (.iload_n 1, 1) := by decide +kernel
theorem dX12_judge_63 : decode cX12_judge 63 = .ok (.iaload, 1) := by decide +kernel
theorem dX12_judge_64 : decode cX12_judge 64 = .ok (.iastore, 1) := by decide +kernel
theorem dX12_judge_65 : decode cX12_judge 65 = .ok (.aload_n 0, 1) := by decide +kernel
