theorem dX8_init_0 : decode cX8_init 0 = .ok (.aload_n 0, 1) := by decide +kernel
theorem dX8_init_1 : decode cX8_init 1 = .ok (.invokespecial 3, 3) := by decide +kernel
theorem dX8_init_4 : decode cX8_init 4 = .ok (.aload_n 0, 1) := by decide +kernel
theorem dX8_init_5 : decode cX8_init 5 = .ok (.sipush 152, 3) := by decide +kernel
theorem dX8_init_8 : decode cX8_init 8 = .ok (.newarray .int, 2) := by decide +kernel
theorem dX8_init_10 : decode cX8_init 10 = .ok (.putfield 9, 3) := by decide +kernel
theorem dX8_init_13 : decode cX8_init 13 = .ok (.aload_n 0, 1) := by decide +kernel
theorem dX8_init_14 : decode cX8_init 14 = .ok (.bipush 6, 2) := by decide +kernel
theorem dX8_init_16 : decode cX8_init 16 = .ok (.newarray .int, 2) := by decide +kernel
theorem dX8_init_18 : decode cX8_init 18 = .ok (.putfield 15, 3) := by decide +kernel
theorem dX8_init_21 : decode cX8_init 21 = .ok (.aload_n 0, 1) := by decide +kernel
theorem dX8_init_22 : decode cX8_init 22 = .ok (.bipush 6, 2) := by decide +kernel
theorem dX8_init_24 : decode cX8_init 24 = .ok (.newarray .int, 2) := by decide +kernel
theorem dX8_init_26 : decode cX8_init 26 = .ok (.putfield 18, 3) := by decide +kernel
theorem dX8_init_29 : decode cX8_init 29 = .ok (.aload_n 0, 1) := by decide +kernel
theorem dX8_init_30 : decode cX8_init 30 = .ok (.new 21, 3) := by decide +kernel
theorem dX8_init_33 : decode cX8_init 33 = .ok (.dup, 1) := by decide +kernel
theorem dX8_init_34 : decode cX8_init 34 = .ok (.aload_n 1, 1) := by decide +kernel
theorem dX8_init_35 : decode cX8_init 35 = .ok (.invokespecial 23, 3) := by decide +kernel
theorem dX8_init_38 : decode cX8_init 38 = .ok (.putfield 26, 3) := by decide +kernel
theorem dX8_init_41 : decode cX8_init 41 = .ok (.aload_n 0, 1) := by decide +kernel
theorem dX8_init_42 : decode cX8_init 42 = .ok (.new 30, 3) := by decide +kernel
theorem dX8_init_45 : decode cX8_init 45 = .ok (.dup, 1) := by decide +kernel
theorem dX8_init_46 : decode cX8_init 46 = .ok (.aload_n 0, 1) := by decide +kernel
theorem dX8_init_47 : decode cX8_init 47 = .ok (.getfield 26, 3) := by decide +kernel
theorem dX8_init_50 : decode cX8_init 50 = .ok (.invokespecial 32, 3) := by decide +kernel
theorem dX8_init_53 : decode cX8_init 53 = .ok (.putfield 35, 3) := by decide +kernel
theorem dX8_init_56 : decode cX8_init 56 = .ok (.return_, 1) := by decide +kernel
theorem dX8_startAnew_0 : decode cX8_startAnew 0 = .ok (.aload_n 0, 1) := by decide +kernel
theorem dX8_startAnew_1 : decode cX8_startAnew 1 = .ok (.getfield 26, 3) := by decide +kernel
theorem dX8_startAnew_4 : decode cX8_startAnew 4 = .ok (.iconst 0, 1) := by decide +kernel
theorem dX8_startAnew_5 : decode cX8_startAnew 5 = .ok (.putfield 39, 3) := by decide +kernel
theorem dX8_startAnew_8 : decode cX8_startAnew 8 = .ok (.aload_n 0, 1) := by decide +kernel
theorem dX8_startAnew_9 : decode cX8_startAnew 9 = .ok (.getfield 26, 3) := by decide +kernel
theorem dX8_startAnew_12 : decode cX8_startAnew 12 = .ok (.iconst 0, 1) := by decide +kernel
theorem dX8_startAnew_13 : decode cX8_startAnew 13 = .ok (.putfield 43, 3) := by decide +kernel
theorem dX8_startAnew_16 : decode cX8_startAnew 16 = .ok (.aload_n 0, 1) := by decide +kernel
theorem dX8_startAnew_17 : decode cX8_startAnew 17 = .ok (.getfield 35, 3) := by decide +kernel
theorem dX8_startAnew_20 : decode cX8_startAnew 20 = .ok (.invokevirtual 46, 3) := by decide +kernel
theorem dX8_startAnew_23 : decode cX8_startAnew 23 = .ok (.aload_n 0, 1) := by decide +kernel
theorem dX8_startAnew_24 : decode cX8_startAnew 24 = .ok (.iconst 0, 1) := by decide +kernel
theorem dX8_startAnew_25 : decode cX8_startAnew 25 = .ok (.putfield 49, 3) := by decide +kernel
theorem dX8_startAnew_28 : decode cX8_startAnew 28 = .ok (.aload_n 0, 1) := by decide +kernel
theorem dX8_startAnew_29 : decode cX8_startAnew 29 = .ok (.iconst 0, 1) := by decide +kernel
theorem dX8_startAnew_30 : decode cX8_startAnew 30 = .ok (.putfield 52, 3) := by decide +kernel
theorem dX8_startAnew_33 : decode cX8_startAnew 33 = .ok (.return_, 1) := by decide +kernel
theorem dX8_copyFrom_0 : decode cX8_copyFrom 0 = .ok (.aload_n 0, 1) := by decide +kernel
theorem dX8_copyFrom_1 : decode cX8_copyFrom 1 = .ok (.getfield 26, 3) := by decide +kernel
theorem dX8_copyFrom_4 : decode cX8_copyFrom 4 = .ok (.aload_n 1, 1) := by decide +kernel
theorem dX8_copyFrom_5 : decode cX8_copyFrom 5 = .ok (.getfield 26, 3) := by decide +kernel
theorem dX8_copyFrom_8 : decode cX8_copyFrom 8 = .ok (.invokevirtual 55, 3) := by decide +kernel
theorem dX8_copyFrom_11 : decode cX8_copyFrom 11 = .ok (.aload_n 0, 1) := by decide +kernel
theorem dX8_copyFrom_12 : decode cX8_copyFrom 12 = .ok (.getfield 35, 3) := by decide +kernel
theorem dX8_copyFrom_15 : decode cX8_copyFrom 15 = .ok (.aload_n 1, 1) := by decide +kernel
theorem dX8_copyFrom_16 : decode cX8_copyFrom 16 = .ok (.getfield 35, 3) := by decide +kernel
theorem dX8_copyFrom_19 : decode cX8_copyFrom 19 = .ok (.invokevirtual 58, 3) := by decide +kernel
theorem dX8_copyFrom_22 : decode cX8_copyFrom 22 = .ok (.aload_n 1, 1) := by decide +kernel
theorem dX8_copyFrom_23 : decode cX8_copyFrom 23 = .ok (.getfield 9, 3) := by decide +kernel
theorem dX8_copyFrom_26 : decode cX8_copyFrom 26 = .ok (.iconst 0, 1) := by decide +kernel
theorem dX8_copyFrom_27 : decode cX8_copyFrom 27 = .ok (.aload_n 0, 1) := by decide +kernel
theorem dX8_copyFrom_28 : decode cX8_copyFrom 28 = .ok (.getfield 9, 3) := by decide +kernel
theorem dX8_copyFrom_31 : decode cX8_copyFrom 31 = .ok (.iconst 0, 1) := by decide +kernel
theorem dX8_copyFrom_32 : decode cX8_copyFrom 32 = .ok (.sipush 152, 3) := by decide +kernel
theorem dX8_copyFrom_35 : decode cX8_copyFrom 35 = .ok (.invokestatic 61, 3) := by decide +kernel
theorem dX8_copyFrom_38 : decode cX8_copyFrom 38 = .ok (.aload_n 0, 1) := by decide +kernel
theorem dX8_copyFrom_39 : decode cX8_copyFrom 39 = .ok (.aload_n 1, 1) := by decide +kernel
theorem dX8_copyFrom_40 : decode cX8_copyFrom 40 = .ok (.getfield 49, 3) := by decide +kernel
theorem dX8_copyFrom_43 : decode cX8_copyFrom 43 = .ok (.putfield 49, 3) := by decide +kernel
theorem dX8_copyFrom_46 : decode cX8_copyFrom 46 = .ok (.aload_n 1, 1) := by decide +kernel
theorem dX8_copyFrom_47 : decode cX8_copyFrom 47 = .ok (.getfield 15, 3) := by decide +kernel
theorem dX8_copyFrom_50 : decode cX8_copyFrom 50 = .ok (.iconst 0, 1) := by decide +kernel
theorem dX8_copyFrom_51 : decode cX8_copyFrom 51 = .ok (.aload_n 0, 1) := by decide +kernel
theorem dX8_copyFrom_52 : decode cX8_copyFrom 52 = .ok (.getfield 15, 3) := by decide +kernel
theorem dX8_copyFrom_55 : decode cX8_copyFrom 55 = .ok (.iconst 0, 1) := by decide +kernel
theorem dX8_copyFrom_56 : decode cX8_copyFrom 56 = .ok (.bipush 6, 2) := by decide +kernel
theorem dX8_copyFrom_58 : decode cX8_copyFrom 58 = .ok (.invokestatic 61, 3) := by decide +kernel
theorem dX8_copyFrom_61 : decode cX8_copyFrom 61 = .ok (.aload_n 1, 1) := by decide +kernel
theorem dX8_copyFrom_62 : decode cX8_copyFrom 62 = .ok (.getfield 18, 3) := by decide +kernel
theorem dX8_copyFrom_65 : decode cX8_copyFrom 65 = .ok (.iconst 0, 1) := by decide +kernel
theorem dX8_copyFrom_66 : decode cX8_copyFrom 66 = .ok (.aload_n 0, 1) := by decide +kernel
theorem dX8_copyFrom_67 : decode cX8_copyFrom 67 = .ok (.getfield 18, 3) := by decide +kernel
theorem dX8_copyFrom_70 : decode cX8_copyFrom 70 = .ok (.iconst 0, 1) := by decide +kernel
theorem dX8_copyFrom_71 : decode cX8_copyFrom 71 = .ok (.bipush 6, 2) := by decide +kernel
theorem dX8_copyFrom_73 : decode cX8_copyFrom 73 = .ok (.invokestatic 61, 3) := by decide +kernel
theorem dX8_copyFrom_76 : decode cX8_copyFrom 76 = .ok (.aload_n 0, 1) := by decide +kernel
theorem dX8_copyFrom_77 : decode cX8_copyFrom 77 = .ok (.aload_n 1, 1) := by decide +kernel
theorem dX8_copyFrom_78 : decode cX8_copyFrom 78 = .ok (.getfield 52, 3) := by decide +kernel
theorem dX8_copyFrom_81 : decode cX8_copyFrom 81 = .ok (.putfield 52, 3) := by decide +kernel
theorem dX8_copyFrom_84 : decode cX8_copyFrom 84 = .ok (.return_, 1) := by decide +kernel
theorem dX8_addLedge_0 : decode cX8_addLedge 0 = .ok (.aload_n 0, 1) := by decide +kernel
theorem dX8_addLedge_1 : decode cX8_addLedge 1 = .ok (.getfield 26, 3) := by decide +kernel
theorem dX8_addLedge_4 : decode cX8_addLedge 4 = .ok (.getfield 39, 3) := by decide +kernel
theorem dX8_addLedge_7 : decode cX8_addLedge 7 = .ok (.istore 4, 2) := by decide +kernel
theorem dX8_addLedge_9 : decode cX8_addLedge 9 = .ok (.iload 4, 2) := by decide +kernel
theorem dX8_addLedge_11 : decode cX8_addLedge 11 = .ok (.ifCond .lt 10, 3) := by decide +kernel
theorem dX8_addLedge_14 : decode cX8_addLedge 14 = .ok (.iload 4, 2) := by decide +kernel
theorem dX8_addLedge_16 : decode cX8_addLedge 16 = .ok (.bipush 8, 2) := by decide +kernel
theorem dX8_addLedge_18 : decode cX8_addLedge 18 = .ok (.if_icmp .lt 6, 3) := by decide +kernel
theorem dX8_addLedge_21 : decode cX8_addLedge 21 = .ok (.bipush (-4), 2) := by decide +kernel
theorem dX8_addLedge_23 : decode cX8_addLedge 23 = .ok (.ireturn, 1) := by decide +kernel
theorem dX8_addLedge_24 : decode cX8_addLedge 24 = .ok (.aload_n 0, 1) := by decide +kernel
theorem dX8_addLedge_25 : decode cX8_addLedge 25 = .ok (.getfield 26, 3) := by decide +kernel
theorem dX8_addLedge_28 : decode cX8_addLedge 28 = .ok (.getfield 67, 3) := by decide +kernel
theorem dX8_addLedge_31 : decode cX8_addLedge 31 = .ok (.iload 4, 2) := by decide +kernel
theorem dX8_addLedge_33 : decode cX8_addLedge 33 = .ok (.iload_n 1, 1) := by decide +kernel
theorem dX8_addLedge_34 : decode cX8_addLedge 34 = .ok (.iastore, 1) := by decide +kernel
theorem dX8_addLedge_35 : decode cX8_addLedge 35 = .ok (.aload_n 0, 1) := by decide +kernel
theorem dX8_addLedge_36 : decode cX8_addLedge 36 = .ok (.getfield 26, 3) := by decide +kernel
theorem dX8_addLedge_39 : decode cX8_addLedge 39 = .ok (.getfield 70, 3) := by decide +kernel
theorem dX8_addLedge_42 : decode cX8_addLedge 42 = .ok (.iload 4, 2) := by decide +kernel
theorem dX8_addLedge_44 : decode cX8_addLedge 44 = .ok (.iload_n 3, 1) := by decide +kernel
theorem dX8_addLedge_45 : decode cX8_addLedge 45 = .ok (.iastore, 1) := by decide +kernel
theorem dX8_addLedge_46 : decode cX8_addLedge 46 = .ok (.aload_n 0, 1) := by decide +kernel
theorem dX8_addLedge_47 : decode cX8_addLedge 47 = .ok (.getfield 35, 3) := by decide +kernel
theorem dX8_addLedge_50 : decode cX8_addLedge 50 = .ok (.getfield 73, 3) := by decide +kernel
theorem dX8_addLedge_53 : decode cX8_addLedge 53 = .ok (.iload 4, 2) := by decide +kernel
theorem dX8_addLedge_55 : decode cX8_addLedge 55 = .ok (.iload_n 2, 1) := by decide +kernel
theorem dX8_addLedge_56 : decode cX8_addLedge 56 = .ok (.iastore, 1) := by decide +kernel
theorem dX8_addLedge_57 : decode cX8_addLedge 57 = .ok (.aload_n 0, 1) := by decide +kernel
theorem dX8_addLedge_58 : decode cX8_addLedge 58 = .ok (.getfield 35, 3) := by decide +kernel
theorem dX8_addLedge_61 : decode cX8_addLedge 61 = .ok (.getfield 76, 3) := by decide +kernel
theorem dX8_addLedge_64 : decode cX8_addLedge 64 = .ok (.iload 4, 2) := by decide +kernel
theorem dX8_addLedge_66 : decode cX8_addLedge 66 = .ok (.iconst 0, 1) := by decide +kernel
theorem dX8_addLedge_67 : decode cX8_addLedge 67 = .ok (.iastore, 1) := by decide +kernel
theorem dX8_addLedge_68 : decode cX8_addLedge 68 = .ok (.aload_n 0, 1) := by decide +kernel
theorem dX8_addLedge_69 : decode cX8_addLedge 69 = .ok (.getfield 26, 3) := by decide +kernel
theorem dX8_addLedge_72 : decode cX8_addLedge 72 = .ok (.iload 4, 2) := by decide +kernel
theorem dX8_addLedge_74 : decode cX8_addLedge 74 = .ok (.iconst 1, 1) := by decide +kernel
theorem dX8_addLedge_75 : decode cX8_addLedge 75 = .ok (.iadd, 1) := by decide +kernel
theorem dX8_addLedge_76 : decode cX8_addLedge 76 = .ok (.putfield 39, 3) := by decide +kernel
theorem dX8_addLedge_79 : decode cX8_addLedge 79 = .ok (.aload_n 0, 1) := by decide +kernel
theorem dX8_addLedge_80 : decode cX8_addLedge 80 = .ok (.iconst 0, 1) := by decide +kernel
theorem dX8_addLedge_81 : decode cX8_addLedge 81 = .ok (.putfield 49, 3) := by decide +kernel
theorem dX8_addLedge_84 : decode cX8_addLedge 84 = .ok (.iload 4, 2) := by decide +kernel
theorem dX8_addLedge_86 : decode cX8_addLedge 86 = .ok (.ireturn, 1) := by decide +kernel
theorem dX8_addVoter_0 : decode cX8_addVoter 0 = .ok (.aload_n 0, 1) := by decide +kernel
theorem dX8_addVoter_1 : decode cX8_addVoter 1 = .ok (.getfield 26, 3) := by decide +kernel
theorem dX8_addVoter_4 : decode cX8_addVoter 4 = .ok (.getfield 43, 3) := by decide +kernel
theorem dX8_addVoter_7 : decode cX8_addVoter 7 = .ok (.istore 4, 2) := by decide +kernel
theorem dX8_addVoter_9 : decode cX8_addVoter 9 = .ok (.iload 4, 2) := by decide +kernel
theorem dX8_addVoter_11 : decode cX8_addVoter 11 = .ok (.ifCond .lt 10, 3) := by decide +kernel
theorem dX8_addVoter_14 : decode cX8_addVoter 14 = .ok (.iload 4, 2) := by decide +kernel
theorem dX8_addVoter_16 : decode cX8_addVoter 16 = .ok (.bipush 6, 2) := by decide +kernel
theorem dX8_addVoter_18 : decode cX8_addVoter 18 = .ok (.if_icmp .lt 6, 3) := by decide +kernel
theorem dX8_addVoter_21 : decode cX8_addVoter 21 = .ok (.bipush (-4), 2) := by decide +kernel
theorem dX8_addVoter_23 : decode cX8_addVoter 23 = .ok (.ireturn, 1) := by decide +kernel
theorem dX8_addVoter_24 : decode cX8_addVoter 24 = .ok (.aload_n 0, 1) := by decide +kernel
theorem dX8_addVoter_25 : decode cX8_addVoter 25 = .ok (.getfield 26, 3) := by decide +kernel
theorem dX8_addVoter_28 : decode cX8_addVoter 28 = .ok (.getfield 79, 3) := by decide +kernel
theorem dX8_addVoter_31 : decode cX8_addVoter 31 = .ok (.iload 4, 2) := by decide +kernel
theorem dX8_addVoter_33 : decode cX8_addVoter 33 = .ok (.iload_n 1, 1) := by decide +kernel
theorem dX8_addVoter_34 : decode cX8_addVoter 34 = .ok (.iastore, 1) := by decide +kernel
theorem dX8_addVoter_35 : decode cX8_addVoter 35 = .ok (.aload_n 0, 1) := by decide +kernel
theorem dX8_addVoter_36 : decode cX8_addVoter 36 = .ok (.getfield 26, 3) := by decide +kernel
theorem dX8_addVoter_39 : decode cX8_addVoter 39 = .ok (.getfield 82, 3) := by decide +kernel
theorem dX8_addVoter_42 : decode cX8_addVoter 42 = .ok (.iload 4, 2) := by decide +kernel
theorem dX8_addVoter_44 : decode cX8_addVoter 44 = .ok (.iload_n 2, 1) := by decide +kernel
theorem dX8_addVoter_45 : decode cX8_addVoter 45 = .ok (.iastore, 1) := by decide +kernel
theorem dX8_addVoter_46 : decode cX8_addVoter 46 = .ok (.aload_n 0, 1) := by decide +kernel
theorem dX8_addVoter_47 : decode cX8_addVoter 47 = .ok (.getfield 26, 3) := by decide +kernel
theorem dX8_addVoter_50 : decode cX8_addVoter 50 = .ok (.getfield 85, 3) := by decide +kernel
theorem dX8_addVoter_53 : decode cX8_addVoter 53 = .ok (.iload 4, 2) := by decide +kernel
theorem dX8_addVoter_55 : decode cX8_addVoter 55 = .ok (.iload_n 3, 1) := by decide +kernel
theorem dX8_addVoter_56 : decode cX8_addVoter 56 = .ok (.iastore, 1) := by decide +kernel
theorem dX8_addVoter_57 : decode cX8_addVoter 57 = .ok (.aload_n 0, 1) := by decide +kernel
theorem dX8_addVoter_58 : decode cX8_addVoter 58 = .ok (.getfield 26, 3) := by decide +kernel
theorem dX8_addVoter_61 : decode cX8_addVoter 61 = .ok (.iload 4, 2) := by decide +kernel
theorem dX8_addVoter_63 : decode cX8_addVoter 63 = .ok (.iconst 1, 1) := by decide +kernel
theorem dX8_addVoter_64 : decode cX8_addVoter 64 = .ok (.iadd, 1) := by decide +kernel
theorem dX8_addVoter_65 : decode cX8_addVoter 65 = .ok (.putfield 43, 3) := by decide +kernel
theorem dX8_addVoter_68 : decode cX8_addVoter 68 = .ok (.aload_n 0, 1) := by decide +kernel
theorem dX8_addVoter_69 : decode cX8_addVoter 69 = .ok (.iconst 0, 1) := by decide +kernel
theorem dX8_addVoter_70 : decode cX8_addVoter 70 = .ok (.putfield 49, 3) := by decide +kernel
theorem dX8_addVoter_73 : decode cX8_addVoter 73 = .ok (.iload 4, 2) := by decide +kernel
theorem dX8_addVoter_75 : decode cX8_addVoter 75 = .ok (.ireturn, 1) := by decide +kernel
theorem dX8_addSeen_0 : decode cX8_addSeen 0 = .ok (.aload_n 0, 1) := by decide +kernel
theorem dX8_addSeen_1 : decode cX8_addSeen 1 = .ok (.getfield 52, 3) := by decide +kernel
theorem dX8_addSeen_4 : decode cX8_addSeen 4 = .ok (.ifCond .lt 12, 3) := by decide +kernel
theorem dX8_addSeen_7 : decode cX8_addSeen 7 = .ok (.aload_n 0, 1) := by decide +kernel
theorem dX8_addSeen_8 : decode cX8_addSeen 8 = .ok (.getfield 52, 3) := by decide +kernel
theorem dX8_addSeen_11 : decode cX8_addSeen 11 = .ok (.bipush 6, 2) := by decide +kernel
theorem dX8_addSeen_13 : decode cX8_addSeen 13 = .ok (.if_icmp .lt 6, 3) := by decide +kernel
theorem dX8_addSeen_16 : decode cX8_addSeen 16 = .ok (.bipush (-4), 2) := by decide +kernel
theorem dX8_addSeen_18 : decode cX8_addSeen 18 = .ok (.ireturn, 1) := by decide +kernel
theorem dX8_addSeen_19 : decode cX8_addSeen 19 = .ok (.aload_n 0, 1) := by decide +kernel
theorem dX8_addSeen_20 : decode cX8_addSeen 20 = .ok (.getfield 15, 3) := by decide +kernel
theorem dX8_addSeen_23 : decode cX8_addSeen 23 = .ok (.aload_n 0, 1) := by decide +kernel
theorem dX8_addSeen_24 : decode cX8_addSeen 24 = .ok (.getfield 52, 3) := by decide +kernel
theorem dX8_addSeen_27 : decode cX8_addSeen 27 = .ok (.iload_n 1, 1) := by decide +kernel
theorem dX8_addSeen_28 : decode cX8_addSeen 28 = .ok (.iastore, 1) := by decide +kernel
theorem dX8_addSeen_29 : decode cX8_addSeen 29 = .ok (.aload_n 0, 1) := by decide +kernel
theorem dX8_addSeen_30 : decode cX8_addSeen 30 = .ok (.getfield 18, 3) := by decide +kernel
theorem dX8_addSeen_33 : decode cX8_addSeen 33 = .ok (.aload_n 0, 1) := by decide +kernel
theorem dX8_addSeen_34 : decode cX8_addSeen 34 = .ok (.getfield 52, 3) := by decide +kernel
theorem dX8_addSeen_37 : decode cX8_addSeen 37 = .ok (.iload_n 2, 1) := by decide +kernel
theorem dX8_addSeen_38 : decode cX8_addSeen 38 = .ok (.iastore, 1) := by decide +kernel
theorem dX8_addSeen_39 : decode cX8_addSeen 39 = .ok (.aload_n 0, 1) := by decide +kernel
theorem dX8_addSeen_40 : decode cX8_addSeen 40 = .ok (.dup, 1) := by decide +kernel
theorem dX8_addSeen_41 : decode cX8_addSeen 41 = .ok (.getfield 52, 3) := by decide +kernel
theorem dX8_addSeen_44 : decode cX8_addSeen 44 = .ok (.iconst 1, 1) := by decide +kernel
theorem dX8_addSeen_45 : decode cX8_addSeen 45 = .ok (.iadd, 1) := by decide +kernel
theorem dX8_addSeen_46 : decode cX8_addSeen 46 = .ok (.putfield 52, 3) := by decide +kernel
theorem dX8_addSeen_49 : decode cX8_addSeen 49 = .ok (.aload_n 0, 1) := by decide +kernel
theorem dX8_addSeen_50 : decode cX8_addSeen 50 = .ok (.getfield 52, 3) := by decide +kernel
theorem dX8_addSeen_53 : decode cX8_addSeen 53 = .ok (.ireturn, 1) := by decide +kernel
theorem dX8_keepPast_0 : decode cX8_keepPast 0 = .ok (.aload_n 0, 1) := by decide +kernel
theorem dX8_keepPast_1 : decode cX8_keepPast 1 = .ok (.getfield 49, 3) := by decide +kernel
theorem dX8_keepPast_4 : decode cX8_keepPast 4 = .ok (.bipush 8, 2) := by decide +kernel
theorem dX8_keepPast_6 : decode cX8_keepPast 6 = .ok (.if_icmp .lt 26, 3) := by decide +kernel
theorem dX8_keepPast_9 : decode cX8_keepPast 9 = .ok (.aload_n 0, 1) := by decide +kernel
theorem dX8_keepPast_10 : decode cX8_keepPast 10 = .ok (.getfield 9, 3) := by decide +kernel
theorem dX8_keepPast_13 : decode cX8_keepPast 13 = .ok (.bipush 19, 2) := by decide +kernel
theorem dX8_keepPast_15 : decode cX8_keepPast 15 = .ok (.aload_n 0, 1) := by decide +kernel
theorem dX8_keepPast_16 : decode cX8_keepPast 16 = .ok (.getfield 9, 3) := by decide +kernel
theorem dX8_keepPast_19 : decode cX8_keepPast 19 = .ok (.iconst 0, 1) := by decide +kernel
theorem dX8_keepPast_20 : decode cX8_keepPast 20 = .ok (.sipush 133, 3) := by decide +kernel
theorem dX8_keepPast_23 : decode cX8_keepPast 23 = .ok (.invokestatic 61, 3) := by decide +kernel
theorem dX8_keepPast_26 : decode cX8_keepPast 26 = .ok (.aload_n 0, 1) := by decide +kernel
theorem dX8_keepPast_27 : decode cX8_keepPast 27 = .ok (.bipush 7, 2) := by decide +kernel
theorem dX8_keepPast_29 : decode cX8_keepPast 29 = .ok (.putfield 49, 3) := by decide +kernel
theorem dX8_keepPast_32 : decode cX8_keepPast 32 = .ok (.aload_n 0, 1) := by decide +kernel
theorem dX8_keepPast_33 : decode cX8_keepPast 33 = .ok (.getfield 35, 3) := by decide +kernel
theorem dX8_keepPast_36 : decode cX8_keepPast 36 = .ok (.aload_n 0, 1) := by decide +kernel
theorem dX8_keepPast_37 : decode cX8_keepPast 37 = .ok (.getfield 9, 3) := by decide +kernel
theorem dX8_keepPast_40 : decode cX8_keepPast 40 = .ok (.aload_n 0, 1) := by decide +kernel
theorem dX8_keepPast_41 : decode cX8_keepPast 41 = .ok (.getfield 49, 3) := by decide +kernel
theorem dX8_keepPast_44 : decode cX8_keepPast 44 = .ok (.bipush 19, 2) := by decide +kernel
theorem dX8_keepPast_46 : decode cX8_keepPast 46 = .ok (.imul, 1) := by decide +kernel
theorem dX8_keepPast_47 : decode cX8_keepPast 47 = .ok (.invokevirtual 88, 3) := by decide +kernel
theorem dX8_keepPast_50 : decode cX8_keepPast 50 = .ok (.aload_n 0, 1) := by decide +kernel
theorem dX8_keepPast_51 : decode cX8_keepPast 51 = .ok (.dup, 1) := by decide +kernel
theorem dX8_keepPast_52 : decode cX8_keepPast 52 = .ok (.getfield 49, 3) := by decide +kernel
theorem dX8_keepPast_55 : decode cX8_keepPast 55 = .ok (.iconst 1, 1) := by decide +kernel
theorem dX8_keepPast_56 : decode cX8_keepPast 56 = .ok (.iadd, 1) := by decide +kernel
theorem dX8_keepPast_57 : decode cX8_keepPast 57 = .ok (.putfield 49, 3) := by decide +kernel
theorem dX8_keepPast_60 : decode cX8_keepPast 60 = .ok (.return_, 1) := by decide +kernel
theorem dX8_goBack_0 : decode cX8_goBack 0 = .ok (.aload_n 0, 1) := by decide +kernel
theorem dX8_goBack_1 : decode cX8_goBack 1 = .ok (.getfield 49, 3) := by decide +kernel
theorem dX8_goBack_4 : decode cX8_goBack 4 = .ok (.ifCond .le 31, 3) := by decide +kernel
theorem dX8_goBack_7 : decode cX8_goBack 7 = .ok (.aload_n 0, 1) := by decide +kernel
theorem dX8_goBack_8 : decode cX8_goBack 8 = .ok (.dup, 1) := by decide +kernel
theorem dX8_goBack_9 : decode cX8_goBack 9 = .ok (.getfield 49, 3) := by decide +kernel
theorem dX8_goBack_12 : decode cX8_goBack 12 = .ok (.iconst 1, 1) := by decide +kernel
theorem dX8_goBack_13 : decode cX8_goBack 13 = .ok (.isub, 1) := by decide +kernel
theorem dX8_goBack_14 : decode cX8_goBack 14 = .ok (.putfield 49, 3) := by decide +kernel
theorem dX8_goBack_17 : decode cX8_goBack 17 = .ok (.aload_n 0, 1) := by decide +kernel
theorem dX8_goBack_18 : decode cX8_goBack 18 = .ok (.getfield 35, 3) := by decide +kernel
theorem dX8_goBack_21 : decode cX8_goBack 21 = .ok (.aload_n 0, 1) := by decide +kernel
theorem dX8_goBack_22 : decode cX8_goBack 22 = .ok (.getfield 9, 3) := by decide +kernel
theorem dX8_goBack_25 : decode cX8_goBack 25 = .ok (.aload_n 0, 1) := by decide +kernel
theorem dX8_goBack_26 : decode cX8_goBack 26 = .ok (.getfield 49, 3) := by decide +kernel
theorem dX8_goBack_29 : decode cX8_goBack 29 = .ok (.bipush 19, 2) := by decide +kernel
theorem dX8_goBack_31 : decode cX8_goBack 31 = .ok (.imul, 1) := by decide +kernel
theorem dX8_goBack_32 : decode cX8_goBack 32 = .ok (.invokevirtual 92, 3) := by decide +kernel
theorem dX8_goBack_35 : decode cX8_goBack 35 = .ok (.return_, 1) := by decide +kernel
theorem dX8_leastHold_0 : decode cX8_leastHold 0 = .ok (.iconst 1, 1) := by decide +kernel
theorem dX8_leastHold_1 : decode cX8_leastHold 1 = .ok (.istore_n 1, 1) := by decide +kernel
theorem dX8_leastHold_2 : decode cX8_leastHold 2 = .ok (.iconst 0, 1) := by decide +kernel
theorem dX8_leastHold_3 : decode cX8_leastHold 3 = .ok (.istore_n 2, 1) := by decide +kernel
theorem dX8_leastHold_4 : decode cX8_leastHold 4 = .ok (.iload_n 2, 1) := by decide +kernel
theorem dX8_leastHold_5 : decode cX8_leastHold 5 = .ok (.aload_n 0, 1) := by decide +kernel
theorem dX8_leastHold_6 : decode cX8_leastHold 6 = .ok (.getfield 52, 3) := by decide +kernel
theorem dX8_leastHold_9 : decode cX8_leastHold 9 = .ok (.if_icmp .ge 30, 3) := by decide +kernel
theorem dX8_leastHold_12 : decode cX8_leastHold 12 = .ok (.aload_n 0, 1) := by decide +kernel
theorem dX8_leastHold_13 : decode cX8_leastHold 13 = .ok (.getfield 18, 3) := by decide +kernel
theorem dX8_leastHold_16 : decode cX8_leastHold 16 = .ok (.iload_n 2, 1) := by decide +kernel
theorem dX8_leastHold_17 : decode cX8_leastHold 17 = .ok (.iaload, 1) := by decide +kernel
theorem dX8_leastHold_18 : decode cX8_leastHold 18 = .ok (.iconst 1, 1) := by decide +kernel
theorem dX8_leastHold_19 : decode cX8_leastHold 19 = .ok (.if_icmp .ne 14, 3) := by decide +kernel
theorem dX8_leastHold_22 : decode cX8_leastHold 22 = .ok (.iload_n 1, 1) := by decide +kernel
theorem dX8_leastHold_23 : decode cX8_leastHold 23 = .ok (.aload_n 0, 1) := by decide +kernel
theorem dX8_leastHold_24 : decode cX8_leastHold 24 = .ok (.getfield 15, 3) := by decide +kernel
theorem dX8_leastHold_27 : decode cX8_leastHold 27 = .ok (.iload_n 2, 1) := by decide +kernel
theorem dX8_leastHold_28 : decode cX8_leastHold 28 = .ok (.iaload, 1) := by decide +kernel
theorem dX8_leastHold_29 : decode cX8_leastHold 29 = .ok (.invokestatic 95, 3) := by decide +kernel
theorem dX8_leastHold_32 : decode cX8_leastHold 32 = .ok (.istore_n 1, 1) := by decide +kernel
theorem dX8_leastHold_33 : decode cX8_leastHold 33 = .ok (.iinc 2 1, 3) := by decide +kernel
theorem dX8_leastHold_36 : decode cX8_leastHold 36 = .ok (.goto (-32), 3) := by decide +kernel
theorem dX8_leastHold_39 : decode cX8_leastHold 39 = .ok (.iload_n 1, 1) := by decide +kernel
theorem dX8_leastHold_40 : decode cX8_leastHold 40 = .ok (.ireturn, 1) := by decide +kernel
theorem dX8_greatestHold_0 : decode cX8_greatestHold 0 = .ok (.bipush 60, 2) := by decide +kernel
theorem dX8_greatestHold_2 : decode cX8_greatestHold 2 = .ok (.istore_n 1, 1) := by decide +kernel
theorem dX8_greatestHold_3 : decode cX8_greatestHold 3 = .ok (.iconst 0, 1) := by decide +kernel
theorem dX8_greatestHold_4 : decode cX8_greatestHold 4 = .ok (.istore_n 2, 1) := by decide +kernel
theorem dX8_greatestHold_5 : decode cX8_greatestHold 5 = .ok (.iload_n 2, 1) := by decide +kernel
theorem dX8_greatestHold_6 : decode cX8_greatestHold 6 = .ok (.aload_n 0, 1) := by decide +kernel
theorem dX8_greatestHold_7 : decode cX8_greatestHold 7 = .ok (.getfield 52, 3) := by decide +kernel
theorem dX8_greatestHold_10 : decode cX8_greatestHold 10 = .ok (.if_icmp .ge 31, 3) := by decide +kernel
theorem dX8_greatestHold_13 : decode cX8_greatestHold 13 = .ok (.aload_n 0, 1) := by decide +kernel
theorem dX8_greatestHold_14 : decode cX8_greatestHold 14 = .ok (.getfield 18, 3) := by decide +kernel
theorem dX8_greatestHold_17 : decode cX8_greatestHold 17 = .ok (.iload_n 2, 1) := by decide +kernel
theorem dX8_greatestHold_18 : decode cX8_greatestHold 18 = .ok (.iaload, 1) := by decide +kernel
theorem dX8_greatestHold_19 : decode cX8_greatestHold 19 = .ok (.ifCond .ne 16, 3) := by decide +kernel
theorem dX8_greatestHold_22 : decode cX8_greatestHold 22 = .ok (.iload_n 1, 1) := by decide +kernel
theorem dX8_greatestHold_23 : decode cX8_greatestHold 23 = .ok (.aload_n 0, 1) := by decide +kernel
theorem dX8_greatestHold_24 : decode cX8_greatestHold 24 = .ok (.getfield 15, 3) := by decide +kernel
theorem dX8_greatestHold_27 : decode cX8_greatestHold 27 = .ok (.iload_n 2, 1) := by decide +kernel
theorem dX8_greatestHold_28 : decode cX8_greatestHold 28 = .ok (.iaload, 1) := by decide +kernel
theorem dX8_greatestHold_29 : decode cX8_greatestHold 29 = .ok (.iconst 1, 1) := by decide +kernel
theorem dX8_greatestHold_30 : decode cX8_greatestHold 30 = .ok (.isub, 1) := by decide +kernel
theorem dX8_greatestHold_31 : decode cX8_greatestHold 31 = .ok (.invokestatic 101, 3) := by decide +kernel
theorem dX8_greatestHold_34 : decode cX8_greatestHold 34 = .ok (.istore_n 1, 1) := by decide +kernel
theorem dX8_greatestHold_35 : decode cX8_greatestHold 35 = .ok (.iinc 2 1, 3) := by decide +kernel
theorem dX8_greatestHold_38 : decode cX8_greatestHold 38 = .ok (.goto (-33), 3) := by decide +kernel
theorem dX8_greatestHold_41 : decode cX8_greatestHold 41 = .ok (.iload_n 1, 1) := by decide +kernel
theorem dX8_greatestHold_42 : decode cX8_greatestHold 42 = .ok (.ireturn, 1) := by decide +kernel
theorem dX8_digestFrom_0 : decode cX8_digestFrom 0 = .ok (.ldc2_w 104, 3) := by decide +kernel
theorem dX8_digestFrom_3 : decode cX8_digestFrom 3 = .ok (.lload_n 1, 1) := by decide +kernel
theorem dX8_digestFrom_4 : decode cX8_digestFrom 4 = .ok (.lmul, 1) := by decide +kernel
theorem dX8_digestFrom_5 : decode cX8_digestFrom 5 = .ok (.aload_n 0, 1) := by decide +kernel
theorem dX8_digestFrom_6 : decode cX8_digestFrom 6 = .ok (.getfield 35, 3) := by decide +kernel
theorem dX8_digestFrom_9 : decode cX8_digestFrom 9 = .ok (.getfield 106, 3) := by decide +kernel
theorem dX8_digestFrom_12 : decode cX8_digestFrom 12 = .ok (.i2l, 1) := by decide +kernel
theorem dX8_digestFrom_13 : decode cX8_digestFrom 13 = .ok (.ladd, 1) := by decide +kernel
theorem dX8_digestFrom_14 : decode cX8_digestFrom 14 = .ok (.lstore_n 3, 1) := by decide +kernel
theorem dX8_digestFrom_15 : decode cX8_digestFrom 15 = .ok (.ldc2_w 104, 3) := by decide +kernel
theorem dX8_digestFrom_18 : decode cX8_digestFrom 18 = .ok (.lload_n 3, 1) := by decide +kernel
theorem dX8_digestFrom_19 : decode cX8_digestFrom 19 = .ok (.lmul, 1) := by decide +kernel
theorem dX8_digestFrom_20 : decode cX8_digestFrom 20 = .ok (.aload_n 0, 1) := by decide +kernel
theorem dX8_digestFrom_21 : decode cX8_digestFrom 21 = .ok (.getfield 35, 3) := by decide +kernel
theorem dX8_digestFrom_24 : decode cX8_digestFrom 24 = .ok (.getfield 109, 3) := by decide +kernel
theorem dX8_digestFrom_27 : decode cX8_digestFrom 27 = .ok (.i2l, 1) := by decide +kernel
theorem dX8_digestFrom_28 : decode cX8_digestFrom 28 = .ok (.ladd, 1) := by decide +kernel
theorem dX8_digestFrom_29 : decode cX8_digestFrom 29 = .ok (.lstore_n 3, 1) := by decide +kernel
theorem dX8_digestFrom_30 : decode cX8_digestFrom 30 = .ok (.iconst 0, 1) := by decide +kernel
theorem dX8_digestFrom_31 : decode cX8_digestFrom 31 = .ok (.istore 5, 2) := by decide +kernel
theorem dX8_digestFrom_33 : decode cX8_digestFrom 33 = .ok (.iload 5, 2) := by decide +kernel
theorem dX8_digestFrom_35 : decode cX8_digestFrom 35 = .ok (.aload_n 0, 1) := by decide +kernel
theorem dX8_digestFrom_36 : decode cX8_digestFrom 36 = .ok (.getfield 26, 3) := by decide +kernel
theorem dX8_digestFrom_39 : decode cX8_digestFrom 39 = .ok (.getfield 39, 3) := by decide +kernel
theorem dX8_digestFrom_42 : decode cX8_digestFrom 42 = .ok (.if_icmp .ge 81, 3) := by decide +kernel
theorem dX8_digestFrom_45 : decode cX8_digestFrom 45 = .ok (.ldc2_w 104, 3) := by decide +kernel
theorem dX8_digestFrom_48 : decode cX8_digestFrom 48 = .ok (.lload_n 3, 1) := by decide +kernel
theorem dX8_digestFrom_49 : decode cX8_digestFrom 49 = .ok (.lmul, 1) := by decide +kernel
theorem dX8_digestFrom_50 : decode cX8_digestFrom 50 = .ok (.aload_n 0, 1) := by decide +kernel
theorem dX8_digestFrom_51 : decode cX8_digestFrom 51 = .ok (.getfield 26, 3) := by decide +kernel
theorem dX8_digestFrom_54 : decode cX8_digestFrom 54 = .ok (.getfield 67, 3) := by decide +kernel
theorem dX8_digestFrom_57 : decode cX8_digestFrom 57 = .ok (.iload 5, 2) := by decide +kernel
theorem dX8_digestFrom_59 : decode cX8_digestFrom 59 = .ok (.iaload, 1) := by decide +kernel
theorem dX8_digestFrom_60 : decode cX8_digestFrom 60 = .ok (.i2l, 1) := by decide +kernel
theorem dX8_digestFrom_61 : decode cX8_digestFrom 61 = .ok (.ladd, 1) := by decide +kernel
theorem dX8_digestFrom_62 : decode cX8_digestFrom 62 = .ok (.lstore_n 3, 1) := by decide +kernel
theorem dX8_digestFrom_63 : decode cX8_digestFrom 63 = .ok (.ldc2_w 104, 3) := by decide +kernel
theorem dX8_digestFrom_66 : decode cX8_digestFrom 66 = .ok (.lload_n 3, 1) := by decide +kernel
theorem dX8_digestFrom_67 : decode cX8_digestFrom 67 = .ok (.lmul, 1) := by decide +kernel
theorem dX8_digestFrom_68 : decode cX8_digestFrom 68 = .ok (.aload_n 0, 1) := by decide +kernel
theorem dX8_digestFrom_69 : decode cX8_digestFrom 69 = .ok (.getfield 35, 3) := by decide +kernel
theorem dX8_digestFrom_72 : decode cX8_digestFrom 72 = .ok (.getfield 73, 3) := by decide +kernel
theorem dX8_digestFrom_75 : decode cX8_digestFrom 75 = .ok (.iload 5, 2) := by decide +kernel
theorem dX8_digestFrom_77 : decode cX8_digestFrom 77 = .ok (.iaload, 1) := by decide +kernel
theorem dX8_digestFrom_78 : decode cX8_digestFrom 78 = .ok (.i2l, 1) := by decide +kernel
theorem dX8_digestFrom_79 : decode cX8_digestFrom 79 = .ok (.ladd, 1) := by decide +kernel
theorem dX8_digestFrom_80 : decode cX8_digestFrom 80 = .ok (.lstore_n 3, 1) := by decide +kernel
theorem dX8_digestFrom_81 : decode cX8_digestFrom 81 = .ok (.ldc2_w 104, 3) := by decide +kernel
theorem dX8_digestFrom_84 : decode cX8_digestFrom 84 = .ok (.lload_n 3, 1) := by decide +kernel
theorem dX8_digestFrom_85 : decode cX8_digestFrom 85 = .ok (.lmul, 1) := by decide +kernel
theorem dX8_digestFrom_86 : decode cX8_digestFrom 86 = .ok (.aload_n 0, 1) := by decide +kernel
theorem dX8_digestFrom_87 : decode cX8_digestFrom 87 = .ok (.getfield 35, 3) := by decide +kernel
theorem dX8_digestFrom_90 : decode cX8_digestFrom 90 = .ok (.getfield 76, 3) := by decide +kernel
theorem dX8_digestFrom_93 : decode cX8_digestFrom 93 = .ok (.iload 5, 2) := by decide +kernel
theorem dX8_digestFrom_95 : decode cX8_digestFrom 95 = .ok (.iaload, 1) := by decide +kernel
theorem dX8_digestFrom_96 : decode cX8_digestFrom 96 = .ok (.i2l, 1) := by decide +kernel
theorem dX8_digestFrom_97 : decode cX8_digestFrom 97 = .ok (.ladd, 1) := by decide +kernel
theorem dX8_digestFrom_98 : decode cX8_digestFrom 98 = .ok (.lstore_n 3, 1) := by decide +kernel
theorem dX8_digestFrom_99 : decode cX8_digestFrom 99 = .ok (.ldc2_w 104, 3) := by decide +kernel
theorem dX8_digestFrom_102 : decode cX8_digestFrom 102 = .ok (.lload_n 3, 1) := by decide +kernel
theorem dX8_digestFrom_103 : decode cX8_digestFrom 103 = .ok (.lmul, 1) := by decide +kernel
theorem dX8_digestFrom_104 : decode cX8_digestFrom 104 = .ok (.aload_n 0, 1) := by decide +kernel
theorem dX8_digestFrom_105 : decode cX8_digestFrom 105 = .ok (.getfield 26, 3) := by decide +kernel
theorem dX8_digestFrom_108 : decode cX8_digestFrom 108 = .ok (.getfield 70, 3) := by decide +kernel
theorem dX8_digestFrom_111 : decode cX8_digestFrom 111 = .ok (.iload 5, 2) := by decide +kernel
theorem dX8_digestFrom_113 : decode cX8_digestFrom 113 = .ok (.iaload, 1) := by decide +kernel
theorem dX8_digestFrom_114 : decode cX8_digestFrom 114 = .ok (.i2l, 1) := by decide +kernel
theorem dX8_digestFrom_115 : decode cX8_digestFrom 115 = .ok (.ladd, 1) := by decide +kernel
theorem dX8_digestFrom_116 : decode cX8_digestFrom 116 = .ok (.lstore_n 3, 1) := by decide +kernel
theorem dX8_digestFrom_117 : decode cX8_digestFrom 117 = .ok (.iinc 5 1, 3) := by decide +kernel
theorem dX8_digestFrom_120 : decode cX8_digestFrom 120 = .ok (.goto (-87), 3) := by decide +kernel
theorem dX8_digestFrom_123 : decode cX8_digestFrom 123 = .ok (.iconst 0, 1) := by decide +kernel
theorem dX8_digestFrom_124 : decode cX8_digestFrom 124 = .ok (.istore 5, 2) := by decide +kernel
theorem dX8_digestFrom_126 : decode cX8_digestFrom 126 = .ok (.iload 5, 2) := by decide +kernel
theorem dX8_digestFrom_128 : decode cX8_digestFrom 128 = .ok (.aload_n 0, 1) := by decide +kernel
theorem dX8_digestFrom_129 : decode cX8_digestFrom 129 = .ok (.getfield 26, 3) := by decide +kernel
theorem dX8_digestFrom_132 : decode cX8_digestFrom 132 = .ok (.getfield 43, 3) := by decide +kernel
theorem dX8_digestFrom_135 : decode cX8_digestFrom 135 = .ok (.if_icmp .ge 63, 3) := by decide +kernel
theorem dX8_digestFrom_138 : decode cX8_digestFrom 138 = .ok (.ldc2_w 104, 3) := by decide +kernel
theorem dX8_digestFrom_141 : decode cX8_digestFrom 141 = .ok (.lload_n 3, 1) := by decide +kernel
theorem dX8_digestFrom_142 : decode cX8_digestFrom 142 = .ok (.lmul, 1) := by decide +kernel
theorem dX8_digestFrom_143 : decode cX8_digestFrom 143 = .ok (.aload_n 0, 1) := by decide +kernel
theorem dX8_digestFrom_144 : decode cX8_digestFrom 144 = .ok (.getfield 26, 3) := by decide +kernel
theorem dX8_digestFrom_147 : decode cX8_digestFrom 147 = .ok (.getfield 79, 3) := by decide +kernel
theorem dX8_digestFrom_150 : decode cX8_digestFrom 150 = .ok (.iload 5, 2) := by decide +kernel
theorem dX8_digestFrom_152 : decode cX8_digestFrom 152 = .ok (.iaload, 1) := by decide +kernel
theorem dX8_digestFrom_153 : decode cX8_digestFrom 153 = .ok (.i2l, 1) := by decide +kernel
theorem dX8_digestFrom_154 : decode cX8_digestFrom 154 = .ok (.ladd, 1) := by decide +kernel
theorem dX8_digestFrom_155 : decode cX8_digestFrom 155 = .ok (.lstore_n 3, 1) := by decide +kernel
theorem dX8_digestFrom_156 : decode cX8_digestFrom 156 = .ok (.ldc2_w 104, 3) := by decide +kernel
theorem dX8_digestFrom_159 : decode cX8_digestFrom 159 = .ok (.lload_n 3, 1) := by decide +kernel
theorem dX8_digestFrom_160 : decode cX8_digestFrom 160 = .ok (.lmul, 1) := by decide +kernel
theorem dX8_digestFrom_161 : decode cX8_digestFrom 161 = .ok (.aload_n 0, 1) := by decide +kernel
theorem dX8_digestFrom_162 : decode cX8_digestFrom 162 = .ok (.getfield 26, 3) := by decide +kernel
theorem dX8_digestFrom_165 : decode cX8_digestFrom 165 = .ok (.getfield 82, 3) := by decide +kernel
theorem dX8_digestFrom_168 : decode cX8_digestFrom 168 = .ok (.iload 5, 2) := by decide +kernel
theorem dX8_digestFrom_170 : decode cX8_digestFrom 170 = .ok (.iaload, 1) := by decide +kernel
theorem dX8_digestFrom_171 : decode cX8_digestFrom 171 = .ok (.i2l, 1) := by decide +kernel
theorem dX8_digestFrom_172 : decode cX8_digestFrom 172 = .ok (.ladd, 1) := by decide +kernel
theorem dX8_digestFrom_173 : decode cX8_digestFrom 173 = .ok (.lstore_n 3, 1) := by decide +kernel
theorem dX8_digestFrom_174 : decode cX8_digestFrom 174 = .ok (.ldc2_w 104, 3) := by decide +kernel
theorem dX8_digestFrom_177 : decode cX8_digestFrom 177 = .ok (.lload_n 3, 1) := by decide +kernel
theorem dX8_digestFrom_178 : decode cX8_digestFrom 178 = .ok (.lmul, 1) := by decide +kernel
theorem dX8_digestFrom_179 : decode cX8_digestFrom 179 = .ok (.aload_n 0, 1) := by decide +kernel
theorem dX8_digestFrom_180 : decode cX8_digestFrom 180 = .ok (.getfield 26, 3) := by decide +kernel
theorem dX8_digestFrom_183 : decode cX8_digestFrom 183 = .ok (.getfield 85, 3) := by decide +kernel
theorem dX8_digestFrom_186 : decode cX8_digestFrom 186 = .ok (.iload 5, 2) := by decide +kernel
theorem dX8_digestFrom_188 : decode cX8_digestFrom 188 = .ok (.iaload, 1) := by decide +kernel
theorem dX8_digestFrom_189 : decode cX8_digestFrom 189 = .ok (.i2l, 1) := by decide +kernel
theorem dX8_digestFrom_190 : decode cX8_digestFrom 190 = .ok (.ladd, 1) := by decide +kernel
theorem dX8_digestFrom_191 : decode cX8_digestFrom 191 = .ok (.lstore_n 3, 1) := by decide +kernel
theorem dX8_digestFrom_192 : decode cX8_digestFrom 192 = .ok (.iinc 5 1, 3) := by decide +kernel
theorem dX8_digestFrom_195 : decode cX8_digestFrom 195 = .ok (.goto (-69), 3) := by decide +kernel
theorem dX8_digestFrom_198 : decode cX8_digestFrom 198 = .ok (.iconst 0, 1) := by decide +kernel
theorem dX8_digestFrom_199 : decode cX8_digestFrom 199 = .ok (.istore 5, 2) := by decide +kernel
theorem dX8_digestFrom_201 : decode cX8_digestFrom 201 = .ok (.iload 5, 2) := by decide +kernel
theorem dX8_digestFrom_203 : decode cX8_digestFrom 203 = .ok (.aload_n 0, 1) := by decide +kernel
theorem dX8_digestFrom_204 : decode cX8_digestFrom 204 = .ok (.getfield 52, 3) := by decide +kernel
theorem dX8_digestFrom_207 : decode cX8_digestFrom 207 = .ok (.if_icmp .ge 39, 3) := by decide +kernel
theorem dX8_digestFrom_210 : decode cX8_digestFrom 210 = .ok (.ldc2_w 104, 3) := by decide +kernel
theorem dX8_digestFrom_213 : decode cX8_digestFrom 213 = .ok (.lload_n 3, 1) := by decide +kernel
theorem dX8_digestFrom_214 : decode cX8_digestFrom 214 = .ok (.lmul, 1) := by decide +kernel
theorem dX8_digestFrom_215 : decode cX8_digestFrom 215 = .ok (.aload_n 0, 1) := by decide +kernel
theorem dX8_digestFrom_216 : decode cX8_digestFrom 216 = .ok (.getfield 15, 3) := by decide +kernel
theorem dX8_digestFrom_219 : decode cX8_digestFrom 219 = .ok (.iload 5, 2) := by decide +kernel
theorem dX8_digestFrom_221 : decode cX8_digestFrom 221 = .ok (.iaload, 1) := by decide +kernel
theorem dX8_digestFrom_222 : decode cX8_digestFrom 222 = .ok (.i2l, 1) := by decide +kernel
theorem dX8_digestFrom_223 : decode cX8_digestFrom 223 = .ok (.ladd, 1) := by decide +kernel
theorem dX8_digestFrom_224 : decode cX8_digestFrom 224 = .ok (.lstore_n 3, 1) := by decide +kernel
theorem dX8_digestFrom_225 : decode cX8_digestFrom 225 = .ok (.ldc2_w 104, 3) := by decide +kernel
theorem dX8_digestFrom_228 : decode cX8_digestFrom 228 = .ok (.lload_n 3, 1) := by decide +kernel
theorem dX8_digestFrom_229 : decode cX8_digestFrom 229 = .ok (.lmul, 1) := by decide +kernel
theorem dX8_digestFrom_230 : decode cX8_digestFrom 230 = .ok (.aload_n 0, 1) := by decide +kernel
theorem dX8_digestFrom_231 : decode cX8_digestFrom 231 = .ok (.getfield 18, 3) := by decide +kernel
theorem dX8_digestFrom_234 : decode cX8_digestFrom 234 = .ok (.iload 5, 2) := by decide +kernel
theorem dX8_digestFrom_236 : decode cX8_digestFrom 236 = .ok (.iaload, 1) := by decide +kernel
theorem dX8_digestFrom_237 : decode cX8_digestFrom 237 = .ok (.i2l, 1) := by decide +kernel
theorem dX8_digestFrom_238 : decode cX8_digestFrom 238 = .ok (.ladd, 1) := by decide +kernel
theorem dX8_digestFrom_239 : decode cX8_digestFrom 239 = .ok (.lstore_n 3, 1) := by decide +kernel
theorem dX8_digestFrom_240 : decode cX8_digestFrom 240 = .ok (.iinc 5 1, 3) := by decide +kernel
theorem dX8_digestFrom_243 : decode cX8_digestFrom 243 = .ok (.goto (-42), 3) := by decide +kernel
theorem dX8_digestFrom_246 : decode cX8_digestFrom 246 = .ok (.lload_n 3, 1) := by decide +kernel
theorem dX8_digestFrom_247 : decode cX8_digestFrom 247 = .ok (.lreturn, 1) := by decide +kernel
theorem dX9_init_0 : decode cX9_init 0 = .ok (.aload_n 0, 1) := by decide +kernel
theorem dX9_init_1 : decode cX9_init 1 = .ok (.invokespecial 3, 3) := by decide +kernel
theorem dX9_init_4 : decode cX9_init 4 = .ok (.aload_n 0, 1) := by decide +kernel
theorem dX9_init_5 : decode cX9_init 5 = .ok (.bipush 8, 2) := by decide +kernel
theorem dX9_init_7 : decode cX9_init 7 = .ok (.newarray .int, 2) := by decide +kernel
theorem dX9_init_9 : decode cX9_init 9 = .ok (.putfield 9, 3) := by decide +kernel
theorem dX9_init_12 : decode cX9_init 12 = .ok (.aload_n 0, 1) := by decide +kernel
theorem dX9_init_13 : decode cX9_init 13 = .ok (.bipush 8, 2) := by decide +kernel
theorem dX9_init_15 : decode cX9_init 15 = .ok (.newarray .int, 2) := by decide +kernel
theorem dX9_init_17 : decode cX9_init 17 = .ok (.putfield 15, 3) := by decide +kernel
theorem dX9_init_20 : decode cX9_init 20 = .ok (.aload_n 0, 1) := by decide +kernel
theorem dX9_init_21 : decode cX9_init 21 = .ok (.bipush 6, 2) := by decide +kernel
theorem dX9_init_23 : decode cX9_init 23 = .ok (.newarray .int, 2) := by decide +kernel
theorem dX9_init_25 : decode cX9_init 25 = .ok (.putfield 18, 3) := by decide +kernel
theorem dX9_init_28 : decode cX9_init 28 = .ok (.aload_n 0, 1) := by decide +kernel
theorem dX9_init_29 : decode cX9_init 29 = .ok (.bipush 6, 2) := by decide +kernel
theorem dX9_init_31 : decode cX9_init 31 = .ok (.newarray .int, 2) := by decide +kernel
theorem dX9_init_33 : decode cX9_init 33 = .ok (.putfield 21, 3) := by decide +kernel
theorem dX9_init_36 : decode cX9_init 36 = .ok (.aload_n 0, 1) := by decide +kernel
theorem dX9_init_37 : decode cX9_init 37 = .ok (.bipush 6, 2) := by decide +kernel
theorem dX9_init_39 : decode cX9_init 39 = .ok (.newarray .int, 2) := by decide +kernel
theorem dX9_init_41 : decode cX9_init 41 = .ok (.putfield 24, 3) := by decide +kernel
theorem dX9_init_44 : decode cX9_init 44 = .ok (.aload_n 0, 1) := by decide +kernel
theorem dX9_init_45 : decode cX9_init 45 = .ok (.aload_n 1, 1) := by decide +kernel
theorem dX9_init_46 : decode cX9_init 46 = .ok (.putfield 27, 3) := by decide +kernel
theorem dX9_init_49 : decode cX9_init 49 = .ok (.return_, 1) := by decide +kernel
theorem dX9_copyFrom_0 : decode cX9_copyFrom 0 = .ok (.aload_n 0, 1) := by decide +kernel
theorem dX9_copyFrom_1 : decode cX9_copyFrom 1 = .ok (.aload_n 1, 1) := by decide +kernel
theorem dX9_copyFrom_2 : decode cX9_copyFrom 2 = .ok (.getfield 31, 3) := by decide +kernel
theorem dX9_copyFrom_5 : decode cX9_copyFrom 5 = .ok (.putfield 31, 3) := by decide +kernel
theorem dX9_copyFrom_8 : decode cX9_copyFrom 8 = .ok (.aload_n 1, 1) := by decide +kernel
theorem dX9_copyFrom_9 : decode cX9_copyFrom 9 = .ok (.getfield 9, 3) := by decide +kernel
theorem dX9_copyFrom_12 : decode cX9_copyFrom 12 = .ok (.iconst 0, 1) := by decide +kernel
theorem dX9_copyFrom_13 : decode cX9_copyFrom 13 = .ok (.aload_n 0, 1) := by decide +kernel
theorem dX9_copyFrom_14 : decode cX9_copyFrom 14 = .ok (.getfield 9, 3) := by decide +kernel
theorem dX9_copyFrom_17 : decode cX9_copyFrom 17 = .ok (.iconst 0, 1) := by decide +kernel
theorem dX9_copyFrom_18 : decode cX9_copyFrom 18 = .ok (.bipush 8, 2) := by decide +kernel
theorem dX9_copyFrom_20 : decode cX9_copyFrom 20 = .ok (.invokestatic 35, 3) := by decide +kernel
theorem dX9_copyFrom_23 : decode cX9_copyFrom 23 = .ok (.aload_n 1, 1) := by decide +kernel
theorem dX9_copyFrom_24 : decode cX9_copyFrom 24 = .ok (.getfield 15, 3) := by decide +kernel
theorem dX9_copyFrom_27 : decode cX9_copyFrom 27 = .ok (.iconst 0, 1) := by decide +kernel
theorem dX9_copyFrom_28 : decode cX9_copyFrom 28 = .ok (.aload_n 0, 1) := by decide +kernel
theorem dX9_copyFrom_29 : decode cX9_copyFrom 29 = .ok (.getfield 15, 3) := by decide +kernel
theorem dX9_copyFrom_32 : decode cX9_copyFrom 32 = .ok (.iconst 0, 1) := by decide +kernel
theorem dX9_copyFrom_33 : decode cX9_copyFrom 33 = .ok (.bipush 8, 2) := by decide +kernel
theorem dX9_copyFrom_35 : decode cX9_copyFrom 35 = .ok (.invokestatic 35, 3) := by decide +kernel
theorem dX9_copyFrom_38 : decode cX9_copyFrom 38 = .ok (.aload_n 0, 1) := by decide +kernel
theorem dX9_copyFrom_39 : decode cX9_copyFrom 39 = .ok (.aload_n 1, 1) := by decide +kernel
theorem dX9_copyFrom_40 : decode cX9_copyFrom 40 = .ok (.getfield 41, 3) := by decide +kernel
theorem dX9_copyFrom_43 : decode cX9_copyFrom 43 = .ok (.putfield 41, 3) := by decide +kernel
theorem dX9_copyFrom_46 : decode cX9_copyFrom 46 = .ok (.aload_n 1, 1) := by decide +kernel
theorem dX9_copyFrom_47 : decode cX9_copyFrom 47 = .ok (.getfield 18, 3) := by decide +kernel
theorem dX9_copyFrom_50 : decode cX9_copyFrom 50 = .ok (.iconst 0, 1) := by decide +kernel
theorem dX9_copyFrom_51 : decode cX9_copyFrom 51 = .ok (.aload_n 0, 1) := by decide +kernel
theorem dX9_copyFrom_52 : decode cX9_copyFrom 52 = .ok (.getfield 18, 3) := by decide +kernel
theorem dX9_copyFrom_55 : decode cX9_copyFrom 55 = .ok (.iconst 0, 1) := by decide +kernel
theorem dX9_copyFrom_56 : decode cX9_copyFrom 56 = .ok (.bipush 6, 2) := by decide +kernel
theorem dX9_copyFrom_58 : decode cX9_copyFrom 58 = .ok (.invokestatic 35, 3) := by decide +kernel
theorem dX9_copyFrom_61 : decode cX9_copyFrom 61 = .ok (.aload_n 1, 1) := by decide +kernel
theorem dX9_copyFrom_62 : decode cX9_copyFrom 62 = .ok (.getfield 21, 3) := by decide +kernel
theorem dX9_copyFrom_65 : decode cX9_copyFrom 65 = .ok (.iconst 0, 1) := by decide +kernel
theorem dX9_copyFrom_66 : decode cX9_copyFrom 66 = .ok (.aload_n 0, 1) := by decide +kernel
theorem dX9_copyFrom_67 : decode cX9_copyFrom 67 = .ok (.getfield 21, 3) := by decide +kernel
theorem dX9_copyFrom_70 : decode cX9_copyFrom 70 = .ok (.iconst 0, 1) := by decide +kernel
theorem dX9_copyFrom_71 : decode cX9_copyFrom 71 = .ok (.bipush 6, 2) := by decide +kernel
theorem dX9_copyFrom_73 : decode cX9_copyFrom 73 = .ok (.invokestatic 35, 3) := by decide +kernel
theorem dX9_copyFrom_76 : decode cX9_copyFrom 76 = .ok (.aload_n 1, 1) := by decide +kernel
theorem dX9_copyFrom_77 : decode cX9_copyFrom 77 = .ok (.getfield 24, 3) := by decide +kernel
theorem dX9_copyFrom_80 : decode cX9_copyFrom 80 = .ok (.iconst 0, 1) := by decide +kernel
theorem dX9_copyFrom_81 : decode cX9_copyFrom 81 = .ok (.aload_n 0, 1) := by decide +kernel
theorem dX9_copyFrom_82 : decode cX9_copyFrom 82 = .ok (.getfield 24, 3) := by decide +kernel
theorem dX9_copyFrom_85 : decode cX9_copyFrom 85 = .ok (.iconst 0, 1) := by decide +kernel
theorem dX9_copyFrom_86 : decode cX9_copyFrom 86 = .ok (.bipush 6, 2) := by decide +kernel
theorem dX9_copyFrom_88 : decode cX9_copyFrom 88 = .ok (.invokestatic 35, 3) := by decide +kernel
theorem dX9_copyFrom_91 : decode cX9_copyFrom 91 = .ok (.return_, 1) := by decide +kernel
theorem dX9_kindOf_0 : decode cX9_kindOf 0 = .ok (.aload_n 0, 1) := by decide +kernel
theorem dX9_kindOf_1 : decode cX9_kindOf 1 = .ok (.getfield 27, 3) := by decide +kernel
theorem dX9_kindOf_4 : decode cX9_kindOf 4 = .ok (.iload_n 1, 1) := by decide +kernel
theorem dX9_kindOf_5 : decode cX9_kindOf 5 = .ok (.iconst 0, 1) := by decide +kernel
theorem dX9_kindOf_6 : decode cX9_kindOf 6 = .ok (.aload_n 0, 1) := by decide +kernel
theorem dX9_kindOf_7 : decode cX9_kindOf 7 = .ok (.getfield 27, 3) := by decide +kernel
theorem dX9_kindOf_10 : decode cX9_kindOf 10 = .ok (.arraylength, 1) := by decide +kernel
theorem dX9_kindOf_11 : decode cX9_kindOf 11 = .ok (.iconst 1, 1) := by decide +kernel
theorem dX9_kindOf_12 : decode cX9_kindOf 12 = .ok (.isub, 1) := by decide +kernel
theorem dX9_kindOf_13 : decode cX9_kindOf 13 = .ok (.invokestatic 44, 3) := by decide +kernel
theorem dX9_kindOf_16 : decode cX9_kindOf 16 = .ok (.ifCond .eq 7, 3) := by decide +kernel
theorem dX9_kindOf_19 : decode cX9_kindOf 19 = .ok (.iload_n 1, 1) := by decide +kernel
theorem dX9_kindOf_20 : decode cX9_kindOf 20 = .ok (.goto 4, 3) := by decide +kernel
theorem dX9_kindOf_23 : decode cX9_kindOf 23 = .ok (.iconst 0, 1) := by decide +kernel
theorem dX9_kindOf_24 : decode cX9_kindOf 24 = .ok (.aaload, 1) := by decide +kernel
theorem dX9_kindOf_25 : decode cX9_kindOf 25 = .ok (.areturn, 1) := by decide +kernel
theorem dX9_ledgeBelow_0 : decode cX9_ledgeBelow 0 = .ok (.iload_n 1, 1) := by decide +kernel
theorem dX9_ledgeBelow_1 : decode cX9_ledgeBelow 1 = .ok (.iconst 0, 1) := by decide +kernel
theorem dX9_ledgeBelow_2 : decode cX9_ledgeBelow 2 = .ok (.aload_n 0, 1) := by decide +kernel
theorem dX9_ledgeBelow_3 : decode cX9_ledgeBelow 3 = .ok (.getfield 31, 3) := by decide +kernel
theorem dX9_ledgeBelow_6 : decode cX9_ledgeBelow 6 = .ok (.iconst 1, 1) := by decide +kernel
theorem dX9_ledgeBelow_7 : decode cX9_ledgeBelow 7 = .ok (.isub, 1) := by decide +kernel
theorem dX9_ledgeBelow_8 : decode cX9_ledgeBelow 8 = .ok (.invokestatic 44, 3) := by decide +kernel
theorem dX9_ledgeBelow_11 : decode cX9_ledgeBelow 11 = .ok (.ifCond .eq 12, 3) := by decide +kernel
theorem dX9_ledgeBelow_14 : decode cX9_ledgeBelow 14 = .ok (.aload_n 0, 1) := by decide +kernel
theorem dX9_ledgeBelow_15 : decode cX9_ledgeBelow 15 = .ok (.getfield 15, 3) := by decide +kernel
theorem dX9_ledgeBelow_18 : decode cX9_ledgeBelow 18 = .ok (.iload_n 1, 1) := by decide +kernel
theorem dX9_ledgeBelow_19 : decode cX9_ledgeBelow 19 = .ok (.iaload, 1) := by decide +kernel
theorem dX9_ledgeBelow_20 : decode cX9_ledgeBelow 20 = .ok (.goto 4, 3) := by decide +kernel
theorem dX9_ledgeBelow_23 : decode cX9_ledgeBelow 23 = .ok (.iconst (-1), 1) := by decide +kernel
theorem dX9_ledgeBelow_24 : decode cX9_ledgeBelow 24 = .ok (.ireturn, 1) := by decide +kernel
theorem dX9_bitsAbove_0 : decode cX9_bitsAbove 0 = .ok (.iconst 1, 1) := by decide +kernel
theorem dX9_bitsAbove_1 : decode cX9_bitsAbove 1 = .ok (.iload_n 1, 1) := by decide +kernel
theorem dX9_bitsAbove_2 : decode cX9_bitsAbove 2 = .ok (.ishl, 1) := by decide +kernel
theorem dX9_bitsAbove_3 : decode cX9_bitsAbove 3 = .ok (.istore_n 2, 1) := by decide +kernel
theorem dX9_bitsAbove_4 : decode cX9_bitsAbove 4 = .ok (.iload_n 1, 1) := by decide +kernel
theorem dX9_bitsAbove_5 : decode cX9_bitsAbove 5 = .ok (.iconst 1, 1) := by decide +kernel
theorem dX9_bitsAbove_6 : decode cX9_bitsAbove 6 = .ok (.iadd, 1) := by decide +kernel
theorem dX9_bitsAbove_7 : decode cX9_bitsAbove 7 = .ok (.istore_n 3, 1) := by decide +kernel
theorem dX9_bitsAbove_8 : decode cX9_bitsAbove 8 = .ok (.iload_n 3, 1) := by decide +kernel
theorem dX9_bitsAbove_9 : decode cX9_bitsAbove 9 = .ok (.aload_n 0, 1) := by decide +kernel
theorem dX9_bitsAbove_10 : decode cX9_bitsAbove 10 = .ok (.getfield 31, 3) := by decide +kernel
theorem dX9_bitsAbove_13 : decode cX9_bitsAbove 13 = .ok (.if_icmp .ge 38, 3) := by decide +kernel
theorem dX9_bitsAbove_16 : decode cX9_bitsAbove 16 = .ok (.aload_n 0, 1) := by decide +kernel
theorem dX9_bitsAbove_17 : decode cX9_bitsAbove 17 = .ok (.getfield 15, 3) := by decide +kernel
theorem dX9_bitsAbove_20 : decode cX9_bitsAbove 20 = .ok (.iload_n 3, 1) := by decide +kernel
theorem dX9_bitsAbove_21 : decode cX9_bitsAbove 21 = .ok (.iaload, 1) := by decide +kernel
theorem dX9_bitsAbove_22 : decode cX9_bitsAbove 22 = .ok (.iconst (-1), 1) := by decide +kernel
theorem dX9_bitsAbove_23 : decode cX9_bitsAbove 23 = .ok (.if_icmp .eq 22, 3) := by decide +kernel
theorem dX9_bitsAbove_26 : decode cX9_bitsAbove 26 = .ok (.iload_n 2, 1) := by decide +kernel
theorem dX9_bitsAbove_27 : decode cX9_bitsAbove 27 = .ok (.aload_n 0, 1) := by decide +kernel
theorem dX9_bitsAbove_28 : decode cX9_bitsAbove 28 = .ok (.getfield 15, 3) := by decide +kernel
theorem dX9_bitsAbove_31 : decode cX9_bitsAbove 31 = .ok (.iload_n 3, 1) := by decide +kernel
theorem dX9_bitsAbove_32 : decode cX9_bitsAbove 32 = .ok (.iaload, 1) := by decide +kernel
theorem dX9_bitsAbove_33 : decode cX9_bitsAbove 33 = .ok (.invokestatic 48, 3) := by decide +kernel
theorem dX9_bitsAbove_36 : decode cX9_bitsAbove 36 = .ok (.ifCond .eq 9, 3) := by decide +kernel
theorem dX9_bitsAbove_39 : decode cX9_bitsAbove 39 = .ok (.iload_n 2, 1) := by decide +kernel
theorem dX9_bitsAbove_40 : decode cX9_bitsAbove 40 = .ok (.iconst 1, 1) := by decide +kernel
theorem dX9_bitsAbove_41 : decode cX9_bitsAbove 41 = .ok (.iload_n 3, 1) := by decide +kernel
theorem dX9_bitsAbove_42 : decode cX9_bitsAbove 42 = .ok (.ishl, 1) := by decide +kernel
theorem dX9_bitsAbove_43 : decode cX9_bitsAbove 43 = .ok (.ior, 1) := by decide +kernel
theorem dX9_bitsAbove_44 : decode cX9_bitsAbove 44 = .ok (.istore_n 2, 1) := by decide +kernel
theorem dX9_bitsAbove_45 : decode cX9_bitsAbove 45 = .ok (.iinc 3 1, 3) := by decide +kernel
theorem dX9_bitsAbove_48 : decode cX9_bitsAbove 48 = .ok (.goto (-40), 3) := by decide +kernel
theorem dX9_bitsAbove_51 : decode cX9_bitsAbove 51 = .ok (.iload_n 2, 1) := by decide +kernel
theorem dX9_bitsAbove_52 : decode cX9_bitsAbove 52 = .ok (.ireturn, 1) := by decide +kernel
theorem dX10_init_0 : decode cX10_init 0 = .ok (.aload_n 0, 1) := by decide +kernel
theorem dX10_init_1 : decode cX10_init 1 = .ok (.invokespecial 1, 3) := by decide +kernel
theorem dX10_init_4 : decode cX10_init 4 = .ok (.return_, 1) := by decide +kernel
theorem dX10_place_0 : decode cX10_place 0 = .ok (.aload_n 1, 1) := by decide +kernel
theorem dX10_place_1 : decode cX10_place 1 = .ok (.getfield 7, 3) := by decide +kernel
theorem dX10_place_4 : decode cX10_place 4 = .ok (.iconst 2, 1) := by decide +kernel
theorem dX10_place_5 : decode cX10_place 5 = .ok (.irem, 1) := by decide +kernel
theorem dX10_place_6 : decode cX10_place 6 = .ok (.ifCond .eq 10, 3) := by decide +kernel
theorem dX10_place_9 : decode cX10_place 9 = .ok (.aload_n 1, 1) := by decide +kernel
theorem dX10_place_10 : decode cX10_place 10 = .ok (.invokevirtual 13, 3) := by decide +kernel
theorem dX10_place_13 : decode cX10_place 13 = .ok (.goto 10, 3) := by decide +kernel
theorem dX10_place_16 : decode cX10_place 16 = .ok (.aload_n 0, 1) := by decide +kernel
theorem dX10_place_17 : decode cX10_place 17 = .ok (.aload_n 1, 1) := by decide +kernel
theorem dX10_place_18 : decode cX10_place 18 = .ok (.iload_n 2, 1) := by decide +kernel
theorem dX10_place_19 : decode cX10_place 19 = .ok (.iload_n 3, 1) := by decide +kernel
theorem dX10_place_20 : decode cX10_place 20 = .ok (.invokespecial 17, 3) := by decide +kernel
theorem dX10_place_23 : decode cX10_place 23 = .ok (.ireturn, 1) := by decide +kernel
theorem dX11_init_0 : decode cX11_init 0 = .ok (.aload_n 0, 1) := by decide +kernel
theorem dX11_init_1 : decode cX11_init 1 = .ok (.invokespecial 3, 3) := by decide +kernel
theorem dX11_init_4 : decode cX11_init 4 = .ok (.bipush 6, 2) := by decide +kernel
theorem dX11_init_6 : decode cX11_init 6 = .ok (.anewarray 9, 3) := by decide +kernel
theorem dX11_init_9 : decode cX11_init 9 = .ok (.dup, 1) := by decide +kernel
theorem dX11_init_10 : decode cX11_init 10 = .ok (.iconst 0, 1) := by decide +kernel
theorem dX11_init_11 : decode cX11_init 11 = .ok (.new 9, 3) := by decide +kernel
theorem dX11_init_14 : decode cX11_init 14 = .ok (.dup, 1) := by decide +kernel
theorem dX11_init_15 : decode cX11_init 15 = .ok (.invokespecial 11, 3) := by decide +kernel
theorem dX11_init_18 : decode cX11_init 18 = .ok (.aastore, 1) := by decide +kernel
theorem dX11_init_19 : decode cX11_init 19 = .ok (.dup, 1) := by decide +kernel
theorem dX11_init_20 : decode cX11_init 20 = .ok (.iconst 1, 1) := by decide +kernel
theorem dX11_init_21 : decode cX11_init 21 = .ok (.new 12, 3) := by decide +kernel
theorem dX11_init_24 : decode cX11_init 24 = .ok (.dup, 1) := by decide +kernel
theorem dX11_init_25 : decode cX11_init 25 = .ok (.invokespecial 14, 3) := by decide +kernel
theorem dX11_init_28 : decode cX11_init 28 = .ok (.aastore, 1) := by decide +kernel
theorem dX11_init_29 : decode cX11_init 29 = .ok (.dup, 1) := by decide +kernel
theorem dX11_init_30 : decode cX11_init 30 = .ok (.iconst 2, 1) := by decide +kernel
theorem dX11_init_31 : decode cX11_init 31 = .ok (.new 15, 3) := by decide +kernel
theorem dX11_init_34 : decode cX11_init 34 = .ok (.dup, 1) := by decide +kernel
theorem dX11_init_35 : decode cX11_init 35 = .ok (.invokespecial 17, 3) := by decide +kernel
theorem dX11_init_38 : decode cX11_init 38 = .ok (.aastore, 1) := by decide +kernel
theorem dX11_init_39 : decode cX11_init 39 = .ok (.dup, 1) := by decide +kernel
theorem dX11_init_40 : decode cX11_init 40 = .ok (.iconst 3, 1) := by decide +kernel
theorem dX11_init_41 : decode cX11_init 41 = .ok (.new 18, 3) := by decide +kernel
theorem dX11_init_44 : decode cX11_init 44 = .ok (.dup, 1) := by decide +kernel
theorem dX11_init_45 : decode cX11_init 45 = .ok (.invokespecial 20, 3) := by decide +kernel
theorem dX11_init_48 : decode cX11_init 48 = .ok (.aastore, 1) := by decide +kernel
theorem dX11_init_49 : decode cX11_init 49 = .ok (.dup, 1) := by decide +kernel
theorem dX11_init_50 : decode cX11_init 50 = .ok (.iconst 4, 1) := by decide +kernel
theorem dX11_init_51 : decode cX11_init 51 = .ok (.new 21, 3) := by decide +kernel
theorem dX11_init_54 : decode cX11_init 54 = .ok (.dup, 1) := by decide +kernel
theorem dX11_init_55 : decode cX11_init 55 = .ok (.invokespecial 23, 3) := by decide +kernel
theorem dX11_init_58 : decode cX11_init 58 = .ok (.aastore, 1) := by decide +kernel
theorem dX11_init_59 : decode cX11_init 59 = .ok (.dup, 1) := by decide +kernel
theorem dX11_init_60 : decode cX11_init 60 = .ok (.iconst 5, 1) := by decide +kernel
theorem dX11_init_61 : decode cX11_init 61 = .ok (.new 24, 3) := by decide +kernel
theorem dX11_init_64 : decode cX11_init 64 = .ok (.dup, 1) := by decide +kernel
theorem dX11_init_65 : decode cX11_init 65 = .ok (.invokespecial 26, 3) := by decide +kernel
theorem dX11_init_68 : decode cX11_init 68 = .ok (.aastore, 1) := by decide +kernel
theorem dX11_init_69 : decode cX11_init 69 = .ok (.astore_n 1, 1) := by decide +kernel
theorem dX11_init_70 : decode cX11_init 70 = .ok (.aload_n 0, 1) := by decide +kernel
theorem dX11_init_71 : decode cX11_init 71 = .ok (.new 27, 3) := by decide +kernel
theorem dX11_init_74 : decode cX11_init 74 = .ok (.dup, 1) := by decide +kernel
theorem dX11_init_75 : decode cX11_init 75 = .ok (.aload_n 1, 1) := by decide +kernel
theorem dX11_init_76 : decode cX11_init 76 = .ok (.invokespecial 29, 3) := by decide +kernel
theorem dX11_init_79 : decode cX11_init 79 = .ok (.putfield 32, 3) := by decide +kernel
theorem dX11_init_82 : decode cX11_init 82 = .ok (.aload_n 0, 1) := by decide +kernel
theorem dX11_init_83 : decode cX11_init 83 = .ok (.new 27, 3) := by decide +kernel
theorem dX11_init_86 : decode cX11_init 86 = .ok (.dup, 1) := by decide +kernel
theorem dX11_init_87 : decode cX11_init 87 = .ok (.aload_n 1, 1) := by decide +kernel
theorem dX11_init_88 : decode cX11_init 88 = .ok (.invokespecial 29, 3) := by decide +kernel
theorem dX11_init_91 : decode cX11_init 91 = .ok (.putfield 36, 3) := by decide +kernel
theorem dX11_init_94 : decode cX11_init 94 = .ok (.aload_n 0, 1) := by decide +kernel
theorem dX11_init_95 : decode cX11_init 95 = .ok (.iconst 2, 1) := by decide +kernel
theorem dX11_init_96 : decode cX11_init 96 = .ok (.anewarray 27, 3) := by decide +kernel
theorem dX11_init_99 : decode cX11_init 99 = .ok (.putfield 39, 3) := by decide +kernel
theorem dX11_init_102 : decode cX11_init 102 = .ok (.iconst 0, 1) := by decide +kernel
theorem dX11_init_103 : decode cX11_init 103 = .ok (.istore_n 2, 1) := by decide +kernel
theorem dX11_init_104 : decode cX11_init 104 = .ok (.iload_n 2, 1) := by decide +kernel
theorem dX11_init_105 : decode cX11_init 105 = .ok (.iconst 2, 1) := by decide +kernel
theorem dX11_init_106 : decode cX11_init 106 = .ok (.if_icmp .ge 23, 3) := by decide +kernel
theorem dX11_init_109 : decode cX11_init 109 = .ok (.aload_n 0, 1) := by decide +kernel
theorem dX11_init_110 : decode cX11_init 110 = .ok (.getfield 39, 3) := by decide +kernel
theorem dX11_init_113 : decode cX11_init 113 = .ok (.iload_n 2, 1) := by decide +kernel
theorem dX11_init_114 : decode cX11_init 114 = .ok (.new 27, 3) := by decide +kernel
theorem dX11_init_117 : decode cX11_init 117 = .ok (.dup, 1) := by decide +kernel
theorem dX11_init_118 : decode cX11_init 118 = .ok (.aload_n 1, 1) := by decide +kernel
theorem dX11_init_119 : decode cX11_init 119 = .ok (.invokespecial 29, 3) := by decide +kernel
theorem dX11_init_122 : decode cX11_init 122 = .ok (.aastore, 1) := by decide +kernel
theorem dX11_init_123 : decode cX11_init 123 = .ok (.iinc 2 1, 3) := by decide +kernel
theorem dX11_init_126 : decode cX11_init 126 = .ok (.goto (-22), 3) := by decide +kernel
theorem dX11_init_129 : decode cX11_init 129 = .ok (.aload_n 0, 1) := by decide +kernel
theorem dX11_init_130 : decode cX11_init 130 = .ok (.new 43, 3) := by decide +kernel
theorem dX11_init_133 : decode cX11_init 133 = .ok (.dup, 1) := by decide +kernel
theorem dX11_init_134 : decode cX11_init 134 = .ok (.invokespecial 45, 3) := by decide +kernel
theorem dX11_init_137 : decode cX11_init 137 = .ok (.putfield 46, 3) := by decide +kernel
theorem dX11_init_140 : decode cX11_init 140 = .ok (.aload_n 0, 1) := by decide +kernel
theorem dX11_init_141 : decode cX11_init 141 = .ok (.new 50, 3) := by decide +kernel
theorem dX11_init_144 : decode cX11_init 144 = .ok (.dup, 1) := by decide +kernel
theorem dX11_init_145 : decode cX11_init 145 = .ok (.aload_n 0, 1) := by decide +kernel
theorem dX11_init_146 : decode cX11_init 146 = .ok (.getfield 32, 3) := by decide +kernel
theorem dX11_init_149 : decode cX11_init 149 = .ok (.invokespecial 52, 3) := by decide +kernel
theorem dX11_init_152 : decode cX11_init 152 = .ok (.putfield 55, 3) := by decide +kernel
theorem dX11_init_155 : decode cX11_init 155 = .ok (.aload_n 0, 1) := by decide +kernel
theorem dX11_init_156 : decode cX11_init 156 = .ok (.lconst 1, 1) := by decide +kernel
theorem dX11_init_157 : decode cX11_init 157 = .ok (.putfield 59, 3) := by decide +kernel
theorem dX11_init_160 : decode cX11_init 160 = .ok (.return_, 1) := by decide +kernel
theorem dX11_mountain_0 : decode cX11_mountain 0 = .ok (.aload_n 0, 1) := by decide +kernel
theorem dX11_mountain_1 : decode cX11_mountain 1 = .ok (.getfield 32, 3) := by decide +kernel
theorem dX11_mountain_4 : decode cX11_mountain 4 = .ok (.getfield 63, 3) := by decide +kernel
theorem dX11_mountain_7 : decode cX11_mountain 7 = .ok (.getfield 67, 3) := by decide +kernel
theorem dX11_mountain_10 : decode cX11_mountain 10 = .ok (.istore_n 1, 1) := by decide +kernel
theorem dX11_mountain_11 : decode cX11_mountain 11 = .ok (.aload_n 0, 1) := by decide +kernel
theorem dX11_mountain_12 : decode cX11_mountain 12 = .ok (.getfield 32, 3) := by decide +kernel
theorem dX11_mountain_15 : decode cX11_mountain 15 = .ok (.invokevirtual 73, 3) := by decide +kernel
theorem dX11_mountain_18 : decode cX11_mountain 18 = .ok (.iload_n 1, 1) := by decide +kernel
theorem dX11_mountain_19 : decode cX11_mountain 19 = .ok (.ireturn, 1) := by decide +kernel
theorem dX11_ledge_0 : decode cX11_ledge 0 = .ok (.iload_n 1, 1) := by decide +kernel
theorem dX11_ledge_1 : decode cX11_ledge 1 = .ok (.iconst 1, 1) := by decide +kernel
theorem dX11_ledge_2 : decode cX11_ledge 2 = .ok (.bipush 60, 2) := by decide +kernel
theorem dX11_ledge_4 : decode cX11_ledge 4 = .ok (.invokestatic 76, 3) := by decide +kernel
theorem dX11_ledge_7 : decode cX11_ledge 7 = .ok (.ifCond .eq 33, 3) := by decide +kernel
theorem dX11_ledge_10 : decode cX11_ledge 10 = .ok (.iload_n 2, 1) := by decide +kernel
theorem dX11_ledge_11 : decode cX11_ledge 11 = .ok (.iconst 0, 1) := by decide +kernel
theorem dX11_ledge_12 : decode cX11_ledge 12 = .ok (.bipush 30, 2) := by decide +kernel
theorem dX11_ledge_14 : decode cX11_ledge 14 = .ok (.invokestatic 76, 3) := by decide +kernel
theorem dX11_ledge_17 : decode cX11_ledge 17 = .ok (.ifCond .eq 23, 3) := by decide +kernel
theorem dX11_ledge_20 : decode cX11_ledge 20 = .ok (.iload_n 3, 1) := by decide +kernel
theorem dX11_ledge_21 : decode cX11_ledge 21 = .ok (.iconst (-1), 1) := by decide +kernel
theorem dX11_ledge_22 : decode cX11_ledge 22 = .ok (.aload_n 0, 1) := by decide +kernel
theorem dX11_ledge_23 : decode cX11_ledge 23 = .ok (.getfield 32, 3) := by decide +kernel
theorem dX11_ledge_26 : decode cX11_ledge 26 = .ok (.getfield 63, 3) := by decide +kernel
theorem dX11_ledge_29 : decode cX11_ledge 29 = .ok (.getfield 67, 3) := by decide +kernel
theorem dX11_ledge_32 : decode cX11_ledge 32 = .ok (.iconst 1, 1) := by decide +kernel
theorem dX11_ledge_33 : decode cX11_ledge 33 = .ok (.isub, 1) := by decide +kernel
theorem dX11_ledge_34 : decode cX11_ledge 34 = .ok (.invokestatic 76, 3) := by decide +kernel
theorem dX11_ledge_37 : decode cX11_ledge 37 = .ok (.ifCond .ne 10, 3) := by decide +kernel
theorem dX11_ledge_40 : decode cX11_ledge 40 = .ok (.aload_n 0, 1) := by decide +kernel
theorem dX11_ledge_41 : decode cX11_ledge 41 = .ok (.bipush (-2), 2) := by decide +kernel
theorem dX11_ledge_43 : decode cX11_ledge 43 = .ok (.invokevirtual 80, 3) := by decide +kernel
theorem dX11_ledge_46 : decode cX11_ledge 46 = .ok (.ireturn, 1) := by decide +kernel
theorem dX11_ledge_47 : decode cX11_ledge 47 = .ok (.aload_n 0, 1) := by decide +kernel
theorem dX11_ledge_48 : decode cX11_ledge 48 = .ok (.getfield 32, 3) := by decide +kernel
theorem dX11_ledge_51 : decode cX11_ledge 51 = .ok (.getfield 63, 3) := by decide +kernel
theorem dX11_ledge_54 : decode cX11_ledge 54 = .ok (.getfield 67, 3) := by decide +kernel
theorem dX11_ledge_57 : decode cX11_ledge 57 = .ok (.bipush 8, 2) := by decide +kernel
theorem dX11_ledge_59 : decode cX11_ledge 59 = .ok (.if_icmp .lt 8, 3) := by decide +kernel
theorem dX11_ledge_62 : decode cX11_ledge 62 = .ok (.aload_n 0, 1) := by decide +kernel
theorem dX11_ledge_63 : decode cX11_ledge 63 = .ok (.invokevirtual 84, 3) := by decide +kernel
theorem dX11_ledge_66 : decode cX11_ledge 66 = .ok (.ireturn, 1) := by decide +kernel
theorem dX11_ledge_67 : decode cX11_ledge 67 = .ok (.aload_n 0, 1) := by decide +kernel
theorem dX11_ledge_68 : decode cX11_ledge 68 = .ok (.getfield 32, 3) := by decide +kernel
theorem dX11_ledge_71 : decode cX11_ledge 71 = .ok (.iload_n 1, 1) := by decide +kernel
theorem dX11_ledge_72 : decode cX11_ledge 72 = .ok (.iload_n 2, 1) := by decide +kernel
theorem dX11_ledge_73 : decode cX11_ledge 73 = .ok (.iload_n 3, 1) := by decide +kernel
theorem dX11_ledge_74 : decode cX11_ledge 74 = .ok (.invokevirtual 88, 3) := by decide +kernel
theorem dX11_ledge_77 : decode cX11_ledge 77 = .ok (.ireturn, 1) := by decide +kernel
theorem dX11_voter_0 : decode cX11_voter 0 = .ok (.iload_n 1, 1) := by decide +kernel
theorem dX11_voter_1 : decode cX11_voter 1 = .ok (.iconst 0, 1) := by decide +kernel
theorem dX11_voter_2 : decode cX11_voter 2 = .ok (.iconst 5, 1) := by decide +kernel
theorem dX11_voter_3 : decode cX11_voter 3 = .ok (.invokestatic 76, 3) := by decide +kernel
theorem dX11_voter_6 : decode cX11_voter 6 = .ok (.ifCond .eq 21, 3) := by decide +kernel
theorem dX11_voter_9 : decode cX11_voter 9 = .ok (.aload_n 0, 1) := by decide +kernel
theorem dX11_voter_10 : decode cX11_voter 10 = .ok (.iload_n 2, 1) := by decide +kernel
theorem dX11_voter_11 : decode cX11_voter 11 = .ok (.invokevirtual 92, 3) := by decide +kernel
theorem dX11_voter_14 : decode cX11_voter 14 = .ok (.ifCond .eq 13, 3) := by decide +kernel
theorem dX11_voter_17 : decode cX11_voter 17 = .ok (.iload_n 3, 1) := by decide +kernel
theorem dX11_voter_18 : decode cX11_voter 18 = .ok (.iconst 1, 1) := by decide +kernel
theorem dX11_voter_19 : decode cX11_voter 19 = .ok (.bipush 9, 2) := by decide +kernel
theorem dX11_voter_21 : decode cX11_voter 21 = .ok (.invokestatic 76, 3) := by decide +kernel
theorem dX11_voter_24 : decode cX11_voter 24 = .ok (.ifCond .ne 10, 3) := by decide +kernel
theorem dX11_voter_27 : decode cX11_voter 27 = .ok (.aload_n 0, 1) := by decide +kernel
theorem dX11_voter_28 : decode cX11_voter 28 = .ok (.bipush (-2), 2) := by decide +kernel
theorem dX11_voter_30 : decode cX11_voter 30 = .ok (.invokevirtual 80, 3) := by decide +kernel
theorem dX11_voter_33 : decode cX11_voter 33 = .ok (.ireturn, 1) := by decide +kernel
theorem dX11_voter_34 : decode cX11_voter 34 = .ok (.aload_n 0, 1) := by decide +kernel
theorem dX11_voter_35 : decode cX11_voter 35 = .ok (.getfield 32, 3) := by decide +kernel
theorem dX11_voter_38 : decode cX11_voter 38 = .ok (.getfield 63, 3) := by decide +kernel
theorem dX11_voter_41 : decode cX11_voter 41 = .ok (.getfield 96, 3) := by decide +kernel
theorem dX11_voter_44 : decode cX11_voter 44 = .ok (.bipush 6, 2) := by decide +kernel
theorem dX11_voter_46 : decode cX11_voter 46 = .ok (.if_icmp .lt 8, 3) := by decide +kernel
theorem dX11_voter_49 : decode cX11_voter 49 = .ok (.aload_n 0, 1) := by decide +kernel
theorem dX11_voter_50 : decode cX11_voter 50 = .ok (.invokevirtual 84, 3) := by decide +kernel
theorem dX11_voter_53 : decode cX11_voter 53 = .ok (.ireturn, 1) := by decide +kernel
theorem dX11_voter_54 : decode cX11_voter 54 = .ok (.aload_n 0, 1) := by decide +kernel
theorem dX11_voter_55 : decode cX11_voter 55 = .ok (.getfield 32, 3) := by decide +kernel
theorem dX11_voter_58 : decode cX11_voter 58 = .ok (.iload_n 1, 1) := by decide +kernel
theorem dX11_voter_59 : decode cX11_voter 59 = .ok (.iload_n 2, 1) := by decide +kernel
theorem dX11_voter_60 : decode cX11_voter 60 = .ok (.iload_n 3, 1) := by decide +kernel
theorem dX11_voter_61 : decode cX11_voter 61 = .ok (.invokevirtual 99, 3) := by decide +kernel
theorem dX11_voter_64 : decode cX11_voter 64 = .ok (.ireturn, 1) := by decide +kernel
theorem dX11_type_0 : decode cX11_type 0 = .ok (.iload_n 1, 1) := by decide +kernel
theorem dX11_type_1 : decode cX11_type 1 = .ok (.iconst 0, 1) := by decide +kernel
theorem dX11_type_2 : decode cX11_type 2 = .ok (.bipush 127, 2) := by decide +kernel
theorem dX11_type_4 : decode cX11_type 4 = .ok (.invokestatic 76, 3) := by decide +kernel
theorem dX11_type_7 : decode cX11_type 7 = .ok (.ifCond .ne 10, 3) := by decide +kernel
theorem dX11_type_10 : decode cX11_type 10 = .ok (.aload_n 0, 1) := by decide +kernel
theorem dX11_type_11 : decode cX11_type 11 = .ok (.bipush (-2), 2) := by decide +kernel
theorem dX11_type_13 : decode cX11_type 13 = .ok (.invokevirtual 80, 3) := by decide +kernel
theorem dX11_type_16 : decode cX11_type 16 = .ok (.ireturn, 1) := by decide +kernel
theorem dX11_type_17 : decode cX11_type 17 = .ok (.aload_n 0, 1) := by decide +kernel
theorem dX11_type_18 : decode cX11_type 18 = .ok (.getfield 46, 3) := by decide +kernel
theorem dX11_type_21 : decode cX11_type 21 = .ok (.getfield 102, 3) := by decide +kernel
theorem dX11_type_24 : decode cX11_type 24 = .ok (.sipush 150, 3) := by decide +kernel
theorem dX11_type_27 : decode cX11_type 27 = .ok (.if_icmp .lt 8, 3) := by decide +kernel
theorem dX11_type_30 : decode cX11_type 30 = .ok (.aload_n 0, 1) := by decide +kernel
theorem dX11_type_31 : decode cX11_type 31 = .ok (.invokevirtual 84, 3) := by decide +kernel
theorem dX11_type_34 : decode cX11_type 34 = .ok (.ireturn, 1) := by decide +kernel
theorem dX11_type_35 : decode cX11_type 35 = .ok (.aload_n 0, 1) := by decide +kernel
theorem dX11_type_36 : decode cX11_type 36 = .ok (.getfield 46, 3) := by decide +kernel
theorem dX11_type_39 : decode cX11_type 39 = .ok (.iload_n 1, 1) := by decide +kernel
theorem dX11_type_40 : decode cX11_type 40 = .ok (.invokevirtual 105, 3) := by decide +kernel
theorem dX11_type_43 : decode cX11_type 43 = .ok (.aload_n 0, 1) := by decide +kernel
theorem dX11_type_44 : decode cX11_type 44 = .ok (.getfield 46, 3) := by decide +kernel
theorem dX11_type_47 : decode cX11_type 47 = .ok (.getfield 102, 3) := by decide +kernel
theorem dX11_type_50 : decode cX11_type 50 = .ok (.ireturn, 1) := by decide +kernel
theorem dX11_clear_0 : decode cX11_clear 0 = .ok (.aload_n 0, 1) := by decide +kernel
theorem dX11_clear_1 : decode cX11_clear 1 = .ok (.getfield 46, 3) := by decide +kernel
theorem dX11_clear_4 : decode cX11_clear 4 = .ok (.getfield 102, 3) := by decide +kernel
theorem dX11_clear_7 : decode cX11_clear 7 = .ok (.istore_n 1, 1) := by decide +kernel
theorem dX11_clear_8 : decode cX11_clear 8 = .ok (.aload_n 0, 1) := by decide +kernel
theorem dX11_clear_9 : decode cX11_clear 9 = .ok (.getfield 46, 3) := by decide +kernel
theorem dX11_clear_12 : decode cX11_clear 12 = .ok (.iconst 0, 1) := by decide +kernel
theorem dX11_clear_13 : decode cX11_clear 13 = .ok (.putfield 102, 3) := by decide +kernel
theorem dX11_clear_16 : decode cX11_clear 16 = .ok (.iload_n 1, 1) := by decide +kernel
theorem dX11_clear_17 : decode cX11_clear 17 = .ok (.ireturn, 1) := by decide +kernel
theorem dX11_read_0 : decode cX11_read 0 = .ok (.aload_n 0, 1) := by decide +kernel
theorem dX11_read_1 : decode cX11_read 1 = .ok (.getfield 46, 3) := by decide +kernel
theorem dX11_read_4 : decode cX11_read 4 = .ok (.aload_n 0, 1) := by decide +kernel
theorem dX11_read_5 : decode cX11_read 5 = .ok (.getfield 36, 3) := by decide +kernel
theorem dX11_read_8 : decode cX11_read 8 = .ok (.invokevirtual 109, 3) := by decide +kernel
theorem dX11_read_11 : decode cX11_read 11 = .ok (.istore_n 1, 1) := by decide +kernel
theorem dX11_read_12 : decode cX11_read 12 = .ok (.aload_n 0, 1) := by decide +kernel
theorem dX11_read_13 : decode cX11_read 13 = .ok (.getfield 46, 3) := by decide +kernel
theorem dX11_read_16 : decode cX11_read 16 = .ok (.getfield 113, 3) := by decide +kernel
theorem dX11_read_19 : decode cX11_read 19 = .ok (.iconst (-1), 1) := by decide +kernel
theorem dX11_read_20 : decode cX11_read 20 = .ok (.if_icmp .eq 14, 3) := by decide +kernel
theorem dX11_read_23 : decode cX11_read 23 = .ok (.bipush (-10), 2) := by decide +kernel
theorem dX11_read_25 : decode cX11_read 25 = .ok (.aload_n 0, 1) := by decide +kernel
theorem dX11_read_26 : decode cX11_read 26 = .ok (.getfield 46, 3) := by decide +kernel
theorem dX11_read_29 : decode cX11_read 29 = .ok (.getfield 113, 3) := by decide +kernel
theorem dX11_read_32 : decode cX11_read 32 = .ok (.isub, 1) := by decide +kernel
theorem dX11_read_33 : decode cX11_read 33 = .ok (.ireturn, 1) := by decide +kernel
theorem dX11_read_34 : decode cX11_read 34 = .ok (.aload_n 0, 1) := by decide +kernel
theorem dX11_read_35 : decode cX11_read 35 = .ok (.getfield 32, 3) := by decide +kernel
theorem dX11_read_38 : decode cX11_read 38 = .ok (.aload_n 0, 1) := by decide +kernel
theorem dX11_read_39 : decode cX11_read 39 = .ok (.getfield 36, 3) := by decide +kernel
theorem dX11_read_42 : decode cX11_read 42 = .ok (.invokevirtual 116, 3) := by decide +kernel
theorem dX11_read_45 : decode cX11_read 45 = .ok (.iload_n 1, 1) := by decide +kernel
theorem dX11_read_46 : decode cX11_read 46 = .ok (.ireturn, 1) := by decide +kernel
theorem dX11_vote_0 : decode cX11_vote 0 = .ok (.aload_n 0, 1) := by decide +kernel
theorem dX11_vote_1 : decode cX11_vote 1 = .ok (.iload_n 1, 1) := by decide +kernel
theorem dX11_vote_2 : decode cX11_vote 2 = .ok (.invokevirtual 119, 3) := by decide +kernel
theorem dX11_vote_5 : decode cX11_vote 5 = .ok (.ifCond .ne 10, 3) := by decide +kernel
theorem dX11_vote_8 : decode cX11_vote 8 = .ok (.aload_n 0, 1) := by decide +kernel
theorem dX11_vote_9 : decode cX11_vote 9 = .ok (.bipush (-2), 2) := by decide +kernel
theorem dX11_vote_11 : decode cX11_vote 11 = .ok (.invokevirtual 80, 3) := by decide +kernel
theorem dX11_vote_14 : decode cX11_vote 14 = .ok (.ireturn, 1) := by decide +kernel
theorem dX11_vote_15 : decode cX11_vote 15 = .ok (.aload_n 0, 1) := by decide +kernel
theorem dX11_vote_16 : decode cX11_vote 16 = .ok (.getfield 32, 3) := by decide +kernel
theorem dX11_vote_19 : decode cX11_vote 19 = .ok (.invokevirtual 122, 3) := by decide +kernel
theorem dX11_vote_22 : decode cX11_vote 22 = .ok (.aload_n 0, 1) := by decide +kernel
theorem dX11_vote_23 : decode cX11_vote 23 = .ok (.getfield 32, 3) := by decide +kernel
theorem dX11_vote_26 : decode cX11_vote 26 = .ok (.getfield 125, 3) := by decide +kernel
theorem dX11_vote_29 : decode cX11_vote 29 = .ok (.iload_n 1, 1) := by decide +kernel
theorem dX11_vote_30 : decode cX11_vote 30 = .ok (.invokevirtual 129, 3) := by decide +kernel
theorem dX11_vote_33 : decode cX11_vote 33 = .ok (.aload_n 0, 1) := by decide +kernel
theorem dX11_vote_34 : decode cX11_vote 34 = .ok (.getfield 32, 3) := by decide +kernel
theorem dX11_vote_37 : decode cX11_vote 37 = .ok (.getfield 125, 3) := by decide +kernel
theorem dX11_vote_40 : decode cX11_vote 40 = .ok (.getfield 134, 3) := by decide +kernel
theorem dX11_vote_43 : decode cX11_vote 43 = .ok (.ireturn, 1) := by decide +kernel
theorem dX11_night_0 : decode cX11_night 0 = .ok (.iload_n 1, 1) := by decide +kernel
theorem dX11_night_1 : decode cX11_night 1 = .ok (.iconst 1, 1) := by decide +kernel
theorem dX11_night_2 : decode cX11_night 2 = .ok (.bipush 9, 2) := by decide +kernel
theorem dX11_night_4 : decode cX11_night 4 = .ok (.invokestatic 76, 3) := by decide +kernel
theorem dX11_night_7 : decode cX11_night 7 = .ok (.ifCond .ne 10, 3) := by decide +kernel
theorem dX11_night_10 : decode cX11_night 10 = .ok (.aload_n 0, 1) := by decide +kernel
theorem dX11_night_11 : decode cX11_night 11 = .ok (.bipush (-2), 2) := by decide +kernel
theorem dX11_night_13 : decode cX11_night 13 = .ok (.invokevirtual 80, 3) := by decide +kernel
theorem dX11_night_16 : decode cX11_night 16 = .ok (.ireturn, 1) := by decide +kernel
theorem dX11_night_17 : decode cX11_night 17 = .ok (.aload_n 0, 1) := by decide +kernel
theorem dX11_night_18 : decode cX11_night 18 = .ok (.getfield 32, 3) := by decide +kernel
theorem dX11_night_21 : decode cX11_night 21 = .ok (.invokevirtual 122, 3) := by decide +kernel
theorem dX11_night_24 : decode cX11_night 24 = .ok (.aload_n 0, 1) := by decide +kernel
theorem dX11_night_25 : decode cX11_night 25 = .ok (.getfield 32, 3) := by decide +kernel
theorem dX11_night_28 : decode cX11_night 28 = .ok (.getfield 125, 3) := by decide +kernel
theorem dX11_night_31 : decode cX11_night 31 = .ok (.iload_n 1, 1) := by decide +kernel
theorem dX11_night_32 : decode cX11_night 32 = .ok (.invokevirtual 137, 3) := by decide +kernel
theorem dX11_night_35 : decode cX11_night 35 = .ok (.aload_n 0, 1) := by decide +kernel
theorem dX11_night_36 : decode cX11_night 36 = .ok (.getfield 32, 3) := by decide +kernel
theorem dX11_night_39 : decode cX11_night 39 = .ok (.getfield 125, 3) := by decide +kernel
theorem dX11_night_42 : decode cX11_night 42 = .ok (.getfield 134, 3) := by decide +kernel
theorem dX11_night_45 : decode cX11_night 45 = .ok (.ireturn, 1) := by decide +kernel
theorem dX11_undo_0 : decode cX11_undo 0 = .ok (.aload_n 0, 1) := by decide +kernel
theorem dX11_undo_1 : decode cX11_undo 1 = .ok (.getfield 32, 3) := by decide +kernel
theorem dX11_undo_4 : decode cX11_undo 4 = .ok (.getfield 140, 3) := by decide +kernel
theorem dX11_undo_7 : decode cX11_undo 7 = .ok (.ifCond .gt 8, 3) := by decide +kernel
theorem dX11_undo_10 : decode cX11_undo 10 = .ok (.aload_n 0, 1) := by decide +kernel
theorem dX11_undo_11 : decode cX11_undo 11 = .ok (.invokevirtual 143, 3) := by decide +kernel
theorem dX11_undo_14 : decode cX11_undo 14 = .ok (.ireturn, 1) := by decide +kernel
theorem dX11_undo_15 : decode cX11_undo 15 = .ok (.aload_n 0, 1) := by decide +kernel
theorem dX11_undo_16 : decode cX11_undo 16 = .ok (.getfield 32, 3) := by decide +kernel
theorem dX11_undo_19 : decode cX11_undo 19 = .ok (.invokevirtual 146, 3) := by decide +kernel
theorem dX11_undo_22 : decode cX11_undo 22 = .ok (.aload_n 0, 1) := by decide +kernel
theorem dX11_undo_23 : decode cX11_undo 23 = .ok (.getfield 32, 3) := by decide +kernel
theorem dX11_undo_26 : decode cX11_undo 26 = .ok (.getfield 125, 3) := by decide +kernel
theorem dX11_undo_29 : decode cX11_undo 29 = .ok (.getfield 149, 3) := by decide +kernel
theorem dX11_undo_32 : decode cX11_undo 32 = .ok (.ireturn, 1) := by decide +kernel
theorem dX11_of_0 : decode cX11_of 0 = .ok (.aload_n 0, 1) := by decide +kernel
theorem dX11_of_1 : decode cX11_of 1 = .ok (.iload_n 1, 1) := by decide +kernel
theorem dX11_of_2 : decode cX11_of 2 = .ok (.invokevirtual 92, 3) := by decide +kernel
theorem dX11_of_5 : decode cX11_of 5 = .ok (.ifCond .ne 10, 3) := by decide +kernel
theorem dX11_of_8 : decode cX11_of 8 = .ok (.aload_n 0, 1) := by decide +kernel
theorem dX11_of_9 : decode cX11_of 9 = .ok (.bipush (-10), 2) := by decide +kernel
theorem dX11_of_11 : decode cX11_of 11 = .ok (.invokevirtual 80, 3) := by decide +kernel
theorem dX11_of_14 : decode cX11_of 14 = .ok (.ireturn, 1) := by decide +kernel
theorem dX11_of_15 : decode cX11_of 15 = .ok (.iload_n 2, 1) := by decide +kernel
theorem dX11_of_16 : decode cX11_of 16 = .ok (.tableswitch 84 0 3 #[32, 45, 58, 71], 32) := by decide +kernel
theorem dX11_of_48 : decode cX11_of 48 = .ok (.aload_n 0, 1) := by decide +kernel
theorem dX11_of_49 : decode cX11_of 49 = .ok (.getfield 32, 3) := by decide +kernel
theorem dX11_of_52 : decode cX11_of 52 = .ok (.getfield 63, 3) := by decide +kernel
theorem dX11_of_55 : decode cX11_of 55 = .ok (.getfield 152, 3) := by decide +kernel
theorem dX11_of_58 : decode cX11_of 58 = .ok (.iload_n 1, 1) := by decide +kernel
theorem dX11_of_59 : decode cX11_of 59 = .ok (.iaload, 1) := by decide +kernel
theorem dX11_of_60 : decode cX11_of 60 = .ok (.ireturn, 1) := by decide +kernel
theorem dX11_of_61 : decode cX11_of 61 = .ok (.aload_n 0, 1) := by decide +kernel
theorem dX11_of_62 : decode cX11_of 62 = .ok (.getfield 32, 3) := by decide +kernel
theorem dX11_of_65 : decode cX11_of 65 = .ok (.getfield 125, 3) := by decide +kernel
theorem dX11_of_68 : decode cX11_of 68 = .ok (.getfield 156, 3) := by decide +kernel
theorem dX11_of_71 : decode cX11_of 71 = .ok (.iload_n 1, 1) := by decide +kernel
theorem dX11_of_72 : decode cX11_of 72 = .ok (.iaload, 1) := by decide +kernel
theorem dX11_of_73 : decode cX11_of 73 = .ok (.ireturn, 1) := by decide +kernel
theorem dX11_of_74 : decode cX11_of 74 = .ok (.aload_n 0, 1) := by decide +kernel
theorem dX11_of_75 : decode cX11_of 75 = .ok (.getfield 32, 3) := by decide +kernel
theorem dX11_of_78 : decode cX11_of 78 = .ok (.getfield 125, 3) := by decide +kernel
theorem dX11_of_81 : decode cX11_of 81 = .ok (.getfield 159, 3) := by decide +kernel
theorem dX11_of_84 : decode cX11_of 84 = .ok (.iload_n 1, 1) := by decide +kernel
theorem dX11_of_85 : decode cX11_of 85 = .ok (.iaload, 1) := by decide +kernel
theorem dX11_of_86 : decode cX11_of 86 = .ok (.ireturn, 1) := by decide +kernel
theorem dX11_of_87 : decode cX11_of 87 = .ok (.aload_n 0, 1) := by decide +kernel
theorem dX11_of_88 : decode cX11_of 88 = .ok (.getfield 32, 3) := by decide +kernel
theorem dX11_of_91 : decode cX11_of 91 = .ok (.getfield 63, 3) := by decide +kernel
theorem dX11_of_94 : decode cX11_of 94 = .ok (.getfield 162, 3) := by decide +kernel
theorem dX11_of_97 : decode cX11_of 97 = .ok (.iload_n 1, 1) := by decide +kernel
theorem dX11_of_98 : decode cX11_of 98 = .ok (.iaload, 1) := by decide +kernel
theorem dX11_of_99 : decode cX11_of 99 = .ok (.ireturn, 1) := by decide +kernel
theorem dX11_of_100 : decode cX11_of 100 = .ok (.aload_n 0, 1) := by decide +kernel
theorem dX11_of_101 : decode cX11_of 101 = .ok (.bipush (-10), 2) := by decide +kernel
theorem dX11_of_103 : decode cX11_of 103 = .ok (.invokevirtual 80, 3) := by decide +kernel
theorem dX11_of_106 : decode cX11_of 106 = .ok (.ireturn, 1) := by decide +kernel
theorem dX11_about_0 : decode cX11_about 0 = .ok (.aload_n 0, 1) := by decide +kernel
theorem dX11_about_1 : decode cX11_about 1 = .ok (.iload_n 1, 1) := by decide +kernel
theorem dX11_about_2 : decode cX11_about 2 = .ok (.invokevirtual 119, 3) := by decide +kernel
theorem dX11_about_5 : decode cX11_about 5 = .ok (.ifCond .ne 10, 3) := by decide +kernel
theorem dX11_about_8 : decode cX11_about 8 = .ok (.aload_n 0, 1) := by decide +kernel
theorem dX11_about_9 : decode cX11_about 9 = .ok (.bipush (-2), 2) := by decide +kernel
theorem dX11_about_11 : decode cX11_about 11 = .ok (.invokevirtual 80, 3) := by decide +kernel
theorem dX11_about_14 : decode cX11_about 14 = .ok (.ireturn, 1) := by decide +kernel
theorem dX11_about_15 : decode cX11_about 15 = .ok (.iload_n 2, 1) := by decide +kernel
theorem dX11_about_16 : decode cX11_about 16 = .ok (.tableswitch 111 0 4 #[36, 49, 62, 75, 93], 36) := by decide +kernel
theorem dX11_about_52 : decode cX11_about 52 = .ok (.aload_n 0, 1) := by decide +kernel
theorem dX11_about_53 : decode cX11_about 53 = .ok (.getfield 32, 3) := by decide +kernel
theorem dX11_about_56 : decode cX11_about 56 = .ok (.getfield 63, 3) := by decide +kernel
theorem dX11_about_59 : decode cX11_about 59 = .ok (.getfield 165, 3) := by decide +kernel
theorem dX11_about_62 : decode cX11_about 62 = .ok (.iload_n 1, 1) := by decide +kernel
theorem dX11_about_63 : decode cX11_about 63 = .ok (.iaload, 1) := by decide +kernel
theorem dX11_about_64 : decode cX11_about 64 = .ok (.ireturn, 1) := by decide +kernel
theorem dX11_about_65 : decode cX11_about 65 = .ok (.aload_n 0, 1) := by decide +kernel
theorem dX11_about_66 : decode cX11_about 66 = .ok (.getfield 32, 3) := by decide +kernel
theorem dX11_about_69 : decode cX11_about 69 = .ok (.getfield 63, 3) := by decide +kernel
theorem dX11_about_72 : decode cX11_about 72 = .ok (.getfield 168, 3) := by decide +kernel
theorem dX11_about_75 : decode cX11_about 75 = .ok (.iload_n 1, 1) := by decide +kernel
theorem dX11_about_76 : decode cX11_about 76 = .ok (.iaload, 1) := by decide +kernel
theorem dX11_about_77 : decode cX11_about 77 = .ok (.ireturn, 1) := by decide +kernel
theorem dX11_about_78 : decode cX11_about 78 = .ok (.aload_n 0, 1) := by decide +kernel
theorem dX11_about_79 : decode cX11_about 79 = .ok (.getfield 32, 3) := by decide +kernel
theorem dX11_about_82 : decode cX11_about 82 = .ok (.getfield 63, 3) := by decide +kernel
theorem dX11_about_85 : decode cX11_about 85 = .ok (.getfield 171, 3) := by decide +kernel
theorem dX11_about_88 : decode cX11_about 88 = .ok (.iload_n 1, 1) := by decide +kernel
theorem dX11_about_89 : decode cX11_about 89 = .ok (.iaload, 1) := by decide +kernel
theorem dX11_about_90 : decode cX11_about 90 = .ok (.ireturn, 1) := by decide +kernel
theorem dX11_about_91 : decode cX11_about 91 = .ok (.aload_n 0, 1) := by decide +kernel
theorem dX11_about_92 : decode cX11_about 92 = .ok (.aload_n 0, 1) := by decide +kernel
theorem dX11_about_93 : decode cX11_about 93 = .ok (.getfield 32, 3) := by decide +kernel
theorem dX11_about_96 : decode cX11_about 96 = .ok (.getfield 63, 3) := by decide +kernel
theorem dX11_about_99 : decode cX11_about 99 = .ok (.getfield 165, 3) := by decide +kernel
theorem dX11_about_102 : decode cX11_about 102 = .ok (.iload_n 1, 1) := by decide +kernel
theorem dX11_about_103 : decode cX11_about 103 = .ok (.iaload, 1) := by decide +kernel
theorem dX11_about_104 : decode cX11_about 104 = .ok (.iload_n 1, 1) := by decide +kernel
theorem dX11_about_105 : decode cX11_about 105 = .ok (.invokevirtual 174, 3) := by decide +kernel
theorem dX11_about_108 : decode cX11_about 108 = .ok (.ireturn, 1) := by decide +kernel
theorem dX11_about_109 : decode cX11_about 109 = .ok (.aload_n 0, 1) := by decide +kernel
theorem dX11_about_110 : decode cX11_about 110 = .ok (.aload_n 0, 1) := by decide +kernel
theorem dX11_about_111 : decode cX11_about 111 = .ok (.getfield 32, 3) := by decide +kernel
theorem dX11_about_114 : decode cX11_about 114 = .ok (.getfield 63, 3) := by decide +kernel
theorem dX11_about_117 : decode cX11_about 117 = .ok (.getfield 165, 3) := by decide +kernel
theorem dX11_about_120 : decode cX11_about 120 = .ok (.iload_n 1, 1) := by decide +kernel
theorem dX11_about_121 : decode cX11_about 121 = .ok (.iaload, 1) := by decide +kernel
theorem dX11_about_122 : decode cX11_about 122 = .ok (.iload_n 1, 1) := by decide +kernel
theorem dX11_about_123 : decode cX11_about 123 = .ok (.invokevirtual 178, 3) := by decide +kernel
theorem dX11_about_126 : decode cX11_about 126 = .ok (.ireturn, 1) := by decide +kernel
theorem dX11_about_127 : decode cX11_about 127 = .ok (.aload_n 0, 1) := by decide +kernel
theorem dX11_about_128 : decode cX11_about 128 = .ok (.bipush (-2), 2) := by decide +kernel
theorem dX11_about_130 : decode cX11_about 130 = .ok (.invokevirtual 80, 3) := by decide +kernel
theorem dX11_about_133 : decode cX11_about 133 = .ok (.ireturn, 1) := by decide +kernel
theorem dX11_winner_0 : decode cX11_winner 0 = .ok (.aload_n 0, 1) := by decide +kernel
theorem dX11_winner_1 : decode cX11_winner 1 = .ok (.getfield 32, 3) := by decide +kernel
theorem dX11_winner_4 : decode cX11_winner 4 = .ok (.getfield 125, 3) := by decide +kernel
theorem dX11_winner_7 : decode cX11_winner 7 = .ok (.getfield 181, 3) := by decide +kernel
theorem dX11_winner_10 : decode cX11_winner 10 = .ok (.ireturn, 1) := by decide +kernel
theorem dX11_coalition_0 : decode cX11_coalition 0 = .ok (.aload_n 0, 1) := by decide +kernel
theorem dX11_coalition_1 : decode cX11_coalition 1 = .ok (.getfield 32, 3) := by decide +kernel
theorem dX11_coalition_4 : decode cX11_coalition 4 = .ok (.getfield 125, 3) := by decide +kernel
theorem dX11_coalition_7 : decode cX11_coalition 7 = .ok (.getfield 184, 3) := by decide +kernel
theorem dX11_coalition_10 : decode cX11_coalition 10 = .ok (.ireturn, 1) := by decide +kernel
theorem dX11_february_0 : decode cX11_february 0 = .ok (.iload_n 1, 1) := by decide +kernel
theorem dX11_february_1 : decode cX11_february 1 = .ok (.iconst 0, 1) := by decide +kernel
theorem dX11_february_2 : decode cX11_february 2 = .ok (.iconst 1, 1) := by decide +kernel
theorem dX11_february_3 : decode cX11_february 3 = .ok (.invokestatic 76, 3) := by decide +kernel
theorem dX11_february_6 : decode cX11_february 6 = .ok (.ifCond .ne 10, 3) := by decide +kernel
theorem dX11_february_9 : decode cX11_february 9 = .ok (.aload_n 0, 1) := by decide +kernel
theorem dX11_february_10 : decode cX11_february 10 = .ok (.bipush (-2), 2) := by decide +kernel
theorem dX11_february_12 : decode cX11_february 12 = .ok (.invokevirtual 80, 3) := by decide +kernel
theorem dX11_february_15 : decode cX11_february 15 = .ok (.ireturn, 1) := by decide +kernel
theorem dX11_february_16 : decode cX11_february 16 = .ok (.aload_n 0, 1) := by decide +kernel
theorem dX11_february_17 : decode cX11_february 17 = .ok (.getfield 55, 3) := by decide +kernel
theorem dX11_february_20 : decode cX11_february 20 = .ok (.invokevirtual 187, 3) := by decide +kernel
theorem dX11_february_23 : decode cX11_february 23 = .ok (.astore_n 2, 1) := by decide +kernel
theorem dX11_february_24 : decode cX11_february 24 = .ok (.iload_n 1, 1) := by decide +kernel
theorem dX11_february_25 : decode cX11_february 25 = .ok (.ifCond .ne 10, 3) := by decide +kernel
theorem dX11_february_28 : decode cX11_february 28 = .ok (.aload_n 2, 1) := by decide +kernel
theorem dX11_february_29 : decode cX11_february 29 = .ok (.getfield 181, 3) := by decide +kernel
theorem dX11_february_32 : decode cX11_february 32 = .ok (.goto 7, 3) := by decide +kernel
theorem dX11_february_35 : decode cX11_february 35 = .ok (.aload_n 2, 1) := by decide +kernel
theorem dX11_february_36 : decode cX11_february 36 = .ok (.getfield 184, 3) := by decide +kernel
theorem dX11_february_39 : decode cX11_february 39 = .ok (.ireturn, 1) := by decide +kernel
theorem dX11_orders_0 : decode cX11_orders 0 = .ok (.aload_n 0, 1) := by decide +kernel
theorem dX11_orders_1 : decode cX11_orders 1 = .ok (.iload_n 1, 1) := by decide +kernel
theorem dX11_orders_2 : decode cX11_orders 2 = .ok (.invokevirtual 92, 3) := by decide +kernel
theorem dX11_orders_5 : decode cX11_orders 5 = .ok (.ifCond .eq 8, 3) := by decide +kernel
theorem dX11_orders_8 : decode cX11_orders 8 = .ok (.iload_n 2, 1) := by decide +kernel
theorem dX11_orders_9 : decode cX11_orders 9 = .ok (.iconst (-1), 1) := by decide +kernel
theorem dX11_orders_10 : decode cX11_orders 10 = .ok (.if_icmp .ge 10, 3) := by decide +kernel
theorem dX11_orders_13 : decode cX11_orders 13 = .ok (.aload_n 0, 1) := by decide +kernel
theorem dX11_orders_14 : decode cX11_orders 14 = .ok (.bipush (-10), 2) := by decide +kernel
theorem dX11_orders_16 : decode cX11_orders 16 = .ok (.invokevirtual 80, 3) := by decide +kernel
theorem dX11_orders_19 : decode cX11_orders 19 = .ok (.ireturn, 1) := by decide +kernel
theorem dX11_orders_20 : decode cX11_orders 20 = .ok (.aload_n 0, 1) := by decide +kernel
theorem dX11_orders_21 : decode cX11_orders 21 = .ok (.getfield 32, 3) := by decide +kernel
theorem dX11_orders_24 : decode cX11_orders 24 = .ok (.getfield 125, 3) := by decide +kernel
theorem dX11_orders_27 : decode cX11_orders 27 = .ok (.getfield 181, 3) := by decide +kernel
theorem dX11_orders_30 : decode cX11_orders 30 = .ok (.iconst (-1), 1) := by decide +kernel
theorem dX11_orders_31 : decode cX11_orders 31 = .ok (.if_icmp .eq 8, 3) := by decide +kernel
theorem dX11_orders_34 : decode cX11_orders 34 = .ok (.aload_n 0, 1) := by decide +kernel
theorem dX11_orders_35 : decode cX11_orders 35 = .ok (.invokevirtual 143, 3) := by decide +kernel
theorem dX11_orders_38 : decode cX11_orders 38 = .ok (.ireturn, 1) := by decide +kernel
theorem dX11_orders_39 : decode cX11_orders 39 = .ok (.aload_n 0, 1) := by decide +kernel
theorem dX11_orders_40 : decode cX11_orders 40 = .ok (.getfield 55, 3) := by decide +kernel
theorem dX11_orders_43 : decode cX11_orders 43 = .ok (.iload_n 1, 1) := by decide +kernel
theorem dX11_orders_44 : decode cX11_orders 44 = .ok (.invokevirtual 191, 3) := by decide +kernel
theorem dX11_orders_47 : decode cX11_orders 47 = .ok (.istore_n 3, 1) := by decide +kernel
theorem dX11_orders_48 : decode cX11_orders 48 = .ok (.iload_n 2, 1) := by decide +kernel
theorem dX11_orders_49 : decode cX11_orders 49 = .ok (.iconst (-1), 1) := by decide +kernel
theorem dX11_orders_50 : decode cX11_orders 50 = .ok (.if_icmp .ne 5, 3) := by decide +kernel
theorem dX11_orders_53 : decode cX11_orders 53 = .ok (.iload_n 3, 1) := by decide +kernel
theorem dX11_orders_54 : decode cX11_orders 54 = .ok (.ireturn, 1) := by decide +kernel
theorem dX11_orders_55 : decode cX11_orders 55 = .ok (.iload_n 3, 1) := by decide +kernel
theorem dX11_orders_56 : decode cX11_orders 56 = .ok (.ifCond .ne 5, 3) := by decide +kernel
theorem dX11_orders_59 : decode cX11_orders 59 = .ok (.iconst (-1), 1) := by decide +kernel
theorem dX11_orders_60 : decode cX11_orders 60 = .ok (.ireturn, 1) := by decide +kernel
theorem dX11_orders_61 : decode cX11_orders 61 = .ok (.iload_n 2, 1) := by decide +kernel
theorem dX11_orders_62 : decode cX11_orders 62 = .ok (.aload_n 0, 1) := by decide +kernel
theorem dX11_orders_63 : decode cX11_orders 63 = .ok (.getfield 32, 3) := by decide +kernel
theorem dX11_orders_66 : decode cX11_orders 66 = .ok (.getfield 63, 3) := by decide +kernel
theorem dX11_orders_69 : decode cX11_orders 69 = .ok (.getfield 96, 3) := by decide +kernel
theorem dX11_orders_72 : decode cX11_orders 72 = .ok (.if_icmp .ge 21, 3) := by decide +kernel
theorem dX11_orders_75 : decode cX11_orders 75 = .ok (.iload_n 2, 1) := by decide +kernel
theorem dX11_orders_76 : decode cX11_orders 76 = .ok (.bipush 6, 2) := by decide +kernel
theorem dX11_orders_78 : decode cX11_orders 78 = .ok (.if_icmp .ge 15, 3) := by decide +kernel
theorem dX11_orders_81 : decode cX11_orders 81 = .ok (.aload_n 0, 1) := by decide +kernel
theorem dX11_orders_82 : decode cX11_orders 82 = .ok (.getfield 55, 3) := by decide +kernel
theorem dX11_orders_85 : decode cX11_orders 85 = .ok (.getfield 194, 3) := by decide +kernel
theorem dX11_orders_88 : decode cX11_orders 88 = .ok (.iload_n 2, 1) := by decide +kernel
theorem dX11_orders_89 : decode cX11_orders 89 = .ok (.iaload, 1) := by decide +kernel
theorem dX11_orders_90 : decode cX11_orders 90 = .ok (.goto 5, 3) := by decide +kernel
theorem dX11_orders_93 : decode cX11_orders 93 = .ok (.bipush (-5), 2) := by decide +kernel
theorem dX11_orders_95 : decode cX11_orders 95 = .ok (.ireturn, 1) := by decide +kernel
theorem dX11_stones_0 : decode cX11_stones 0 = .ok (.aload_n 0, 1) := by decide +kernel
theorem dX11_stones_1 : decode cX11_stones 1 = .ok (.iload_n 1, 1) := by decide +kernel
theorem dX11_stones_2 : decode cX11_stones 2 = .ok (.invokevirtual 92, 3) := by decide +kernel
theorem dX11_stones_5 : decode cX11_stones 5 = .ok (.ifCond .eq 12, 3) := by decide +kernel
theorem dX11_stones_8 : decode cX11_stones 8 = .ok (.iload_n 2, 1) := by decide +kernel
theorem dX11_stones_9 : decode cX11_stones 9 = .ok (.iconst 0, 1) := by decide +kernel
theorem dX11_stones_10 : decode cX11_stones 10 = .ok (.iconst 1, 1) := by decide +kernel
theorem dX11_stones_11 : decode cX11_stones 11 = .ok (.invokestatic 76, 3) := by decide +kernel
theorem dX11_stones_14 : decode cX11_stones 14 = .ok (.ifCond .ne 10, 3) := by decide +kernel
theorem dX11_stones_17 : decode cX11_stones 17 = .ok (.aload_n 0, 1) := by decide +kernel
theorem dX11_stones_18 : decode cX11_stones 18 = .ok (.bipush (-2), 2) := by decide +kernel
theorem dX11_stones_20 : decode cX11_stones 20 = .ok (.invokevirtual 80, 3) := by decide +kernel
theorem dX11_stones_23 : decode cX11_stones 23 = .ok (.ireturn, 1) := by decide +kernel
theorem dX11_stones_24 : decode cX11_stones 24 = .ok (.aload_n 0, 1) := by decide +kernel
theorem dX11_stones_25 : decode cX11_stones 25 = .ok (.getfield 55, 3) := by decide +kernel
theorem dX11_stones_28 : decode cX11_stones 28 = .ok (.iload_n 1, 1) := by decide +kernel
theorem dX11_stones_29 : decode cX11_stones 29 = .ok (.invokevirtual 197, 3) := by decide +kernel
theorem dX11_stones_32 : decode cX11_stones 32 = .ok (.istore_n 3, 1) := by decide +kernel
theorem dX11_stones_33 : decode cX11_stones 33 = .ok (.iload_n 2, 1) := by decide +kernel
theorem dX11_stones_34 : decode cX11_stones 34 = .ok (.ifCond .ne 7, 3) := by decide +kernel
theorem dX11_stones_37 : decode cX11_stones 37 = .ok (.iload_n 3, 1) := by decide +kernel
theorem dX11_stones_38 : decode cX11_stones 38 = .ok (.goto 10, 3) := by decide +kernel
theorem dX11_stones_41 : decode cX11_stones 41 = .ok (.aload_n 0, 1) := by decide +kernel
theorem dX11_stones_42 : decode cX11_stones 42 = .ok (.getfield 55, 3) := by decide +kernel
theorem dX11_stones_45 : decode cX11_stones 45 = .ok (.getfield 200, 3) := by decide +kernel
theorem dX11_stones_48 : decode cX11_stones 48 = .ok (.ireturn, 1) := by decide +kernel
theorem dX11_buried_0 : decode cX11_buried 0 = .ok (.aload_n 0, 1) := by decide +kernel
theorem dX11_buried_1 : decode cX11_buried 1 = .ok (.iload_n 1, 1) := by decide +kernel
theorem dX11_buried_2 : decode cX11_buried 2 = .ok (.invokevirtual 92, 3) := by decide +kernel
theorem dX11_buried_5 : decode cX11_buried 5 = .ok (.ifCond .eq 13, 3) := by decide +kernel
theorem dX11_buried_8 : decode cX11_buried 8 = .ok (.iload_n 2, 1) := by decide +kernel
theorem dX11_buried_9 : decode cX11_buried 9 = .ok (.iconst 1, 1) := by decide +kernel
theorem dX11_buried_10 : decode cX11_buried 10 = .ok (.bipush 20, 2) := by decide +kernel
theorem dX11_buried_12 : decode cX11_buried 12 = .ok (.invokestatic 76, 3) := by decide +kernel
theorem dX11_buried_15 : decode cX11_buried 15 = .ok (.ifCond .ne 10, 3) := by decide +kernel
theorem dX11_buried_18 : decode cX11_buried 18 = .ok (.aload_n 0, 1) := by decide +kernel
theorem dX11_buried_19 : decode cX11_buried 19 = .ok (.bipush (-2), 2) := by decide +kernel
theorem dX11_buried_21 : decode cX11_buried 21 = .ok (.invokevirtual 80, 3) := by decide +kernel
theorem dX11_buried_24 : decode cX11_buried 24 = .ok (.ireturn, 1) := by decide +kernel
theorem dX11_buried_25 : decode cX11_buried 25 = .ok (.aload_n 0, 1) := by decide +kernel
theorem dX11_buried_26 : decode cX11_buried 26 = .ok (.getfield 55, 3) := by decide +kernel
theorem dX11_buried_29 : decode cX11_buried 29 = .ok (.iload_n 1, 1) := by decide +kernel
theorem dX11_buried_30 : decode cX11_buried 30 = .ok (.iload_n 2, 1) := by decide +kernel
theorem dX11_buried_31 : decode cX11_buried 31 = .ok (.invokevirtual 203, 3) := by decide +kernel
theorem dX11_buried_34 : decode cX11_buried 34 = .ok (.ireturn, 1) := by decide +kernel
theorem dX11_nights_0 : decode cX11_nights 0 = .ok (.aload_n 0, 1) := by decide +kernel
theorem dX11_nights_1 : decode cX11_nights 1 = .ok (.iload_n 1, 1) := by decide +kernel
theorem dX11_nights_2 : decode cX11_nights 2 = .ok (.invokevirtual 92, 3) := by decide +kernel
theorem dX11_nights_5 : decode cX11_nights 5 = .ok (.ifCond .eq 13, 3) := by decide +kernel
theorem dX11_nights_8 : decode cX11_nights 8 = .ok (.iload_n 2, 1) := by decide +kernel
theorem dX11_nights_9 : decode cX11_nights 9 = .ok (.iconst 1, 1) := by decide +kernel
theorem dX11_nights_10 : decode cX11_nights 10 = .ok (.bipush 9, 2) := by decide +kernel
theorem dX11_nights_12 : decode cX11_nights 12 = .ok (.invokestatic 76, 3) := by decide +kernel
theorem dX11_nights_15 : decode cX11_nights 15 = .ok (.ifCond .ne 10, 3) := by decide +kernel
theorem dX11_nights_18 : decode cX11_nights 18 = .ok (.aload_n 0, 1) := by decide +kernel
theorem dX11_nights_19 : decode cX11_nights 19 = .ok (.bipush (-2), 2) := by decide +kernel
theorem dX11_nights_21 : decode cX11_nights 21 = .ok (.invokevirtual 80, 3) := by decide +kernel
theorem dX11_nights_24 : decode cX11_nights 24 = .ok (.ireturn, 1) := by decide +kernel
theorem dX11_nights_25 : decode cX11_nights 25 = .ok (.aload_n 0, 1) := by decide +kernel
theorem dX11_nights_26 : decode cX11_nights 26 = .ok (.getfield 55, 3) := by decide +kernel
theorem dX11_nights_29 : decode cX11_nights 29 = .ok (.iload_n 1, 1) := by decide +kernel
theorem dX11_nights_30 : decode cX11_nights 30 = .ok (.iload_n 2, 1) := by decide +kernel
theorem dX11_nights_31 : decode cX11_nights 31 = .ok (.invokevirtual 206, 3) := by decide +kernel
theorem dX11_nights_34 : decode cX11_nights 34 = .ok (.ireturn, 1) := by decide +kernel
theorem dX11_parties_0 : decode cX11_parties 0 = .ok (.aload_n 0, 1) := by decide +kernel
theorem dX11_parties_1 : decode cX11_parties 1 = .ok (.iload_n 1, 1) := by decide +kernel
theorem dX11_parties_2 : decode cX11_parties 2 = .ok (.invokevirtual 92, 3) := by decide +kernel
theorem dX11_parties_5 : decode cX11_parties 5 = .ok (.ifCond .eq 35, 3) := by decide +kernel
theorem dX11_parties_8 : decode cX11_parties 8 = .ok (.aload_n 0, 1) := by decide +kernel
theorem dX11_parties_9 : decode cX11_parties 9 = .ok (.iload_n 2, 1) := by decide +kernel
theorem dX11_parties_10 : decode cX11_parties 10 = .ok (.invokevirtual 92, 3) := by decide +kernel
theorem dX11_parties_13 : decode cX11_parties 13 = .ok (.ifCond .eq 27, 3) := by decide +kernel
theorem dX11_parties_16 : decode cX11_parties 16 = .ok (.iload_n 1, 1) := by decide +kernel
theorem dX11_parties_17 : decode cX11_parties 17 = .ok (.iload_n 2, 1) := by decide +kernel
theorem dX11_parties_18 : decode cX11_parties 18 = .ok (.if_icmp .eq 22, 3) := by decide +kernel
theorem dX11_parties_21 : decode cX11_parties 21 = .ok (.iload_n 3, 1) := by decide +kernel
theorem dX11_parties_22 : decode cX11_parties 22 = .ok (.iconst 1, 1) := by decide +kernel
theorem dX11_parties_23 : decode cX11_parties 23 = .ok (.iconst 4, 1) := by decide +kernel
theorem dX11_parties_24 : decode cX11_parties 24 = .ok (.invokestatic 76, 3) := by decide +kernel
theorem dX11_parties_27 : decode cX11_parties 27 = .ok (.ifCond .eq 13, 3) := by decide +kernel
theorem dX11_parties_30 : decode cX11_parties 30 = .ok (.iload 4, 2) := by decide +kernel
theorem dX11_parties_32 : decode cX11_parties 32 = .ok (.iconst 0, 1) := by decide +kernel
theorem dX11_parties_33 : decode cX11_parties 33 = .ok (.iconst 1, 1) := by decide +kernel
theorem dX11_parties_34 : decode cX11_parties 34 = .ok (.invokestatic 76, 3) := by decide +kernel
theorem dX11_parties_37 : decode cX11_parties 37 = .ok (.ifCond .ne 10, 3) := by decide +kernel
theorem dX11_parties_40 : decode cX11_parties 40 = .ok (.aload_n 0, 1) := by decide +kernel
theorem dX11_parties_41 : decode cX11_parties 41 = .ok (.bipush (-10), 2) := by decide +kernel
theorem dX11_parties_43 : decode cX11_parties 43 = .ok (.invokevirtual 80, 3) := by decide +kernel
theorem dX11_parties_46 : decode cX11_parties 46 = .ok (.ireturn, 1) := by decide +kernel
theorem dX11_parties_47 : decode cX11_parties 47 = .ok (.aload_n 0, 1) := by decide +kernel
theorem dX11_parties_48 : decode cX11_parties 48 = .ok (.getfield 55, 3) := by decide +kernel
theorem dX11_parties_51 : decode cX11_parties 51 = .ok (.iload_n 1, 1) := by decide +kernel
theorem dX11_parties_52 : decode cX11_parties 52 = .ok (.iload_n 2, 1) := by decide +kernel
theorem dX11_parties_53 : decode cX11_parties 53 = .ok (.iload_n 3, 1) := by decide +kernel
theorem dX11_parties_54 : decode cX11_parties 54 = .ok (.invokevirtual 209, 3) := by decide +kernel
theorem dX11_parties_57 : decode cX11_parties 57 = .ok (.istore 5, 2) := by decide +kernel
theorem dX11_parties_59 : decode cX11_parties 59 = .ok (.iload 4, 2) := by decide +kernel
theorem dX11_parties_61 : decode cX11_parties 61 = .ok (.ifCond .ne 8, 3) := by decide +kernel
theorem dX11_parties_64 : decode cX11_parties 64 = .ok (.iload 5, 2) := by decide +kernel
theorem dX11_parties_66 : decode cX11_parties 66 = .ok (.goto 10, 3) := by decide +kernel
theorem dX11_parties_69 : decode cX11_parties 69 = .ok (.aload_n 0, 1) := by decide +kernel
theorem dX11_parties_70 : decode cX11_parties 70 = .ok (.getfield 55, 3) := by decide +kernel
theorem dX11_parties_73 : decode cX11_parties 73 = .ok (.getfield 200, 3) := by decide +kernel
theorem dX11_parties_76 : decode cX11_parties 76 = .ok (.ireturn, 1) := by decide +kernel
theorem dX11_seen_0 : decode cX11_seen 0 = .ok (.iload_n 1, 1) := by decide +kernel
theorem dX11_seen_1 : decode cX11_seen 1 = .ok (.iconst 0, 1) := by decide +kernel
theorem dX11_seen_2 : decode cX11_seen 2 = .ok (.bipush 99, 2) := by decide +kernel
theorem dX11_seen_4 : decode cX11_seen 4 = .ok (.invokestatic 76, 3) := by decide +kernel
theorem dX11_seen_7 : decode cX11_seen 7 = .ok (.ifCond .eq 12, 3) := by decide +kernel
theorem dX11_seen_10 : decode cX11_seen 10 = .ok (.iload_n 2, 1) := by decide +kernel
theorem dX11_seen_11 : decode cX11_seen 11 = .ok (.iconst 0, 1) := by decide +kernel
theorem dX11_seen_12 : decode cX11_seen 12 = .ok (.iconst 1, 1) := by decide +kernel
theorem dX11_seen_13 : decode cX11_seen 13 = .ok (.invokestatic 76, 3) := by decide +kernel
theorem dX11_seen_16 : decode cX11_seen 16 = .ok (.ifCond .ne 10, 3) := by decide +kernel
theorem dX11_seen_19 : decode cX11_seen 19 = .ok (.aload_n 0, 1) := by decide +kernel
theorem dX11_seen_20 : decode cX11_seen 20 = .ok (.bipush (-2), 2) := by decide +kernel
theorem dX11_seen_22 : decode cX11_seen 22 = .ok (.invokevirtual 80, 3) := by decide +kernel
theorem dX11_seen_25 : decode cX11_seen 25 = .ok (.ireturn, 1) := by decide +kernel
theorem dX11_seen_26 : decode cX11_seen 26 = .ok (.aload_n 0, 1) := by decide +kernel
theorem dX11_seen_27 : decode cX11_seen 27 = .ok (.getfield 32, 3) := by decide +kernel
theorem dX11_seen_30 : decode cX11_seen 30 = .ok (.getfield 212, 3) := by decide +kernel
theorem dX11_seen_33 : decode cX11_seen 33 = .ok (.bipush 6, 2) := by decide +kernel
theorem dX11_seen_35 : decode cX11_seen 35 = .ok (.if_icmp .lt 8, 3) := by decide +kernel
theorem dX11_seen_38 : decode cX11_seen 38 = .ok (.aload_n 0, 1) := by decide +kernel
theorem dX11_seen_39 : decode cX11_seen 39 = .ok (.invokevirtual 84, 3) := by decide +kernel
theorem dX11_seen_42 : decode cX11_seen 42 = .ok (.ireturn, 1) := by decide +kernel
theorem dX11_seen_43 : decode cX11_seen 43 = .ok (.aload_n 0, 1) := by decide +kernel
theorem dX11_seen_44 : decode cX11_seen 44 = .ok (.getfield 32, 3) := by decide +kernel
theorem dX11_seen_47 : decode cX11_seen 47 = .ok (.iload_n 1, 1) := by decide +kernel
theorem dX11_seen_48 : decode cX11_seen 48 = .ok (.iload_n 2, 1) := by decide +kernel
theorem dX11_seen_49 : decode cX11_seen 49 = .ok (.invokevirtual 215, 3) := by decide +kernel
theorem dX11_seen_52 : decode cX11_seen 52 = .ok (.ireturn, 1) := by decide +kernel
theorem dX11_forget_0 : decode cX11_forget 0 = .ok (.aload_n 0, 1) := by decide +kernel
theorem dX11_forget_1 : decode cX11_forget 1 = .ok (.getfield 32, 3) := by decide +kernel
theorem dX11_forget_4 : decode cX11_forget 4 = .ok (.getfield 212, 3) := by decide +kernel
theorem dX11_forget_7 : decode cX11_forget 7 = .ok (.istore_n 1, 1) := by decide +kernel
theorem dX11_forget_8 : decode cX11_forget 8 = .ok (.aload_n 0, 1) := by decide +kernel
theorem dX11_forget_9 : decode cX11_forget 9 = .ok (.getfield 32, 3) := by decide +kernel
theorem dX11_forget_12 : decode cX11_forget 12 = .ok (.iconst 0, 1) := by decide +kernel
theorem dX11_forget_13 : decode cX11_forget 13 = .ok (.putfield 212, 3) := by decide +kernel
theorem dX11_forget_16 : decode cX11_forget 16 = .ok (.iload_n 1, 1) := by decide +kernel
theorem dX11_forget_17 : decode cX11_forget 17 = .ok (.ireturn, 1) := by decide +kernel
theorem dX11_hold_0 : decode cX11_hold 0 = .ok (.iload_n 1, 1) := by decide +kernel
theorem dX11_hold_1 : decode cX11_hold 1 = .ok (.iconst 0, 1) := by decide +kernel
theorem dX11_hold_2 : decode cX11_hold 2 = .ok (.iconst 1, 1) := by decide +kernel
theorem dX11_hold_3 : decode cX11_hold 3 = .ok (.invokestatic 76, 3) := by decide +kernel
theorem dX11_hold_6 : decode cX11_hold 6 = .ok (.ifCond .ne 10, 3) := by decide +kernel
theorem dX11_hold_9 : decode cX11_hold 9 = .ok (.aload_n 0, 1) := by decide +kernel
theorem dX11_hold_10 : decode cX11_hold 10 = .ok (.bipush (-10), 2) := by decide +kernel
theorem dX11_hold_12 : decode cX11_hold 12 = .ok (.invokevirtual 80, 3) := by decide +kernel
theorem dX11_hold_15 : decode cX11_hold 15 = .ok (.ireturn, 1) := by decide +kernel
theorem dX11_hold_16 : decode cX11_hold 16 = .ok (.aload_n 0, 1) := by decide +kernel
theorem dX11_hold_17 : decode cX11_hold 17 = .ok (.getfield 32, 3) := by decide +kernel
theorem dX11_hold_20 : decode cX11_hold 20 = .ok (.invokevirtual 218, 3) := by decide +kernel
theorem dX11_hold_23 : decode cX11_hold 23 = .ok (.istore_n 2, 1) := by decide +kernel
theorem dX11_hold_24 : decode cX11_hold 24 = .ok (.iload_n 2, 1) := by decide +kernel
theorem dX11_hold_25 : decode cX11_hold 25 = .ok (.aload_n 0, 1) := by decide +kernel
theorem dX11_hold_26 : decode cX11_hold 26 = .ok (.getfield 32, 3) := by decide +kernel
theorem dX11_hold_29 : decode cX11_hold 29 = .ok (.invokevirtual 221, 3) := by decide +kernel
theorem dX11_hold_32 : decode cX11_hold 32 = .ok (.invokestatic 224, 3) := by decide +kernel
theorem dX11_hold_35 : decode cX11_hold 35 = .ok (.istore_n 3, 1) := by decide +kernel
theorem dX11_hold_36 : decode cX11_hold 36 = .ok (.iload_n 1, 1) := by decide +kernel
theorem dX11_hold_37 : decode cX11_hold 37 = .ok (.ifCond .ne 5, 3) := by decide +kernel
theorem dX11_hold_40 : decode cX11_hold 40 = .ok (.iload_n 3, 1) := by decide +kernel
theorem dX11_hold_41 : decode cX11_hold 41 = .ok (.ireturn, 1) := by decide +kernel
theorem dX11_hold_42 : decode cX11_hold 42 = .ok (.iload_n 3, 1) := by decide +kernel
theorem dX11_hold_43 : decode cX11_hold 43 = .ok (.ifCond .le 7, 3) := by decide +kernel
theorem dX11_hold_46 : decode cX11_hold 46 = .ok (.iload_n 2, 1) := by decide +kernel
theorem dX11_hold_47 : decode cX11_hold 47 = .ok (.goto 4, 3) := by decide +kernel
theorem dX11_hold_50 : decode cX11_hold 50 = .ok (.iconst (-1), 1) := by decide +kernel
theorem dX11_hold_51 : decode cX11_hold 51 = .ok (.ireturn, 1) := by decide +kernel
theorem dX11_stick_0 : decode cX11_stick 0 = .ok (.aload_n 0, 1) := by decide +kernel
theorem dX11_stick_1 : decode cX11_stick 1 = .ok (.getfield 32, 3) := by decide +kernel
theorem dX11_stick_4 : decode cX11_stick 4 = .ok (.invokevirtual 218, 3) := by decide +kernel
theorem dX11_stick_7 : decode cX11_stick 7 = .ok (.istore_n 1, 1) := by decide +kernel
theorem dX11_stick_8 : decode cX11_stick 8 = .ok (.aload_n 0, 1) := by decide +kernel
theorem dX11_stick_9 : decode cX11_stick 9 = .ok (.getfield 32, 3) := by decide +kernel
theorem dX11_stick_12 : decode cX11_stick 12 = .ok (.invokevirtual 221, 3) := by decide +kernel
theorem dX11_stick_15 : decode cX11_stick 15 = .ok (.istore_n 2, 1) := by decide +kernel
theorem dX11_stick_16 : decode cX11_stick 16 = .ok (.iload_n 1, 1) := by decide +kernel
theorem dX11_stick_17 : decode cX11_stick 17 = .ok (.iload_n 2, 1) := by decide +kernel
theorem dX11_stick_18 : decode cX11_stick 18 = .ok (.invokestatic 224, 3) := by decide +kernel
theorem dX11_stick_21 : decode cX11_stick 21 = .ok (.istore_n 3, 1) := by decide +kernel
theorem dX11_stick_22 : decode cX11_stick 22 = .ok (.iload_n 3, 1) := by decide +kernel
theorem dX11_stick_23 : decode cX11_stick 23 = .ok (.ifCond .ne 5, 3) := by decide +kernel
theorem dX11_stick_26 : decode cX11_stick 26 = .ok (.iconst (-1), 1) := by decide +kernel
theorem dX11_stick_27 : decode cX11_stick 27 = .ok (.ireturn, 1) := by decide +kernel
theorem dX11_stick_28 : decode cX11_stick 28 = .ok (.iconst 0, 1) := by decide +kernel
theorem dX11_stick_29 : decode cX11_stick 29 = .ok (.istore 4, 2) := by decide +kernel
theorem dX11_stick_31 : decode cX11_stick 31 = .ok (.iload_n 3, 1) := by decide +kernel
theorem dX11_stick_32 : decode cX11_stick 32 = .ok (.istore 5, 2) := by decide +kernel
theorem dX11_stick_34 : decode cX11_stick 34 = .ok (.iconst 0, 1) := by decide +kernel
theorem dX11_stick_35 : decode cX11_stick 35 = .ok (.istore 6, 2) := by decide +kernel
theorem dX11_stick_37 : decode cX11_stick 37 = .ok (.iload 6, 2) := by decide +kernel
theorem dX11_stick_39 : decode cX11_stick 39 = .ok (.bipush 60, 2) := by decide +kernel
theorem dX11_stick_41 : decode cX11_stick 41 = .ok (.if_icmp .gt 47, 3) := by decide +kernel
theorem dX11_stick_44 : decode cX11_stick 44 = .ok (.iload_n 1, 1) := by decide +kernel
theorem dX11_stick_45 : decode cX11_stick 45 = .ok (.iload 6, 2) := by decide +kernel
theorem dX11_stick_47 : decode cX11_stick 47 = .ok (.invokestatic 227, 3) := by decide +kernel
theorem dX11_stick_50 : decode cX11_stick 50 = .ok (.iload_n 2, 1) := by decide +kernel
theorem dX11_stick_51 : decode cX11_stick 51 = .ok (.invokestatic 224, 3) := by decide +kernel
theorem dX11_stick_54 : decode cX11_stick 54 = .ok (.istore 7, 2) := by decide +kernel
theorem dX11_stick_56 : decode cX11_stick 56 = .ok (.iload 7, 2) := by decide +kernel
theorem dX11_stick_58 : decode cX11_stick 58 = .ok (.iload_n 3, 1) := by decide +kernel
theorem dX11_stick_59 : decode cX11_stick 59 = .ok (.iload 7, 2) := by decide +kernel
theorem dX11_stick_61 : decode cX11_stick 61 = .ok (.isub, 1) := by decide +kernel
theorem dX11_stick_62 : decode cX11_stick 62 = .ok (.invokestatic 227, 3) := by decide +kernel
theorem dX11_stick_65 : decode cX11_stick 65 = .ok (.istore 8, 2) := by decide +kernel
theorem dX11_stick_67 : decode cX11_stick 67 = .ok (.iload 8, 2) := by decide +kernel
theorem dX11_stick_69 : decode cX11_stick 69 = .ok (.iload 5, 2) := by decide +kernel
theorem dX11_stick_71 : decode cX11_stick 71 = .ok (.if_icmp .ge 11, 3) := by decide +kernel
theorem dX11_stick_74 : decode cX11_stick 74 = .ok (.iload 8, 2) := by decide +kernel
theorem dX11_stick_76 : decode cX11_stick 76 = .ok (.istore 5, 2) := by decide +kernel
theorem dX11_stick_78 : decode cX11_stick 78 = .ok (.iload 6, 2) := by decide +kernel
theorem dX11_stick_80 : decode cX11_stick 80 = .ok (.istore 4, 2) := by decide +kernel
theorem dX11_stick_82 : decode cX11_stick 82 = .ok (.iinc 6 1, 3) := by decide +kernel
theorem dX11_stick_85 : decode cX11_stick 85 = .ok (.goto (-48), 3) := by decide +kernel
theorem dX11_stick_88 : decode cX11_stick 88 = .ok (.iload 4, 2) := by decide +kernel
theorem dX11_stick_90 : decode cX11_stick 90 = .ok (.ireturn, 1) := by decide +kernel
theorem dX11_is_0 : decode cX11_is 0 = .ok (.aload_n 0, 1) := by decide +kernel
theorem dX11_is_1 : decode cX11_is 1 = .ok (.iload_n 1, 1) := by decide +kernel
theorem dX11_is_2 : decode cX11_is 2 = .ok (.invokevirtual 119, 3) := by decide +kernel
theorem dX11_is_5 : decode cX11_is 5 = .ok (.ifCond .eq 21, 3) := by decide +kernel
theorem dX11_is_8 : decode cX11_is 8 = .ok (.aload_n 0, 1) := by decide +kernel
theorem dX11_is_9 : decode cX11_is 9 = .ok (.iload_n 2, 1) := by decide +kernel
theorem dX11_is_10 : decode cX11_is 10 = .ok (.invokevirtual 92, 3) := by decide +kernel
theorem dX11_is_13 : decode cX11_is 13 = .ok (.ifCond .eq 13, 3) := by decide +kernel
theorem dX11_is_16 : decode cX11_is 16 = .ok (.iload_n 3, 1) := by decide +kernel
theorem dX11_is_17 : decode cX11_is 17 = .ok (.iconst 1, 1) := by decide +kernel
theorem dX11_is_18 : decode cX11_is 18 = .ok (.bipush 20, 2) := by decide +kernel
theorem dX11_is_20 : decode cX11_is 20 = .ok (.invokestatic 76, 3) := by decide +kernel
theorem dX11_is_23 : decode cX11_is 23 = .ok (.ifCond .ne 10, 3) := by decide +kernel
theorem dX11_is_26 : decode cX11_is 26 = .ok (.aload_n 0, 1) := by decide +kernel
theorem dX11_is_27 : decode cX11_is 27 = .ok (.bipush (-2), 2) := by decide +kernel
theorem dX11_is_29 : decode cX11_is 29 = .ok (.invokevirtual 80, 3) := by decide +kernel
theorem dX11_is_32 : decode cX11_is 32 = .ok (.ireturn, 1) := by decide +kernel
theorem dX11_is_33 : decode cX11_is 33 = .ok (.iconst 0, 1) := by decide +kernel
theorem dX11_is_34 : decode cX11_is 34 = .ok (.istore 4, 2) := by decide +kernel
theorem dX11_is_36 : decode cX11_is 36 = .ok (.iconst 0, 1) := by decide +kernel
theorem dX11_is_37 : decode cX11_is 37 = .ok (.istore 5, 2) := by decide +kernel
theorem dX11_is_39 : decode cX11_is 39 = .ok (.iload 5, 2) := by decide +kernel
theorem dX11_is_41 : decode cX11_is 41 = .ok (.iconst 5, 1) := by decide +kernel
theorem dX11_is_42 : decode cX11_is 42 = .ok (.if_icmp .gt 40, 3) := by decide +kernel
theorem dX11_is_45 : decode cX11_is 45 = .ok (.aload_n 0, 1) := by decide +kernel
theorem dX11_is_46 : decode cX11_is 46 = .ok (.iload 5, 2) := by decide +kernel
theorem dX11_is_48 : decode cX11_is 48 = .ok (.iload_n 1, 1) := by decide +kernel
theorem dX11_is_49 : decode cX11_is 49 = .ok (.invokevirtual 174, 3) := by decide +kernel
theorem dX11_is_52 : decode cX11_is 52 = .ok (.iload_n 2, 1) := by decide +kernel
theorem dX11_is_53 : decode cX11_is 53 = .ok (.if_icmp .ne 23, 3) := by decide +kernel
theorem dX11_is_56 : decode cX11_is 56 = .ok (.aload_n 0, 1) := by decide +kernel
theorem dX11_is_57 : decode cX11_is 57 = .ok (.iload 5, 2) := by decide +kernel
theorem dX11_is_59 : decode cX11_is 59 = .ok (.iload_n 1, 1) := by decide +kernel
theorem dX11_is_60 : decode cX11_is 60 = .ok (.invokevirtual 178, 3) := by decide +kernel
theorem dX11_is_63 : decode cX11_is 63 = .ok (.iload_n 3, 1) := by decide +kernel
theorem dX11_is_64 : decode cX11_is 64 = .ok (.if_icmp .ne 12, 3) := by decide +kernel
theorem dX11_is_67 : decode cX11_is 67 = .ok (.iload 4, 2) := by decide +kernel
theorem dX11_is_69 : decode cX11_is 69 = .ok (.iconst 1, 1) := by decide +kernel
theorem dX11_is_70 : decode cX11_is 70 = .ok (.iload 5, 2) := by decide +kernel
theorem dX11_is_72 : decode cX11_is 72 = .ok (.ishl, 1) := by decide +kernel
theorem dX11_is_73 : decode cX11_is 73 = .ok (.ior, 1) := by decide +kernel
theorem dX11_is_74 : decode cX11_is 74 = .ok (.istore 4, 2) := by decide +kernel
theorem dX11_is_76 : decode cX11_is 76 = .ok (.iinc 5 1, 3) := by decide +kernel
theorem dX11_is_79 : decode cX11_is 79 = .ok (.goto (-40), 3) := by decide +kernel
theorem dX11_is_82 : decode cX11_is 82 = .ok (.iload 4, 2) := by decide +kernel
theorem dX11_is_84 : decode cX11_is 84 = .ok (.ireturn, 1) := by decide +kernel
theorem dX11_sneeze_0 : decode cX11_sneeze 0 = .ok (.aload_n 0, 1) := by decide +kernel
theorem dX11_sneeze_1 : decode cX11_sneeze 1 = .ok (.iload_n 1, 1) := by decide +kernel
theorem dX11_sneeze_2 : decode cX11_sneeze 2 = .ok (.invokevirtual 92, 3) := by decide +kernel
theorem dX11_sneeze_5 : decode cX11_sneeze 5 = .ok (.ifCond .eq 13, 3) := by decide +kernel
theorem dX11_sneeze_8 : decode cX11_sneeze 8 = .ok (.iload_n 2, 1) := by decide +kernel
theorem dX11_sneeze_9 : decode cX11_sneeze 9 = .ok (.iconst 0, 1) := by decide +kernel
theorem dX11_sneeze_10 : decode cX11_sneeze 10 = .ok (.bipush 10, 2) := by decide +kernel
theorem dX11_sneeze_12 : decode cX11_sneeze 12 = .ok (.invokestatic 76, 3) := by decide +kernel
theorem dX11_sneeze_15 : decode cX11_sneeze 15 = .ok (.ifCond .ne 10, 3) := by decide +kernel
theorem dX11_sneeze_18 : decode cX11_sneeze 18 = .ok (.aload_n 0, 1) := by decide +kernel
theorem dX11_sneeze_19 : decode cX11_sneeze 19 = .ok (.bipush (-2), 2) := by decide +kernel
theorem dX11_sneeze_21 : decode cX11_sneeze 21 = .ok (.invokevirtual 80, 3) := by decide +kernel
theorem dX11_sneeze_24 : decode cX11_sneeze 24 = .ok (.ireturn, 1) := by decide +kernel
theorem dX11_sneeze_25 : decode cX11_sneeze 25 = .ok (.aload_n 0, 1) := by decide +kernel
theorem dX11_sneeze_26 : decode cX11_sneeze 26 = .ok (.getfield 55, 3) := by decide +kernel
theorem dX11_sneeze_29 : decode cX11_sneeze 29 = .ok (.iload_n 1, 1) := by decide +kernel
theorem dX11_sneeze_30 : decode cX11_sneeze 30 = .ok (.iload_n 2, 1) := by decide +kernel
theorem dX11_sneeze_31 : decode cX11_sneeze 31 = .ok (.invokevirtual 232, 3) := by decide +kernel
theorem dX11_sneeze_34 : decode cX11_sneeze 34 = .ok (.lstore_n 3, 1) := by decide +kernel
theorem dX11_sneeze_35 : decode cX11_sneeze 35 = .ok (.aload_n 0, 1) := by decide +kernel
theorem dX11_sneeze_36 : decode cX11_sneeze 36 = .ok (.getfield 32, 3) := by decide +kernel
theorem dX11_sneeze_39 : decode cX11_sneeze 39 = .ok (.getfield 63, 3) := by decide +kernel
theorem dX11_sneeze_42 : decode cX11_sneeze 42 = .ok (.getfield 96, 3) := by decide +kernel
theorem dX11_sneeze_45 : decode cX11_sneeze 45 = .ok (.invokestatic 236, 3) := by decide +kernel
theorem dX11_sneeze_48 : decode cX11_sneeze 48 = .ok (.lstore 5, 2) := by decide +kernel
theorem dX11_sneeze_50 : decode cX11_sneeze 50 = .ok (.lload_n 3, 1) := by decide +kernel
theorem dX11_sneeze_51 : decode cX11_sneeze 51 = .ok (.lload 5, 2) := by decide +kernel
theorem dX11_sneeze_53 : decode cX11_sneeze 53 = .ok (.invokestatic 240, 3) := by decide +kernel
theorem dX11_sneeze_56 : decode cX11_sneeze 56 = .ok (.lstore 7, 2) := by decide +kernel
theorem dX11_sneeze_58 : decode cX11_sneeze 58 = .ok (.lload 7, 2) := by decide +kernel
theorem dX11_sneeze_60 : decode cX11_sneeze 60 = .ok (.lconst 0, 1) := by decide +kernel
theorem dX11_sneeze_61 : decode cX11_sneeze 61 = .ok (.lcmp, 1) := by decide +kernel
theorem dX11_sneeze_62 : decode cX11_sneeze 62 = .ok (.ifCond .le 20, 3) := by decide +kernel
theorem dX11_sneeze_65 : decode cX11_sneeze 65 = .ok (.aload_n 0, 1) := by decide +kernel
theorem dX11_sneeze_66 : decode cX11_sneeze 66 = .ok (.lload_n 3, 1) := by decide +kernel
theorem dX11_sneeze_67 : decode cX11_sneeze 67 = .ok (.lload 7, 2) := by decide +kernel
theorem dX11_sneeze_69 : decode cX11_sneeze 69 = .ok (.ldiv, 1) := by decide +kernel
theorem dX11_sneeze_70 : decode cX11_sneeze 70 = .ok (.putfield 244, 3) := by decide +kernel
theorem dX11_sneeze_73 : decode cX11_sneeze 73 = .ok (.aload_n 0, 1) := by decide +kernel
theorem dX11_sneeze_74 : decode cX11_sneeze 74 = .ok (.lload 5, 2) := by decide +kernel
theorem dX11_sneeze_76 : decode cX11_sneeze 76 = .ok (.lload 7, 2) := by decide +kernel
theorem dX11_sneeze_78 : decode cX11_sneeze 78 = .ok (.ldiv, 1) := by decide +kernel
theorem dX11_sneeze_79 : decode cX11_sneeze 79 = .ok (.putfield 59, 3) := by decide +kernel
theorem dX11_sneeze_82 : decode cX11_sneeze 82 = .ok (.iconst 1, 1) := by decide +kernel
theorem dX11_sneeze_83 : decode cX11_sneeze 83 = .ok (.ireturn, 1) := by decide +kernel
theorem dX11_februaries_0 : decode cX11_februaries 0 = .ok (.iload_n 1, 1) := by decide +kernel
theorem dX11_februaries_1 : decode cX11_februaries 1 = .ok (.iconst 0, 1) := by decide +kernel
theorem dX11_februaries_2 : decode cX11_februaries 2 = .ok (.ldc 247, 2) := by decide +kernel
theorem dX11_februaries_4 : decode cX11_februaries 4 = .ok (.invokestatic 76, 3) := by decide +kernel
theorem dX11_februaries_7 : decode cX11_februaries 7 = .ok (.ifCond .eq 13, 3) := by decide +kernel
theorem dX11_februaries_10 : decode cX11_februaries 10 = .ok (.iload_n 2, 1) := by decide +kernel
theorem dX11_februaries_11 : decode cX11_februaries 11 = .ok (.iconst 0, 1) := by decide +kernel
theorem dX11_februaries_12 : decode cX11_februaries 12 = .ok (.bipush 60, 2) := by decide +kernel
theorem dX11_februaries_14 : decode cX11_februaries 14 = .ok (.invokestatic 76, 3) := by decide +kernel
theorem dX11_februaries_17 : decode cX11_februaries 17 = .ok (.ifCond .ne 10, 3) := by decide +kernel
theorem dX11_februaries_20 : decode cX11_februaries 20 = .ok (.aload_n 0, 1) := by decide +kernel
theorem dX11_februaries_21 : decode cX11_februaries 21 = .ok (.bipush (-2), 2) := by decide +kernel
theorem dX11_februaries_23 : decode cX11_februaries 23 = .ok (.invokevirtual 80, 3) := by decide +kernel
theorem dX11_februaries_26 : decode cX11_februaries 26 = .ok (.ireturn, 1) := by decide +kernel
theorem dX11_februaries_27 : decode cX11_februaries 27 = .ok (.aload_n 0, 1) := by decide +kernel
theorem dX11_februaries_28 : decode cX11_februaries 28 = .ok (.getfield 32, 3) := by decide +kernel
theorem dX11_februaries_31 : decode cX11_februaries 31 = .ok (.getfield 63, 3) := by decide +kernel
theorem dX11_februaries_34 : decode cX11_februaries 34 = .ok (.getfield 96, 3) := by decide +kernel
theorem dX11_februaries_37 : decode cX11_februaries 37 = .ok (.ifCond .le 16, 3) := by decide +kernel
theorem dX11_februaries_40 : decode cX11_februaries 40 = .ok (.aload_n 0, 1) := by decide +kernel
theorem dX11_februaries_41 : decode cX11_februaries 41 = .ok (.getfield 32, 3) := by decide +kernel
theorem dX11_februaries_44 : decode cX11_februaries 44 = .ok (.getfield 63, 3) := by decide +kernel
theorem dX11_februaries_47 : decode cX11_februaries 47 = .ok (.getfield 67, 3) := by decide +kernel
theorem dX11_februaries_50 : decode cX11_februaries 50 = .ok (.ifCond .gt 8, 3) := by decide +kernel
theorem dX11_februaries_53 : decode cX11_februaries 53 = .ok (.aload_n 0, 1) := by decide +kernel
theorem dX11_februaries_54 : decode cX11_februaries 54 = .ok (.invokevirtual 143, 3) := by decide +kernel
theorem dX11_februaries_57 : decode cX11_februaries 57 = .ok (.ireturn, 1) := by decide +kernel
theorem dX11_februaries_58 : decode cX11_februaries 58 = .ok (.aload_n 0, 1) := by decide +kernel
theorem dX11_februaries_59 : decode cX11_februaries 59 = .ok (.getfield 55, 3) := by decide +kernel
theorem dX11_februaries_62 : decode cX11_februaries 62 = .ok (.iload_n 1, 1) := by decide +kernel
theorem dX11_februaries_63 : decode cX11_februaries 63 = .ok (.iload_n 2, 1) := by decide +kernel
theorem dX11_februaries_64 : decode cX11_februaries 64 = .ok (.invokevirtual 248, 3) := by decide +kernel
theorem dX11_februaries_67 : decode cX11_februaries 67 = .ok (.ireturn, 1) := by decide +kernel
theorem dX11_part_0 : decode cX11_part 0 = .ok (.iload_n 1, 1) := by decide +kernel
theorem dX11_part_1 : decode cX11_part 1 = .ok (.iconst 0, 1) := by decide +kernel
theorem dX11_part_2 : decode cX11_part 2 = .ok (.iconst 1, 1) := by decide +kernel
theorem dX11_part_3 : decode cX11_part 3 = .ok (.invokestatic 76, 3) := by decide +kernel
theorem dX11_part_6 : decode cX11_part 6 = .ok (.ifCond .ne 11, 3) := by decide +kernel
theorem dX11_part_9 : decode cX11_part 9 = .ok (.aload_n 0, 1) := by decide +kernel
theorem dX11_part_10 : decode cX11_part 10 = .ok (.bipush (-2), 2) := by decide +kernel
theorem dX11_part_12 : decode cX11_part 12 = .ok (.invokevirtual 80, 3) := by decide +kernel
theorem dX11_part_15 : decode cX11_part 15 = .ok (.i2l, 1) := by decide +kernel
theorem dX11_part_16 : decode cX11_part 16 = .ok (.lreturn, 1) := by decide +kernel
theorem dX11_part_17 : decode cX11_part 17 = .ok (.iload_n 1, 1) := by decide +kernel
theorem dX11_part_18 : decode cX11_part 18 = .ok (.ifCond .ne 10, 3) := by decide +kernel
theorem dX11_part_21 : decode cX11_part 21 = .ok (.aload_n 0, 1) := by decide +kernel
theorem dX11_part_22 : decode cX11_part 22 = .ok (.getfield 244, 3) := by decide +kernel
theorem dX11_part_25 : decode cX11_part 25 = .ok (.goto 7, 3) := by decide +kernel
theorem dX11_part_28 : decode cX11_part 28 = .ok (.aload_n 0, 1) := by decide +kernel
theorem dX11_part_29 : decode cX11_part 29 = .ok (.getfield 59, 3) := by decide +kernel
theorem dX11_part_32 : decode cX11_part 32 = .ok (.lreturn, 1) := by decide +kernel
theorem dX11_image_0 : decode cX11_image 0 = .ok (.iload_n 1, 1) := by decide +kernel
theorem dX11_image_1 : decode cX11_image 1 = .ok (.iconst 0, 1) := by decide +kernel
theorem dX11_image_2 : decode cX11_image 2 = .ok (.iconst 1, 1) := by decide +kernel
theorem dX11_image_3 : decode cX11_image 3 = .ok (.invokestatic 76, 3) := by decide +kernel
theorem dX11_image_6 : decode cX11_image 6 = .ok (.ifCond .ne 10, 3) := by decide +kernel
theorem dX11_image_9 : decode cX11_image 9 = .ok (.aload_n 0, 1) := by decide +kernel
theorem dX11_image_10 : decode cX11_image 10 = .ok (.bipush (-2), 2) := by decide +kernel
theorem dX11_image_12 : decode cX11_image 12 = .ok (.invokevirtual 80, 3) := by decide +kernel
theorem dX11_image_15 : decode cX11_image 15 = .ok (.ireturn, 1) := by decide +kernel
theorem dX11_image_16 : decode cX11_image 16 = .ok (.aload_n 0, 1) := by decide +kernel
theorem dX11_image_17 : decode cX11_image 17 = .ok (.getfield 39, 3) := by decide +kernel
theorem dX11_image_20 : decode cX11_image 20 = .ok (.iload_n 1, 1) := by decide +kernel
theorem dX11_image_21 : decode cX11_image 21 = .ok (.aaload, 1) := by decide +kernel
theorem dX11_image_22 : decode cX11_image 22 = .ok (.aload_n 0, 1) := by decide +kernel
theorem dX11_image_23 : decode cX11_image 23 = .ok (.getfield 32, 3) := by decide +kernel
theorem dX11_image_26 : decode cX11_image 26 = .ok (.invokevirtual 116, 3) := by decide +kernel
theorem dX11_image_29 : decode cX11_image 29 = .ok (.aload_n 0, 1) := by decide +kernel
theorem dX11_image_30 : decode cX11_image 30 = .ok (.dup, 1) := by decide +kernel
theorem dX11_image_31 : decode cX11_image 31 = .ok (.getfield 251, 3) := by decide +kernel
theorem dX11_image_34 : decode cX11_image 34 = .ok (.iconst 1, 1) := by decide +kernel
theorem dX11_image_35 : decode cX11_image 35 = .ok (.iload_n 1, 1) := by decide +kernel
theorem dX11_image_36 : decode cX11_image 36 = .ok (.ishl, 1) := by decide +kernel
theorem dX11_image_37 : decode cX11_image 37 = .ok (.ior, 1) := by decide +kernel
theorem dX11_image_38 : decode cX11_image 38 = .ok (.putfield 251, 3) := by decide +kernel
theorem dX11_image_41 : decode cX11_image 41 = .ok (.iconst 1, 1) := by decide +kernel
theorem dX11_image_42 : decode cX11_image 42 = .ok (.ireturn, 1) := by decide +kernel
theorem dX11_from_0 : decode cX11_from 0 = .ok (.iload_n 1, 1) := by decide +kernel
theorem dX11_from_1 : decode cX11_from 1 = .ok (.iconst 0, 1) := by decide +kernel
theorem dX11_from_2 : decode cX11_from 2 = .ok (.iconst 1, 1) := by decide +kernel
theorem dX11_from_3 : decode cX11_from 3 = .ok (.invokestatic 76, 3) := by decide +kernel
theorem dX11_from_6 : decode cX11_from 6 = .ok (.ifCond .ne 10, 3) := by decide +kernel
theorem dX11_from_9 : decode cX11_from 9 = .ok (.aload_n 0, 1) := by decide +kernel
theorem dX11_from_10 : decode cX11_from 10 = .ok (.bipush (-2), 2) := by decide +kernel
theorem dX11_from_12 : decode cX11_from 12 = .ok (.invokevirtual 80, 3) := by decide +kernel
theorem dX11_from_15 : decode cX11_from 15 = .ok (.ireturn, 1) := by decide +kernel
theorem dX11_from_16 : decode cX11_from 16 = .ok (.aload_n 0, 1) := by decide +kernel
theorem dX11_from_17 : decode cX11_from 17 = .ok (.getfield 251, 3) := by decide +kernel
theorem dX11_from_20 : decode cX11_from 20 = .ok (.iload_n 1, 1) := by decide +kernel
theorem dX11_from_21 : decode cX11_from 21 = .ok (.invokestatic 254, 3) := by decide +kernel
theorem dX11_from_24 : decode cX11_from 24 = .ok (.ifCond .ne 8, 3) := by decide +kernel
theorem dX11_from_27 : decode cX11_from 27 = .ok (.aload_n 0, 1) := by decide +kernel
theorem dX11_from_28 : decode cX11_from 28 = .ok (.invokevirtual 143, 3) := by decide +kernel
theorem dX11_from_31 : decode cX11_from 31 = .ok (.ireturn, 1) := by decide +kernel
theorem dX11_from_32 : decode cX11_from 32 = .ok (.aload_n 0, 1) := by decide +kernel
theorem dX11_from_33 : decode cX11_from 33 = .ok (.getfield 32, 3) := by decide +kernel
theorem dX11_from_36 : decode cX11_from 36 = .ok (.aload_n 0, 1) := by decide +kernel
theorem dX11_from_37 : decode cX11_from 37 = .ok (.getfield 39, 3) := by decide +kernel
theorem dX11_from_40 : decode cX11_from 40 = .ok (.iload_n 1, 1) := by decide +kernel
theorem dX11_from_41 : decode cX11_from 41 = .ok (.aaload, 1) := by decide +kernel
theorem dX11_from_42 : decode cX11_from 42 = .ok (.invokevirtual 116, 3) := by decide +kernel
theorem dX11_from_45 : decode cX11_from 45 = .ok (.iconst 1, 1) := by decide +kernel
theorem dX11_from_46 : decode cX11_from 46 = .ok (.ireturn, 1) := by decide +kernel
theorem dX11_status_0 : decode cX11_status 0 = .ok (.iload_n 1, 1) := by decide +kernel
theorem dX11_status_1 : decode cX11_status 1 = .ok (.tableswitch 42 0 2 #[27, 32, 37], 27) := by decide +kernel
theorem dX11_status_28 : decode cX11_status 28 = .ok (.aload_n 0, 1) := by decide +kernel
theorem dX11_status_29 : decode cX11_status 29 = .ok (.getfield 258, 3) := by decide +kernel
theorem dX11_status_32 : decode cX11_status 32 = .ok (.ireturn, 1) := by decide +kernel
theorem dX11_status_33 : decode cX11_status 33 = .ok (.aload_n 0, 1) := by decide +kernel
theorem dX11_status_34 : decode cX11_status 34 = .ok (.getfield 261, 3) := by decide +kernel
theorem dX11_status_37 : decode cX11_status 37 = .ok (.ireturn, 1) := by decide +kernel
theorem dX11_status_38 : decode cX11_status 38 = .ok (.aload_n 0, 1) := by decide +kernel
theorem dX11_status_39 : decode cX11_status 39 = .ok (.getfield 264, 3) := by decide +kernel
theorem dX11_status_42 : decode cX11_status 42 = .ok (.ireturn, 1) := by decide +kernel
theorem dX11_status_43 : decode cX11_status 43 = .ok (.aload_n 0, 1) := by decide +kernel
theorem dX11_status_44 : decode cX11_status 44 = .ok (.iconst (-1), 1) := by decide +kernel
theorem dX11_status_45 : decode cX11_status 45 = .ok (.invokevirtual 80, 3) := by decide +kernel
theorem dX11_status_48 : decode cX11_status 48 = .ok (.ireturn, 1) := by decide +kernel
theorem dX11_count_0 : decode cX11_count 0 = .ok (.iload_n 1, 1) := by decide +kernel
theorem dX11_count_1 : decode cX11_count 1 = .ok (.iconst 0, 1) := by decide +kernel
theorem dX11_count_2 : decode cX11_count 2 = .ok (.bipush 6, 2) := by decide +kernel
theorem dX11_count_4 : decode cX11_count 4 = .ok (.invokestatic 76, 3) := by decide +kernel
theorem dX11_count_7 : decode cX11_count 7 = .ok (.ifCond .eq 11, 3) := by decide +kernel
theorem dX11_count_10 : decode cX11_count 10 = .ok (.aload_n 0, 1) := by decide +kernel
theorem dX11_count_11 : decode cX11_count 11 = .ok (.iload_n 1, 1) := by decide +kernel
theorem dX11_count_12 : decode cX11_count 12 = .ok (.invokevirtual 267, 3) := by decide +kernel
theorem dX11_count_15 : decode cX11_count 15 = .ok (.goto 9, 3) := by decide +kernel
theorem dX11_count_18 : decode cX11_count 18 = .ok (.aload_n 0, 1) := by decide +kernel
theorem dX11_count_19 : decode cX11_count 19 = .ok (.bipush (-2), 2) := by decide +kernel
theorem dX11_count_21 : decode cX11_count 21 = .ok (.invokevirtual 80, 3) := by decide +kernel
theorem dX11_count_24 : decode cX11_count 24 = .ok (.ireturn, 1) := by decide +kernel
theorem dX11_digest_0 : decode cX11_digest 0 = .ok (.ldc2_w 270, 3) := by decide +kernel
theorem dX11_digest_3 : decode cX11_digest 3 = .ok (.lstore_n 1, 1) := by decide +kernel
theorem dX11_digest_4 : decode cX11_digest 4 = .ok (.iconst 0, 1) := by decide +kernel
theorem dX11_digest_5 : decode cX11_digest 5 = .ok (.istore_n 3, 1) := by decide +kernel
theorem dX11_digest_6 : decode cX11_digest 6 = .ok (.iload_n 3, 1) := by decide +kernel
theorem dX11_digest_7 : decode cX11_digest 7 = .ok (.bipush 6, 2) := by decide +kernel
theorem dX11_digest_9 : decode cX11_digest 9 = .ok (.if_icmp .gt 22, 3) := by decide +kernel
theorem dX11_digest_12 : decode cX11_digest 12 = .ok (.ldc2_w 272, 3) := by decide +kernel
theorem dX11_digest_15 : decode cX11_digest 15 = .ok (.lload_n 1, 1) := by decide +kernel
theorem dX11_digest_16 : decode cX11_digest 16 = .ok (.lmul, 1) := by decide +kernel
theorem dX11_digest_17 : decode cX11_digest 17 = .ok (.aload_n 0, 1) := by decide +kernel
theorem dX11_digest_18 : decode cX11_digest 18 = .ok (.iload_n 3, 1) := by decide +kernel
theorem dX11_digest_19 : decode cX11_digest 19 = .ok (.invokevirtual 267, 3) := by decide +kernel
theorem dX11_digest_22 : decode cX11_digest 22 = .ok (.i2l, 1) := by decide +kernel
theorem dX11_digest_23 : decode cX11_digest 23 = .ok (.ladd, 1) := by decide +kernel
theorem dX11_digest_24 : decode cX11_digest 24 = .ok (.lstore_n 1, 1) := by decide +kernel
theorem dX11_digest_25 : decode cX11_digest 25 = .ok (.iinc 3 1, 3) := by decide +kernel
theorem dX11_digest_28 : decode cX11_digest 28 = .ok (.goto (-22), 3) := by decide +kernel
theorem dX11_digest_31 : decode cX11_digest 31 = .ok (.aload_n 0, 1) := by decide +kernel
theorem dX11_digest_32 : decode cX11_digest 32 = .ok (.getfield 32, 3) := by decide +kernel
theorem dX11_digest_35 : decode cX11_digest 35 = .ok (.lload_n 1, 1) := by decide +kernel
theorem dX11_digest_36 : decode cX11_digest 36 = .ok (.invokevirtual 274, 3) := by decide +kernel
theorem dX11_digest_39 : decode cX11_digest 39 = .ok (.lstore_n 1, 1) := by decide +kernel
theorem dX11_digest_40 : decode cX11_digest 40 = .ok (.ldc2_w 272, 3) := by decide +kernel
theorem dX11_digest_43 : decode cX11_digest 43 = .ok (.lload_n 1, 1) := by decide +kernel
theorem dX11_digest_44 : decode cX11_digest 44 = .ok (.lmul, 1) := by decide +kernel
theorem dX11_digest_45 : decode cX11_digest 45 = .ok (.aload_n 0, 1) := by decide +kernel
theorem dX11_digest_46 : decode cX11_digest 46 = .ok (.getfield 244, 3) := by decide +kernel
theorem dX11_digest_49 : decode cX11_digest 49 = .ok (.ladd, 1) := by decide +kernel
theorem dX11_digest_50 : decode cX11_digest 50 = .ok (.lstore_n 1, 1) := by decide +kernel
theorem dX11_digest_51 : decode cX11_digest 51 = .ok (.ldc2_w 272, 3) := by decide +kernel
theorem dX11_digest_54 : decode cX11_digest 54 = .ok (.lload_n 1, 1) := by decide +kernel
theorem dX11_digest_55 : decode cX11_digest 55 = .ok (.lmul, 1) := by decide +kernel
theorem dX11_digest_56 : decode cX11_digest 56 = .ok (.aload_n 0, 1) := by decide +kernel
theorem dX11_digest_57 : decode cX11_digest 57 = .ok (.getfield 59, 3) := by decide +kernel
theorem dX11_digest_60 : decode cX11_digest 60 = .ok (.ladd, 1) := by decide +kernel
theorem dX11_digest_61 : decode cX11_digest 61 = .ok (.lreturn, 1) := by decide +kernel
theorem dX11_howMany_0 : decode cX11_howMany 0 = .ok (.iload_n 1, 1) := by decide +kernel
theorem dX11_howMany_1 : decode cX11_howMany 1 = .ok (.tableswitch 99 0 5 #[39, 50, 61, 72, 83, 91], 39) := by decide +kernel
theorem dX11_howMany_40 : decode cX11_howMany 40 = .ok (.aload_n 0, 1) := by decide +kernel
theorem dX11_howMany_41 : decode cX11_howMany 41 = .ok (.getfield 32, 3) := by decide +kernel
theorem dX11_howMany_44 : decode cX11_howMany 44 = .ok (.getfield 63, 3) := by decide +kernel
theorem dX11_howMany_47 : decode cX11_howMany 47 = .ok (.getfield 67, 3) := by decide +kernel
theorem dX11_howMany_50 : decode cX11_howMany 50 = .ok (.ireturn, 1) := by decide +kernel
theorem dX11_howMany_51 : decode cX11_howMany 51 = .ok (.aload_n 0, 1) := by decide +kernel
theorem dX11_howMany_52 : decode cX11_howMany 52 = .ok (.getfield 32, 3) := by decide +kernel
theorem dX11_howMany_55 : decode cX11_howMany 55 = .ok (.getfield 63, 3) := by decide +kernel
theorem dX11_howMany_58 : decode cX11_howMany 58 = .ok (.getfield 96, 3) := by decide +kernel
theorem dX11_howMany_61 : decode cX11_howMany 61 = .ok (.ireturn, 1) := by decide +kernel
theorem dX11_howMany_62 : decode cX11_howMany 62 = .ok (.aload_n 0, 1) := by decide +kernel
theorem dX11_howMany_63 : decode cX11_howMany 63 = .ok (.getfield 32, 3) := by decide +kernel
theorem dX11_howMany_66 : decode cX11_howMany 66 = .ok (.getfield 125, 3) := by decide +kernel
theorem dX11_howMany_69 : decode cX11_howMany 69 = .ok (.getfield 149, 3) := by decide +kernel
theorem dX11_howMany_72 : decode cX11_howMany 72 = .ok (.ireturn, 1) := by decide +kernel
theorem dX11_howMany_73 : decode cX11_howMany 73 = .ok (.aload_n 0, 1) := by decide +kernel
theorem dX11_howMany_74 : decode cX11_howMany 74 = .ok (.getfield 32, 3) := by decide +kernel
theorem dX11_howMany_77 : decode cX11_howMany 77 = .ok (.getfield 125, 3) := by decide +kernel
theorem dX11_howMany_80 : decode cX11_howMany 80 = .ok (.invokevirtual 278, 3) := by decide +kernel
theorem dX11_howMany_83 : decode cX11_howMany 83 = .ok (.ireturn, 1) := by decide +kernel
theorem dX11_howMany_84 : decode cX11_howMany 84 = .ok (.aload_n 0, 1) := by decide +kernel
theorem dX11_howMany_85 : decode cX11_howMany 85 = .ok (.getfield 32, 3) := by decide +kernel
theorem dX11_howMany_88 : decode cX11_howMany 88 = .ok (.getfield 212, 3) := by decide +kernel
theorem dX11_howMany_91 : decode cX11_howMany 91 = .ok (.ireturn, 1) := by decide +kernel
theorem dX11_howMany_92 : decode cX11_howMany 92 = .ok (.aload_n 0, 1) := by decide +kernel
theorem dX11_howMany_93 : decode cX11_howMany 93 = .ok (.getfield 32, 3) := by decide +kernel
theorem dX11_howMany_96 : decode cX11_howMany 96 = .ok (.getfield 140, 3) := by decide +kernel
theorem dX11_howMany_99 : decode cX11_howMany 99 = .ok (.ireturn, 1) := by decide +kernel
theorem dX11_howMany_100 : decode cX11_howMany 100 = .ok (.aload_n 0, 1) := by decide +kernel
theorem dX11_howMany_101 : decode cX11_howMany 101 = .ok (.getfield 46, 3) := by decide +kernel
theorem dX11_howMany_104 : decode cX11_howMany 104 = .ok (.getfield 102, 3) := by decide +kernel
theorem dX11_howMany_107 : decode cX11_howMany 107 = .ok (.ireturn, 1) := by decide +kernel
theorem dX11_placeAs_0 : decode cX11_placeAs 0 = .ok (.aload_n 0, 1) := by decide +kernel
theorem dX11_placeAs_1 : decode cX11_placeAs 1 = .ok (.getfield 32, 3) := by decide +kernel
theorem dX11_placeAs_4 : decode cX11_placeAs 4 = .ok (.getfield 63, 3) := by decide +kernel
theorem dX11_placeAs_7 : decode cX11_placeAs 7 = .ok (.iload_n 1, 1) := by decide +kernel
theorem dX11_placeAs_8 : decode cX11_placeAs 8 = .ok (.invokevirtual 281, 3) := by decide +kernel
theorem dX11_placeAs_11 : decode cX11_placeAs 11 = .ok (.aload_n 0, 1) := by decide +kernel
theorem dX11_placeAs_12 : decode cX11_placeAs 12 = .ok (.getfield 32, 3) := by decide +kernel
theorem dX11_placeAs_15 : decode cX11_placeAs 15 = .ok (.getfield 125, 3) := by decide +kernel
theorem dX11_placeAs_18 : decode cX11_placeAs 18 = .ok (.aload_n 0, 1) := by decide +kernel
theorem dX11_placeAs_19 : decode cX11_placeAs 19 = .ok (.getfield 32, 3) := by decide +kernel
theorem dX11_placeAs_22 : decode cX11_placeAs 22 = .ok (.getfield 63, 3) := by decide +kernel
theorem dX11_placeAs_25 : decode cX11_placeAs 25 = .ok (.getfield 168, 3) := by decide +kernel
theorem dX11_placeAs_28 : decode cX11_placeAs 28 = .ok (.iload_n 2, 1) := by decide +kernel
theorem dX11_placeAs_29 : decode cX11_placeAs 29 = .ok (.iaload, 1) := by decide +kernel
theorem dX11_placeAs_30 : decode cX11_placeAs 30 = .ok (.aload_n 0, 1) := by decide +kernel
theorem dX11_placeAs_31 : decode cX11_placeAs 31 = .ok (.getfield 32, 3) := by decide +kernel
theorem dX11_placeAs_34 : decode cX11_placeAs 34 = .ok (.getfield 63, 3) := by decide +kernel
theorem dX11_placeAs_37 : decode cX11_placeAs 37 = .ok (.getfield 171, 3) := by decide +kernel
theorem dX11_placeAs_40 : decode cX11_placeAs 40 = .ok (.iload_n 2, 1) := by decide +kernel
theorem dX11_placeAs_41 : decode cX11_placeAs 41 = .ok (.iaload, 1) := by decide +kernel
theorem dX11_placeAs_42 : decode cX11_placeAs 42 = .ok (.invokevirtual 285, 3) := by decide +kernel
theorem dX11_placeAs_45 : decode cX11_placeAs 45 = .ok (.ireturn, 1) := by decide +kernel
theorem dX11_heftAs_0 : decode cX11_heftAs 0 = .ok (.aload_n 0, 1) := by decide +kernel
theorem dX11_heftAs_1 : decode cX11_heftAs 1 = .ok (.getfield 32, 3) := by decide +kernel
theorem dX11_heftAs_4 : decode cX11_heftAs 4 = .ok (.getfield 63, 3) := by decide +kernel
theorem dX11_heftAs_7 : decode cX11_heftAs 7 = .ok (.iload_n 1, 1) := by decide +kernel
theorem dX11_heftAs_8 : decode cX11_heftAs 8 = .ok (.invokevirtual 281, 3) := by decide +kernel
theorem dX11_heftAs_11 : decode cX11_heftAs 11 = .ok (.aload_n 0, 1) := by decide +kernel
theorem dX11_heftAs_12 : decode cX11_heftAs 12 = .ok (.getfield 32, 3) := by decide +kernel
theorem dX11_heftAs_15 : decode cX11_heftAs 15 = .ok (.getfield 63, 3) := by decide +kernel
theorem dX11_heftAs_18 : decode cX11_heftAs 18 = .ok (.getfield 171, 3) := by decide +kernel
theorem dX11_heftAs_21 : decode cX11_heftAs 21 = .ok (.iload_n 2, 1) := by decide +kernel
theorem dX11_heftAs_22 : decode cX11_heftAs 22 = .ok (.iaload, 1) := by decide +kernel
theorem dX11_heftAs_23 : decode cX11_heftAs 23 = .ok (.invokevirtual 289, 3) := by decide +kernel
theorem dX11_heftAs_26 : decode cX11_heftAs 26 = .ok (.ireturn, 1) := by decide +kernel
theorem dX11_isLedge_0 : decode cX11_isLedge 0 = .ok (.iload_n 1, 1) := by decide +kernel
theorem dX11_isLedge_1 : decode cX11_isLedge 1 = .ok (.iconst 0, 1) := by decide +kernel
theorem dX11_isLedge_2 : decode cX11_isLedge 2 = .ok (.aload_n 0, 1) := by decide +kernel
theorem dX11_isLedge_3 : decode cX11_isLedge 3 = .ok (.getfield 32, 3) := by decide +kernel
theorem dX11_isLedge_6 : decode cX11_isLedge 6 = .ok (.getfield 63, 3) := by decide +kernel
theorem dX11_isLedge_9 : decode cX11_isLedge 9 = .ok (.getfield 67, 3) := by decide +kernel
theorem dX11_isLedge_12 : decode cX11_isLedge 12 = .ok (.iconst 1, 1) := by decide +kernel
theorem dX11_isLedge_13 : decode cX11_isLedge 13 = .ok (.isub, 1) := by decide +kernel
theorem dX11_isLedge_14 : decode cX11_isLedge 14 = .ok (.invokestatic 76, 3) := by decide +kernel
theorem dX11_isLedge_17 : decode cX11_isLedge 17 = .ok (.ireturn, 1) := by decide +kernel
theorem dX11_isVoter_0 : decode cX11_isVoter 0 = .ok (.iload_n 1, 1) := by decide +kernel
theorem dX11_isVoter_1 : decode cX11_isVoter 1 = .ok (.iconst 0, 1) := by decide +kernel
theorem dX11_isVoter_2 : decode cX11_isVoter 2 = .ok (.aload_n 0, 1) := by decide +kernel
theorem dX11_isVoter_3 : decode cX11_isVoter 3 = .ok (.getfield 32, 3) := by decide +kernel
theorem dX11_isVoter_6 : decode cX11_isVoter 6 = .ok (.getfield 63, 3) := by decide +kernel
theorem dX11_isVoter_9 : decode cX11_isVoter 9 = .ok (.getfield 96, 3) := by decide +kernel
theorem dX11_isVoter_12 : decode cX11_isVoter 12 = .ok (.iconst 1, 1) := by decide +kernel
theorem dX11_isVoter_13 : decode cX11_isVoter 13 = .ok (.isub, 1) := by decide +kernel
theorem dX11_isVoter_14 : decode cX11_isVoter 14 = .ok (.invokestatic 76, 3) := by decide +kernel
theorem dX11_isVoter_17 : decode cX11_isVoter 17 = .ok (.ireturn, 1) := by decide +kernel
theorem dX11_bad_0 : decode cX11_bad 0 = .ok (.aload_n 0, 1) := by decide +kernel
theorem dX11_bad_1 : decode cX11_bad 1 = .ok (.dup, 1) := by decide +kernel
theorem dX11_bad_2 : decode cX11_bad 2 = .ok (.getfield 258, 3) := by decide +kernel
theorem dX11_bad_5 : decode cX11_bad 5 = .ok (.iconst 1, 1) := by decide +kernel
theorem dX11_bad_6 : decode cX11_bad 6 = .ok (.iadd, 1) := by decide +kernel
theorem dX11_bad_7 : decode cX11_bad 7 = .ok (.putfield 258, 3) := by decide +kernel
theorem dX11_bad_10 : decode cX11_bad 10 = .ok (.iload_n 1, 1) := by decide +kernel
theorem dX11_bad_11 : decode cX11_bad 11 = .ok (.ireturn, 1) := by decide +kernel
theorem dX11_no_0 : decode cX11_no 0 = .ok (.aload_n 0, 1) := by decide +kernel
theorem dX11_no_1 : decode cX11_no 1 = .ok (.dup, 1) := by decide +kernel
theorem dX11_no_2 : decode cX11_no 2 = .ok (.getfield 261, 3) := by decide +kernel
theorem dX11_no_5 : decode cX11_no 5 = .ok (.iconst 1, 1) := by decide +kernel
theorem dX11_no_6 : decode cX11_no 6 = .ok (.iadd, 1) := by decide +kernel
theorem dX11_no_7 : decode cX11_no 7 = .ok (.putfield 261, 3) := by decide +kernel
theorem dX11_no_10 : decode cX11_no 10 = .ok (.bipush (-3), 2) := by decide +kernel
theorem dX11_no_12 : decode cX11_no 12 = .ok (.ireturn, 1) := by decide +kernel
theorem dX11_full_0 : decode cX11_full 0 = .ok (.aload_n 0, 1) := by decide +kernel
theorem dX11_full_1 : decode cX11_full 1 = .ok (.dup, 1) := by decide +kernel
theorem dX11_full_2 : decode cX11_full 2 = .ok (.getfield 264, 3) := by decide +kernel
theorem dX11_full_5 : decode cX11_full 5 = .ok (.iconst 1, 1) := by decide +kernel
theorem dX11_full_6 : decode cX11_full 6 = .ok (.iadd, 1) := by decide +kernel
theorem dX11_full_7 : decode cX11_full 7 = .ok (.putfield 264, 3) := by decide +kernel
theorem dX11_full_10 : decode cX11_full 10 = .ok (.bipush (-4), 2) := by decide +kernel
theorem dX11_full_12 : decode cX11_full 12 = .ok (.ireturn, 1) := by decide +kernel
theorem dX11_within_0 : decode cX11_within 0 = .ok (.iload_n 0, 1) := by decide +kernel
theorem dX11_within_1 : decode cX11_within 1 = .ok (.iload_n 1, 1) := by decide +kernel
theorem dX11_within_2 : decode cX11_within 2 = .ok (.if_icmp .lt 12, 3) := by decide +kernel
theorem dX11_within_5 : decode cX11_within 5 = .ok (.iload_n 0, 1) := by decide +kernel
theorem dX11_within_6 : decode cX11_within 6 = .ok (.iload_n 2, 1) := by decide +kernel
theorem dX11_within_7 : decode cX11_within 7 = .ok (.if_icmp .gt 7, 3) := by decide +kernel
theorem dX11_within_10 : decode cX11_within 10 = .ok (.iconst 1, 1) := by decide +kernel
theorem dX11_within_11 : decode cX11_within 11 = .ok (.goto 4, 3) := by decide +kernel
theorem dX11_within_14 : decode cX11_within 14 = .ok (.iconst 0, 1) := by decide +kernel
theorem dX11_within_15 : decode cX11_within 15 = .ok (.ireturn, 1) := by decide +kernel
theorem dX11_hasBit_0 : decode cX11_hasBit 0 = .ok (.iload_n 0, 1) := by decide +kernel
theorem dX11_hasBit_1 : decode cX11_hasBit 1 = .ok (.iload_n 1, 1) := by decide +kernel
theorem dX11_hasBit_2 : decode cX11_hasBit 2 = .ok (.ishr, 1) := by decide +kernel
theorem dX11_hasBit_3 : decode cX11_hasBit 3 = .ok (.iconst 1, 1) := by decide +kernel
theorem dX11_hasBit_4 : decode cX11_hasBit 4 = .ok (.iand, 1) := by decide +kernel
theorem dX11_hasBit_5 : decode cX11_hasBit 5 = .ok (.ifCond .eq 7, 3) := by decide +kernel
theorem dX11_hasBit_8 : decode cX11_hasBit 8 = .ok (.iconst 1, 1) := by decide +kernel
theorem dX11_hasBit_9 : decode cX11_hasBit 9 = .ok (.goto 4, 3) := by decide +kernel
theorem dX11_hasBit_12 : decode cX11_hasBit 12 = .ok (.iconst 0, 1) := by decide +kernel
theorem dX11_hasBit_13 : decode cX11_hasBit 13 = .ok (.ireturn, 1) := by decide +kernel
theorem dX11_spread_0 : decode cX11_spread 0 = .ok (.iconst 0, 1) := by decide +kernel
theorem dX11_spread_1 : decode cX11_spread 1 = .ok (.iload_n 1, 1) := by decide +kernel
theorem dX11_spread_2 : decode cX11_spread 2 = .ok (.iload_n 0, 1) := by decide +kernel
theorem dX11_spread_3 : decode cX11_spread 3 = .ok (.isub, 1) := by decide +kernel
theorem dX11_spread_4 : decode cX11_spread 4 = .ok (.iconst 1, 1) := by decide +kernel
theorem dX11_spread_5 : decode cX11_spread 5 = .ok (.iadd, 1) := by decide +kernel
theorem dX11_spread_6 : decode cX11_spread 6 = .ok (.invokestatic 227, 3) := by decide +kernel
theorem dX11_spread_9 : decode cX11_spread 9 = .ok (.ireturn, 1) := by decide +kernel
theorem dX11_tenTo_0 : decode cX11_tenTo 0 = .ok (.lconst 1, 1) := by decide +kernel
theorem dX11_tenTo_1 : decode cX11_tenTo 1 = .ok (.lstore_n 1, 1) := by decide +kernel
theorem dX11_tenTo_2 : decode cX11_tenTo 2 = .ok (.iconst 0, 1) := by decide +kernel
theorem dX11_tenTo_3 : decode cX11_tenTo 3 = .ok (.istore_n 3, 1) := by decide +kernel
theorem dX11_tenTo_4 : decode cX11_tenTo 4 = .ok (.iload_n 3, 1) := by decide +kernel
theorem dX11_tenTo_5 : decode cX11_tenTo 5 = .ok (.iload_n 0, 1) := by decide +kernel
theorem dX11_tenTo_6 : decode cX11_tenTo 6 = .ok (.if_icmp .ge 15, 3) := by decide +kernel
theorem dX11_tenTo_9 : decode cX11_tenTo 9 = .ok (.lload_n 1, 1) := by decide +kernel
theorem dX11_tenTo_10 : decode cX11_tenTo 10 = .ok (.ldc2_w 292, 3) := by decide +kernel
theorem dX11_tenTo_13 : decode cX11_tenTo 13 = .ok (.lmul, 1) := by decide +kernel
theorem dX11_tenTo_14 : decode cX11_tenTo 14 = .ok (.lstore_n 1, 1) := by decide +kernel
theorem dX11_tenTo_15 : decode cX11_tenTo 15 = .ok (.iinc 3 1, 3) := by decide +kernel
theorem dX11_tenTo_18 : decode cX11_tenTo 18 = .ok (.goto (-14), 3) := by decide +kernel
theorem dX11_tenTo_21 : decode cX11_tenTo 21 = .ok (.lload_n 1, 1) := by decide +kernel
theorem dX11_tenTo_22 : decode cX11_tenTo 22 = .ok (.lreturn, 1) := by decide +kernel
theorem dX11_commonDivisor_0 : decode cX11_commonDivisor 0 = .ok (.lload_n 0, 1) := by decide +kernel
theorem dX11_commonDivisor_1 : decode cX11_commonDivisor 1 = .ok (.lstore 4, 2) := by decide +kernel
theorem dX11_commonDivisor_3 : decode cX11_commonDivisor 3 = .ok (.lload_n 2, 1) := by decide +kernel
theorem dX11_commonDivisor_4 : decode cX11_commonDivisor 4 = .ok (.lstore 6, 2) := by decide +kernel
theorem dX11_commonDivisor_6 : decode cX11_commonDivisor 6 = .ok (.iconst 0, 1) := by decide +kernel
theorem dX11_commonDivisor_7 : decode cX11_commonDivisor 7 = .ok (.istore 8, 2) := by decide +kernel
theorem dX11_commonDivisor_9 : decode cX11_commonDivisor 9 = .ok (.iload 8, 2) := by decide +kernel
theorem dX11_commonDivisor_11 : decode cX11_commonDivisor 11 = .ok (.bipush 100, 2) := by decide +kernel
theorem dX11_commonDivisor_13 : decode cX11_commonDivisor 13 = .ok (.if_icmp .ge 31, 3) := by decide +kernel
theorem dX11_commonDivisor_16 : decode cX11_commonDivisor 16 = .ok (.lload 6, 2) := by decide +kernel
theorem dX11_commonDivisor_18 : decode cX11_commonDivisor 18 = .ok (.lconst 0, 1) := by decide +kernel
theorem dX11_commonDivisor_19 : decode cX11_commonDivisor 19 = .ok (.lcmp, 1) := by decide +kernel
theorem dX11_commonDivisor_20 : decode cX11_commonDivisor 20 = .ok (.ifCond .eq 24, 3) := by decide +kernel
theorem dX11_commonDivisor_23 : decode cX11_commonDivisor 23 = .ok (.lload 4, 2) := by decide +kernel
theorem dX11_commonDivisor_25 : decode cX11_commonDivisor 25 = .ok (.lload 6, 2) := by decide +kernel
theorem dX11_commonDivisor_27 : decode cX11_commonDivisor 27 = .ok (.lrem, 1) := by decide +kernel
theorem dX11_commonDivisor_28 : decode cX11_commonDivisor 28 = .ok (.lstore 9, 2) := by decide +kernel
theorem dX11_commonDivisor_30 : decode cX11_commonDivisor 30 = .ok (.lload 6, 2) := by decide +kernel
theorem dX11_commonDivisor_32 : decode cX11_commonDivisor 32 = .ok (.lstore 4, 2) := by decide +kernel
theorem dX11_commonDivisor_34 : decode cX11_commonDivisor 34 = .ok (.lload 9, 2) := by decide +kernel
theorem dX11_commonDivisor_36 : decode cX11_commonDivisor 36 = .ok (.lstore 6, 2) := by decide +kernel
theorem dX11_commonDivisor_38 : decode cX11_commonDivisor 38 = .ok (.iinc 8 1, 3) := by decide +kernel
theorem dX11_commonDivisor_41 : decode cX11_commonDivisor 41 = .ok (.goto (-32), 3) := by decide +kernel
theorem dX11_commonDivisor_44 : decode cX11_commonDivisor 44 = .ok (.lload 4, 2) := by decide +kernel
theorem dX11_commonDivisor_46 : decode cX11_commonDivisor 46 = .ok (.lreturn, 1) := by decide +kernel
