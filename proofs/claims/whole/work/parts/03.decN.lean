theorem dX12_judge_66 : decode cX12_judge 66 = .ok (.iload_n 3, 1) := by decide +kernel
theorem dX12_judge_67 : decode cX12_judge 67 = .ok (.ifCond .eq 16, 3) := by decide +kernel
theorem dX12_judge_70 : decode cX12_judge 70 = .ok (.iload_n 1, 1) := by decide +kernel
theorem dX12_judge_71 : decode cX12_judge 71 = .ok (.ifCond .ne 12, 3) := by decide +kernel
theorem dX12_judge_74 : decode cX12_judge 74 = .ok (.aload_n 0, 1) := by decide +kernel
theorem dX12_judge_75 : decode cX12_judge 75 = .ok (.getfield 39, 3) := by decide +kernel
theorem dX12_judge_78 : decode cX12_judge 78 = .ok (.iconst 0, 1) := by decide +kernel
theorem dX12_judge_79 : decode cX12_judge 79 = .ok (.iaload, 1) := by decide +kernel
theorem dX12_judge_80 : decode cX12_judge 80 = .ok (.goto 7, 3) := by decide +kernel
theorem dX12_judge_83 : decode cX12_judge 83 = .ok (.aload_n 0, 1) := by decide +kernel
theorem dX12_judge_84 : decode cX12_judge 84 = .ok (.getfield 193, 3) := by decide +kernel
theorem dX12_judge_87 : decode cX12_judge 87 = .ok (.putfield 193, 3) := by decide +kernel
theorem dX12_judge_90 : decode cX12_judge 90 = .ok (.aload_n 0, 1) := by decide +kernel
theorem dX12_judge_91 : decode cX12_judge 91 = .ok (.getfield 39, 3) := by decide +kernel
theorem dX12_judge_94 : decode cX12_judge 94 = .ok (.iload_n 1, 1) := by decide +kernel
theorem dX12_judge_95 : decode cX12_judge 95 = .ok (.dup2, 1) := by decide +kernel
theorem dX12_judge_96 : decode cX12_judge 96 = .ok (.iaload, 1) := by decide +kernel
theorem dX12_judge_97 : decode cX12_judge 97 = .ok (.iconst 1, 1) := by decide +kernel
theorem dX12_judge_98 : decode cX12_judge 98 = .ok (.iadd, 1) := by decide +kernel
theorem dX12_judge_99 : decode cX12_judge 99 = .ok (.iastore, 1) := by decide +kernel
theorem dX12_judge_100 : decode cX12_judge 100 = .ok (.return_, 1) := by decide +kernel
theorem dX12_has_0 : decode cX12_has 0 = .ok (.iload_n 0, 1) := by decide +kernel
theorem dX12_has_1 : decode cX12_has 1 = .ok (.iload_n 1, 1) := by decide +kernel
theorem dX12_has_2 : decode cX12_has 2 = .ok (.ishr, 1) := by decide +kernel
theorem dX12_has_3 : decode cX12_has 3 = .ok (.iconst 1, 1) := by decide +kernel
theorem dX12_has_4 : decode cX12_has 4 = .ok (.iand, 1) := by decide +kernel
theorem dX12_has_5 : decode cX12_has 5 = .ok (.iconst 1, 1) := by decide +kernel
theorem dX12_has_6 : decode cX12_has 6 = .ok (.if_icmp .ne 7, 3) := by decide +kernel
theorem dX12_has_9 : decode cX12_has 9 = .ok (.iconst 1, 1) := by decide +kernel
theorem dX12_has_10 : decode cX12_has 10 = .ok (.goto 4, 3) := by decide +kernel
theorem dX12_has_13 : decode cX12_has 13 = .ok (.iconst 0, 1) := by decide +kernel
theorem dX12_has_14 : decode cX12_has 14 = .ok (.ireturn, 1) := by decide +kernel
theorem dX12_goParty_0 : decode cX12_goParty 0 = .ok (.aload_n 0, 1) := by decide +kernel
theorem dX12_goParty_1 : decode cX12_goParty 1 = .ok (.getfield 30, 3) := by decide +kernel
theorem dX12_goParty_4 : decode cX12_goParty 4 = .ok (.iload_n 1, 1) := by decide +kernel
theorem dX12_goParty_5 : decode cX12_goParty 5 = .ok (.dup2, 1) := by decide +kernel
theorem dX12_goParty_6 : decode cX12_goParty 6 = .ok (.iaload, 1) := by decide +kernel
theorem dX12_goParty_7 : decode cX12_goParty 7 = .ok (.iconst 1, 1) := by decide +kernel
theorem dX12_goParty_8 : decode cX12_goParty 8 = .ok (.iadd, 1) := by decide +kernel
theorem dX12_goParty_9 : decode cX12_goParty 9 = .ok (.iastore, 1) := by decide +kernel
theorem dX12_goParty_10 : decode cX12_goParty 10 = .ok (.aload_n 0, 1) := by decide +kernel
theorem dX12_goParty_11 : decode cX12_goParty 11 = .ok (.iconst (-1), 1) := by decide +kernel
theorem dX12_goParty_12 : decode cX12_goParty 12 = .ok (.putfield 196, 3) := by decide +kernel
theorem dX12_goParty_15 : decode cX12_goParty 15 = .ok (.aload_n 0, 1) := by decide +kernel
theorem dX12_goParty_16 : decode cX12_goParty 16 = .ok (.invokevirtual 126, 3) := by decide +kernel
theorem dX12_goParty_19 : decode cX12_goParty 19 = .ok (.istore 4, 2) := by decide +kernel
theorem dX12_goParty_21 : decode cX12_goParty 21 = .ok (.iload 4, 2) := by decide +kernel
theorem dX12_goParty_23 : decode cX12_goParty 23 = .ok (.iconst (-1), 1) := by decide +kernel
theorem dX12_goParty_24 : decode cX12_goParty 24 = .ok (.if_icmp .eq 89, 3) := by decide +kernel
theorem dX12_goParty_27 : decode cX12_goParty 27 = .ok (.aload_n 0, 1) := by decide +kernel
theorem dX12_goParty_28 : decode cX12_goParty 28 = .ok (.getfield 196, 3) := by decide +kernel
theorem dX12_goParty_31 : decode cX12_goParty 31 = .ok (.iconst (-1), 1) := by decide +kernel
theorem dX12_goParty_32 : decode cX12_goParty 32 = .ok (.if_icmp .ne 81, 3) := by decide +kernel
theorem dX12_goParty_35 : decode cX12_goParty 35 = .ok (.aload_n 0, 1) := by decide +kernel
theorem dX12_goParty_36 : decode cX12_goParty 36 = .ok (.iload 4, 2) := by decide +kernel
theorem dX12_goParty_38 : decode cX12_goParty 38 = .ok (.iconst 3, 1) := by decide +kernel
theorem dX12_goParty_39 : decode cX12_goParty 39 = .ok (.invokevirtual 103, 3) := by decide +kernel
theorem dX12_goParty_42 : decode cX12_goParty 42 = .ok (.istore 5, 2) := by decide +kernel
theorem dX12_goParty_44 : decode cX12_goParty 44 = .ok (.iload 5, 2) := by decide +kernel
theorem dX12_goParty_46 : decode cX12_goParty 46 = .ok (.iconst (-1), 1) := by decide +kernel
theorem dX12_goParty_47 : decode cX12_goParty 47 = .ok (.if_icmp .eq 19, 3) := by decide +kernel
theorem dX12_goParty_50 : decode cX12_goParty 50 = .ok (.aload_n 0, 1) := by decide +kernel
theorem dX12_goParty_51 : decode cX12_goParty 51 = .ok (.getfield 27, 3) := by decide +kernel
theorem dX12_goParty_54 : decode cX12_goParty 54 = .ok (.iload 5, 2) := by decide +kernel
theorem dX12_goParty_56 : decode cX12_goParty 56 = .ok (.dup2, 1) := by decide +kernel
theorem dX12_goParty_57 : decode cX12_goParty 57 = .ok (.iaload, 1) := by decide +kernel
theorem dX12_goParty_58 : decode cX12_goParty 58 = .ok (.aload_n 0, 1) := by decide +kernel
theorem dX12_goParty_59 : decode cX12_goParty 59 = .ok (.iload 4, 2) := by decide +kernel
theorem dX12_goParty_61 : decode cX12_goParty 61 = .ok (.invokevirtual 117, 3) := by decide +kernel
theorem dX12_goParty_64 : decode cX12_goParty 64 = .ok (.iadd, 1) := by decide +kernel
theorem dX12_goParty_65 : decode cX12_goParty 65 = .ok (.iastore, 1) := by decide +kernel
theorem dX12_goParty_66 : decode cX12_goParty 66 = .ok (.aload_n 0, 1) := by decide +kernel
theorem dX12_goParty_67 : decode cX12_goParty 67 = .ok (.getfield 27, 3) := by decide +kernel
theorem dX12_goParty_70 : decode cX12_goParty 70 = .ok (.iload 4, 2) := by decide +kernel
theorem dX12_goParty_72 : decode cX12_goParty 72 = .ok (.iconst 0, 1) := by decide +kernel
theorem dX12_goParty_73 : decode cX12_goParty 73 = .ok (.iastore, 1) := by decide +kernel
theorem dX12_goParty_74 : decode cX12_goParty 74 = .ok (.aload_n 0, 1) := by decide +kernel
theorem dX12_goParty_75 : decode cX12_goParty 75 = .ok (.getfield 30, 3) := by decide +kernel
theorem dX12_goParty_78 : decode cX12_goParty 78 = .ok (.iload 4, 2) := by decide +kernel
theorem dX12_goParty_80 : decode cX12_goParty 80 = .ok (.iconst 0, 1) := by decide +kernel
theorem dX12_goParty_81 : decode cX12_goParty 81 = .ok (.iastore, 1) := by decide +kernel
theorem dX12_goParty_82 : decode cX12_goParty 82 = .ok (.aload_n 0, 1) := by decide +kernel
theorem dX12_goParty_83 : decode cX12_goParty 83 = .ok (.iload 4, 2) := by decide +kernel
theorem dX12_goParty_85 : decode cX12_goParty 85 = .ok (.iload_n 2, 1) := by decide +kernel
theorem dX12_goParty_86 : decode cX12_goParty 86 = .ok (.if_icmp .eq 9, 3) := by decide +kernel
theorem dX12_goParty_89 : decode cX12_goParty 89 = .ok (.iload 4, 2) := by decide +kernel
theorem dX12_goParty_91 : decode cX12_goParty 91 = .ok (.iload_n 3, 1) := by decide +kernel
theorem dX12_goParty_92 : decode cX12_goParty 92 = .ok (.if_icmp .ne 8, 3) := by decide +kernel
theorem dX12_goParty_95 : decode cX12_goParty 95 = .ok (.iload 4, 2) := by decide +kernel
theorem dX12_goParty_97 : decode cX12_goParty 97 = .ok (.goto 4, 3) := by decide +kernel
theorem dX12_goParty_100 : decode cX12_goParty 100 = .ok (.iconst (-1), 1) := by decide +kernel
theorem dX12_goParty_101 : decode cX12_goParty 101 = .ok (.putfield 196, 3) := by decide +kernel
theorem dX12_goParty_104 : decode cX12_goParty 104 = .ok (.aload_n 0, 1) := by decide +kernel
theorem dX12_goParty_105 : decode cX12_goParty 105 = .ok (.invokevirtual 126, 3) := by decide +kernel
theorem dX12_goParty_108 : decode cX12_goParty 108 = .ok (.istore 4, 2) := by decide +kernel
theorem dX12_goParty_110 : decode cX12_goParty 110 = .ok (.goto (-89), 3) := by decide +kernel
theorem dX12_goParty_113 : decode cX12_goParty 113 = .ok (.return_, 1) := by decide +kernel
theorem dX12_layParties_0 : decode cX12_layParties 0 = .ok (.iconst 0, 1) := by decide +kernel
theorem dX12_layParties_1 : decode cX12_layParties 1 = .ok (.istore 4, 2) := by decide +kernel
theorem dX12_layParties_3 : decode cX12_layParties 3 = .ok (.aload_n 0, 1) := by decide +kernel
theorem dX12_layParties_4 : decode cX12_layParties 4 = .ok (.invokevirtual 161, 3) := by decide +kernel
theorem dX12_layParties_7 : decode cX12_layParties 7 = .ok (.aload_n 0, 1) := by decide +kernel
theorem dX12_layParties_8 : decode cX12_layParties 8 = .ok (.iconst 0, 1) := by decide +kernel
theorem dX12_layParties_9 : decode cX12_layParties 9 = .ok (.invokevirtual 199, 3) := by decide +kernel
theorem dX12_layParties_12 : decode cX12_layParties 12 = .ok (.iload 4, 2) := by decide +kernel
theorem dX12_layParties_14 : decode cX12_layParties 14 = .ok (.ifCond .gt 16, 3) := by decide +kernel
theorem dX12_layParties_17 : decode cX12_layParties 17 = .ok (.aload_n 0, 1) := by decide +kernel
theorem dX12_layParties_18 : decode cX12_layParties 18 = .ok (.getfield 39, 3) := by decide +kernel
theorem dX12_layParties_21 : decode cX12_layParties 21 = .ok (.iconst 0, 1) := by decide +kernel
theorem dX12_layParties_22 : decode cX12_layParties 22 = .ok (.iaload, 1) := by decide +kernel
theorem dX12_layParties_23 : decode cX12_layParties 23 = .ok (.aload_n 0, 1) := by decide +kernel
theorem dX12_layParties_24 : decode cX12_layParties 24 = .ok (.invokevirtual 64, 3) := by decide +kernel
theorem dX12_layParties_27 : decode cX12_layParties 27 = .ok (.if_icmp .ge 123, 3) := by decide +kernel
theorem dX12_layParties_30 : decode cX12_layParties 30 = .ok (.iload 4, 2) := by decide +kernel
theorem dX12_layParties_32 : decode cX12_layParties 32 = .ok (.iload_n 3, 1) := by decide +kernel
theorem dX12_layParties_33 : decode cX12_layParties 33 = .ok (.if_icmp .eq 17, 3) := by decide +kernel
theorem dX12_layParties_36 : decode cX12_layParties 36 = .ok (.aload_n 0, 1) := by decide +kernel
theorem dX12_layParties_37 : decode cX12_layParties 37 = .ok (.getfield 39, 3) := by decide +kernel
theorem dX12_layParties_40 : decode cX12_layParties 40 = .ok (.iload 4, 2) := by decide +kernel
theorem dX12_layParties_42 : decode cX12_layParties 42 = .ok (.iaload, 1) := by decide +kernel
theorem dX12_layParties_43 : decode cX12_layParties 43 = .ok (.aload_n 0, 1) := by decide +kernel
theorem dX12_layParties_44 : decode cX12_layParties 44 = .ok (.invokevirtual 64, 3) := by decide +kernel
theorem dX12_layParties_47 : decode cX12_layParties 47 = .ok (.if_icmp .ne 42, 3) := by decide +kernel
theorem dX12_layParties_50 : decode cX12_layParties 50 = .ok (.iload 4, 2) := by decide +kernel
theorem dX12_layParties_52 : decode cX12_layParties 52 = .ok (.iload_n 3, 1) := by decide +kernel
theorem dX12_layParties_53 : decode cX12_layParties 53 = .ok (.if_icmp .ne 7, 3) := by decide +kernel
theorem dX12_layParties_56 : decode cX12_layParties 56 = .ok (.iconst 1, 1) := by decide +kernel
theorem dX12_layParties_57 : decode cX12_layParties 57 = .ok (.goto 10, 3) := by decide +kernel
theorem dX12_layParties_60 : decode cX12_layParties 60 = .ok (.aload_n 0, 1) := by decide +kernel
theorem dX12_layParties_61 : decode cX12_layParties 61 = .ok (.getfield 42, 3) := by decide +kernel
theorem dX12_layParties_64 : decode cX12_layParties 64 = .ok (.iload 4, 2) := by decide +kernel
theorem dX12_layParties_66 : decode cX12_layParties 66 = .ok (.iaload, 1) := by decide +kernel
theorem dX12_layParties_67 : decode cX12_layParties 67 = .ok (.istore 5, 2) := by decide +kernel
theorem dX12_layParties_69 : decode cX12_layParties 69 = .ok (.iinc 4 (-1), 3) := by decide +kernel
theorem dX12_layParties_72 : decode cX12_layParties 72 = .ok (.aload_n 0, 1) := by decide +kernel
theorem dX12_layParties_73 : decode cX12_layParties 73 = .ok (.iload 4, 2) := by decide +kernel
theorem dX12_layParties_75 : decode cX12_layParties 75 = .ok (.invokevirtual 203, 3) := by decide +kernel
theorem dX12_layParties_78 : decode cX12_layParties 78 = .ok (.aload_n 0, 1) := by decide +kernel
theorem dX12_layParties_79 : decode cX12_layParties 79 = .ok (.iload 4, 2) := by decide +kernel
theorem dX12_layParties_81 : decode cX12_layParties 81 = .ok (.iload 5, 2) := by decide +kernel
theorem dX12_layParties_83 : decode cX12_layParties 83 = .ok (.invokevirtual 206, 3) := by decide +kernel
theorem dX12_layParties_86 : decode cX12_layParties 86 = .ok (.goto (-74), 3) := by decide +kernel
theorem dX12_layParties_89 : decode cX12_layParties 89 = .ok (.aload_n 0, 1) := by decide +kernel
theorem dX12_layParties_90 : decode cX12_layParties 90 = .ok (.aload_n 0, 1) := by decide +kernel
theorem dX12_layParties_91 : decode cX12_layParties 91 = .ok (.getfield 39, 3) := by decide +kernel
theorem dX12_layParties_94 : decode cX12_layParties 94 = .ok (.iload 4, 2) := by decide +kernel
theorem dX12_layParties_96 : decode cX12_layParties 96 = .ok (.iaload, 1) := by decide +kernel
theorem dX12_layParties_97 : decode cX12_layParties 97 = .ok (.iload_n 1, 1) := by decide +kernel
theorem dX12_layParties_98 : decode cX12_layParties 98 = .ok (.iload_n 2, 1) := by decide +kernel
theorem dX12_layParties_99 : decode cX12_layParties 99 = .ok (.invokevirtual 210, 3) := by decide +kernel
theorem dX12_layParties_102 : decode cX12_layParties 102 = .ok (.aload_n 0, 1) := by decide +kernel
theorem dX12_layParties_103 : decode cX12_layParties 103 = .ok (.getfield 196, 3) := by decide +kernel
theorem dX12_layParties_106 : decode cX12_layParties 106 = .ok (.iconst (-1), 1) := by decide +kernel
theorem dX12_layParties_107 : decode cX12_layParties 107 = .ok (.if_icmp .eq 31, 3) := by decide +kernel
theorem dX12_layParties_110 : decode cX12_layParties 110 = .ok (.aload_n 0, 1) := by decide +kernel
theorem dX12_layParties_111 : decode cX12_layParties 111 = .ok (.iload 4, 2) := by decide +kernel
theorem dX12_layParties_113 : decode cX12_layParties 113 = .ok (.invokevirtual 203, 3) := by decide +kernel
theorem dX12_layParties_116 : decode cX12_layParties 116 = .ok (.aload_n 0, 1) := by decide +kernel
theorem dX12_layParties_117 : decode cX12_layParties 117 = .ok (.iload 4, 2) := by decide +kernel
theorem dX12_layParties_119 : decode cX12_layParties 119 = .ok (.aload_n 0, 1) := by decide +kernel
theorem dX12_layParties_120 : decode cX12_layParties 120 = .ok (.getfield 196, 3) := by decide +kernel
theorem dX12_layParties_123 : decode cX12_layParties 123 = .ok (.iload_n 1, 1) := by decide +kernel
theorem dX12_layParties_124 : decode cX12_layParties 124 = .ok (.if_icmp .ne 7, 3) := by decide +kernel
theorem dX12_layParties_127 : decode cX12_layParties 127 = .ok (.iconst 2, 1) := by decide +kernel
theorem dX12_layParties_128 : decode cX12_layParties 128 = .ok (.goto 4, 3) := by decide +kernel
theorem dX12_layParties_131 : decode cX12_layParties 131 = .ok (.iconst 0, 1) := by decide +kernel
theorem dX12_layParties_132 : decode cX12_layParties 132 = .ok (.invokevirtual 206, 3) := by decide +kernel
theorem dX12_layParties_135 : decode cX12_layParties 135 = .ok (.goto (-123), 3) := by decide +kernel
theorem dX12_layParties_138 : decode cX12_layParties 138 = .ok (.iinc 4 1, 3) := by decide +kernel
theorem dX12_layParties_141 : decode cX12_layParties 141 = .ok (.aload_n 0, 1) := by decide +kernel
theorem dX12_layParties_142 : decode cX12_layParties 142 = .ok (.iload 4, 2) := by decide +kernel
theorem dX12_layParties_144 : decode cX12_layParties 144 = .ok (.invokevirtual 199, 3) := by decide +kernel
theorem dX12_layParties_147 : decode cX12_layParties 147 = .ok (.goto (-135), 3) := by decide +kernel
theorem dX12_layParties_150 : decode cX12_layParties 150 = .ok (.aload_n 0, 1) := by decide +kernel
theorem dX12_layParties_151 : decode cX12_layParties 151 = .ok (.getfield 42, 3) := by decide +kernel
theorem dX12_layParties_154 : decode cX12_layParties 154 = .ok (.iconst 0, 1) := by decide +kernel
theorem dX12_layParties_155 : decode cX12_layParties 155 = .ok (.iaload, 1) := by decide +kernel
theorem dX12_layParties_156 : decode cX12_layParties 156 = .ok (.ireturn, 1) := by decide +kernel
theorem dX12_parties_0 : decode cX12_parties 0 = .ok (.aload_n 0, 1) := by decide +kernel
theorem dX12_parties_1 : decode cX12_parties 1 = .ok (.iload_n 1, 1) := by decide +kernel
theorem dX12_parties_2 : decode cX12_parties 2 = .ok (.invokevirtual 94, 3) := by decide +kernel
theorem dX12_parties_5 : decode cX12_parties 5 = .ok (.ifCond .eq 39, 3) := by decide +kernel
theorem dX12_parties_8 : decode cX12_parties 8 = .ok (.aload_n 0, 1) := by decide +kernel
theorem dX12_parties_9 : decode cX12_parties 9 = .ok (.iload_n 2, 1) := by decide +kernel
theorem dX12_parties_10 : decode cX12_parties 10 = .ok (.invokevirtual 94, 3) := by decide +kernel
theorem dX12_parties_13 : decode cX12_parties 13 = .ok (.ifCond .eq 31, 3) := by decide +kernel
theorem dX12_parties_16 : decode cX12_parties 16 = .ok (.iload_n 1, 1) := by decide +kernel
theorem dX12_parties_17 : decode cX12_parties 17 = .ok (.iload_n 2, 1) := by decide +kernel
theorem dX12_parties_18 : decode cX12_parties 18 = .ok (.if_icmp .eq 26, 3) := by decide +kernel
theorem dX12_parties_21 : decode cX12_parties 21 = .ok (.iload_n 3, 1) := by decide +kernel
theorem dX12_parties_22 : decode cX12_parties 22 = .ok (.i2l, 1) := by decide +kernel
theorem dX12_parties_23 : decode cX12_parties 23 = .ok (.lconst 1, 1) := by decide +kernel
theorem dX12_parties_24 : decode cX12_parties 24 = .ok (.ldc2_w 178, 3) := by decide +kernel
theorem dX12_parties_27 : decode cX12_parties 27 = .ok (.invokestatic 68, 3) := by decide +kernel
theorem dX12_parties_30 : decode cX12_parties 30 = .ok (.ifCond .eq 14, 3) := by decide +kernel
theorem dX12_parties_33 : decode cX12_parties 33 = .ok (.iload 4, 2) := by decide +kernel
theorem dX12_parties_35 : decode cX12_parties 35 = .ok (.i2l, 1) := by decide +kernel
theorem dX12_parties_36 : decode cX12_parties 36 = .ok (.lconst 0, 1) := by decide +kernel
theorem dX12_parties_37 : decode cX12_parties 37 = .ok (.lconst 1, 1) := by decide +kernel
theorem dX12_parties_38 : decode cX12_parties 38 = .ok (.invokestatic 68, 3) := by decide +kernel
theorem dX12_parties_41 : decode cX12_parties 41 = .ok (.ifCond .ne 10, 3) := by decide +kernel
theorem dX12_parties_44 : decode cX12_parties 44 = .ok (.aload_n 0, 1) := by decide +kernel
theorem dX12_parties_45 : decode cX12_parties 45 = .ok (.bipush (-10), 2) := by decide +kernel
theorem dX12_parties_47 : decode cX12_parties 47 = .ok (.invokevirtual 81, 3) := by decide +kernel
theorem dX12_parties_50 : decode cX12_parties 50 = .ok (.ireturn, 1) := by decide +kernel
theorem dX12_parties_51 : decode cX12_parties 51 = .ok (.aload_n 0, 1) := by decide +kernel
theorem dX12_parties_52 : decode cX12_parties 52 = .ok (.iload_n 1, 1) := by decide +kernel
theorem dX12_parties_53 : decode cX12_parties 53 = .ok (.iload_n 2, 1) := by decide +kernel
theorem dX12_parties_54 : decode cX12_parties 54 = .ok (.iload_n 3, 1) := by decide +kernel
theorem dX12_parties_55 : decode cX12_parties 55 = .ok (.invokevirtual 213, 3) := by decide +kernel
theorem dX12_parties_58 : decode cX12_parties 58 = .ok (.istore 5, 2) := by decide +kernel
theorem dX12_parties_60 : decode cX12_parties 60 = .ok (.iload 4, 2) := by decide +kernel
theorem dX12_parties_62 : decode cX12_parties 62 = .ok (.ifCond .ne 8, 3) := by decide +kernel
theorem dX12_parties_65 : decode cX12_parties 65 = .ok (.iload 5, 2) := by decide +kernel
theorem dX12_parties_67 : decode cX12_parties 67 = .ok (.goto 7, 3) := by decide +kernel
theorem dX12_parties_70 : decode cX12_parties 70 = .ok (.aload_n 0, 1) := by decide +kernel
theorem dX12_parties_71 : decode cX12_parties 71 = .ok (.getfield 193, 3) := by decide +kernel
theorem dX12_parties_74 : decode cX12_parties 74 = .ok (.ireturn, 1) := by decide +kernel
theorem dX12_seen_0 : decode cX12_seen 0 = .ok (.iload_n 1, 1) := by decide +kernel
theorem dX12_seen_1 : decode cX12_seen 1 = .ok (.i2l, 1) := by decide +kernel
theorem dX12_seen_2 : decode cX12_seen 2 = .ok (.lconst 0, 1) := by decide +kernel
theorem dX12_seen_3 : decode cX12_seen 3 = .ok (.ldc2_w 216, 3) := by decide +kernel
theorem dX12_seen_6 : decode cX12_seen 6 = .ok (.invokestatic 68, 3) := by decide +kernel
theorem dX12_seen_9 : decode cX12_seen 9 = .ok (.ifCond .eq 13, 3) := by decide +kernel
theorem dX12_seen_12 : decode cX12_seen 12 = .ok (.iload_n 2, 1) := by decide +kernel
theorem dX12_seen_13 : decode cX12_seen 13 = .ok (.i2l, 1) := by decide +kernel
theorem dX12_seen_14 : decode cX12_seen 14 = .ok (.lconst 0, 1) := by decide +kernel
theorem dX12_seen_15 : decode cX12_seen 15 = .ok (.lconst 1, 1) := by decide +kernel
theorem dX12_seen_16 : decode cX12_seen 16 = .ok (.invokestatic 68, 3) := by decide +kernel
theorem dX12_seen_19 : decode cX12_seen 19 = .ok (.ifCond .ne 10, 3) := by decide +kernel
theorem dX12_seen_22 : decode cX12_seen 22 = .ok (.aload_n 0, 1) := by decide +kernel
theorem dX12_seen_23 : decode cX12_seen 23 = .ok (.bipush (-2), 2) := by decide +kernel
theorem dX12_seen_25 : decode cX12_seen 25 = .ok (.invokevirtual 81, 3) := by decide +kernel
theorem dX12_seen_28 : decode cX12_seen 28 = .ok (.ireturn, 1) := by decide +kernel
theorem dX12_seen_29 : decode cX12_seen 29 = .ok (.aload_n 0, 1) := by decide +kernel
theorem dX12_seen_30 : decode cX12_seen 30 = .ok (.getfield 7, 3) := by decide +kernel
theorem dX12_seen_33 : decode cX12_seen 33 = .ok (.iconst 3, 1) := by decide +kernel
theorem dX12_seen_34 : decode cX12_seen 34 = .ok (.iaload, 1) := by decide +kernel
theorem dX12_seen_35 : decode cX12_seen 35 = .ok (.bipush 6, 2) := by decide +kernel
theorem dX12_seen_37 : decode cX12_seen 37 = .ok (.if_icmp .ne 8, 3) := by decide +kernel
theorem dX12_seen_40 : decode cX12_seen 40 = .ok (.aload_n 0, 1) := by decide +kernel
theorem dX12_seen_41 : decode cX12_seen 41 = .ok (.invokevirtual 85, 3) := by decide +kernel
theorem dX12_seen_44 : decode cX12_seen 44 = .ok (.ireturn, 1) := by decide +kernel
theorem dX12_seen_45 : decode cX12_seen 45 = .ok (.aload_n 0, 1) := by decide +kernel
theorem dX12_seen_46 : decode cX12_seen 46 = .ok (.getfield 7, 3) := by decide +kernel
theorem dX12_seen_49 : decode cX12_seen 49 = .ok (.bipush 57, 2) := by decide +kernel
theorem dX12_seen_51 : decode cX12_seen 51 = .ok (.iconst 2, 1) := by decide +kernel
theorem dX12_seen_52 : decode cX12_seen 52 = .ok (.aload_n 0, 1) := by decide +kernel
theorem dX12_seen_53 : decode cX12_seen 53 = .ok (.getfield 7, 3) := by decide +kernel
theorem dX12_seen_56 : decode cX12_seen 56 = .ok (.iconst 3, 1) := by decide +kernel
theorem dX12_seen_57 : decode cX12_seen 57 = .ok (.iaload, 1) := by decide +kernel
theorem dX12_seen_58 : decode cX12_seen 58 = .ok (.imul, 1) := by decide +kernel
theorem dX12_seen_59 : decode cX12_seen 59 = .ok (.iadd, 1) := by decide +kernel
theorem dX12_seen_60 : decode cX12_seen 60 = .ok (.iload_n 1, 1) := by decide +kernel
theorem dX12_seen_61 : decode cX12_seen 61 = .ok (.iastore, 1) := by decide +kernel
theorem dX12_seen_62 : decode cX12_seen 62 = .ok (.aload_n 0, 1) := by decide +kernel
theorem dX12_seen_63 : decode cX12_seen 63 = .ok (.getfield 7, 3) := by decide +kernel
theorem dX12_seen_66 : decode cX12_seen 66 = .ok (.bipush 57, 2) := by decide +kernel
theorem dX12_seen_68 : decode cX12_seen 68 = .ok (.iconst 2, 1) := by decide +kernel
theorem dX12_seen_69 : decode cX12_seen 69 = .ok (.aload_n 0, 1) := by decide +kernel
theorem dX12_seen_70 : decode cX12_seen 70 = .ok (.getfield 7, 3) := by decide +kernel
theorem dX12_seen_73 : decode cX12_seen 73 = .ok (.iconst 3, 1) := by decide +kernel
theorem dX12_seen_74 : decode cX12_seen 74 = .ok (.iaload, 1) := by decide +kernel
theorem dX12_seen_75 : decode cX12_seen 75 = .ok (.imul, 1) := by decide +kernel
theorem dX12_seen_76 : decode cX12_seen 76 = .ok (.iadd, 1) := by decide +kernel
theorem dX12_seen_77 : decode cX12_seen 77 = .ok (.iconst 1, 1) := by decide +kernel
theorem dX12_seen_78 : decode cX12_seen 78 = .ok (.iadd, 1) := by decide +kernel
theorem dX12_seen_79 : decode cX12_seen 79 = .ok (.iload_n 2, 1) := by decide +kernel
theorem dX12_seen_80 : decode cX12_seen 80 = .ok (.iastore, 1) := by decide +kernel
theorem dX12_seen_81 : decode cX12_seen 81 = .ok (.aload_n 0, 1) := by decide +kernel
theorem dX12_seen_82 : decode cX12_seen 82 = .ok (.getfield 7, 3) := by decide +kernel
theorem dX12_seen_85 : decode cX12_seen 85 = .ok (.iconst 3, 1) := by decide +kernel
theorem dX12_seen_86 : decode cX12_seen 86 = .ok (.dup2, 1) := by decide +kernel
theorem dX12_seen_87 : decode cX12_seen 87 = .ok (.iaload, 1) := by decide +kernel
theorem dX12_seen_88 : decode cX12_seen 88 = .ok (.iconst 1, 1) := by decide +kernel
theorem dX12_seen_89 : decode cX12_seen 89 = .ok (.iadd, 1) := by decide +kernel
theorem dX12_seen_90 : decode cX12_seen 90 = .ok (.iastore, 1) := by decide +kernel
theorem dX12_seen_91 : decode cX12_seen 91 = .ok (.aload_n 0, 1) := by decide +kernel
theorem dX12_seen_92 : decode cX12_seen 92 = .ok (.getfield 7, 3) := by decide +kernel
theorem dX12_seen_95 : decode cX12_seen 95 = .ok (.iconst 3, 1) := by decide +kernel
theorem dX12_seen_96 : decode cX12_seen 96 = .ok (.iaload, 1) := by decide +kernel
theorem dX12_seen_97 : decode cX12_seen 97 = .ok (.ireturn, 1) := by decide +kernel
theorem dX12_forget_0 : decode cX12_forget 0 = .ok (.aload_n 0, 1) := by decide +kernel
theorem dX12_forget_1 : decode cX12_forget 1 = .ok (.getfield 7, 3) := by decide +kernel
theorem dX12_forget_4 : decode cX12_forget 4 = .ok (.iconst 3, 1) := by decide +kernel
theorem dX12_forget_5 : decode cX12_forget 5 = .ok (.iaload, 1) := by decide +kernel
theorem dX12_forget_6 : decode cX12_forget 6 = .ok (.istore_n 1, 1) := by decide +kernel
theorem dX12_forget_7 : decode cX12_forget 7 = .ok (.aload_n 0, 1) := by decide +kernel
theorem dX12_forget_8 : decode cX12_forget 8 = .ok (.getfield 7, 3) := by decide +kernel
theorem dX12_forget_11 : decode cX12_forget 11 = .ok (.iconst 3, 1) := by decide +kernel
theorem dX12_forget_12 : decode cX12_forget 12 = .ok (.iconst 0, 1) := by decide +kernel
theorem dX12_forget_13 : decode cX12_forget 13 = .ok (.iastore, 1) := by decide +kernel
theorem dX12_forget_14 : decode cX12_forget 14 = .ok (.iload_n 1, 1) := by decide +kernel
theorem dX12_forget_15 : decode cX12_forget 15 = .ok (.ireturn, 1) := by decide +kernel
theorem dX12_canHold_0 : decode cX12_canHold 0 = .ok (.iconst 1, 1) := by decide +kernel
theorem dX12_canHold_1 : decode cX12_canHold 1 = .ok (.istore_n 2, 1) := by decide +kernel
theorem dX12_canHold_2 : decode cX12_canHold 2 = .ok (.iconst 0, 1) := by decide +kernel
theorem dX12_canHold_3 : decode cX12_canHold 3 = .ok (.istore_n 3, 1) := by decide +kernel
theorem dX12_canHold_4 : decode cX12_canHold 4 = .ok (.iload_n 3, 1) := by decide +kernel
theorem dX12_canHold_5 : decode cX12_canHold 5 = .ok (.aload_n 0, 1) := by decide +kernel
theorem dX12_canHold_6 : decode cX12_canHold 6 = .ok (.getfield 7, 3) := by decide +kernel
theorem dX12_canHold_9 : decode cX12_canHold 9 = .ok (.iconst 3, 1) := by decide +kernel
theorem dX12_canHold_10 : decode cX12_canHold 10 = .ok (.iaload, 1) := by decide +kernel
theorem dX12_canHold_11 : decode cX12_canHold 11 = .ok (.if_icmp .ge 68, 3) := by decide +kernel
theorem dX12_canHold_14 : decode cX12_canHold 14 = .ok (.iload_n 1, 1) := by decide +kernel
theorem dX12_canHold_15 : decode cX12_canHold 15 = .ok (.aload_n 0, 1) := by decide +kernel
theorem dX12_canHold_16 : decode cX12_canHold 16 = .ok (.getfield 7, 3) := by decide +kernel
theorem dX12_canHold_19 : decode cX12_canHold 19 = .ok (.bipush 57, 2) := by decide +kernel
theorem dX12_canHold_21 : decode cX12_canHold 21 = .ok (.iconst 2, 1) := by decide +kernel
theorem dX12_canHold_22 : decode cX12_canHold 22 = .ok (.iload_n 3, 1) := by decide +kernel
theorem dX12_canHold_23 : decode cX12_canHold 23 = .ok (.imul, 1) := by decide +kernel
theorem dX12_canHold_24 : decode cX12_canHold 24 = .ok (.iadd, 1) := by decide +kernel
theorem dX12_canHold_25 : decode cX12_canHold 25 = .ok (.iaload, 1) := by decide +kernel
theorem dX12_canHold_26 : decode cX12_canHold 26 = .ok (.if_icmp .lt 7, 3) := by decide +kernel
theorem dX12_canHold_29 : decode cX12_canHold 29 = .ok (.iconst 1, 1) := by decide +kernel
theorem dX12_canHold_30 : decode cX12_canHold 30 = .ok (.goto 4, 3) := by decide +kernel
theorem dX12_canHold_33 : decode cX12_canHold 33 = .ok (.iconst 0, 1) := by decide +kernel
theorem dX12_canHold_34 : decode cX12_canHold 34 = .ok (.istore 4, 2) := by decide +kernel
theorem dX12_canHold_36 : decode cX12_canHold 36 = .ok (.iload_n 2, 1) := by decide +kernel
theorem dX12_canHold_37 : decode cX12_canHold 37 = .ok (.ifCond .eq 34, 3) := by decide +kernel
theorem dX12_canHold_40 : decode cX12_canHold 40 = .ok (.iload 4, 2) := by decide +kernel
theorem dX12_canHold_42 : decode cX12_canHold 42 = .ok (.aload_n 0, 1) := by decide +kernel
theorem dX12_canHold_43 : decode cX12_canHold 43 = .ok (.getfield 7, 3) := by decide +kernel
theorem dX12_canHold_46 : decode cX12_canHold 46 = .ok (.bipush 57, 2) := by decide +kernel
theorem dX12_canHold_48 : decode cX12_canHold 48 = .ok (.iconst 2, 1) := by decide +kernel
theorem dX12_canHold_49 : decode cX12_canHold 49 = .ok (.iload_n 3, 1) := by decide +kernel
theorem dX12_canHold_50 : decode cX12_canHold 50 = .ok (.imul, 1) := by decide +kernel
theorem dX12_canHold_51 : decode cX12_canHold 51 = .ok (.iadd, 1) := by decide +kernel
theorem dX12_canHold_52 : decode cX12_canHold 52 = .ok (.iconst 1, 1) := by decide +kernel
theorem dX12_canHold_53 : decode cX12_canHold 53 = .ok (.iadd, 1) := by decide +kernel
theorem dX12_canHold_54 : decode cX12_canHold 54 = .ok (.iaload, 1) := by decide +kernel
theorem dX12_canHold_55 : decode cX12_canHold 55 = .ok (.iconst 1, 1) := by decide +kernel
theorem dX12_canHold_56 : decode cX12_canHold 56 = .ok (.if_icmp .ne 7, 3) := by decide +kernel
theorem dX12_canHold_59 : decode cX12_canHold 59 = .ok (.iconst 1, 1) := by decide +kernel
theorem dX12_canHold_60 : decode cX12_canHold 60 = .ok (.goto 4, 3) := by decide +kernel
theorem dX12_canHold_63 : decode cX12_canHold 63 = .ok (.iconst 0, 1) := by decide +kernel
theorem dX12_canHold_64 : decode cX12_canHold 64 = .ok (.if_icmp .ne 7, 3) := by decide +kernel
theorem dX12_canHold_67 : decode cX12_canHold 67 = .ok (.iconst 1, 1) := by decide +kernel
theorem dX12_canHold_68 : decode cX12_canHold 68 = .ok (.goto 4, 3) := by decide +kernel
theorem dX12_canHold_71 : decode cX12_canHold 71 = .ok (.iconst 0, 1) := by decide +kernel
theorem dX12_canHold_72 : decode cX12_canHold 72 = .ok (.istore_n 2, 1) := by decide +kernel
theorem dX12_canHold_73 : decode cX12_canHold 73 = .ok (.iinc 3 1, 3) := by decide +kernel
theorem dX12_canHold_76 : decode cX12_canHold 76 = .ok (.goto (-72), 3) := by decide +kernel
theorem dX12_canHold_79 : decode cX12_canHold 79 = .ok (.iload_n 2, 1) := by decide +kernel
theorem dX12_canHold_80 : decode cX12_canHold 80 = .ok (.ireturn, 1) := by decide +kernel
theorem dX12_manyFrom_0 : decode cX12_manyFrom 0 = .ok (.iconst 0, 1) := by decide +kernel
theorem dX12_manyFrom_1 : decode cX12_manyFrom 1 = .ok (.istore_n 2, 1) := by decide +kernel
theorem dX12_manyFrom_2 : decode cX12_manyFrom 2 = .ok (.iconst 1, 1) := by decide +kernel
theorem dX12_manyFrom_3 : decode cX12_manyFrom 3 = .ok (.istore_n 3, 1) := by decide +kernel
theorem dX12_manyFrom_4 : decode cX12_manyFrom 4 = .ok (.iload_n 3, 1) := by decide +kernel
theorem dX12_manyFrom_5 : decode cX12_manyFrom 5 = .ok (.bipush 60, 2) := by decide +kernel
theorem dX12_manyFrom_7 : decode cX12_manyFrom 7 = .ok (.if_icmp .gt 30, 3) := by decide +kernel
theorem dX12_manyFrom_10 : decode cX12_manyFrom 10 = .ok (.iload_n 2, 1) := by decide +kernel
theorem dX12_manyFrom_11 : decode cX12_manyFrom 11 = .ok (.iload_n 3, 1) := by decide +kernel
theorem dX12_manyFrom_12 : decode cX12_manyFrom 12 = .ok (.iload_n 1, 1) := by decide +kernel
theorem dX12_manyFrom_13 : decode cX12_manyFrom 13 = .ok (.if_icmp .lt 15, 3) := by decide +kernel
theorem dX12_manyFrom_16 : decode cX12_manyFrom 16 = .ok (.aload_n 0, 1) := by decide +kernel
theorem dX12_manyFrom_17 : decode cX12_manyFrom 17 = .ok (.iload_n 3, 1) := by decide +kernel
theorem dX12_manyFrom_18 : decode cX12_manyFrom 18 = .ok (.invokevirtual 218, 3) := by decide +kernel
theorem dX12_manyFrom_21 : decode cX12_manyFrom 21 = .ok (.ifCond .eq 7, 3) := by decide +kernel
theorem dX12_manyFrom_24 : decode cX12_manyFrom 24 = .ok (.iconst 1, 1) := by decide +kernel
theorem dX12_manyFrom_25 : decode cX12_manyFrom 25 = .ok (.goto 4, 3) := by decide +kernel
theorem dX12_manyFrom_28 : decode cX12_manyFrom 28 = .ok (.iconst 0, 1) := by decide +kernel
theorem dX12_manyFrom_29 : decode cX12_manyFrom 29 = .ok (.iadd, 1) := by decide +kernel
theorem dX12_manyFrom_30 : decode cX12_manyFrom 30 = .ok (.istore_n 2, 1) := by decide +kernel
theorem dX12_manyFrom_31 : decode cX12_manyFrom 31 = .ok (.iinc 3 1, 3) := by decide +kernel
theorem dX12_manyFrom_34 : decode cX12_manyFrom 34 = .ok (.goto (-30), 3) := by decide +kernel
theorem dX12_manyFrom_37 : decode cX12_manyFrom 37 = .ok (.iload_n 2, 1) := by decide +kernel
theorem dX12_manyFrom_38 : decode cX12_manyFrom 38 = .ok (.ireturn, 1) := by decide +kernel
theorem dX12_leastHold_0 : decode cX12_leastHold 0 = .ok (.iconst 1, 1) := by decide +kernel
theorem dX12_leastHold_1 : decode cX12_leastHold 1 = .ok (.istore_n 1, 1) := by decide +kernel
theorem dX12_leastHold_2 : decode cX12_leastHold 2 = .ok (.iload_n 1, 1) := by decide +kernel
theorem dX12_leastHold_3 : decode cX12_leastHold 3 = .ok (.bipush 60, 2) := by decide +kernel
theorem dX12_leastHold_5 : decode cX12_leastHold 5 = .ok (.if_icmp .gt 19, 3) := by decide +kernel
theorem dX12_leastHold_8 : decode cX12_leastHold 8 = .ok (.aload_n 0, 1) := by decide +kernel
theorem dX12_leastHold_9 : decode cX12_leastHold 9 = .ok (.iload_n 1, 1) := by decide +kernel
theorem dX12_leastHold_10 : decode cX12_leastHold 10 = .ok (.invokevirtual 218, 3) := by decide +kernel
theorem dX12_leastHold_13 : decode cX12_leastHold 13 = .ok (.ifCond .eq 5, 3) := by decide +kernel
theorem dX12_leastHold_16 : decode cX12_leastHold 16 = .ok (.iload_n 1, 1) := by decide +kernel
theorem dX12_leastHold_17 : decode cX12_leastHold 17 = .ok (.ireturn, 1) := by decide +kernel
theorem dX12_leastHold_18 : decode cX12_leastHold 18 = .ok (.iinc 1 1, 3) := by decide +kernel
theorem dX12_leastHold_21 : decode cX12_leastHold 21 = .ok (.goto (-19), 3) := by decide +kernel
theorem dX12_leastHold_24 : decode cX12_leastHold 24 = .ok (.iconst (-1), 1) := by decide +kernel
theorem dX12_leastHold_25 : decode cX12_leastHold 25 = .ok (.ireturn, 1) := by decide +kernel
theorem dX12_hold_0 : decode cX12_hold 0 = .ok (.iload_n 1, 1) := by decide +kernel
theorem dX12_hold_1 : decode cX12_hold 1 = .ok (.i2l, 1) := by decide +kernel
theorem dX12_hold_2 : decode cX12_hold 2 = .ok (.lconst 0, 1) := by decide +kernel
theorem dX12_hold_3 : decode cX12_hold 3 = .ok (.lconst 1, 1) := by decide +kernel
theorem dX12_hold_4 : decode cX12_hold 4 = .ok (.invokestatic 68, 3) := by decide +kernel
theorem dX12_hold_7 : decode cX12_hold 7 = .ok (.ifCond .ne 12, 3) := by decide +kernel
theorem dX12_hold_10 : decode cX12_hold 10 = .ok (.aload_n 0, 1) := by decide +kernel
theorem dX12_hold_11 : decode cX12_hold 11 = .ok (.bipush (-10), 2) := by decide +kernel
theorem dX12_hold_13 : decode cX12_hold 13 = .ok (.invokevirtual 81, 3) := by decide +kernel
theorem dX12_hold_16 : decode cX12_hold 16 = .ok (.goto 19, 3) := by decide +kernel
theorem dX12_hold_19 : decode cX12_hold 19 = .ok (.iload_n 1, 1) := by decide +kernel
theorem dX12_hold_20 : decode cX12_hold 20 = .ok (.ifCond .ne 11, 3) := by decide +kernel
theorem dX12_hold_23 : decode cX12_hold 23 = .ok (.aload_n 0, 1) := by decide +kernel
theorem dX12_hold_24 : decode cX12_hold 24 = .ok (.iconst 0, 1) := by decide +kernel
theorem dX12_hold_25 : decode cX12_hold 25 = .ok (.invokevirtual 221, 3) := by decide +kernel
theorem dX12_hold_28 : decode cX12_hold 28 = .ok (.goto 7, 3) := by decide +kernel
theorem dX12_hold_31 : decode cX12_hold 31 = .ok (.aload_n 0, 1) := by decide +kernel
theorem dX12_hold_32 : decode cX12_hold 32 = .ok (.invokevirtual 224, 3) := by decide +kernel
theorem dX12_hold_35 : decode cX12_hold 35 = .ok (.ireturn, 1) := by decide +kernel
theorem dX12_stick_0 : decode cX12_stick 0 = .ok (.aload_n 0, 1) := by decide +kernel
theorem dX12_stick_1 : decode cX12_stick 1 = .ok (.iconst 0, 1) := by decide +kernel
theorem dX12_stick_2 : decode cX12_stick 2 = .ok (.invokevirtual 221, 3) := by decide +kernel
theorem dX12_stick_5 : decode cX12_stick 5 = .ok (.istore_n 1, 1) := by decide +kernel
theorem dX12_stick_6 : decode cX12_stick 6 = .ok (.iconst (-1), 1) := by decide +kernel
theorem dX12_stick_7 : decode cX12_stick 7 = .ok (.istore_n 2, 1) := by decide +kernel
theorem dX12_stick_8 : decode cX12_stick 8 = .ok (.ldc 227, 2) := by decide +kernel
theorem dX12_stick_10 : decode cX12_stick 10 = .ok (.istore_n 3, 1) := by decide +kernel
theorem dX12_stick_11 : decode cX12_stick 11 = .ok (.iconst 0, 1) := by decide +kernel
theorem dX12_stick_12 : decode cX12_stick 12 = .ok (.istore 4, 2) := by decide +kernel
theorem dX12_stick_14 : decode cX12_stick 14 = .ok (.iload 4, 2) := by decide +kernel
theorem dX12_stick_16 : decode cX12_stick 16 = .ok (.bipush 60, 2) := by decide +kernel
theorem dX12_stick_18 : decode cX12_stick 18 = .ok (.if_icmp .gt 67, 3) := by decide +kernel
theorem dX12_stick_21 : decode cX12_stick 21 = .ok (.iload_n 1, 1) := by decide +kernel
theorem dX12_stick_22 : decode cX12_stick 22 = .ok (.ifCond .le 63, 3) := by decide +kernel
theorem dX12_stick_25 : decode cX12_stick 25 = .ok (.aload_n 0, 1) := by decide +kernel
theorem dX12_stick_26 : decode cX12_stick 26 = .ok (.iload 4, 2) := by decide +kernel
theorem dX12_stick_28 : decode cX12_stick 28 = .ok (.invokevirtual 221, 3) := by decide +kernel
theorem dX12_stick_31 : decode cX12_stick 31 = .ok (.istore 5, 2) := by decide +kernel
theorem dX12_stick_33 : decode cX12_stick 33 = .ok (.iload 5, 2) := by decide +kernel
theorem dX12_stick_35 : decode cX12_stick 35 = .ok (.iload_n 1, 1) := by decide +kernel
theorem dX12_stick_36 : decode cX12_stick 36 = .ok (.iload 5, 2) := by decide +kernel
theorem dX12_stick_38 : decode cX12_stick 38 = .ok (.isub, 1) := by decide +kernel
theorem dX12_stick_39 : decode cX12_stick 39 = .ok (.if_icmp .le 8, 3) := by decide +kernel
theorem dX12_stick_42 : decode cX12_stick 42 = .ok (.iload 5, 2) := by decide +kernel
theorem dX12_stick_44 : decode cX12_stick 44 = .ok (.goto 7, 3) := by decide +kernel
theorem dX12_stick_47 : decode cX12_stick 47 = .ok (.iload_n 1, 1) := by decide +kernel
theorem dX12_stick_48 : decode cX12_stick 48 = .ok (.iload 5, 2) := by decide +kernel
theorem dX12_stick_50 : decode cX12_stick 50 = .ok (.isub, 1) := by decide +kernel
theorem dX12_stick_51 : decode cX12_stick 51 = .ok (.istore 6, 2) := by decide +kernel
theorem dX12_stick_53 : decode cX12_stick 53 = .ok (.iload 6, 2) := by decide +kernel
theorem dX12_stick_55 : decode cX12_stick 55 = .ok (.iload_n 3, 1) := by decide +kernel
theorem dX12_stick_56 : decode cX12_stick 56 = .ok (.if_icmp .ge 8, 3) := by decide +kernel
theorem dX12_stick_59 : decode cX12_stick 59 = .ok (.iload 4, 2) := by decide +kernel
theorem dX12_stick_61 : decode cX12_stick 61 = .ok (.goto 4, 3) := by decide +kernel
theorem dX12_stick_64 : decode cX12_stick 64 = .ok (.iload_n 2, 1) := by decide +kernel
theorem dX12_stick_65 : decode cX12_stick 65 = .ok (.istore_n 2, 1) := by decide +kernel
theorem dX12_stick_66 : decode cX12_stick 66 = .ok (.iload 6, 2) := by decide +kernel
theorem dX12_stick_68 : decode cX12_stick 68 = .ok (.iload_n 3, 1) := by decide +kernel
theorem dX12_stick_69 : decode cX12_stick 69 = .ok (.if_icmp .ge 8, 3) := by decide +kernel
theorem dX12_stick_72 : decode cX12_stick 72 = .ok (.iload 6, 2) := by decide +kernel
theorem dX12_stick_74 : decode cX12_stick 74 = .ok (.goto 4, 3) := by decide +kernel
theorem dX12_stick_77 : decode cX12_stick 77 = .ok (.iload_n 3, 1) := by decide +kernel
theorem dX12_stick_78 : decode cX12_stick 78 = .ok (.istore_n 3, 1) := by decide +kernel
theorem dX12_stick_79 : decode cX12_stick 79 = .ok (.iinc 4 1, 3) := by decide +kernel
theorem dX12_stick_82 : decode cX12_stick 82 = .ok (.goto (-68), 3) := by decide +kernel
theorem dX12_stick_85 : decode cX12_stick 85 = .ok (.iload_n 2, 1) := by decide +kernel
theorem dX12_stick_86 : decode cX12_stick 86 = .ok (.ireturn, 1) := by decide +kernel
theorem dX12_is_0 : decode cX12_is 0 = .ok (.aload_n 0, 1) := by decide +kernel
theorem dX12_is_1 : decode cX12_is 1 = .ok (.iload_n 1, 1) := by decide +kernel
theorem dX12_is_2 : decode cX12_is 2 = .ok (.invokevirtual 155, 3) := by decide +kernel
theorem dX12_is_5 : decode cX12_is 5 = .ok (.ifCond .eq 23, 3) := by decide +kernel
theorem dX12_is_8 : decode cX12_is 8 = .ok (.aload_n 0, 1) := by decide +kernel
theorem dX12_is_9 : decode cX12_is 9 = .ok (.iload_n 2, 1) := by decide +kernel
theorem dX12_is_10 : decode cX12_is 10 = .ok (.invokevirtual 94, 3) := by decide +kernel
theorem dX12_is_13 : decode cX12_is 13 = .ok (.ifCond .eq 15, 3) := by decide +kernel
theorem dX12_is_16 : decode cX12_is 16 = .ok (.iload_n 3, 1) := by decide +kernel
theorem dX12_is_17 : decode cX12_is 17 = .ok (.i2l, 1) := by decide +kernel
theorem dX12_is_18 : decode cX12_is 18 = .ok (.lconst 1, 1) := by decide +kernel
theorem dX12_is_19 : decode cX12_is 19 = .ok (.ldc2_w 191, 3) := by decide +kernel
theorem dX12_is_22 : decode cX12_is 22 = .ok (.invokestatic 68, 3) := by decide +kernel
theorem dX12_is_25 : decode cX12_is 25 = .ok (.ifCond .ne 10, 3) := by decide +kernel
theorem dX12_is_28 : decode cX12_is 28 = .ok (.aload_n 0, 1) := by decide +kernel
theorem dX12_is_29 : decode cX12_is 29 = .ok (.bipush (-2), 2) := by decide +kernel
theorem dX12_is_31 : decode cX12_is 31 = .ok (.invokevirtual 81, 3) := by decide +kernel
theorem dX12_is_34 : decode cX12_is 34 = .ok (.ireturn, 1) := by decide +kernel
theorem dX12_is_35 : decode cX12_is 35 = .ok (.iconst 0, 1) := by decide +kernel
theorem dX12_is_36 : decode cX12_is 36 = .ok (.istore 4, 2) := by decide +kernel
theorem dX12_is_38 : decode cX12_is 38 = .ok (.aload_n 0, 1) := by decide +kernel
theorem dX12_is_39 : decode cX12_is 39 = .ok (.invokevirtual 161, 3) := by decide +kernel
theorem dX12_is_42 : decode cX12_is 42 = .ok (.iconst 0, 1) := by decide +kernel
theorem dX12_is_43 : decode cX12_is 43 = .ok (.istore 5, 2) := by decide +kernel
theorem dX12_is_45 : decode cX12_is 45 = .ok (.iload 5, 2) := by decide +kernel
theorem dX12_is_47 : decode cX12_is 47 = .ok (.bipush 6, 2) := by decide +kernel
theorem dX12_is_49 : decode cX12_is 49 = .ok (.if_icmp .ge 72, 3) := by decide +kernel
theorem dX12_is_52 : decode cX12_is 52 = .ok (.aload_n 0, 1) := by decide +kernel
theorem dX12_is_53 : decode cX12_is 53 = .ok (.iload 5, 2) := by decide +kernel
theorem dX12_is_55 : decode cX12_is 55 = .ok (.aload_n 0, 1) := by decide +kernel
theorem dX12_is_56 : decode cX12_is 56 = .ok (.iload_n 1, 1) := by decide +kernel
theorem dX12_is_57 : decode cX12_is 57 = .ok (.iconst 1, 1) := by decide +kernel
theorem dX12_is_58 : decode cX12_is 58 = .ok (.invokevirtual 136, 3) := by decide +kernel
theorem dX12_is_61 : decode cX12_is 61 = .ok (.aload_n 0, 1) := by decide +kernel
theorem dX12_is_62 : decode cX12_is 62 = .ok (.iload_n 1, 1) := by decide +kernel
theorem dX12_is_63 : decode cX12_is 63 = .ok (.iconst 2, 1) := by decide +kernel
theorem dX12_is_64 : decode cX12_is 64 = .ok (.invokevirtual 136, 3) := by decide +kernel
theorem dX12_is_67 : decode cX12_is 67 = .ok (.invokevirtual 139, 3) := by decide +kernel
theorem dX12_is_70 : decode cX12_is 70 = .ok (.iload_n 2, 1) := by decide +kernel
theorem dX12_is_71 : decode cX12_is 71 = .ok (.if_icmp .ne 23, 3) := by decide +kernel
theorem dX12_is_74 : decode cX12_is 74 = .ok (.aload_n 0, 1) := by decide +kernel
theorem dX12_is_75 : decode cX12_is 75 = .ok (.iload 5, 2) := by decide +kernel
theorem dX12_is_77 : decode cX12_is 77 = .ok (.aload_n 0, 1) := by decide +kernel
theorem dX12_is_78 : decode cX12_is 78 = .ok (.iload_n 1, 1) := by decide +kernel
theorem dX12_is_79 : decode cX12_is 79 = .ok (.iconst 2, 1) := by decide +kernel
theorem dX12_is_80 : decode cX12_is 80 = .ok (.invokevirtual 136, 3) := by decide +kernel
theorem dX12_is_83 : decode cX12_is 83 = .ok (.invokevirtual 129, 3) := by decide +kernel
theorem dX12_is_86 : decode cX12_is 86 = .ok (.iload_n 3, 1) := by decide +kernel
theorem dX12_is_87 : decode cX12_is 87 = .ok (.if_icmp .ne 7, 3) := by decide +kernel
theorem dX12_is_90 : decode cX12_is 90 = .ok (.iconst 1, 1) := by decide +kernel
theorem dX12_is_91 : decode cX12_is 91 = .ok (.goto 4, 3) := by decide +kernel
theorem dX12_is_94 : decode cX12_is 94 = .ok (.iconst 0, 1) := by decide +kernel
theorem dX12_is_95 : decode cX12_is 95 = .ok (.istore 6, 2) := by decide +kernel
theorem dX12_is_97 : decode cX12_is 97 = .ok (.iload 4, 2) := by decide +kernel
theorem dX12_is_99 : decode cX12_is 99 = .ok (.iload 6, 2) := by decide +kernel
theorem dX12_is_101 : decode cX12_is 101 = .ok (.ifCond .eq 10, 3) := by decide +kernel
theorem dX12_is_104 : decode cX12_is 104 = .ok (.iconst 1, 1) := by decide +kernel
theorem dX12_is_105 : decode cX12_is 105 = .ok (.iload 5, 2) := by decide +kernel
theorem dX12_is_107 : decode cX12_is 107 = .ok (.ishl, 1) := by decide +kernel
theorem dX12_is_108 : decode cX12_is 108 = .ok (.goto 4, 3) := by decide +kernel
theorem dX12_is_111 : decode cX12_is 111 = .ok (.iconst 0, 1) := by decide +kernel
theorem dX12_is_112 : decode cX12_is 112 = .ok (.ior, 1) := by decide +kernel
theorem dX12_is_113 : decode cX12_is 113 = .ok (.istore 4, 2) := by decide +kernel
theorem dX12_is_115 : decode cX12_is 115 = .ok (.iinc 5 1, 3) := by decide +kernel
theorem dX12_is_118 : decode cX12_is 118 = .ok (.goto (-73), 3) := by decide +kernel
theorem dX12_is_121 : decode cX12_is 121 = .ok (.iload 4, 2) := by decide +kernel
theorem dX12_is_123 : decode cX12_is 123 = .ok (.ireturn, 1) := by decide +kernel
theorem dX12_fraction_0 : decode cX12_fraction 0 = .ok (.lload_n 1, 1) := by decide +kernel
theorem dX12_fraction_1 : decode cX12_fraction 1 = .ok (.lstore 5, 2) := by decide +kernel
theorem dX12_fraction_3 : decode cX12_fraction 3 = .ok (.lload_n 3, 1) := by decide +kernel
theorem dX12_fraction_4 : decode cX12_fraction 4 = .ok (.lstore 7, 2) := by decide +kernel
theorem dX12_fraction_6 : decode cX12_fraction 6 = .ok (.lload 7, 2) := by decide +kernel
theorem dX12_fraction_8 : decode cX12_fraction 8 = .ok (.lconst 0, 1) := by decide +kernel
theorem dX12_fraction_9 : decode cX12_fraction 9 = .ok (.lcmp, 1) := by decide +kernel
theorem dX12_fraction_10 : decode cX12_fraction 10 = .ok (.ifCond .eq 21, 3) := by decide +kernel
theorem dX12_fraction_13 : decode cX12_fraction 13 = .ok (.lload 5, 2) := by decide +kernel
theorem dX12_fraction_15 : decode cX12_fraction 15 = .ok (.lload 7, 2) := by decide +kernel
theorem dX12_fraction_17 : decode cX12_fraction 17 = .ok (.lrem, 1) := by decide +kernel
theorem dX12_fraction_18 : decode cX12_fraction 18 = .ok (.lstore 9, 2) := by decide +kernel
theorem dX12_fraction_20 : decode cX12_fraction 20 = .ok (.lload 7, 2) := by decide +kernel
theorem dX12_fraction_22 : decode cX12_fraction 22 = .ok (.lstore 5, 2) := by decide +kernel
theorem dX12_fraction_24 : decode cX12_fraction 24 = .ok (.lload 9, 2) := by decide +kernel
theorem dX12_fraction_26 : decode cX12_fraction 26 = .ok (.lstore 7, 2) := by decide +kernel
theorem dX12_fraction_28 : decode cX12_fraction 28 = .ok (.goto (-22), 3) := by decide +kernel
theorem dX12_fraction_31 : decode cX12_fraction 31 = .ok (.aload_n 0, 1) := by decide +kernel
theorem dX12_fraction_32 : decode cX12_fraction 32 = .ok (.lload_n 1, 1) := by decide +kernel
theorem dX12_fraction_33 : decode cX12_fraction 33 = .ok (.lload 5, 2) := by decide +kernel
theorem dX12_fraction_35 : decode cX12_fraction 35 = .ok (.ldiv, 1) := by decide +kernel
theorem dX12_fraction_36 : decode cX12_fraction 36 = .ok (.putfield 228, 3) := by decide +kernel
theorem dX12_fraction_39 : decode cX12_fraction 39 = .ok (.aload_n 0, 1) := by decide +kernel
theorem dX12_fraction_40 : decode cX12_fraction 40 = .ok (.lload_n 3, 1) := by decide +kernel
theorem dX12_fraction_41 : decode cX12_fraction 41 = .ok (.lload 5, 2) := by decide +kernel
theorem dX12_fraction_43 : decode cX12_fraction 43 = .ok (.ldiv, 1) := by decide +kernel
theorem dX12_fraction_44 : decode cX12_fraction 44 = .ok (.putfield 23, 3) := by decide +kernel
theorem dX12_fraction_47 : decode cX12_fraction 47 = .ok (.return_, 1) := by decide +kernel
theorem dX12_sneeze_0 : decode cX12_sneeze 0 = .ok (.aload_n 0, 1) := by decide +kernel
theorem dX12_sneeze_1 : decode cX12_sneeze 1 = .ok (.iload_n 1, 1) := by decide +kernel
theorem dX12_sneeze_2 : decode cX12_sneeze 2 = .ok (.invokevirtual 94, 3) := by decide +kernel
theorem dX12_sneeze_5 : decode cX12_sneeze 5 = .ok (.ifCond .eq 15, 3) := by decide +kernel
theorem dX12_sneeze_8 : decode cX12_sneeze 8 = .ok (.iload_n 2, 1) := by decide +kernel
theorem dX12_sneeze_9 : decode cX12_sneeze 9 = .ok (.i2l, 1) := by decide +kernel
theorem dX12_sneeze_10 : decode cX12_sneeze 10 = .ok (.lconst 0, 1) := by decide +kernel
theorem dX12_sneeze_11 : decode cX12_sneeze 11 = .ok (.ldc2_w 231, 3) := by decide +kernel
theorem dX12_sneeze_14 : decode cX12_sneeze 14 = .ok (.invokestatic 68, 3) := by decide +kernel
theorem dX12_sneeze_17 : decode cX12_sneeze 17 = .ok (.ifCond .ne 10, 3) := by decide +kernel
theorem dX12_sneeze_20 : decode cX12_sneeze 20 = .ok (.aload_n 0, 1) := by decide +kernel
theorem dX12_sneeze_21 : decode cX12_sneeze 21 = .ok (.bipush (-2), 2) := by decide +kernel
theorem dX12_sneeze_23 : decode cX12_sneeze 23 = .ok (.invokevirtual 81, 3) := by decide +kernel
theorem dX12_sneeze_26 : decode cX12_sneeze 26 = .ok (.ireturn, 1) := by decide +kernel
theorem dX12_sneeze_27 : decode cX12_sneeze 27 = .ok (.lconst 0, 1) := by decide +kernel
theorem dX12_sneeze_28 : decode cX12_sneeze 28 = .ok (.lstore_n 3, 1) := by decide +kernel
theorem dX12_sneeze_29 : decode cX12_sneeze 29 = .ok (.lconst 1, 1) := by decide +kernel
theorem dX12_sneeze_30 : decode cX12_sneeze 30 = .ok (.lstore 5, 2) := by decide +kernel
theorem dX12_sneeze_32 : decode cX12_sneeze 32 = .ok (.iconst 0, 1) := by decide +kernel
theorem dX12_sneeze_33 : decode cX12_sneeze 33 = .ok (.istore 7, 2) := by decide +kernel
theorem dX12_sneeze_35 : decode cX12_sneeze 35 = .ok (.iload 7, 2) := by decide +kernel
theorem dX12_sneeze_37 : decode cX12_sneeze 37 = .ok (.aload_n 0, 1) := by decide +kernel
theorem dX12_sneeze_38 : decode cX12_sneeze 38 = .ok (.invokevirtual 72, 3) := by decide +kernel
theorem dX12_sneeze_41 : decode cX12_sneeze 41 = .ok (.if_icmp .ge 17, 3) := by decide +kernel
theorem dX12_sneeze_44 : decode cX12_sneeze 44 = .ok (.lload 5, 2) := by decide +kernel
theorem dX12_sneeze_46 : decode cX12_sneeze 46 = .ok (.ldc2_w 231, 3) := by decide +kernel
theorem dX12_sneeze_49 : decode cX12_sneeze 49 = .ok (.lmul, 1) := by decide +kernel
theorem dX12_sneeze_50 : decode cX12_sneeze 50 = .ok (.lstore 5, 2) := by decide +kernel
theorem dX12_sneeze_52 : decode cX12_sneeze 52 = .ok (.iinc 7 1, 3) := by decide +kernel
theorem dX12_sneeze_55 : decode cX12_sneeze 55 = .ok (.goto (-20), 3) := by decide +kernel
theorem dX12_sneeze_58 : decode cX12_sneeze 58 = .ok (.iconst 0, 1) := by decide +kernel
theorem dX12_sneeze_59 : decode cX12_sneeze 59 = .ok (.istore 7, 2) := by decide +kernel
theorem dX12_sneeze_61 : decode cX12_sneeze 61 = .ok (.iload 7, 2) := by decide +kernel
theorem dX12_sneeze_63 : decode cX12_sneeze 63 = .ok (.iconst 1, 1) := by decide +kernel
theorem dX12_sneeze_64 : decode cX12_sneeze 64 = .ok (.aload_n 0, 1) := by decide +kernel
theorem dX12_sneeze_65 : decode cX12_sneeze 65 = .ok (.invokevirtual 72, 3) := by decide +kernel
theorem dX12_sneeze_68 : decode cX12_sneeze 68 = .ok (.ishl, 1) := by decide +kernel
theorem dX12_sneeze_69 : decode cX12_sneeze 69 = .ok (.if_icmp .ge 94, 3) := by decide +kernel
theorem dX12_sneeze_72 : decode cX12_sneeze 72 = .ok (.lconst 1, 1) := by decide +kernel
theorem dX12_sneeze_73 : decode cX12_sneeze 73 = .ok (.lstore 8, 2) := by decide +kernel
theorem dX12_sneeze_75 : decode cX12_sneeze 75 = .ok (.aload_n 0, 1) := by decide +kernel
theorem dX12_sneeze_76 : decode cX12_sneeze 76 = .ok (.invokevirtual 161, 3) := by decide +kernel
theorem dX12_sneeze_79 : decode cX12_sneeze 79 = .ok (.iconst 0, 1) := by decide +kernel
theorem dX12_sneeze_80 : decode cX12_sneeze 80 = .ok (.istore 10, 2) := by decide +kernel
theorem dX12_sneeze_82 : decode cX12_sneeze 82 = .ok (.iload 10, 2) := by decide +kernel
theorem dX12_sneeze_84 : decode cX12_sneeze 84 = .ok (.aload_n 0, 1) := by decide +kernel
theorem dX12_sneeze_85 : decode cX12_sneeze 85 = .ok (.invokevirtual 72, 3) := by decide +kernel
theorem dX12_sneeze_88 : decode cX12_sneeze 88 = .ok (.if_icmp .ge 52, 3) := by decide +kernel
theorem dX12_sneeze_91 : decode cX12_sneeze 91 = .ok (.lload 8, 2) := by decide +kernel
theorem dX12_sneeze_93 : decode cX12_sneeze 93 = .ok (.iload 7, 2) := by decide +kernel
theorem dX12_sneeze_95 : decode cX12_sneeze 95 = .ok (.iload 10, 2) := by decide +kernel
theorem dX12_sneeze_97 : decode cX12_sneeze 97 = .ok (.invokestatic 233, 3) := by decide +kernel
theorem dX12_sneeze_100 : decode cX12_sneeze 100 = .ok (.ifCond .eq 11, 3) := by decide +kernel
theorem dX12_sneeze_103 : decode cX12_sneeze 103 = .ok (.bipush 10, 2) := by decide +kernel
theorem dX12_sneeze_105 : decode cX12_sneeze 105 = .ok (.iload_n 2, 1) := by decide +kernel
theorem dX12_sneeze_106 : decode cX12_sneeze 106 = .ok (.isub, 1) := by decide +kernel
theorem dX12_sneeze_107 : decode cX12_sneeze 107 = .ok (.i2l, 1) := by decide +kernel
theorem dX12_sneeze_108 : decode cX12_sneeze 108 = .ok (.goto 5, 3) := by decide +kernel
theorem dX12_sneeze_111 : decode cX12_sneeze 111 = .ok (.iload_n 2, 1) := by decide +kernel
theorem dX12_sneeze_112 : decode cX12_sneeze 112 = .ok (.i2l, 1) := by decide +kernel
theorem dX12_sneeze_113 : decode cX12_sneeze 113 = .ok (.lmul, 1) := by decide +kernel
theorem dX12_sneeze_114 : decode cX12_sneeze 114 = .ok (.lstore 8, 2) := by decide +kernel
theorem dX12_sneeze_116 : decode cX12_sneeze 116 = .ok (.iload 7, 2) := by decide +kernel
theorem dX12_sneeze_118 : decode cX12_sneeze 118 = .ok (.iload 10, 2) := by decide +kernel
theorem dX12_sneeze_120 : decode cX12_sneeze 120 = .ok (.invokestatic 233, 3) := by decide +kernel
theorem dX12_sneeze_123 : decode cX12_sneeze 123 = .ok (.ifCond .eq 11, 3) := by decide +kernel
theorem dX12_sneeze_126 : decode cX12_sneeze 126 = .ok (.aload_n 0, 1) := by decide +kernel
theorem dX12_sneeze_127 : decode cX12_sneeze 127 = .ok (.iload 10, 2) := by decide +kernel
theorem dX12_sneeze_129 : decode cX12_sneeze 129 = .ok (.invokevirtual 164, 3) := by decide +kernel
theorem dX12_sneeze_132 : decode cX12_sneeze 132 = .ok (.istore 11, 2) := by decide +kernel
theorem dX12_sneeze_134 : decode cX12_sneeze 134 = .ok (.iinc 10 1, 3) := by decide +kernel
theorem dX12_sneeze_137 : decode cX12_sneeze 137 = .ok (.goto (-55), 3) := by decide +kernel
theorem dX12_sneeze_140 : decode cX12_sneeze 140 = .ok (.lload_n 3, 1) := by decide +kernel
theorem dX12_sneeze_141 : decode cX12_sneeze 141 = .ok (.aload_n 0, 1) := by decide +kernel
theorem dX12_sneeze_142 : decode cX12_sneeze 142 = .ok (.getfield 111, 3) := by decide +kernel
theorem dX12_sneeze_145 : decode cX12_sneeze 145 = .ok (.iload_n 1, 1) := by decide +kernel
theorem dX12_sneeze_146 : decode cX12_sneeze 146 = .ok (.if_icmp .ne 8, 3) := by decide +kernel
theorem dX12_sneeze_149 : decode cX12_sneeze 149 = .ok (.lload 8, 2) := by decide +kernel
theorem dX12_sneeze_151 : decode cX12_sneeze 151 = .ok (.goto 4, 3) := by decide +kernel
theorem dX12_sneeze_154 : decode cX12_sneeze 154 = .ok (.lconst 0, 1) := by decide +kernel
theorem dX12_sneeze_155 : decode cX12_sneeze 155 = .ok (.ladd, 1) := by decide +kernel
theorem dX12_sneeze_156 : decode cX12_sneeze 156 = .ok (.lstore_n 3, 1) := by decide +kernel
theorem dX12_sneeze_157 : decode cX12_sneeze 157 = .ok (.iinc 7 1, 3) := by decide +kernel
theorem dX12_sneeze_160 : decode cX12_sneeze 160 = .ok (.goto (-99), 3) := by decide +kernel
theorem dX12_sneeze_163 : decode cX12_sneeze 163 = .ok (.aload_n 0, 1) := by decide +kernel
theorem dX12_sneeze_164 : decode cX12_sneeze 164 = .ok (.lload_n 3, 1) := by decide +kernel
theorem dX12_sneeze_165 : decode cX12_sneeze 165 = .ok (.lload 5, 2) := by decide +kernel
theorem dX12_sneeze_167 : decode cX12_sneeze 167 = .ok (.invokevirtual 237, 3) := by decide +kernel
theorem dX12_sneeze_170 : decode cX12_sneeze 170 = .ok (.iconst 1, 1) := by decide +kernel
theorem dX12_sneeze_171 : decode cX12_sneeze 171 = .ok (.ireturn, 1) := by decide +kernel
theorem dX12_februaries_0 : decode cX12_februaries 0 = .ok (.iload_n 1, 1) := by decide +kernel
theorem dX12_februaries_1 : decode cX12_februaries 1 = .ok (.i2l, 1) := by decide +kernel
theorem dX12_februaries_2 : decode cX12_februaries 2 = .ok (.lconst 0, 1) := by decide +kernel
theorem dX12_februaries_3 : decode cX12_februaries 3 = .ok (.ldc2_w 241, 3) := by decide +kernel
theorem dX12_februaries_6 : decode cX12_februaries 6 = .ok (.invokestatic 68, 3) := by decide +kernel
theorem dX12_februaries_9 : decode cX12_februaries 9 = .ok (.ifCond .eq 15, 3) := by decide +kernel
theorem dX12_februaries_12 : decode cX12_februaries 12 = .ok (.iload_n 2, 1) := by decide +kernel
theorem dX12_februaries_13 : decode cX12_februaries 13 = .ok (.i2l, 1) := by decide +kernel
theorem dX12_februaries_14 : decode cX12_februaries 14 = .ok (.lconst 0, 1) := by decide +kernel
theorem dX12_februaries_15 : decode cX12_februaries 15 = .ok (.ldc2_w 75, 3) := by decide +kernel
theorem dX12_februaries_18 : decode cX12_februaries 18 = .ok (.invokestatic 68, 3) := by decide +kernel
theorem dX12_februaries_21 : decode cX12_februaries 21 = .ok (.ifCond .ne 10, 3) := by decide +kernel
theorem dX12_februaries_24 : decode cX12_februaries 24 = .ok (.aload_n 0, 1) := by decide +kernel
theorem dX12_februaries_25 : decode cX12_februaries 25 = .ok (.bipush (-2), 2) := by decide +kernel
theorem dX12_februaries_27 : decode cX12_februaries 27 = .ok (.invokevirtual 81, 3) := by decide +kernel
theorem dX12_februaries_30 : decode cX12_februaries 30 = .ok (.ireturn, 1) := by decide +kernel
theorem dX12_februaries_31 : decode cX12_februaries 31 = .ok (.aload_n 0, 1) := by decide +kernel
theorem dX12_februaries_32 : decode cX12_februaries 32 = .ok (.invokevirtual 72, 3) := by decide +kernel
theorem dX12_februaries_35 : decode cX12_februaries 35 = .ok (.ifCond .eq 10, 3) := by decide +kernel
theorem dX12_februaries_38 : decode cX12_februaries 38 = .ok (.aload_n 0, 1) := by decide +kernel
theorem dX12_februaries_39 : decode cX12_februaries 39 = .ok (.invokevirtual 64, 3) := by decide +kernel
theorem dX12_februaries_42 : decode cX12_februaries 42 = .ok (.ifCond .ne 8, 3) := by decide +kernel
theorem dX12_februaries_45 : decode cX12_februaries 45 = .ok (.aload_n 0, 1) := by decide +kernel
theorem dX12_februaries_46 : decode cX12_februaries 46 = .ok (.invokevirtual 173, 3) := by decide +kernel
theorem dX12_februaries_49 : decode cX12_februaries 49 = .ok (.ireturn, 1) := by decide +kernel
theorem dX12_februaries_50 : decode cX12_februaries 50 = .ok (.iload_n 1, 1) := by decide +kernel
theorem dX12_februaries_51 : decode cX12_februaries 51 = .ok (.i2l, 1) := by decide +kernel
theorem dX12_februaries_52 : decode cX12_februaries 52 = .ok (.lstore_n 3, 1) := by decide +kernel
theorem dX12_februaries_53 : decode cX12_februaries 53 = .ok (.aload_n 0, 1) := by decide +kernel
theorem dX12_februaries_54 : decode cX12_februaries 54 = .ok (.invokevirtual 161, 3) := by decide +kernel
theorem dX12_februaries_57 : decode cX12_februaries 57 = .ok (.iconst 0, 1) := by decide +kernel
theorem dX12_februaries_58 : decode cX12_februaries 58 = .ok (.istore 5, 2) := by decide +kernel
theorem dX12_februaries_60 : decode cX12_februaries 60 = .ok (.iload 5, 2) := by decide +kernel
theorem dX12_februaries_62 : decode cX12_februaries 62 = .ok (.iload_n 2, 1) := by decide +kernel
theorem dX12_februaries_63 : decode cX12_februaries 63 = .ok (.if_icmp .ge 41, 3) := by decide +kernel
theorem dX12_februaries_66 : decode cX12_februaries 66 = .ok (.lload_n 3, 1) := by decide +kernel
theorem dX12_februaries_67 : decode cX12_februaries 67 = .ok (.ldc2_w 243, 3) := by decide +kernel
theorem dX12_februaries_70 : decode cX12_februaries 70 = .ok (.lmul, 1) := by decide +kernel
theorem dX12_februaries_71 : decode cX12_februaries 71 = .ok (.ldc2_w 245, 3) := by decide +kernel
theorem dX12_februaries_74 : decode cX12_februaries 74 = .ok (.ladd, 1) := by decide +kernel
theorem dX12_februaries_75 : decode cX12_februaries 75 = .ok (.ldc2_w 247, 3) := by decide +kernel
theorem dX12_februaries_78 : decode cX12_februaries 78 = .ok (.lrem, 1) := by decide +kernel
theorem dX12_februaries_79 : decode cX12_februaries 79 = .ok (.lstore_n 3, 1) := by decide +kernel
theorem dX12_februaries_80 : decode cX12_februaries 80 = .ok (.aload_n 0, 1) := by decide +kernel
theorem dX12_februaries_81 : decode cX12_februaries 81 = .ok (.lload_n 3, 1) := by decide +kernel
theorem dX12_februaries_82 : decode cX12_februaries 82 = .ok (.ldc2_w 249, 3) := by decide +kernel
theorem dX12_februaries_85 : decode cX12_februaries 85 = .ok (.ldiv, 1) := by decide +kernel
theorem dX12_februaries_86 : decode cX12_februaries 86 = .ok (.aload_n 0, 1) := by decide +kernel
theorem dX12_februaries_87 : decode cX12_februaries 87 = .ok (.invokevirtual 72, 3) := by decide +kernel
theorem dX12_februaries_90 : decode cX12_februaries 90 = .ok (.i2l, 1) := by decide +kernel
theorem dX12_februaries_91 : decode cX12_februaries 91 = .ok (.lrem, 1) := by decide +kernel
theorem dX12_februaries_92 : decode cX12_februaries 92 = .ok (.l2i, 1) := by decide +kernel
theorem dX12_februaries_93 : decode cX12_februaries 93 = .ok (.invokevirtual 164, 3) := by decide +kernel
theorem dX12_februaries_96 : decode cX12_februaries 96 = .ok (.istore 6, 2) := by decide +kernel
theorem dX12_februaries_98 : decode cX12_februaries 98 = .ok (.iinc 5 1, 3) := by decide +kernel
theorem dX12_februaries_101 : decode cX12_februaries 101 = .ok (.goto (-41), 3) := by decide +kernel
theorem dX12_februaries_104 : decode cX12_februaries 104 = .ok (.iconst 0, 1) := by decide +kernel
theorem dX12_februaries_105 : decode cX12_februaries 105 = .ok (.istore 5, 2) := by decide +kernel
theorem dX12_februaries_107 : decode cX12_februaries 107 = .ok (.iconst 0, 1) := by decide +kernel
theorem dX12_februaries_108 : decode cX12_februaries 108 = .ok (.istore 6, 2) := by decide +kernel
theorem dX12_februaries_110 : decode cX12_februaries 110 = .ok (.iload 6, 2) := by decide +kernel
theorem dX12_februaries_112 : decode cX12_februaries 112 = .ok (.aload_n 0, 1) := by decide +kernel
theorem dX12_februaries_113 : decode cX12_februaries 113 = .ok (.invokevirtual 64, 3) := by decide +kernel
theorem dX12_februaries_116 : decode cX12_februaries 116 = .ok (.if_icmp .ge 20, 3) := by decide +kernel
theorem dX12_februaries_119 : decode cX12_februaries 119 = .ok (.iload 5, 2) := by decide +kernel
theorem dX12_februaries_121 : decode cX12_februaries 121 = .ok (.aload_n 0, 1) := by decide +kernel
theorem dX12_februaries_122 : decode cX12_februaries 122 = .ok (.iload 6, 2) := by decide +kernel
theorem dX12_februaries_124 : decode cX12_februaries 124 = .ok (.invokevirtual 117, 3) := by decide +kernel
theorem dX12_februaries_127 : decode cX12_februaries 127 = .ok (.iadd, 1) := by decide +kernel
theorem dX12_februaries_128 : decode cX12_februaries 128 = .ok (.istore 5, 2) := by decide +kernel
theorem dX12_februaries_130 : decode cX12_februaries 130 = .ok (.iinc 6 1, 3) := by decide +kernel
theorem dX12_februaries_133 : decode cX12_februaries 133 = .ok (.goto (-23), 3) := by decide +kernel
theorem dX12_februaries_136 : decode cX12_februaries 136 = .ok (.iload 5, 2) := by decide +kernel
theorem dX12_februaries_138 : decode cX12_februaries 138 = .ok (.ireturn, 1) := by decide +kernel
theorem dX12_type_0 : decode cX12_type 0 = .ok (.iload_n 1, 1) := by decide +kernel
theorem dX12_type_1 : decode cX12_type 1 = .ok (.i2l, 1) := by decide +kernel
theorem dX12_type_2 : decode cX12_type 2 = .ok (.lconst 0, 1) := by decide +kernel
theorem dX12_type_3 : decode cX12_type 3 = .ok (.ldc2_w 251, 3) := by decide +kernel
theorem dX12_type_6 : decode cX12_type 6 = .ok (.invokestatic 68, 3) := by decide +kernel
theorem dX12_type_9 : decode cX12_type 9 = .ok (.ifCond .ne 10, 3) := by decide +kernel
theorem dX12_type_12 : decode cX12_type 12 = .ok (.aload_n 0, 1) := by decide +kernel
theorem dX12_type_13 : decode cX12_type 13 = .ok (.bipush (-2), 2) := by decide +kernel
theorem dX12_type_15 : decode cX12_type 15 = .ok (.invokevirtual 81, 3) := by decide +kernel
theorem dX12_type_18 : decode cX12_type 18 = .ok (.ireturn, 1) := by decide +kernel
theorem dX12_type_19 : decode cX12_type 19 = .ok (.aload_n 0, 1) := by decide +kernel
theorem dX12_type_20 : decode cX12_type 20 = .ok (.getfield 253, 3) := by decide +kernel
theorem dX12_type_23 : decode cX12_type 23 = .ok (.sipush 150, 3) := by decide +kernel
theorem dX12_type_26 : decode cX12_type 26 = .ok (.if_icmp .ne 8, 3) := by decide +kernel
theorem dX12_type_29 : decode cX12_type 29 = .ok (.aload_n 0, 1) := by decide +kernel
theorem dX12_type_30 : decode cX12_type 30 = .ok (.invokevirtual 85, 3) := by decide +kernel
theorem dX12_type_33 : decode cX12_type 33 = .ok (.ireturn, 1) := by decide +kernel
theorem dX12_type_34 : decode cX12_type 34 = .ok (.aload_n 0, 1) := by decide +kernel
theorem dX12_type_35 : decode cX12_type 35 = .ok (.getfield 51, 3) := by decide +kernel
theorem dX12_type_38 : decode cX12_type 38 = .ok (.aload_n 0, 1) := by decide +kernel
theorem dX12_type_39 : decode cX12_type 39 = .ok (.getfield 253, 3) := by decide +kernel
theorem dX12_type_42 : decode cX12_type 42 = .ok (.iload_n 1, 1) := by decide +kernel
theorem dX12_type_43 : decode cX12_type 43 = .ok (.iastore, 1) := by decide +kernel
theorem dX12_type_44 : decode cX12_type 44 = .ok (.aload_n 0, 1) := by decide +kernel
theorem dX12_type_45 : decode cX12_type 45 = .ok (.dup, 1) := by decide +kernel
theorem dX12_type_46 : decode cX12_type 46 = .ok (.getfield 253, 3) := by decide +kernel
theorem dX12_type_49 : decode cX12_type 49 = .ok (.iconst 1, 1) := by decide +kernel
theorem dX12_type_50 : decode cX12_type 50 = .ok (.iadd, 1) := by decide +kernel
theorem dX12_type_51 : decode cX12_type 51 = .ok (.putfield 253, 3) := by decide +kernel
theorem dX12_type_54 : decode cX12_type 54 = .ok (.aload_n 0, 1) := by decide +kernel
theorem dX12_type_55 : decode cX12_type 55 = .ok (.getfield 253, 3) := by decide +kernel
theorem dX12_type_58 : decode cX12_type 58 = .ok (.ireturn, 1) := by decide +kernel
theorem dX12_clear_0 : decode cX12_clear 0 = .ok (.aload_n 0, 1) := by decide +kernel
theorem dX12_clear_1 : decode cX12_clear 1 = .ok (.getfield 253, 3) := by decide +kernel
theorem dX12_clear_4 : decode cX12_clear 4 = .ok (.istore_n 1, 1) := by decide +kernel
theorem dX12_clear_5 : decode cX12_clear 5 = .ok (.aload_n 0, 1) := by decide +kernel
theorem dX12_clear_6 : decode cX12_clear 6 = .ok (.iconst 0, 1) := by decide +kernel
theorem dX12_clear_7 : decode cX12_clear 7 = .ok (.putfield 253, 3) := by decide +kernel
theorem dX12_clear_10 : decode cX12_clear 10 = .ok (.iload_n 1, 1) := by decide +kernel
theorem dX12_clear_11 : decode cX12_clear 11 = .ok (.ireturn, 1) := by decide +kernel
theorem dX12_isSmall_0 : decode cX12_isSmall 0 = .ok (.iload_n 0, 1) := by decide +kernel
theorem dX12_isSmall_1 : decode cX12_isSmall 1 = .ok (.i2l, 1) := by decide +kernel
theorem dX12_isSmall_2 : decode cX12_isSmall 2 = .ok (.ldc2_w 256, 3) := by decide +kernel
theorem dX12_isSmall_5 : decode cX12_isSmall 5 = .ok (.ldc2_w 258, 3) := by decide +kernel
theorem dX12_isSmall_8 : decode cX12_isSmall 8 = .ok (.invokestatic 68, 3) := by decide +kernel
theorem dX12_isSmall_11 : decode cX12_isSmall 11 = .ok (.ireturn, 1) := by decide +kernel
theorem dX12_isFigure_0 : decode cX12_isFigure 0 = .ok (.iload_n 0, 1) := by decide +kernel
theorem dX12_isFigure_1 : decode cX12_isFigure 1 = .ok (.i2l, 1) := by decide +kernel
theorem dX12_isFigure_2 : decode cX12_isFigure 2 = .ok (.ldc2_w 260, 3) := by decide +kernel
theorem dX12_isFigure_5 : decode cX12_isFigure 5 = .ok (.ldc2_w 262, 3) := by decide +kernel
theorem dX12_isFigure_8 : decode cX12_isFigure 8 = .ok (.invokestatic 68, 3) := by decide +kernel
theorem dX12_isFigure_11 : decode cX12_isFigure 11 = .ok (.ireturn, 1) := by decide +kernel
theorem dX12_lookAt_0 : decode cX12_lookAt 0 = .ok (.aload_n 0, 1) := by decide +kernel
theorem dX12_lookAt_1 : decode cX12_lookAt 1 = .ok (.iload_n 1, 1) := by decide +kernel
theorem dX12_lookAt_2 : decode cX12_lookAt 2 = .ok (.putfield 264, 3) := by decide +kernel
theorem dX12_lookAt_5 : decode cX12_lookAt 5 = .ok (.aload_n 0, 1) := by decide +kernel
theorem dX12_lookAt_6 : decode cX12_lookAt 6 = .ok (.getfield 264, 3) := by decide +kernel
theorem dX12_lookAt_9 : decode cX12_lookAt 9 = .ok (.aload_n 0, 1) := by decide +kernel
theorem dX12_lookAt_10 : decode cX12_lookAt 10 = .ok (.getfield 253, 3) := by decide +kernel
theorem dX12_lookAt_13 : decode cX12_lookAt 13 = .ok (.if_icmp .ge 30, 3) := by decide +kernel
theorem dX12_lookAt_16 : decode cX12_lookAt 16 = .ok (.aload_n 0, 1) := by decide +kernel
theorem dX12_lookAt_17 : decode cX12_lookAt 17 = .ok (.getfield 51, 3) := by decide +kernel
theorem dX12_lookAt_20 : decode cX12_lookAt 20 = .ok (.aload_n 0, 1) := by decide +kernel
theorem dX12_lookAt_21 : decode cX12_lookAt 21 = .ok (.getfield 264, 3) := by decide +kernel
theorem dX12_lookAt_24 : decode cX12_lookAt 24 = .ok (.iaload, 1) := by decide +kernel
theorem dX12_lookAt_25 : decode cX12_lookAt 25 = .ok (.bipush 32, 2) := by decide +kernel
theorem dX12_lookAt_27 : decode cX12_lookAt 27 = .ok (.if_icmp .ne 16, 3) := by decide +kernel
theorem dX12_lookAt_30 : decode cX12_lookAt 30 = .ok (.aload_n 0, 1) := by decide +kernel
theorem dX12_lookAt_31 : decode cX12_lookAt 31 = .ok (.dup, 1) := by decide +kernel
theorem dX12_lookAt_32 : decode cX12_lookAt 32 = .ok (.getfield 264, 3) := by decide +kernel
theorem dX12_lookAt_35 : decode cX12_lookAt 35 = .ok (.iconst 1, 1) := by decide +kernel
theorem dX12_lookAt_36 : decode cX12_lookAt 36 = .ok (.iadd, 1) := by decide +kernel
theorem dX12_lookAt_37 : decode cX12_lookAt 37 = .ok (.putfield 264, 3) := by decide +kernel
theorem dX12_lookAt_40 : decode cX12_lookAt 40 = .ok (.goto (-35), 3) := by decide +kernel
theorem dX12_lookAt_43 : decode cX12_lookAt 43 = .ok (.aload_n 0, 1) := by decide +kernel
theorem dX12_lookAt_44 : decode cX12_lookAt 44 = .ok (.iconst 0, 1) := by decide +kernel
theorem dX12_lookAt_45 : decode cX12_lookAt 45 = .ok (.putfield 267, 3) := by decide +kernel
theorem dX12_lookAt_48 : decode cX12_lookAt 48 = .ok (.aload_n 0, 1) := by decide +kernel
theorem dX12_lookAt_49 : decode cX12_lookAt 49 = .ok (.iconst 0, 1) := by decide +kernel
theorem dX12_lookAt_50 : decode cX12_lookAt 50 = .ok (.putfield 270, 3) := by decide +kernel
theorem dX12_lookAt_53 : decode cX12_lookAt 53 = .ok (.aload_n 0, 1) := by decide +kernel
theorem dX12_lookAt_54 : decode cX12_lookAt 54 = .ok (.iconst 0, 1) := by decide +kernel
theorem dX12_lookAt_55 : decode cX12_lookAt 55 = .ok (.putfield 273, 3) := by decide +kernel
theorem dX12_lookAt_58 : decode cX12_lookAt 58 = .ok (.aload_n 0, 1) := by decide +kernel
theorem dX12_lookAt_59 : decode cX12_lookAt 59 = .ok (.getfield 264, 3) := by decide +kernel
theorem dX12_lookAt_62 : decode cX12_lookAt 62 = .ok (.aload_n 0, 1) := by decide +kernel
theorem dX12_lookAt_63 : decode cX12_lookAt 63 = .ok (.getfield 253, 3) := by decide +kernel
theorem dX12_lookAt_66 : decode cX12_lookAt 66 = .ok (.if_icmp .ne 4, 3) := by decide +kernel
theorem dX12_lookAt_69 : decode cX12_lookAt 69 = .ok (.return_, 1) := by decide +kernel
theorem dX12_lookAt_70 : decode cX12_lookAt 70 = .ok (.aload_n 0, 1) := by decide +kernel
theorem dX12_lookAt_71 : decode cX12_lookAt 71 = .ok (.getfield 51, 3) := by decide +kernel
theorem dX12_lookAt_74 : decode cX12_lookAt 74 = .ok (.aload_n 0, 1) := by decide +kernel
theorem dX12_lookAt_75 : decode cX12_lookAt 75 = .ok (.getfield 264, 3) := by decide +kernel
theorem dX12_lookAt_78 : decode cX12_lookAt 78 = .ok (.iaload, 1) := by decide +kernel
theorem dX12_lookAt_79 : decode cX12_lookAt 79 = .ok (.istore_n 2, 1) := by decide +kernel
theorem dX12_lookAt_80 : decode cX12_lookAt 80 = .ok (.aload_n 0, 1) := by decide +kernel
theorem dX12_lookAt_81 : decode cX12_lookAt 81 = .ok (.iload_n 2, 1) := by decide +kernel
theorem dX12_lookAt_82 : decode cX12_lookAt 82 = .ok (.invokestatic 276, 3) := by decide +kernel
theorem dX12_lookAt_85 : decode cX12_lookAt 85 = .ok (.ifCond .eq 7, 3) := by decide +kernel
theorem dX12_lookAt_88 : decode cX12_lookAt 88 = .ok (.iconst 1, 1) := by decide +kernel
theorem dX12_lookAt_89 : decode cX12_lookAt 89 = .ok (.goto 25, 3) := by decide +kernel
theorem dX12_lookAt_92 : decode cX12_lookAt 92 = .ok (.iload_n 2, 1) := by decide +kernel
theorem dX12_lookAt_93 : decode cX12_lookAt 93 = .ok (.invokestatic 279, 3) := by decide +kernel
theorem dX12_lookAt_96 : decode cX12_lookAt 96 = .ok (.ifCond .eq 7, 3) := by decide +kernel
theorem dX12_lookAt_99 : decode cX12_lookAt 99 = .ok (.iconst 2, 1) := by decide +kernel
theorem dX12_lookAt_100 : decode cX12_lookAt 100 = .ok (.goto 14, 3) := by decide +kernel
theorem dX12_lookAt_103 : decode cX12_lookAt 103 = .ok (.iload_n 2, 1) := by decide +kernel
theorem dX12_lookAt_104 : decode cX12_lookAt 104 = .ok (.bipush 59, 2) := by decide +kernel
theorem dX12_lookAt_106 : decode cX12_lookAt 106 = .ok (.if_icmp .ne 7, 3) := by decide +kernel
theorem dX12_lookAt_109 : decode cX12_lookAt 109 = .ok (.iconst 3, 1) := by decide +kernel
theorem dX12_lookAt_110 : decode cX12_lookAt 110 = .ok (.goto 4, 3) := by decide +kernel
theorem dX12_lookAt_113 : decode cX12_lookAt 113 = .ok (.iconst 4, 1) := by decide +kernel
theorem dX12_lookAt_114 : decode cX12_lookAt 114 = .ok (.putfield 270, 3) := by decide +kernel
theorem dX12_lookAt_117 : decode cX12_lookAt 117 = .ok (.aload_n 0, 1) := by decide +kernel
theorem dX12_lookAt_118 : decode cX12_lookAt 118 = .ok (.iconst 1, 1) := by decide +kernel
theorem dX12_lookAt_119 : decode cX12_lookAt 119 = .ok (.putfield 267, 3) := by decide +kernel
theorem dX12_lookAt_122 : decode cX12_lookAt 122 = .ok (.aload_n 0, 1) := by decide +kernel
theorem dX12_lookAt_123 : decode cX12_lookAt 123 = .ok (.getfield 270, 3) := by decide +kernel
theorem dX12_lookAt_126 : decode cX12_lookAt 126 = .ok (.iconst 3, 1) := by decide +kernel
theorem dX12_lookAt_127 : decode cX12_lookAt 127 = .ok (.if_icmp .ge 7, 3) := by decide +kernel
theorem dX12_lookAt_130 : decode cX12_lookAt 130 = .ok (.iconst 1, 1) := by decide +kernel
theorem dX12_lookAt_131 : decode cX12_lookAt 131 = .ok (.goto 4, 3) := by decide +kernel
theorem dX12_lookAt_134 : decode cX12_lookAt 134 = .ok (.iconst 0, 1) := by decide +kernel
theorem dX12_lookAt_135 : decode cX12_lookAt 135 = .ok (.istore_n 3, 1) := by decide +kernel
theorem dX12_lookAt_136 : decode cX12_lookAt 136 = .ok (.iload_n 3, 1) := by decide +kernel
theorem dX12_lookAt_137 : decode cX12_lookAt 137 = .ok (.ifCond .eq 78, 3) := by decide +kernel
theorem dX12_lookAt_140 : decode cX12_lookAt 140 = .ok (.aload_n 0, 1) := by decide +kernel
theorem dX12_lookAt_141 : decode cX12_lookAt 141 = .ok (.getfield 264, 3) := by decide +kernel
theorem dX12_lookAt_144 : decode cX12_lookAt 144 = .ok (.aload_n 0, 1) := by decide +kernel
theorem dX12_lookAt_145 : decode cX12_lookAt 145 = .ok (.getfield 267, 3) := by decide +kernel
theorem dX12_lookAt_148 : decode cX12_lookAt 148 = .ok (.iadd, 1) := by decide +kernel
theorem dX12_lookAt_149 : decode cX12_lookAt 149 = .ok (.aload_n 0, 1) := by decide +kernel
theorem dX12_lookAt_150 : decode cX12_lookAt 150 = .ok (.getfield 253, 3) := by decide +kernel
theorem dX12_lookAt_153 : decode cX12_lookAt 153 = .ok (.if_icmp .ge 62, 3) := by decide +kernel
theorem dX12_lookAt_156 : decode cX12_lookAt 156 = .ok (.aload_n 0, 1) := by decide +kernel
theorem dX12_lookAt_157 : decode cX12_lookAt 157 = .ok (.getfield 51, 3) := by decide +kernel
theorem dX12_lookAt_160 : decode cX12_lookAt 160 = .ok (.aload_n 0, 1) := by decide +kernel
theorem dX12_lookAt_161 : decode cX12_lookAt 161 = .ok (.getfield 264, 3) := by decide +kernel
theorem dX12_lookAt_164 : decode cX12_lookAt 164 = .ok (.aload_n 0, 1) := by decide +kernel
theorem dX12_lookAt_165 : decode cX12_lookAt 165 = .ok (.getfield 267, 3) := by decide +kernel
theorem dX12_lookAt_168 : decode cX12_lookAt 168 = .ok (.iadd, 1) := by decide +kernel
theorem dX12_lookAt_169 : decode cX12_lookAt 169 = .ok (.iaload, 1) := by decide +kernel
theorem dX12_lookAt_170 : decode cX12_lookAt 170 = .ok (.istore 4, 2) := by decide +kernel
theorem dX12_lookAt_172 : decode cX12_lookAt 172 = .ok (.aload_n 0, 1) := by decide +kernel
theorem dX12_lookAt_173 : decode cX12_lookAt 173 = .ok (.getfield 270, 3) := by decide +kernel
theorem dX12_lookAt_176 : decode cX12_lookAt 176 = .ok (.iconst 1, 1) := by decide +kernel
theorem dX12_lookAt_177 : decode cX12_lookAt 177 = .ok (.if_icmp .ne 11, 3) := by decide +kernel
theorem dX12_lookAt_180 : decode cX12_lookAt 180 = .ok (.iload 4, 2) := by decide +kernel
theorem dX12_lookAt_182 : decode cX12_lookAt 182 = .ok (.invokestatic 276, 3) := by decide +kernel
theorem dX12_lookAt_185 : decode cX12_lookAt 185 = .ok (.goto 8, 3) := by decide +kernel
theorem dX12_lookAt_188 : decode cX12_lookAt 188 = .ok (.iload 4, 2) := by decide +kernel
theorem dX12_lookAt_190 : decode cX12_lookAt 190 = .ok (.invokestatic 279, 3) := by decide +kernel
theorem dX12_lookAt_193 : decode cX12_lookAt 193 = .ok (.istore_n 3, 1) := by decide +kernel
theorem dX12_lookAt_194 : decode cX12_lookAt 194 = .ok (.aload_n 0, 1) := by decide +kernel
theorem dX12_lookAt_195 : decode cX12_lookAt 195 = .ok (.dup, 1) := by decide +kernel
theorem dX12_lookAt_196 : decode cX12_lookAt 196 = .ok (.getfield 267, 3) := by decide +kernel
theorem dX12_lookAt_199 : decode cX12_lookAt 199 = .ok (.iload_n 3, 1) := by decide +kernel
theorem dX12_lookAt_200 : decode cX12_lookAt 200 = .ok (.ifCond .eq 7, 3) := by decide +kernel
theorem dX12_lookAt_203 : decode cX12_lookAt 203 = .ok (.iconst 1, 1) := by decide +kernel
theorem dX12_lookAt_204 : decode cX12_lookAt 204 = .ok (.goto 4, 3) := by decide +kernel
theorem dX12_lookAt_207 : decode cX12_lookAt 207 = .ok (.iconst 0, 1) := by decide +kernel
theorem dX12_lookAt_208 : decode cX12_lookAt 208 = .ok (.iadd, 1) := by decide +kernel
theorem dX12_lookAt_209 : decode cX12_lookAt 209 = .ok (.putfield 267, 3) := by decide +kernel
theorem dX12_lookAt_212 : decode cX12_lookAt 212 = .ok (.goto (-76), 3) := by decide +kernel
theorem dX12_lookAt_215 : decode cX12_lookAt 215 = .ok (.iconst 0, 1) := by decide +kernel
theorem dX12_lookAt_216 : decode cX12_lookAt 216 = .ok (.istore 4, 2) := by decide +kernel
theorem dX12_lookAt_218 : decode cX12_lookAt 218 = .ok (.iload 4, 2) := by decide +kernel
theorem dX12_lookAt_220 : decode cX12_lookAt 220 = .ok (.aload_n 0, 1) := by decide +kernel
theorem dX12_lookAt_221 : decode cX12_lookAt 221 = .ok (.getfield 267, 3) := by decide +kernel
theorem dX12_lookAt_224 : decode cX12_lookAt 224 = .ok (.if_icmp .ge 50, 3) := by decide +kernel
theorem dX12_lookAt_227 : decode cX12_lookAt 227 = .ok (.iload 4, 2) := by decide +kernel
theorem dX12_lookAt_229 : decode cX12_lookAt 229 = .ok (.iconst 2, 1) := by decide +kernel
theorem dX12_lookAt_230 : decode cX12_lookAt 230 = .ok (.if_icmp .ge 44, 3) := by decide +kernel
theorem dX12_lookAt_233 : decode cX12_lookAt 233 = .ok (.aload_n 0, 1) := by decide +kernel
theorem dX12_lookAt_234 : decode cX12_lookAt 234 = .ok (.getfield 270, 3) := by decide +kernel
theorem dX12_lookAt_237 : decode cX12_lookAt 237 = .ok (.iconst 2, 1) := by decide +kernel
theorem dX12_lookAt_238 : decode cX12_lookAt 238 = .ok (.if_icmp .ne 36, 3) := by decide +kernel
theorem dX12_lookAt_241 : decode cX12_lookAt 241 = .ok (.aload_n 0, 1) := by decide +kernel
theorem dX12_lookAt_242 : decode cX12_lookAt 242 = .ok (.bipush 10, 2) := by decide +kernel
theorem dX12_lookAt_244 : decode cX12_lookAt 244 = .ok (.aload_n 0, 1) := by decide +kernel
theorem dX12_lookAt_245 : decode cX12_lookAt 245 = .ok (.getfield 273, 3) := by decide +kernel
theorem dX12_lookAt_248 : decode cX12_lookAt 248 = .ok (.imul, 1) := by decide +kernel
theorem dX12_lookAt_249 : decode cX12_lookAt 249 = .ok (.aload_n 0, 1) := by decide +kernel
theorem dX12_lookAt_250 : decode cX12_lookAt 250 = .ok (.getfield 51, 3) := by decide +kernel
theorem dX12_lookAt_253 : decode cX12_lookAt 253 = .ok (.aload_n 0, 1) := by decide +kernel
theorem dX12_lookAt_254 : decode cX12_lookAt 254 = .ok (.getfield 264, 3) := by decide +kernel
theorem dX12_lookAt_257 : decode cX12_lookAt 257 = .ok (.iload 4, 2) := by decide +kernel
theorem dX12_lookAt_259 : decode cX12_lookAt 259 = .ok (.iadd, 1) := by decide +kernel
theorem dX12_lookAt_260 : decode cX12_lookAt 260 = .ok (.iaload, 1) := by decide +kernel
theorem dX12_lookAt_261 : decode cX12_lookAt 261 = .ok (.iadd, 1) := by decide +kernel
theorem dX12_lookAt_262 : decode cX12_lookAt 262 = .ok (.bipush 48, 2) := by decide +kernel
theorem dX12_lookAt_264 : decode cX12_lookAt 264 = .ok (.isub, 1) := by decide +kernel
theorem dX12_lookAt_265 : decode cX12_lookAt 265 = .ok (.putfield 273, 3) := by decide +kernel
theorem dX12_lookAt_268 : decode cX12_lookAt 268 = .ok (.iinc 4 1, 3) := by decide +kernel
theorem dX12_lookAt_271 : decode cX12_lookAt 271 = .ok (.goto (-53), 3) := by decide +kernel
theorem dX12_lookAt_274 : decode cX12_lookAt 274 = .ok (.aload_n 0, 1) := by decide +kernel
theorem dX12_lookAt_275 : decode cX12_lookAt 275 = .ok (.aload_n 0, 1) := by decide +kernel
theorem dX12_lookAt_276 : decode cX12_lookAt 276 = .ok (.getfield 270, 3) := by decide +kernel
theorem dX12_lookAt_279 : decode cX12_lookAt 279 = .ok (.iconst 2, 1) := by decide +kernel
theorem dX12_lookAt_280 : decode cX12_lookAt 280 = .ok (.if_icmp .ne 15, 3) := by decide +kernel
theorem dX12_lookAt_283 : decode cX12_lookAt 283 = .ok (.aload_n 0, 1) := by decide +kernel
theorem dX12_lookAt_284 : decode cX12_lookAt 284 = .ok (.getfield 267, 3) := by decide +kernel
theorem dX12_lookAt_287 : decode cX12_lookAt 287 = .ok (.iconst 2, 1) := by decide +kernel
theorem dX12_lookAt_288 : decode cX12_lookAt 288 = .ok (.if_icmp .le 7, 3) := by decide +kernel
theorem dX12_lookAt_291 : decode cX12_lookAt 291 = .ok (.iconst 4, 1) := by decide +kernel
theorem dX12_lookAt_292 : decode cX12_lookAt 292 = .ok (.goto 7, 3) := by decide +kernel
theorem dX12_lookAt_295 : decode cX12_lookAt 295 = .ok (.aload_n 0, 1) := by decide +kernel
theorem dX12_lookAt_296 : decode cX12_lookAt 296 = .ok (.getfield 270, 3) := by decide +kernel
theorem dX12_lookAt_299 : decode cX12_lookAt 299 = .ok (.putfield 270, 3) := by decide +kernel
theorem dX12_lookAt_302 : decode cX12_lookAt 302 = .ok (.return_, 1) := by decide +kernel
theorem dX12_goBehind_0 : decode cX12_goBehind 0 = .ok (.aload_n 0, 1) := by decide +kernel
theorem dX12_goBehind_1 : decode cX12_goBehind 1 = .ok (.aload_n 0, 1) := by decide +kernel
theorem dX12_goBehind_2 : decode cX12_goBehind 2 = .ok (.getfield 264, 3) := by decide +kernel
theorem dX12_goBehind_5 : decode cX12_goBehind 5 = .ok (.aload_n 0, 1) := by decide +kernel
theorem dX12_goBehind_6 : decode cX12_goBehind 6 = .ok (.getfield 267, 3) := by decide +kernel
theorem dX12_goBehind_9 : decode cX12_goBehind 9 = .ok (.iadd, 1) := by decide +kernel
theorem dX12_goBehind_10 : decode cX12_goBehind 10 = .ok (.invokevirtual 282, 3) := by decide +kernel
theorem dX12_goBehind_13 : decode cX12_goBehind 13 = .ok (.return_, 1) := by decide +kernel
theorem dX12_isWord_0 : decode cX12_isWord 0 = .ok (.aload_n 0, 1) := by decide +kernel
theorem dX12_isWord_1 : decode cX12_isWord 1 = .ok (.getfield 270, 3) := by decide +kernel
theorem dX12_isWord_4 : decode cX12_isWord 4 = .ok (.iconst 1, 1) := by decide +kernel
theorem dX12_isWord_5 : decode cX12_isWord 5 = .ok (.if_icmp .ne 15, 3) := by decide +kernel
theorem dX12_isWord_8 : decode cX12_isWord 8 = .ok (.aload_n 0, 1) := by decide +kernel
theorem dX12_isWord_9 : decode cX12_isWord 9 = .ok (.getfield 267, 3) := by decide +kernel
theorem dX12_isWord_12 : decode cX12_isWord 12 = .ok (.iload_n 1, 1) := by decide +kernel
theorem dX12_isWord_13 : decode cX12_isWord 13 = .ok (.if_icmp .ne 7, 3) := by decide +kernel
theorem dX12_isWord_16 : decode cX12_isWord 16 = .ok (.iconst 1, 1) := by decide +kernel
theorem dX12_isWord_17 : decode cX12_isWord 17 = .ok (.goto 4, 3) := by decide +kernel
theorem dX12_isWord_20 : decode cX12_isWord 20 = .ok (.iconst 0, 1) := by decide +kernel
theorem dX12_isWord_21 : decode cX12_isWord 21 = .ok (.istore 9, 2) := by decide +kernel
theorem dX12_isWord_23 : decode cX12_isWord 23 = .ok (.iconst 0, 1) := by decide +kernel
theorem dX12_isWord_24 : decode cX12_isWord 24 = .ok (.istore 10, 2) := by decide +kernel
theorem dX12_isWord_26 : decode cX12_isWord 26 = .ok (.iload 10, 2) := by decide +kernel
theorem dX12_isWord_28 : decode cX12_isWord 28 = .ok (.iload_n 1, 1) := by decide +kernel
theorem dX12_isWord_29 : decode cX12_isWord 29 = .ok (.if_icmp .ge 125, 3) := by decide +kernel
theorem dX12_isWord_32 : decode cX12_isWord 32 = .ok (.iload 9, 2) := by decide +kernel
theorem dX12_isWord_34 : decode cX12_isWord 34 = .ok (.ifCond .eq 120, 3) := by decide +kernel
theorem dX12_isWord_37 : decode cX12_isWord 37 = .ok (.iload 10, 2) := by decide +kernel
theorem dX12_isWord_39 : decode cX12_isWord 39 = .ok (.ifCond .ne 7, 3) := by decide +kernel
theorem dX12_isWord_42 : decode cX12_isWord 42 = .ok (.iload_n 2, 1) := by decide +kernel
theorem dX12_isWord_43 : decode cX12_isWord 43 = .ok (.goto 79, 3) := by decide +kernel
theorem dX12_isWord_46 : decode cX12_isWord 46 = .ok (.iload 10, 2) := by decide +kernel
theorem dX12_isWord_48 : decode cX12_isWord 48 = .ok (.iconst 1, 1) := by decide +kernel
theorem dX12_isWord_49 : decode cX12_isWord 49 = .ok (.if_icmp .ne 7, 3) := by decide +kernel
theorem dX12_isWord_52 : decode cX12_isWord 52 = .ok (.iload_n 3, 1) := by decide +kernel
theorem dX12_isWord_53 : decode cX12_isWord 53 = .ok (.goto 69, 3) := by decide +kernel
theorem dX12_isWord_56 : decode cX12_isWord 56 = .ok (.iload 10, 2) := by decide +kernel
theorem dX12_isWord_58 : decode cX12_isWord 58 = .ok (.iconst 2, 1) := by decide +kernel
theorem dX12_isWord_59 : decode cX12_isWord 59 = .ok (.if_icmp .ne 8, 3) := by decide +kernel
theorem dX12_isWord_62 : decode cX12_isWord 62 = .ok (.iload 4, 2) := by decide +kernel
theorem dX12_isWord_64 : decode cX12_isWord 64 = .ok (.goto 58, 3) := by decide +kernel
theorem dX12_isWord_67 : decode cX12_isWord 67 = .ok (.iload 10, 2) := by decide +kernel
theorem dX12_isWord_69 : decode cX12_isWord 69 = .ok (.iconst 3, 1) := by decide +kernel
theorem dX12_isWord_70 : decode cX12_isWord 70 = .ok (.if_icmp .ne 8, 3) := by decide +kernel
theorem dX12_isWord_73 : decode cX12_isWord 73 = .ok (.iload 5, 2) := by decide +kernel
theorem dX12_isWord_75 : decode cX12_isWord 75 = .ok (.goto 47, 3) := by decide +kernel
theorem dX12_isWord_78 : decode cX12_isWord 78 = .ok (.iload 10, 2) := by decide +kernel
theorem dX12_isWord_80 : decode cX12_isWord 80 = .ok (.iconst 4, 1) := by decide +kernel
theorem dX12_isWord_81 : decode cX12_isWord 81 = .ok (.if_icmp .ne 8, 3) := by decide +kernel
theorem dX12_isWord_84 : decode cX12_isWord 84 = .ok (.iload 6, 2) := by decide +kernel
theorem dX12_isWord_86 : decode cX12_isWord 86 = .ok (.goto 36, 3) := by decide +kernel
theorem dX12_isWord_89 : decode cX12_isWord 89 = .ok (.iload 10, 2) := by decide +kernel
theorem dX12_isWord_91 : decode cX12_isWord 91 = .ok (.iconst 5, 1) := by decide +kernel
theorem dX12_isWord_92 : decode cX12_isWord 92 = .ok (.if_icmp .ne 8, 3) := by decide +kernel
theorem dX12_isWord_95 : decode cX12_isWord 95 = .ok (.iload 7, 2) := by decide +kernel
theorem dX12_isWord_97 : decode cX12_isWord 97 = .ok (.goto 25, 3) := by decide +kernel
theorem dX12_isWord_100 : decode cX12_isWord 100 = .ok (.iload 10, 2) := by decide +kernel
theorem dX12_isWord_102 : decode cX12_isWord 102 = .ok (.bipush 6, 2) := by decide +kernel
theorem dX12_isWord_104 : decode cX12_isWord 104 = .ok (.if_icmp .ne 12, 3) := by decide +kernel
theorem dX12_isWord_107 : decode cX12_isWord 107 = .ok (.iload 8, 2) := by decide +kernel
theorem dX12_isWord_109 : decode cX12_isWord 109 = .ok (.sipush 128, 3) := by decide +kernel
theorem dX12_isWord_112 : decode cX12_isWord 112 = .ok (.idiv, 1) := by decide +kernel
theorem dX12_isWord_113 : decode cX12_isWord 113 = .ok (.goto 9, 3) := by decide +kernel
theorem dX12_isWord_116 : decode cX12_isWord 116 = .ok (.iload 8, 2) := by decide +kernel
theorem dX12_isWord_118 : decode cX12_isWord 118 = .ok (.sipush 128, 3) := by decide +kernel
theorem dX12_isWord_121 : decode cX12_isWord 121 = .ok (.irem, 1) := by decide +kernel
theorem dX12_isWord_122 : decode cX12_isWord 122 = .ok (.istore 11, 2) := by decide +kernel
theorem dX12_isWord_124 : decode cX12_isWord 124 = .ok (.aload_n 0, 1) := by decide +kernel
theorem dX12_isWord_125 : decode cX12_isWord 125 = .ok (.getfield 51, 3) := by decide +kernel
theorem dX12_isWord_128 : decode cX12_isWord 128 = .ok (.aload_n 0, 1) := by decide +kernel
theorem dX12_isWord_129 : decode cX12_isWord 129 = .ok (.getfield 264, 3) := by decide +kernel
theorem dX12_isWord_132 : decode cX12_isWord 132 = .ok (.iload 10, 2) := by decide +kernel
theorem dX12_isWord_134 : decode cX12_isWord 134 = .ok (.iadd, 1) := by decide +kernel
theorem dX12_isWord_135 : decode cX12_isWord 135 = .ok (.iaload, 1) := by decide +kernel
theorem dX12_isWord_136 : decode cX12_isWord 136 = .ok (.iload 11, 2) := by decide +kernel
theorem dX12_isWord_138 : decode cX12_isWord 138 = .ok (.if_icmp .ne 7, 3) := by decide +kernel
theorem dX12_isWord_141 : decode cX12_isWord 141 = .ok (.iconst 1, 1) := by decide +kernel
theorem dX12_isWord_142 : decode cX12_isWord 142 = .ok (.goto 4, 3) := by decide +kernel
theorem dX12_isWord_145 : decode cX12_isWord 145 = .ok (.iconst 0, 1) := by decide +kernel
theorem dX12_isWord_146 : decode cX12_isWord 146 = .ok (.istore 9, 2) := by decide +kernel
theorem dX12_isWord_148 : decode cX12_isWord 148 = .ok (.iinc 10 1, 3) := by decide +kernel
theorem dX12_isWord_151 : decode cX12_isWord 151 = .ok (.goto (-125), 3) := by decide +kernel
theorem dX12_isWord_154 : decode cX12_isWord 154 = .ok (.iload 9, 2) := by decide +kernel
theorem dX12_isWord_156 : decode cX12_isWord 156 = .ok (.ireturn, 1) := by decide +kernel
theorem dX12_takes_0 : decode cX12_takes 0 = .ok (.aload_n 0, 1) := by decide +kernel
theorem dX12_takes_1 : decode cX12_takes 1 = .ok (.getfield 270, 3) := by decide +kernel
theorem dX12_takes_4 : decode cX12_takes 4 = .ok (.iconst 2, 1) := by decide +kernel
theorem dX12_takes_5 : decode cX12_takes 5 = .ok (.if_icmp .ne 18, 3) := by decide +kernel
theorem dX12_takes_8 : decode cX12_takes 8 = .ok (.aload_n 0, 1) := by decide +kernel
theorem dX12_takes_9 : decode cX12_takes 9 = .ok (.getfield 273, 3) := by decide +kernel
theorem dX12_takes_12 : decode cX12_takes 12 = .ok (.i2l, 1) := by decide +kernel
theorem dX12_takes_13 : decode cX12_takes 13 = .ok (.iload_n 2, 1) := by decide +kernel
theorem dX12_takes_14 : decode cX12_takes 14 = .ok (.i2l, 1) := by decide +kernel
theorem dX12_takes_15 : decode cX12_takes 15 = .ok (.iload_n 3, 1) := by decide +kernel
theorem dX12_takes_16 : decode cX12_takes 16 = .ok (.i2l, 1) := by decide +kernel
theorem dX12_takes_17 : decode cX12_takes 17 = .ok (.invokestatic 68, 3) := by decide +kernel
theorem dX12_takes_20 : decode cX12_takes 20 = .ok (.ifCond .ne 5, 3) := by decide +kernel
theorem dX12_takes_23 : decode cX12_takes 23 = .ok (.iconst 0, 1) := by decide +kernel
theorem dX12_takes_24 : decode cX12_takes 24 = .ok (.ireturn, 1) := by decide +kernel
theorem dX12_takes_25 : decode cX12_takes 25 = .ok (.aload_n 0, 1) := by decide +kernel
theorem dX12_takes_26 : decode cX12_takes 26 = .ok (.getfield 57, 3) := by decide +kernel
theorem dX12_takes_29 : decode cX12_takes 29 = .ok (.iload_n 1, 1) := by decide +kernel
theorem dX12_takes_30 : decode cX12_takes 30 = .ok (.aload_n 0, 1) := by decide +kernel
theorem dX12_takes_31 : decode cX12_takes 31 = .ok (.getfield 273, 3) := by decide +kernel
theorem dX12_takes_34 : decode cX12_takes 34 = .ok (.iastore, 1) := by decide +kernel
theorem dX12_takes_35 : decode cX12_takes 35 = .ok (.aload_n 0, 1) := by decide +kernel
theorem dX12_takes_36 : decode cX12_takes 36 = .ok (.invokevirtual 285, 3) := by decide +kernel
theorem dX12_takes_39 : decode cX12_takes 39 = .ok (.iconst 1, 1) := by decide +kernel
theorem dX12_takes_40 : decode cX12_takes 40 = .ok (.ireturn, 1) := by decide +kernel
theorem dX12_takesLedge_0 : decode cX12_takesLedge 0 = .ok (.aload_n 0, 1) := by decide +kernel
theorem dX12_takesLedge_1 : decode cX12_takesLedge 1 = .ok (.getfield 54, 3) := by decide +kernel
theorem dX12_takesLedge_4 : decode cX12_takesLedge 4 = .ok (.iconst 0, 1) := by decide +kernel
theorem dX12_takesLedge_5 : decode cX12_takesLedge 5 = .ok (.iaload, 1) := by decide +kernel
theorem dX12_takesLedge_6 : decode cX12_takesLedge 6 = .ok (.bipush 8, 2) := by decide +kernel
theorem dX12_takesLedge_8 : decode cX12_takesLedge 8 = .ok (.if_icmp .ne 5, 3) := by decide +kernel
theorem dX12_takesLedge_11 : decode cX12_takesLedge 11 = .ok (.iconst 0, 1) := by decide +kernel
theorem dX12_takesLedge_12 : decode cX12_takesLedge 12 = .ok (.ireturn, 1) := by decide +kernel
theorem dX12_takesLedge_13 : decode cX12_takesLedge 13 = .ok (.aload_n 0, 1) := by decide +kernel
theorem dX12_takesLedge_14 : decode cX12_takesLedge 14 = .ok (.invokevirtual 285, 3) := by decide +kernel
theorem dX12_takesLedge_17 : decode cX12_takesLedge 17 = .ok (.aload_n 0, 1) := by decide +kernel
theorem dX12_takesLedge_18 : decode cX12_takesLedge 18 = .ok (.iconst 0, 1) := by decide +kernel
theorem dX12_takesLedge_19 : decode cX12_takesLedge 19 = .ok (.iconst 1, 1) := by decide +kernel
theorem dX12_takesLedge_20 : decode cX12_takesLedge 20 = .ok (.bipush 60, 2) := by decide +kernel
theorem dX12_takesLedge_22 : decode cX12_takesLedge 22 = .ok (.invokevirtual 288, 3) := by decide +kernel
theorem dX12_takesLedge_25 : decode cX12_takesLedge 25 = .ok (.ifCond .eq 35, 3) := by decide +kernel
theorem dX12_takesLedge_28 : decode cX12_takesLedge 28 = .ok (.aload_n 0, 1) := by decide +kernel
theorem dX12_takesLedge_29 : decode cX12_takesLedge 29 = .ok (.iconst 1, 1) := by decide +kernel
theorem dX12_takesLedge_30 : decode cX12_takesLedge 30 = .ok (.iconst 0, 1) := by decide +kernel
theorem dX12_takesLedge_31 : decode cX12_takesLedge 31 = .ok (.bipush 30, 2) := by decide +kernel
theorem dX12_takesLedge_33 : decode cX12_takesLedge 33 = .ok (.invokevirtual 288, 3) := by decide +kernel
theorem dX12_takesLedge_36 : decode cX12_takesLedge 36 = .ok (.ifCond .eq 24, 3) := by decide +kernel
theorem dX12_takesLedge_39 : decode cX12_takesLedge 39 = .ok (.iload_n 1, 1) := by decide +kernel
theorem dX12_takesLedge_40 : decode cX12_takesLedge 40 = .ok (.ifCond .eq 22, 3) := by decide +kernel
theorem dX12_takesLedge_43 : decode cX12_takesLedge 43 = .ok (.aload_n 0, 1) := by decide +kernel
theorem dX12_takesLedge_44 : decode cX12_takesLedge 44 = .ok (.iconst 2, 1) := by decide +kernel
theorem dX12_takesLedge_45 : decode cX12_takesLedge 45 = .ok (.iconst 0, 1) := by decide +kernel
theorem dX12_takesLedge_46 : decode cX12_takesLedge 46 = .ok (.aload_n 0, 1) := by decide +kernel
theorem dX12_takesLedge_47 : decode cX12_takesLedge 47 = .ok (.getfield 54, 3) := by decide +kernel
theorem dX12_takesLedge_50 : decode cX12_takesLedge 50 = .ok (.iconst 0, 1) := by decide +kernel
theorem dX12_takesLedge_51 : decode cX12_takesLedge 51 = .ok (.iaload, 1) := by decide +kernel
theorem dX12_takesLedge_52 : decode cX12_takesLedge 52 = .ok (.iconst 1, 1) := by decide +kernel
theorem dX12_takesLedge_53 : decode cX12_takesLedge 53 = .ok (.isub, 1) := by decide +kernel
theorem dX12_takesLedge_54 : decode cX12_takesLedge 54 = .ok (.invokevirtual 288, 3) := by decide +kernel
theorem dX12_takesLedge_57 : decode cX12_takesLedge 57 = .ok (.ifCond .ne 5, 3) := by decide +kernel
theorem dX12_takesLedge_60 : decode cX12_takesLedge 60 = .ok (.iconst 0, 1) := by decide +kernel
theorem dX12_takesLedge_61 : decode cX12_takesLedge 61 = .ok (.ireturn, 1) := by decide +kernel
theorem dX12_takesLedge_62 : decode cX12_takesLedge 62 = .ok (.aload_n 0, 1) := by decide +kernel
theorem dX12_takesLedge_63 : decode cX12_takesLedge 63 = .ok (.getfield 54, 3) := by decide +kernel
theorem dX12_takesLedge_66 : decode cX12_takesLedge 66 = .ok (.aload_n 0, 1) := by decide +kernel
theorem dX12_takesLedge_67 : decode cX12_takesLedge 67 = .ok (.getfield 57, 3) := by decide +kernel
theorem dX12_takesLedge_70 : decode cX12_takesLedge 70 = .ok (.iconst 0, 1) := by decide +kernel
theorem dX12_takesLedge_71 : decode cX12_takesLedge 71 = .ok (.iaload, 1) := by decide +kernel
theorem dX12_takesLedge_72 : decode cX12_takesLedge 72 = .ok (.aload_n 0, 1) := by decide +kernel
theorem dX12_takesLedge_73 : decode cX12_takesLedge 73 = .ok (.getfield 57, 3) := by decide +kernel
theorem dX12_takesLedge_76 : decode cX12_takesLedge 76 = .ok (.iconst 1, 1) := by decide +kernel
theorem dX12_takesLedge_77 : decode cX12_takesLedge 77 = .ok (.iaload, 1) := by decide +kernel
theorem dX12_takesLedge_78 : decode cX12_takesLedge 78 = .ok (.iload_n 1, 1) := by decide +kernel
theorem dX12_takesLedge_79 : decode cX12_takesLedge 79 = .ok (.ifCond .eq 12, 3) := by decide +kernel
theorem dX12_takesLedge_82 : decode cX12_takesLedge 82 = .ok (.aload_n 0, 1) := by decide +kernel
theorem dX12_takesLedge_83 : decode cX12_takesLedge 83 = .ok (.getfield 57, 3) := by decide +kernel
theorem dX12_takesLedge_86 : decode cX12_takesLedge 86 = .ok (.iconst 2, 1) := by decide +kernel
theorem dX12_takesLedge_87 : decode cX12_takesLedge 87 = .ok (.iaload, 1) := by decide +kernel
theorem dX12_takesLedge_88 : decode cX12_takesLedge 88 = .ok (.goto 4, 3) := by decide +kernel
theorem dX12_takesLedge_91 : decode cX12_takesLedge 91 = .ok (.iconst (-1), 1) := by decide +kernel
theorem dX12_takesLedge_92 : decode cX12_takesLedge 92 = .ok (.invokestatic 88, 3) := by decide +kernel
theorem dX12_takesLedge_95 : decode cX12_takesLedge 95 = .ok (.iconst 1, 1) := by decide +kernel
theorem dX12_takesLedge_96 : decode cX12_takesLedge 96 = .ok (.ireturn, 1) := by decide +kernel
theorem dX12_takesVoter_0 : decode cX12_takesVoter 0 = .ok (.aload_n 0, 1) := by decide +kernel
theorem dX12_takesVoter_1 : decode cX12_takesVoter 1 = .ok (.getfield 54, 3) := by decide +kernel
theorem dX12_takesVoter_4 : decode cX12_takesVoter 4 = .ok (.iconst 1, 1) := by decide +kernel
theorem dX12_takesVoter_5 : decode cX12_takesVoter 5 = .ok (.iaload, 1) := by decide +kernel
theorem dX12_takesVoter_6 : decode cX12_takesVoter 6 = .ok (.bipush 6, 2) := by decide +kernel
theorem dX12_takesVoter_8 : decode cX12_takesVoter 8 = .ok (.if_icmp .ne 5, 3) := by decide +kernel
theorem dX12_takesVoter_11 : decode cX12_takesVoter 11 = .ok (.iconst 0, 1) := by decide +kernel
theorem dX12_takesVoter_12 : decode cX12_takesVoter 12 = .ok (.ireturn, 1) := by decide +kernel
theorem dX12_takesVoter_13 : decode cX12_takesVoter 13 = .ok (.aload_n 0, 1) := by decide +kernel
theorem dX12_takesVoter_14 : decode cX12_takesVoter 14 = .ok (.invokevirtual 285, 3) := by decide +kernel
theorem dX12_takesVoter_17 : decode cX12_takesVoter 17 = .ok (.aload_n 0, 1) := by decide +kernel
theorem dX12_takesVoter_18 : decode cX12_takesVoter 18 = .ok (.iconst 0, 1) := by decide +kernel
theorem dX12_takesVoter_19 : decode cX12_takesVoter 19 = .ok (.iconst 0, 1) := by decide +kernel
theorem dX12_takesVoter_20 : decode cX12_takesVoter 20 = .ok (.iconst 5, 1) := by decide +kernel
theorem dX12_takesVoter_21 : decode cX12_takesVoter 21 = .ok (.invokevirtual 288, 3) := by decide +kernel
theorem dX12_takesVoter_24 : decode cX12_takesVoter 24 = .ok (.ifCond .eq 31, 3) := by decide +kernel
theorem dX12_takesVoter_27 : decode cX12_takesVoter 27 = .ok (.aload_n 0, 1) := by decide +kernel
theorem dX12_takesVoter_28 : decode cX12_takesVoter 28 = .ok (.iconst 1, 1) := by decide +kernel
theorem dX12_takesVoter_29 : decode cX12_takesVoter 29 = .ok (.iconst 0, 1) := by decide +kernel
theorem dX12_takesVoter_30 : decode cX12_takesVoter 30 = .ok (.aload_n 0, 1) := by decide +kernel
theorem dX12_takesVoter_31 : decode cX12_takesVoter 31 = .ok (.getfield 54, 3) := by decide +kernel
theorem dX12_takesVoter_34 : decode cX12_takesVoter 34 = .ok (.iconst 0, 1) := by decide +kernel
theorem dX12_takesVoter_35 : decode cX12_takesVoter 35 = .ok (.iaload, 1) := by decide +kernel
theorem dX12_takesVoter_36 : decode cX12_takesVoter 36 = .ok (.iconst 1, 1) := by decide +kernel
theorem dX12_takesVoter_37 : decode cX12_takesVoter 37 = .ok (.isub, 1) := by decide +kernel
theorem dX12_takesVoter_38 : decode cX12_takesVoter 38 = .ok (.invokevirtual 288, 3) := by decide +kernel
theorem dX12_takesVoter_41 : decode cX12_takesVoter 41 = .ok (.ifCond .eq 14, 3) := by decide +kernel
theorem dX12_takesVoter_44 : decode cX12_takesVoter 44 = .ok (.aload_n 0, 1) := by decide +kernel
theorem dX12_takesVoter_45 : decode cX12_takesVoter 45 = .ok (.iconst 2, 1) := by decide +kernel
theorem dX12_takesVoter_46 : decode cX12_takesVoter 46 = .ok (.iconst 1, 1) := by decide +kernel
theorem dX12_takesVoter_47 : decode cX12_takesVoter 47 = .ok (.bipush 9, 2) := by decide +kernel
theorem dX12_takesVoter_49 : decode cX12_takesVoter 49 = .ok (.invokevirtual 288, 3) := by decide +kernel
theorem dX12_takesVoter_52 : decode cX12_takesVoter 52 = .ok (.ifCond .ne 5, 3) := by decide +kernel
theorem dX12_takesVoter_55 : decode cX12_takesVoter 55 = .ok (.iconst 0, 1) := by decide +kernel
theorem dX12_takesVoter_56 : decode cX12_takesVoter 56 = .ok (.ireturn, 1) := by decide +kernel
theorem dX12_takesVoter_57 : decode cX12_takesVoter 57 = .ok (.aload_n 0, 1) := by decide +kernel
theorem dX12_takesVoter_58 : decode cX12_takesVoter 58 = .ok (.getfield 54, 3) := by decide +kernel
theorem dX12_takesVoter_61 : decode cX12_takesVoter 61 = .ok (.aload_n 0, 1) := by decide +kernel
theorem dX12_takesVoter_62 : decode cX12_takesVoter 62 = .ok (.getfield 57, 3) := by decide +kernel
theorem dX12_takesVoter_65 : decode cX12_takesVoter 65 = .ok (.iconst 0, 1) := by decide +kernel
theorem dX12_takesVoter_66 : decode cX12_takesVoter 66 = .ok (.iaload, 1) := by decide +kernel
theorem dX12_takesVoter_67 : decode cX12_takesVoter 67 = .ok (.aload_n 0, 1) := by decide +kernel
theorem dX12_takesVoter_68 : decode cX12_takesVoter 68 = .ok (.getfield 57, 3) := by decide +kernel
theorem dX12_takesVoter_71 : decode cX12_takesVoter 71 = .ok (.iconst 1, 1) := by decide +kernel
theorem dX12_takesVoter_72 : decode cX12_takesVoter 72 = .ok (.iaload, 1) := by decide +kernel
theorem dX12_takesVoter_73 : decode cX12_takesVoter 73 = .ok (.aload_n 0, 1) := by decide +kernel
theorem dX12_takesVoter_74 : decode cX12_takesVoter 74 = .ok (.getfield 57, 3) := by decide +kernel
theorem dX12_takesVoter_77 : decode cX12_takesVoter 77 = .ok (.iconst 2, 1) := by decide +kernel
theorem dX12_takesVoter_78 : decode cX12_takesVoter 78 = .ok (.iaload, 1) := by decide +kernel
theorem dX12_takesVoter_79 : decode cX12_takesVoter 79 = .ok (.invokestatic 100, 3) := by decide +kernel
theorem dX12_takesVoter_82 : decode cX12_takesVoter 82 = .ok (.iconst 1, 1) := by decide +kernel
theorem dX12_takesVoter_83 : decode cX12_takesVoter 83 = .ok (.ireturn, 1) := by decide +kernel
theorem dX12_takesItem_0 : decode cX12_takesItem 0 = .ok (.aload_n 0, 1) := by decide +kernel
theorem dX12_takesItem_1 : decode cX12_takesItem 1 = .ok (.iconst 5, 1) := by decide +kernel
theorem dX12_takesItem_2 : decode cX12_takesItem 2 = .ok (.bipush 108, 2) := by decide +kernel
theorem dX12_takesItem_4 : decode cX12_takesItem 4 = .ok (.bipush 101, 2) := by decide +kernel
theorem dX12_takesItem_6 : decode cX12_takesItem 6 = .ok (.bipush 100, 2) := by decide +kernel
theorem dX12_takesItem_8 : decode cX12_takesItem 8 = .ok (.bipush 103, 2) := by decide +kernel
theorem dX12_takesItem_10 : decode cX12_takesItem 10 = .ok (.bipush 101, 2) := by decide +kernel
theorem dX12_takesItem_12 : decode cX12_takesItem 12 = .ok (.iconst 0, 1) := by decide +kernel
theorem dX12_takesItem_13 : decode cX12_takesItem 13 = .ok (.iconst 0, 1) := by decide +kernel
theorem dX12_takesItem_14 : decode cX12_takesItem 14 = .ok (.invokevirtual 292, 3) := by decide +kernel
theorem dX12_takesItem_17 : decode cX12_takesItem 17 = .ok (.ifCond .eq 9, 3) := by decide +kernel
theorem dX12_takesItem_20 : decode cX12_takesItem 20 = .ok (.aload_n 0, 1) := by decide +kernel
theorem dX12_takesItem_21 : decode cX12_takesItem 21 = .ok (.iconst 0, 1) := by decide +kernel
theorem dX12_takesItem_22 : decode cX12_takesItem 22 = .ok (.invokevirtual 296, 3) := by decide +kernel
theorem dX12_takesItem_25 : decode cX12_takesItem 25 = .ok (.ireturn, 1) := by decide +kernel
theorem dX12_takesItem_26 : decode cX12_takesItem 26 = .ok (.aload_n 0, 1) := by decide +kernel
theorem dX12_takesItem_27 : decode cX12_takesItem 27 = .ok (.iconst 5, 1) := by decide +kernel
theorem dX12_takesItem_28 : decode cX12_takesItem 28 = .ok (.bipush 98, 2) := by decide +kernel
theorem dX12_takesItem_30 : decode cX12_takesItem 30 = .ok (.bipush 101, 2) := by decide +kernel
theorem dX12_takesItem_32 : decode cX12_takesItem 32 = .ok (.bipush 108, 2) := by decide +kernel
theorem dX12_takesItem_34 : decode cX12_takesItem 34 = .ok (.bipush 111, 2) := by decide +kernel
theorem dX12_takesItem_36 : decode cX12_takesItem 36 = .ok (.bipush 119, 2) := by decide +kernel
theorem dX12_takesItem_38 : decode cX12_takesItem 38 = .ok (.iconst 0, 1) := by decide +kernel
theorem dX12_takesItem_39 : decode cX12_takesItem 39 = .ok (.iconst 0, 1) := by decide +kernel
theorem dX12_takesItem_40 : decode cX12_takesItem 40 = .ok (.invokevirtual 292, 3) := by decide +kernel
theorem dX12_takesItem_43 : decode cX12_takesItem 43 = .ok (.ifCond .eq 9, 3) := by decide +kernel
theorem dX12_takesItem_46 : decode cX12_takesItem 46 = .ok (.aload_n 0, 1) := by decide +kernel
theorem dX12_takesItem_47 : decode cX12_takesItem 47 = .ok (.iconst 1, 1) := by decide +kernel
theorem dX12_takesItem_48 : decode cX12_takesItem 48 = .ok (.invokevirtual 296, 3) := by decide +kernel
theorem dX12_takesItem_51 : decode cX12_takesItem 51 = .ok (.ireturn, 1) := by decide +kernel
theorem dX12_takesItem_52 : decode cX12_takesItem 52 = .ok (.aload_n 0, 1) := by decide +kernel
theorem dX12_takesItem_53 : decode cX12_takesItem 53 = .ok (.iconst 5, 1) := by decide +kernel
theorem dX12_takesItem_54 : decode cX12_takesItem 54 = .ok (.bipush 118, 2) := by decide +kernel
theorem dX12_takesItem_56 : decode cX12_takesItem 56 = .ok (.bipush 111, 2) := by decide +kernel
theorem dX12_takesItem_58 : decode cX12_takesItem 58 = .ok (.bipush 116, 2) := by decide +kernel
theorem dX12_takesItem_60 : decode cX12_takesItem 60 = .ok (.bipush 101, 2) := by decide +kernel
theorem dX12_takesItem_62 : decode cX12_takesItem 62 = .ok (.bipush 114, 2) := by decide +kernel
theorem dX12_takesItem_64 : decode cX12_takesItem 64 = .ok (.iconst 0, 1) := by decide +kernel
theorem dX12_takesItem_65 : decode cX12_takesItem 65 = .ok (.iconst 0, 1) := by decide +kernel
theorem dX12_takesItem_66 : decode cX12_takesItem 66 = .ok (.invokevirtual 292, 3) := by decide +kernel
theorem dX12_takesItem_69 : decode cX12_takesItem 69 = .ok (.ifCond .eq 14, 3) := by decide +kernel
theorem dX12_takesItem_72 : decode cX12_takesItem 72 = .ok (.aload_n 0, 1) := by decide +kernel
theorem dX12_takesItem_73 : decode cX12_takesItem 73 = .ok (.invokevirtual 300, 3) := by decide +kernel
theorem dX12_takesItem_76 : decode cX12_takesItem 76 = .ok (.ifCond .eq 7, 3) := by decide +kernel
theorem dX12_takesItem_79 : decode cX12_takesItem 79 = .ok (.iconst 1, 1) := by decide +kernel
theorem dX12_takesItem_80 : decode cX12_takesItem 80 = .ok (.goto 4, 3) := by decide +kernel
theorem dX12_takesItem_83 : decode cX12_takesItem 83 = .ok (.iconst 0, 1) := by decide +kernel
theorem dX12_takesItem_84 : decode cX12_takesItem 84 = .ok (.ireturn, 1) := by decide +kernel
theorem dX12_read_0 : decode cX12_read 0 = .ok (.aload_n 0, 1) := by decide +kernel
theorem dX12_read_1 : decode cX12_read 1 = .ok (.iconst 0, 1) := by decide +kernel
theorem dX12_read_2 : decode cX12_read 2 = .ok (.invokevirtual 282, 3) := by decide +kernel
theorem dX12_read_5 : decode cX12_read 5 = .ok (.aload_n 0, 1) := by decide +kernel
theorem dX12_read_6 : decode cX12_read 6 = .ok (.bipush 8, 2) := by decide +kernel
theorem dX12_read_8 : decode cX12_read 8 = .ok (.bipush 109, 2) := by decide +kernel
theorem dX12_read_10 : decode cX12_read 10 = .ok (.bipush 111, 2) := by decide +kernel
theorem dX12_read_12 : decode cX12_read 12 = .ok (.bipush 117, 2) := by decide +kernel
theorem dX12_read_14 : decode cX12_read 14 = .ok (.bipush 110, 2) := by decide +kernel
theorem dX12_read_16 : decode cX12_read 16 = .ok (.bipush 116, 2) := by decide +kernel
theorem dX12_read_18 : decode cX12_read 18 = .ok (.bipush 97, 2) := by decide +kernel
theorem dX12_read_20 : decode cX12_read 20 = .ok (.sipush 13550, 3) := by decide +kernel
theorem dX12_read_23 : decode cX12_read 23 = .ok (.invokevirtual 292, 3) := by decide +kernel
theorem dX12_read_26 : decode cX12_read 26 = .ok (.ifCond .ne 11, 3) := by decide +kernel
theorem dX12_read_29 : decode cX12_read 29 = .ok (.bipush (-10), 2) := by decide +kernel
theorem dX12_read_31 : decode cX12_read 31 = .ok (.aload_n 0, 1) := by decide +kernel
theorem dX12_read_32 : decode cX12_read 32 = .ok (.getfield 264, 3) := by decide +kernel
theorem dX12_read_35 : decode cX12_read 35 = .ok (.isub, 1) := by decide +kernel
theorem dX12_read_36 : decode cX12_read 36 = .ok (.ireturn, 1) := by decide +kernel
theorem dX12_read_37 : decode cX12_read 37 = .ok (.aload_n 0, 1) := by decide +kernel
theorem dX12_read_38 : decode cX12_read 38 = .ok (.invokevirtual 285, 3) := by decide +kernel
theorem dX12_read_41 : decode cX12_read 41 = .ok (.aload_n 0, 1) := by decide +kernel
theorem dX12_read_42 : decode cX12_read 42 = .ok (.getfield 270, 3) := by decide +kernel
theorem dX12_read_45 : decode cX12_read 45 = .ok (.iconst 3, 1) := by decide +kernel
theorem dX12_read_46 : decode cX12_read 46 = .ok (.if_icmp .eq 11, 3) := by decide +kernel
theorem dX12_read_49 : decode cX12_read 49 = .ok (.bipush (-10), 2) := by decide +kernel
theorem dX12_read_51 : decode cX12_read 51 = .ok (.aload_n 0, 1) := by decide +kernel
theorem dX12_read_52 : decode cX12_read 52 = .ok (.getfield 264, 3) := by decide +kernel
theorem dX12_read_55 : decode cX12_read 55 = .ok (.isub, 1) := by decide +kernel
theorem dX12_read_56 : decode cX12_read 56 = .ok (.ireturn, 1) := by decide +kernel
theorem dX12_read_57 : decode cX12_read 57 = .ok (.aload_n 0, 1) := by decide +kernel
theorem dX12_read_58 : decode cX12_read 58 = .ok (.invokevirtual 285, 3) := by decide +kernel
theorem dX12_read_61 : decode cX12_read 61 = .ok (.aload_n 0, 1) := by decide +kernel
theorem dX12_read_62 : decode cX12_read 62 = .ok (.getfield 54, 3) := by decide +kernel
theorem dX12_read_65 : decode cX12_read 65 = .ok (.invokestatic 60, 3) := by decide +kernel
theorem dX12_read_68 : decode cX12_read 68 = .ok (.iconst 1, 1) := by decide +kernel
theorem dX12_read_69 : decode cX12_read 69 = .ok (.istore_n 1, 1) := by decide +kernel
theorem dX12_read_70 : decode cX12_read 70 = .ok (.aload_n 0, 1) := by decide +kernel
theorem dX12_read_71 : decode cX12_read 71 = .ok (.getfield 270, 3) := by decide +kernel
theorem dX12_read_74 : decode cX12_read 74 = .ok (.ifCond .eq 36, 3) := by decide +kernel
theorem dX12_read_77 : decode cX12_read 77 = .ok (.aload_n 0, 1) := by decide +kernel
theorem dX12_read_78 : decode cX12_read 78 = .ok (.invokevirtual 303, 3) := by decide +kernel
theorem dX12_read_81 : decode cX12_read 81 = .ok (.ifCond .eq 11, 3) := by decide +kernel
theorem dX12_read_84 : decode cX12_read 84 = .ok (.aload_n 0, 1) := by decide +kernel
theorem dX12_read_85 : decode cX12_read 85 = .ok (.getfield 270, 3) := by decide +kernel
theorem dX12_read_88 : decode cX12_read 88 = .ok (.iconst 3, 1) := by decide +kernel
theorem dX12_read_89 : decode cX12_read 89 = .ok (.if_icmp .eq 11, 3) := by decide +kernel
theorem dX12_read_92 : decode cX12_read 92 = .ok (.bipush (-10), 2) := by decide +kernel
theorem dX12_read_94 : decode cX12_read 94 = .ok (.aload_n 0, 1) := by decide +kernel
theorem dX12_read_95 : decode cX12_read 95 = .ok (.getfield 264, 3) := by decide +kernel
theorem dX12_read_98 : decode cX12_read 98 = .ok (.isub, 1) := by decide +kernel
theorem dX12_read_99 : decode cX12_read 99 = .ok (.ireturn, 1) := by decide +kernel
theorem dX12_read_100 : decode cX12_read 100 = .ok (.aload_n 0, 1) := by decide +kernel
theorem dX12_read_101 : decode cX12_read 101 = .ok (.invokevirtual 285, 3) := by decide +kernel
theorem dX12_read_104 : decode cX12_read 104 = .ok (.iinc 1 1, 3) := by decide +kernel
theorem dX12_read_107 : decode cX12_read 107 = .ok (.goto (-37), 3) := by decide +kernel
theorem dX12_read_110 : decode cX12_read 110 = .ok (.iconst 0, 1) := by decide +kernel
theorem dX12_read_111 : decode cX12_read 111 = .ok (.istore_n 2, 1) := by decide +kernel
theorem dX12_read_112 : decode cX12_read 112 = .ok (.iload_n 2, 1) := by decide +kernel
theorem dX12_read_113 : decode cX12_read 113 = .ok (.bipush 69, 2) := by decide +kernel
theorem dX12_read_115 : decode cX12_read 115 = .ok (.if_icmp .ge 21, 3) := by decide +kernel
theorem dX12_read_118 : decode cX12_read 118 = .ok (.aload_n 0, 1) := by decide +kernel
theorem dX12_read_119 : decode cX12_read 119 = .ok (.getfield 7, 3) := by decide +kernel
theorem dX12_read_122 : decode cX12_read 122 = .ok (.iload_n 2, 1) := by decide +kernel
theorem dX12_read_123 : decode cX12_read 123 = .ok (.aload_n 0, 1) := by decide +kernel
theorem dX12_read_124 : decode cX12_read 124 = .ok (.getfield 54, 3) := by decide +kernel
theorem dX12_read_127 : decode cX12_read 127 = .ok (.iload_n 2, 1) := by decide +kernel
theorem dX12_read_128 : decode cX12_read 128 = .ok (.iaload, 1) := by decide +kernel
theorem dX12_read_129 : decode cX12_read 129 = .ok (.iastore, 1) := by decide +kernel
theorem dX12_read_130 : decode cX12_read 130 = .ok (.iinc 2 1, 3) := by decide +kernel
theorem dX12_read_133 : decode cX12_read 133 = .ok (.goto (-21), 3) := by decide +kernel
theorem dX12_read_136 : decode cX12_read 136 = .ok (.iload_n 1, 1) := by decide +kernel
theorem dX12_read_137 : decode cX12_read 137 = .ok (.ireturn, 1) := by decide +kernel
theorem dX12_part_0 : decode cX12_part 0 = .ok (.iload_n 1, 1) := by decide +kernel
theorem dX12_part_1 : decode cX12_part 1 = .ok (.ifCond .ne 10, 3) := by decide +kernel
theorem dX12_part_4 : decode cX12_part 4 = .ok (.aload_n 0, 1) := by decide +kernel
theorem dX12_part_5 : decode cX12_part 5 = .ok (.getfield 228, 3) := by decide +kernel
theorem dX12_part_8 : decode cX12_part 8 = .ok (.goto 22, 3) := by decide +kernel
theorem dX12_part_11 : decode cX12_part 11 = .ok (.iload_n 1, 1) := by decide +kernel
theorem dX12_part_12 : decode cX12_part 12 = .ok (.iconst 1, 1) := by decide +kernel
theorem dX12_part_13 : decode cX12_part 13 = .ok (.if_icmp .ne 10, 3) := by decide +kernel
theorem dX12_part_16 : decode cX12_part 16 = .ok (.aload_n 0, 1) := by decide +kernel
theorem dX12_part_17 : decode cX12_part 17 = .ok (.getfield 23, 3) := by decide +kernel
theorem dX12_part_20 : decode cX12_part 20 = .ok (.goto 10, 3) := by decide +kernel
theorem dX12_part_23 : decode cX12_part 23 = .ok (.aload_n 0, 1) := by decide +kernel
theorem dX12_part_24 : decode cX12_part 24 = .ok (.bipush (-2), 2) := by decide +kernel
theorem dX12_part_26 : decode cX12_part 26 = .ok (.invokevirtual 81, 3) := by decide +kernel
theorem dX12_part_29 : decode cX12_part 29 = .ok (.i2l, 1) := by decide +kernel
theorem dX12_part_30 : decode cX12_part 30 = .ok (.lreturn, 1) := by decide +kernel
theorem dX12_image_0 : decode cX12_image 0 = .ok (.iload_n 1, 1) := by decide +kernel
theorem dX12_image_1 : decode cX12_image 1 = .ok (.i2l, 1) := by decide +kernel
theorem dX12_image_2 : decode cX12_image 2 = .ok (.lconst 0, 1) := by decide +kernel
theorem dX12_image_3 : decode cX12_image 3 = .ok (.lconst 1, 1) := by decide +kernel
theorem dX12_image_4 : decode cX12_image 4 = .ok (.invokestatic 68, 3) := by decide +kernel
theorem dX12_image_7 : decode cX12_image 7 = .ok (.ifCond .ne 10, 3) := by decide +kernel
theorem dX12_image_10 : decode cX12_image 10 = .ok (.aload_n 0, 1) := by decide +kernel
theorem dX12_image_11 : decode cX12_image 11 = .ok (.bipush (-2), 2) := by decide +kernel
theorem dX12_image_13 : decode cX12_image 13 = .ok (.invokevirtual 81, 3) := by decide +kernel
theorem dX12_image_16 : decode cX12_image 16 = .ok (.ireturn, 1) := by decide +kernel
theorem dX12_image_17 : decode cX12_image 17 = .ok (.iconst 0, 1) := by decide +kernel
theorem dX12_image_18 : decode cX12_image 18 = .ok (.istore_n 2, 1) := by decide +kernel
theorem dX12_image_19 : decode cX12_image 19 = .ok (.iload_n 2, 1) := by decide +kernel
theorem dX12_image_20 : decode cX12_image 20 = .ok (.sipush 221, 3) := by decide +kernel
theorem dX12_image_23 : decode cX12_image 23 = .ok (.if_icmp .ge 27, 3) := by decide +kernel
theorem dX12_image_26 : decode cX12_image 26 = .ok (.aload_n 0, 1) := by decide +kernel
theorem dX12_image_27 : decode cX12_image 27 = .ok (.getfield 13, 3) := by decide +kernel
theorem dX12_image_30 : decode cX12_image 30 = .ok (.sipush 221, 3) := by decide +kernel
theorem dX12_image_33 : decode cX12_image 33 = .ok (.iload_n 1, 1) := by decide +kernel
theorem dX12_image_34 : decode cX12_image 34 = .ok (.imul, 1) := by decide +kernel
theorem dX12_image_35 : decode cX12_image 35 = .ok (.iload_n 2, 1) := by decide +kernel
theorem dX12_image_36 : decode cX12_image 36 = .ok (.iadd, 1) := by decide +kernel
theorem dX12_image_37 : decode cX12_image 37 = .ok (.aload_n 0, 1) := by decide +kernel
theorem dX12_image_38 : decode cX12_image 38 = .ok (.getfield 7, 3) := by decide +kernel
theorem dX12_image_41 : decode cX12_image 41 = .ok (.iload_n 2, 1) := by decide +kernel
theorem dX12_image_42 : decode cX12_image 42 = .ok (.iaload, 1) := by decide +kernel
theorem dX12_image_43 : decode cX12_image 43 = .ok (.iastore, 1) := by decide +kernel
theorem dX12_image_44 : decode cX12_image 44 = .ok (.iinc 2 1, 3) := by decide +kernel
theorem dX12_image_47 : decode cX12_image 47 = .ok (.goto (-28), 3) := by decide +kernel
theorem dX12_image_50 : decode cX12_image 50 = .ok (.aload_n 0, 1) := by decide +kernel
theorem dX12_image_51 : decode cX12_image 51 = .ok (.getfield 16, 3) := by decide +kernel
theorem dX12_image_54 : decode cX12_image 54 = .ok (.iload_n 1, 1) := by decide +kernel
theorem dX12_image_55 : decode cX12_image 55 = .ok (.iconst 1, 1) := by decide +kernel
theorem dX12_image_56 : decode cX12_image 56 = .ok (.bastore, 1) := by decide +kernel
theorem dX12_image_57 : decode cX12_image 57 = .ok (.iconst 1, 1) := by decide +kernel
theorem dX12_image_58 : decode cX12_image 58 = .ok (.ireturn, 1) := by decide +kernel
theorem dX12_from_0 : decode cX12_from 0 = .ok (.iload_n 1, 1) := by decide +kernel
theorem dX12_from_1 : decode cX12_from 1 = .ok (.i2l, 1) := by decide +kernel
theorem dX12_from_2 : decode cX12_from 2 = .ok (.lconst 0, 1) := by decide +kernel
theorem dX12_from_3 : decode cX12_from 3 = .ok (.lconst 1, 1) := by decide +kernel
theorem dX12_from_4 : decode cX12_from 4 = .ok (.invokestatic 68, 3) := by decide +kernel
theorem dX12_from_7 : decode cX12_from 7 = .ok (.ifCond .ne 10, 3) := by decide +kernel
theorem dX12_from_10 : decode cX12_from 10 = .ok (.aload_n 0, 1) := by decide +kernel
theorem dX12_from_11 : decode cX12_from 11 = .ok (.bipush (-2), 2) := by decide +kernel
theorem dX12_from_13 : decode cX12_from 13 = .ok (.invokevirtual 81, 3) := by decide +kernel
theorem dX12_from_16 : decode cX12_from 16 = .ok (.ireturn, 1) := by decide +kernel
theorem dX12_from_17 : decode cX12_from 17 = .ok (.aload_n 0, 1) := by decide +kernel
theorem dX12_from_18 : decode cX12_from 18 = .ok (.getfield 16, 3) := by decide +kernel
theorem dX12_from_21 : decode cX12_from 21 = .ok (.iload_n 1, 1) := by decide +kernel
theorem dX12_from_22 : decode cX12_from 22 = .ok (.baload, 1) := by decide +kernel
theorem dX12_from_23 : decode cX12_from 23 = .ok (.ifCond .ne 8, 3) := by decide +kernel
theorem dX12_from_26 : decode cX12_from 26 = .ok (.aload_n 0, 1) := by decide +kernel
theorem dX12_from_27 : decode cX12_from 27 = .ok (.invokevirtual 173, 3) := by decide +kernel
theorem dX12_from_30 : decode cX12_from 30 = .ok (.ireturn, 1) := by decide +kernel
theorem dX12_from_31 : decode cX12_from 31 = .ok (.iconst 0, 1) := by decide +kernel
theorem dX12_from_32 : decode cX12_from 32 = .ok (.istore_n 2, 1) := by decide +kernel
theorem dX12_from_33 : decode cX12_from 33 = .ok (.iload_n 2, 1) := by decide +kernel
theorem dX12_from_34 : decode cX12_from 34 = .ok (.sipush 221, 3) := by decide +kernel
theorem dX12_from_37 : decode cX12_from 37 = .ok (.if_icmp .ge 27, 3) := by decide +kernel
theorem dX12_from_40 : decode cX12_from 40 = .ok (.aload_n 0, 1) := by decide +kernel
theorem dX12_from_41 : decode cX12_from 41 = .ok (.getfield 7, 3) := by decide +kernel
theorem dX12_from_44 : decode cX12_from 44 = .ok (.iload_n 2, 1) := by decide +kernel
theorem dX12_from_45 : decode cX12_from 45 = .ok (.aload_n 0, 1) := by decide +kernel
theorem dX12_from_46 : decode cX12_from 46 = .ok (.getfield 13, 3) := by decide +kernel
theorem dX12_from_49 : decode cX12_from 49 = .ok (.sipush 221, 3) := by decide +kernel
theorem dX12_from_52 : decode cX12_from 52 = .ok (.iload_n 1, 1) := by decide +kernel
theorem dX12_from_53 : decode cX12_from 53 = .ok (.imul, 1) := by decide +kernel
theorem dX12_from_54 : decode cX12_from 54 = .ok (.iload_n 2, 1) := by decide +kernel
theorem dX12_from_55 : decode cX12_from 55 = .ok (.iadd, 1) := by decide +kernel
theorem dX12_from_56 : decode cX12_from 56 = .ok (.iaload, 1) := by decide +kernel
theorem dX12_from_57 : decode cX12_from 57 = .ok (.iastore, 1) := by decide +kernel
theorem dX12_from_58 : decode cX12_from 58 = .ok (.iinc 2 1, 3) := by decide +kernel
theorem dX12_from_61 : decode cX12_from 61 = .ok (.goto (-28), 3) := by decide +kernel
theorem dX12_from_64 : decode cX12_from 64 = .ok (.iconst 1, 1) := by decide +kernel
theorem dX12_from_65 : decode cX12_from 65 = .ok (.ireturn, 1) := by decide +kernel
theorem dX12_status_0 : decode cX12_status 0 = .ok (.iload_n 1, 1) := by decide +kernel
theorem dX12_status_1 : decode cX12_status 1 = .ok (.i2l, 1) := by decide +kernel
theorem dX12_status_2 : decode cX12_status 2 = .ok (.lconst 0, 1) := by decide +kernel
theorem dX12_status_3 : decode cX12_status 3 = .ok (.ldc2_w 306, 3) := by decide +kernel
theorem dX12_status_6 : decode cX12_status 6 = .ok (.invokestatic 68, 3) := by decide +kernel
theorem dX12_status_9 : decode cX12_status 9 = .ok (.ifCond .eq 12, 3) := by decide +kernel
theorem dX12_status_12 : decode cX12_status 12 = .ok (.aload_n 0, 1) := by decide +kernel
theorem dX12_status_13 : decode cX12_status 13 = .ok (.getfield 20, 3) := by decide +kernel
theorem dX12_status_16 : decode cX12_status 16 = .ok (.iload_n 1, 1) := by decide +kernel
theorem dX12_status_17 : decode cX12_status 17 = .ok (.iaload, 1) := by decide +kernel
theorem dX12_status_18 : decode cX12_status 18 = .ok (.goto 8, 3) := by decide +kernel
theorem dX12_status_21 : decode cX12_status 21 = .ok (.aload_n 0, 1) := by decide +kernel
theorem dX12_status_22 : decode cX12_status 22 = .ok (.iconst (-1), 1) := by decide +kernel
theorem dX12_status_23 : decode cX12_status 23 = .ok (.invokevirtual 81, 3) := by decide +kernel
theorem dX12_status_26 : decode cX12_status 26 = .ok (.ireturn, 1) := by decide +kernel
theorem dX12_allLoads_0 : decode cX12_allLoads 0 = .ok (.iconst 0, 1) := by decide +kernel
theorem dX12_allLoads_1 : decode cX12_allLoads 1 = .ok (.istore_n 1, 1) := by decide +kernel
theorem dX12_allLoads_2 : decode cX12_allLoads 2 = .ok (.iconst 0, 1) := by decide +kernel
theorem dX12_allLoads_3 : decode cX12_allLoads 3 = .ok (.istore_n 2, 1) := by decide +kernel
theorem dX12_allLoads_4 : decode cX12_allLoads 4 = .ok (.iload_n 2, 1) := by decide +kernel
theorem dX12_allLoads_5 : decode cX12_allLoads 5 = .ok (.aload_n 0, 1) := by decide +kernel
theorem dX12_allLoads_6 : decode cX12_allLoads 6 = .ok (.invokevirtual 64, 3) := by decide +kernel
theorem dX12_allLoads_9 : decode cX12_allLoads 9 = .ok (.if_icmp .ge 25, 3) := by decide +kernel
theorem dX12_allLoads_12 : decode cX12_allLoads 12 = .ok (.iload_n 1, 1) := by decide +kernel
theorem dX12_allLoads_13 : decode cX12_allLoads 13 = .ok (.aload_n 0, 1) := by decide +kernel
theorem dX12_allLoads_14 : decode cX12_allLoads 14 = .ok (.iload_n 2, 1) := by decide +kernel
theorem dX12_allLoads_15 : decode cX12_allLoads 15 = .ok (.iconst 1, 1) := by decide +kernel
theorem dX12_allLoads_16 : decode cX12_allLoads 16 = .ok (.invokevirtual 103, 3) := by decide +kernel
theorem dX12_allLoads_19 : decode cX12_allLoads 19 = .ok (.aload_n 0, 1) := by decide +kernel
theorem dX12_allLoads_20 : decode cX12_allLoads 20 = .ok (.iload_n 2, 1) := by decide +kernel
theorem dX12_allLoads_21 : decode cX12_allLoads 21 = .ok (.iconst 2, 1) := by decide +kernel
theorem dX12_allLoads_22 : decode cX12_allLoads 22 = .ok (.invokevirtual 103, 3) := by decide +kernel
theorem dX12_allLoads_25 : decode cX12_allLoads 25 = .ok (.iadd, 1) := by decide +kernel
theorem dX12_allLoads_26 : decode cX12_allLoads 26 = .ok (.iadd, 1) := by decide +kernel
theorem dX12_allLoads_27 : decode cX12_allLoads 27 = .ok (.istore_n 1, 1) := by decide +kernel
theorem dX12_allLoads_28 : decode cX12_allLoads 28 = .ok (.iinc 2 1, 3) := by decide +kernel
theorem dX12_allLoads_31 : decode cX12_allLoads 31 = .ok (.goto (-27), 3) := by decide +kernel
theorem dX12_allLoads_34 : decode cX12_allLoads 34 = .ok (.iload_n 1, 1) := by decide +kernel
theorem dX12_allLoads_35 : decode cX12_allLoads 35 = .ok (.ireturn, 1) := by decide +kernel
theorem dX12_counted_0 : decode cX12_counted 0 = .ok (.iload_n 1, 1) := by decide +kernel
theorem dX12_counted_1 : decode cX12_counted 1 = .ok (.tableswitch 75 0 5 #[39, 44, 49, 56, 61, 68], 39) := by decide +kernel
theorem dX12_counted_40 : decode cX12_counted 40 = .ok (.aload_n 0, 1) := by decide +kernel
theorem dX12_counted_41 : decode cX12_counted 41 = .ok (.invokevirtual 64, 3) := by decide +kernel
theorem dX12_counted_44 : decode cX12_counted 44 = .ok (.ireturn, 1) := by decide +kernel
theorem dX12_counted_45 : decode cX12_counted 45 = .ok (.aload_n 0, 1) := by decide +kernel
theorem dX12_counted_46 : decode cX12_counted 46 = .ok (.invokevirtual 72, 3) := by decide +kernel
theorem dX12_counted_49 : decode cX12_counted 49 = .ok (.ireturn, 1) := by decide +kernel
theorem dX12_counted_50 : decode cX12_counted 50 = .ok (.aload_n 0, 1) := by decide +kernel
theorem dX12_counted_51 : decode cX12_counted 51 = .ok (.getfield 7, 3) := by decide +kernel
theorem dX12_counted_54 : decode cX12_counted 54 = .ok (.iconst 2, 1) := by decide +kernel
theorem dX12_counted_55 : decode cX12_counted 55 = .ok (.iaload, 1) := by decide +kernel
theorem dX12_counted_56 : decode cX12_counted 56 = .ok (.ireturn, 1) := by decide +kernel
theorem dX12_counted_57 : decode cX12_counted 57 = .ok (.aload_n 0, 1) := by decide +kernel
theorem dX12_counted_58 : decode cX12_counted 58 = .ok (.invokevirtual 308, 3) := by decide +kernel
theorem dX12_counted_61 : decode cX12_counted 61 = .ok (.ireturn, 1) := by decide +kernel
theorem dX12_counted_62 : decode cX12_counted 62 = .ok (.aload_n 0, 1) := by decide +kernel
theorem dX12_counted_63 : decode cX12_counted 63 = .ok (.getfield 7, 3) := by decide +kernel
theorem dX12_counted_66 : decode cX12_counted 66 = .ok (.iconst 3, 1) := by decide +kernel
theorem dX12_counted_67 : decode cX12_counted 67 = .ok (.iaload, 1) := by decide +kernel
theorem dX12_counted_68 : decode cX12_counted 68 = .ok (.ireturn, 1) := by decide +kernel
theorem dX12_counted_69 : decode cX12_counted 69 = .ok (.aload_n 0, 1) := by decide +kernel
theorem dX12_counted_70 : decode cX12_counted 70 = .ok (.getfield 7, 3) := by decide +kernel
theorem dX12_counted_73 : decode cX12_counted 73 = .ok (.iconst 4, 1) := by decide +kernel
theorem dX12_counted_74 : decode cX12_counted 74 = .ok (.iaload, 1) := by decide +kernel
theorem dX12_counted_75 : decode cX12_counted 75 = .ok (.ireturn, 1) := by decide +kernel
theorem dX12_counted_76 : decode cX12_counted 76 = .ok (.aload_n 0, 1) := by decide +kernel
theorem dX12_counted_77 : decode cX12_counted 77 = .ok (.getfield 253, 3) := by decide +kernel
theorem dX12_counted_80 : decode cX12_counted 80 = .ok (.ireturn, 1) := by decide +kernel
theorem dX12_count_0 : decode cX12_count 0 = .ok (.iload_n 1, 1) := by decide +kernel
theorem dX12_count_1 : decode cX12_count 1 = .ok (.i2l, 1) := by decide +kernel
theorem dX12_count_2 : decode cX12_count 2 = .ok (.lconst 0, 1) := by decide +kernel
theorem dX12_count_3 : decode cX12_count 3 = .ok (.ldc2_w 311, 3) := by decide +kernel
theorem dX12_count_6 : decode cX12_count 6 = .ok (.invokestatic 68, 3) := by decide +kernel
theorem dX12_count_9 : decode cX12_count 9 = .ok (.ifCond .eq 11, 3) := by decide +kernel
theorem dX12_count_12 : decode cX12_count 12 = .ok (.aload_n 0, 1) := by decide +kernel
theorem dX12_count_13 : decode cX12_count 13 = .ok (.iload_n 1, 1) := by decide +kernel
theorem dX12_count_14 : decode cX12_count 14 = .ok (.invokevirtual 313, 3) := by decide +kernel
theorem dX12_count_17 : decode cX12_count 17 = .ok (.goto 9, 3) := by decide +kernel
theorem dX12_count_20 : decode cX12_count 20 = .ok (.aload_n 0, 1) := by decide +kernel
theorem dX12_count_21 : decode cX12_count 21 = .ok (.bipush (-2), 2) := by decide +kernel
theorem dX12_count_23 : decode cX12_count 23 = .ok (.invokevirtual 81, 3) := by decide +kernel
theorem dX12_count_26 : decode cX12_count 26 = .ok (.ireturn, 1) := by decide +kernel
theorem dX12_sums_0 : decode cX12_sums 0 = .ok (.lload_n 1, 1) := by decide +kernel
theorem dX12_sums_1 : decode cX12_sums 1 = .ok (.lstore 5, 2) := by decide +kernel
theorem dX12_sums_3 : decode cX12_sums 3 = .ok (.iconst 0, 1) := by decide +kernel
theorem dX12_sums_4 : decode cX12_sums 4 = .ok (.istore 7, 2) := by decide +kernel
theorem dX12_sums_6 : decode cX12_sums 6 = .ok (.iload 7, 2) := by decide +kernel
theorem dX12_sums_8 : decode cX12_sums 8 = .ok (.iload 4, 2) := by decide +kernel
theorem dX12_sums_10 : decode cX12_sums 10 = .ok (.if_icmp .ge 28, 3) := by decide +kernel
theorem dX12_sums_13 : decode cX12_sums 13 = .ok (.ldc2_w 316, 3) := by decide +kernel
theorem dX12_sums_16 : decode cX12_sums 16 = .ok (.lload 5, 2) := by decide +kernel
theorem dX12_sums_18 : decode cX12_sums 18 = .ok (.lmul, 1) := by decide +kernel
theorem dX12_sums_19 : decode cX12_sums 19 = .ok (.aload_n 0, 1) := by decide +kernel
theorem dX12_sums_20 : decode cX12_sums 20 = .ok (.getfield 7, 3) := by decide +kernel
theorem dX12_sums_23 : decode cX12_sums 23 = .ok (.iload_n 3, 1) := by decide +kernel
theorem dX12_sums_24 : decode cX12_sums 24 = .ok (.iload 7, 2) := by decide +kernel
theorem dX12_sums_26 : decode cX12_sums 26 = .ok (.iadd, 1) := by decide +kernel
theorem dX12_sums_27 : decode cX12_sums 27 = .ok (.iaload, 1) := by decide +kernel
theorem dX12_sums_28 : decode cX12_sums 28 = .ok (.i2l, 1) := by decide +kernel
theorem dX12_sums_29 : decode cX12_sums 29 = .ok (.ladd, 1) := by decide +kernel
theorem dX12_sums_30 : decode cX12_sums 30 = .ok (.lstore 5, 2) := by decide +kernel
theorem dX12_sums_32 : decode cX12_sums 32 = .ok (.iinc 7 1, 3) := by decide +kernel
theorem dX12_sums_35 : decode cX12_sums 35 = .ok (.goto (-29), 3) := by decide +kernel
theorem dX12_sums_38 : decode cX12_sums 38 = .ok (.lload 5, 2) := by decide +kernel
theorem dX12_sums_40 : decode cX12_sums 40 = .ok (.lreturn, 1) := by decide +kernel
theorem dX12_digest_0 : decode cX12_digest 0 = .ok (.ldc2_w 318, 3) := by decide +kernel
theorem dX12_digest_3 : decode cX12_digest 3 = .ok (.lstore_n 1, 1) := by decide +kernel
theorem dX12_digest_4 : decode cX12_digest 4 = .ok (.iconst 0, 1) := by decide +kernel
theorem dX12_digest_5 : decode cX12_digest 5 = .ok (.istore_n 3, 1) := by decide +kernel
theorem dX12_digest_6 : decode cX12_digest 6 = .ok (.iload_n 3, 1) := by decide +kernel
theorem dX12_digest_7 : decode cX12_digest 7 = .ok (.bipush 7, 2) := by decide +kernel
theorem dX12_digest_9 : decode cX12_digest 9 = .ok (.if_icmp .ge 22, 3) := by decide +kernel
theorem dX12_digest_12 : decode cX12_digest 12 = .ok (.ldc2_w 316, 3) := by decide +kernel
theorem dX12_digest_15 : decode cX12_digest 15 = .ok (.lload_n 1, 1) := by decide +kernel
theorem dX12_digest_16 : decode cX12_digest 16 = .ok (.lmul, 1) := by decide +kernel
theorem dX12_digest_17 : decode cX12_digest 17 = .ok (.aload_n 0, 1) := by decide +kernel
theorem dX12_digest_18 : decode cX12_digest 18 = .ok (.iload_n 3, 1) := by decide +kernel
theorem dX12_digest_19 : decode cX12_digest 19 = .ok (.invokevirtual 313, 3) := by decide +kernel
theorem dX12_digest_22 : decode cX12_digest 22 = .ok (.i2l, 1) := by decide +kernel
theorem dX12_digest_23 : decode cX12_digest 23 = .ok (.ladd, 1) := by decide +kernel
theorem dX12_digest_24 : decode cX12_digest 24 = .ok (.lstore_n 1, 1) := by decide +kernel
theorem dX12_digest_25 : decode cX12_digest 25 = .ok (.iinc 3 1, 3) := by decide +kernel
theorem dX12_digest_28 : decode cX12_digest 28 = .ok (.goto (-22), 3) := by decide +kernel
theorem dX12_digest_31 : decode cX12_digest 31 = .ok (.aload_n 0, 1) := by decide +kernel
theorem dX12_digest_32 : decode cX12_digest 32 = .ok (.lload_n 1, 1) := by decide +kernel
theorem dX12_digest_33 : decode cX12_digest 33 = .ok (.iconst 5, 1) := by decide +kernel
theorem dX12_digest_34 : decode cX12_digest 34 = .ok (.iconst 2, 1) := by decide +kernel
theorem dX12_digest_35 : decode cX12_digest 35 = .ok (.invokevirtual 320, 3) := by decide +kernel
theorem dX12_digest_38 : decode cX12_digest 38 = .ok (.lstore_n 1, 1) := by decide +kernel
theorem dX12_digest_39 : decode cX12_digest 39 = .ok (.aload_n 0, 1) := by decide +kernel
theorem dX12_digest_40 : decode cX12_digest 40 = .ok (.lload_n 1, 1) := by decide +kernel
theorem dX12_digest_41 : decode cX12_digest 41 = .ok (.bipush 7, 2) := by decide +kernel
theorem dX12_digest_43 : decode cX12_digest 43 = .ok (.iconst 4, 1) := by decide +kernel
theorem dX12_digest_44 : decode cX12_digest 44 = .ok (.aload_n 0, 1) := by decide +kernel
theorem dX12_digest_45 : decode cX12_digest 45 = .ok (.invokevirtual 64, 3) := by decide +kernel
theorem dX12_digest_48 : decode cX12_digest 48 = .ok (.imul, 1) := by decide +kernel
theorem dX12_digest_49 : decode cX12_digest 49 = .ok (.invokevirtual 320, 3) := by decide +kernel
theorem dX12_digest_52 : decode cX12_digest 52 = .ok (.lstore_n 1, 1) := by decide +kernel
theorem dX12_digest_53 : decode cX12_digest 53 = .ok (.aload_n 0, 1) := by decide +kernel
theorem dX12_digest_54 : decode cX12_digest 54 = .ok (.lload_n 1, 1) := by decide +kernel
theorem dX12_digest_55 : decode cX12_digest 55 = .ok (.bipush 39, 2) := by decide +kernel
theorem dX12_digest_57 : decode cX12_digest 57 = .ok (.iconst 3, 1) := by decide +kernel
theorem dX12_digest_58 : decode cX12_digest 58 = .ok (.aload_n 0, 1) := by decide +kernel
theorem dX12_digest_59 : decode cX12_digest 59 = .ok (.invokevirtual 72, 3) := by decide +kernel
theorem dX12_digest_62 : decode cX12_digest 62 = .ok (.imul, 1) := by decide +kernel
theorem dX12_digest_63 : decode cX12_digest 63 = .ok (.invokevirtual 320, 3) := by decide +kernel
theorem dX12_digest_66 : decode cX12_digest 66 = .ok (.lstore_n 1, 1) := by decide +kernel
theorem dX12_digest_67 : decode cX12_digest 67 = .ok (.aload_n 0, 1) := by decide +kernel
theorem dX12_digest_68 : decode cX12_digest 68 = .ok (.lload_n 1, 1) := by decide +kernel
theorem dX12_digest_69 : decode cX12_digest 69 = .ok (.bipush 57, 2) := by decide +kernel
theorem dX12_digest_71 : decode cX12_digest 71 = .ok (.iconst 2, 1) := by decide +kernel
theorem dX12_digest_72 : decode cX12_digest 72 = .ok (.aload_n 0, 1) := by decide +kernel
theorem dX12_digest_73 : decode cX12_digest 73 = .ok (.getfield 7, 3) := by decide +kernel
theorem dX12_digest_76 : decode cX12_digest 76 = .ok (.iconst 3, 1) := by decide +kernel
theorem dX12_digest_77 : decode cX12_digest 77 = .ok (.iaload, 1) := by decide +kernel
theorem dX12_digest_78 : decode cX12_digest 78 = .ok (.imul, 1) := by decide +kernel
theorem dX12_digest_79 : decode cX12_digest 79 = .ok (.invokevirtual 320, 3) := by decide +kernel
theorem dX12_digest_82 : decode cX12_digest 82 = .ok (.lstore_n 1, 1) := by decide +kernel
theorem dX12_digest_83 : decode cX12_digest 83 = .ok (.ldc2_w 316, 3) := by decide +kernel
theorem dX12_digest_86 : decode cX12_digest 86 = .ok (.ldc2_w 316, 3) := by decide +kernel
theorem dX12_digest_89 : decode cX12_digest 89 = .ok (.lload_n 1, 1) := by decide +kernel
theorem dX12_digest_90 : decode cX12_digest 90 = .ok (.lmul, 1) := by decide +kernel
theorem dX12_digest_91 : decode cX12_digest 91 = .ok (.aload_n 0, 1) := by decide +kernel
theorem dX12_digest_92 : decode cX12_digest 92 = .ok (.getfield 228, 3) := by decide +kernel
theorem dX12_digest_95 : decode cX12_digest 95 = .ok (.ladd, 1) := by decide +kernel
theorem dX12_digest_96 : decode cX12_digest 96 = .ok (.lmul, 1) := by decide +kernel
theorem dX12_digest_97 : decode cX12_digest 97 = .ok (.aload_n 0, 1) := by decide +kernel
theorem dX12_digest_98 : decode cX12_digest 98 = .ok (.getfield 23, 3) := by decide +kernel
theorem dX12_digest_101 : decode cX12_digest 101 = .ok (.ladd, 1) := by decide +kernel
theorem dX12_digest_102 : decode cX12_digest 102 = .ok (.lreturn, 1) := by decide +kernel
