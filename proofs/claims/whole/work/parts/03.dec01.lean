theorem dX2_firstIdle_28 : decode cX2_firstIdle 28 = .ok (.ishr, 1) := by decide +kernel
theorem dX2_firstIdle_29 : decode cX2_firstIdle 29 = .ok (.iconst 1, 1) := by decide +kernel
theorem dX2_firstIdle_30 : decode cX2_firstIdle 30 = .ok (.iand, 1) := by decide +kernel
theorem dX2_firstIdle_31 : decode cX2_firstIdle 31 = .ok (.ifCond .ne 5, 3) := by decide +kernel
theorem dX2_firstIdle_34 : decode cX2_firstIdle 34 = .ok (.iload_n 2, 1) := by decide +kernel
theorem dX2_firstIdle_35 : decode cX2_firstIdle 35 = .ok (.ireturn, 1) := by decide +kernel
theorem dX2_firstIdle_36 : decode cX2_firstIdle 36 = .ok (.iinc 1 1, 3) := by decide +kernel
theorem dX2_firstIdle_39 : decode cX2_firstIdle 39 = .ok (.goto (-37), 3) := by decide +kernel
theorem dX2_firstIdle_42 : decode cX2_firstIdle 42 = .ok (.iconst (-1), 1) := by decide +kernel
theorem dX2_firstIdle_43 : decode cX2_firstIdle 43 = .ok (.ireturn, 1) := by decide +kernel
theorem dX2_firstGone_0 : decode cX2_firstGone 0 = .ok (.aload_n 0, 1) := by decide +kernel
theorem dX2_firstGone_1 : decode cX2_firstGone 1 = .ok (.getfield 12, 3) := by decide +kernel
theorem dX2_firstGone_4 : decode cX2_firstGone 4 = .ok (.iload_n 1, 1) := by decide +kernel
theorem dX2_firstGone_5 : decode cX2_firstGone 5 = .ok (.invokevirtual 135, 3) := by decide +kernel
theorem dX2_firstGone_8 : decode cX2_firstGone 8 = .ok (.bipush 9, 2) := by decide +kernel
theorem dX2_firstGone_10 : decode cX2_firstGone 10 = .ok (.if_icmp .ne 5, 3) := by decide +kernel
theorem dX2_firstGone_13 : decode cX2_firstGone 13 = .ok (.iconst (-1), 1) := by decide +kernel
theorem dX2_firstGone_14 : decode cX2_firstGone 14 = .ok (.ireturn, 1) := by decide +kernel
theorem dX2_firstGone_15 : decode cX2_firstGone 15 = .ok (.iconst 0, 1) := by decide +kernel
theorem dX2_firstGone_16 : decode cX2_firstGone 16 = .ok (.istore_n 2, 1) := by decide +kernel
theorem dX2_firstGone_17 : decode cX2_firstGone 17 = .ok (.iload_n 2, 1) := by decide +kernel
theorem dX2_firstGone_18 : decode cX2_firstGone 18 = .ok (.bipush 24, 2) := by decide +kernel
theorem dX2_firstGone_20 : decode cX2_firstGone 20 = .ok (.if_icmp .ge 26, 3) := by decide +kernel
theorem dX2_firstGone_23 : decode cX2_firstGone 23 = .ok (.aload_n 0, 1) := by decide +kernel
theorem dX2_firstGone_24 : decode cX2_firstGone 24 = .ok (.getfield 22, 3) := by decide +kernel
theorem dX2_firstGone_27 : decode cX2_firstGone 27 = .ok (.iload_n 2, 1) := by decide +kernel
theorem dX2_firstGone_28 : decode cX2_firstGone 28 = .ok (.aaload, 1) := by decide +kernel
theorem dX2_firstGone_29 : decode cX2_firstGone 29 = .ok (.iload_n 1, 1) := by decide +kernel
theorem dX2_firstGone_30 : decode cX2_firstGone 30 = .ok (.invokevirtual 135, 3) := by decide +kernel
theorem dX2_firstGone_33 : decode cX2_firstGone 33 = .ok (.bipush 9, 2) := by decide +kernel
theorem dX2_firstGone_35 : decode cX2_firstGone 35 = .ok (.if_icmp .ne 5, 3) := by decide +kernel
theorem dX2_firstGone_38 : decode cX2_firstGone 38 = .ok (.iload_n 2, 1) := by decide +kernel
theorem dX2_firstGone_39 : decode cX2_firstGone 39 = .ok (.ireturn, 1) := by decide +kernel
theorem dX2_firstGone_40 : decode cX2_firstGone 40 = .ok (.iinc 2 1, 3) := by decide +kernel
theorem dX2_firstGone_43 : decode cX2_firstGone 43 = .ok (.goto (-26), 3) := by decide +kernel
theorem dX2_firstGone_46 : decode cX2_firstGone 46 = .ok (.iconst (-1), 1) := by decide +kernel
theorem dX2_firstGone_47 : decode cX2_firstGone 47 = .ok (.ireturn, 1) := by decide +kernel
theorem dX2_stayChance_0 : decode cX2_stayChance 0 = .ok (.bipush 16, 2) := by decide +kernel
theorem dX2_stayChance_2 : decode cX2_stayChance 2 = .ok (.iload_n 1, 1) := by decide +kernel
theorem dX2_stayChance_3 : decode cX2_stayChance 3 = .ok (.isub, 1) := by decide +kernel
theorem dX2_stayChance_4 : decode cX2_stayChance 4 = .ok (.istore 5, 2) := by decide +kernel
theorem dX2_stayChance_6 : decode cX2_stayChance 6 = .ok (.bipush 16, 2) := by decide +kernel
theorem dX2_stayChance_8 : decode cX2_stayChance 8 = .ok (.istore 6, 2) := by decide +kernel
theorem dX2_stayChance_10 : decode cX2_stayChance 10 = .ok (.iconst 0, 1) := by decide +kernel
theorem dX2_stayChance_11 : decode cX2_stayChance 11 = .ok (.istore 7, 2) := by decide +kernel
theorem dX2_stayChance_13 : decode cX2_stayChance 13 = .ok (.iload 7, 2) := by decide +kernel
theorem dX2_stayChance_15 : decode cX2_stayChance 15 = .ok (.iconst 4, 1) := by decide +kernel
theorem dX2_stayChance_16 : decode cX2_stayChance 16 = .ok (.if_icmp .ge 28, 3) := by decide +kernel
theorem dX2_stayChance_19 : decode cX2_stayChance 19 = .ok (.iload 5, 2) := by decide +kernel
theorem dX2_stayChance_21 : decode cX2_stayChance 21 = .ok (.iconst 2, 1) := by decide +kernel
theorem dX2_stayChance_22 : decode cX2_stayChance 22 = .ok (.irem, 1) := by decide +kernel
theorem dX2_stayChance_23 : decode cX2_stayChance 23 = .ok (.ifCond .ne 21, 3) := by decide +kernel
theorem dX2_stayChance_26 : decode cX2_stayChance 26 = .ok (.iload 5, 2) := by decide +kernel
theorem dX2_stayChance_28 : decode cX2_stayChance 28 = .ok (.iconst 2, 1) := by decide +kernel
theorem dX2_stayChance_29 : decode cX2_stayChance 29 = .ok (.idiv, 1) := by decide +kernel
theorem dX2_stayChance_30 : decode cX2_stayChance 30 = .ok (.istore 5, 2) := by decide +kernel
theorem dX2_stayChance_32 : decode cX2_stayChance 32 = .ok (.iload 6, 2) := by decide +kernel
theorem dX2_stayChance_34 : decode cX2_stayChance 34 = .ok (.iconst 2, 1) := by decide +kernel
theorem dX2_stayChance_35 : decode cX2_stayChance 35 = .ok (.idiv, 1) := by decide +kernel
theorem dX2_stayChance_36 : decode cX2_stayChance 36 = .ok (.istore 6, 2) := by decide +kernel
theorem dX2_stayChance_38 : decode cX2_stayChance 38 = .ok (.iinc 7 1, 3) := by decide +kernel
theorem dX2_stayChance_41 : decode cX2_stayChance 41 = .ok (.goto (-28), 3) := by decide +kernel
theorem dX2_stayChance_44 : decode cX2_stayChance 44 = .ok (.iload 4, 2) := by decide +kernel
theorem dX2_stayChance_46 : decode cX2_stayChance 46 = .ok (.ifCond .ne 8, 3) := by decide +kernel
theorem dX2_stayChance_49 : decode cX2_stayChance 49 = .ok (.iload 5, 2) := by decide +kernel
theorem dX2_stayChance_51 : decode cX2_stayChance 51 = .ok (.goto 5, 3) := by decide +kernel
theorem dX2_stayChance_54 : decode cX2_stayChance 54 = .ok (.iload 6, 2) := by decide +kernel
theorem dX2_stayChance_56 : decode cX2_stayChance 56 = .ok (.istore 7, 2) := by decide +kernel
theorem dX2_stayChance_58 : decode cX2_stayChance 58 = .ok (.aload_n 0, 1) := by decide +kernel
theorem dX2_stayChance_59 : decode cX2_stayChance 59 = .ok (.getfield 28, 3) := by decide +kernel
theorem dX2_stayChance_62 : decode cX2_stayChance 62 = .ok (.getfield 145, 3) := by decide +kernel
theorem dX2_stayChance_65 : decode cX2_stayChance 65 = .ok (.iload_n 2, 1) := by decide +kernel
theorem dX2_stayChance_66 : decode cX2_stayChance 66 = .ok (.iaload, 1) := by decide +kernel
theorem dX2_stayChance_67 : decode cX2_stayChance 67 = .ok (.iconst 2, 1) := by decide +kernel
theorem dX2_stayChance_68 : decode cX2_stayChance 68 = .ok (.if_icmp .ne 7, 3) := by decide +kernel
theorem dX2_stayChance_71 : decode cX2_stayChance 71 = .ok (.iconst 1, 1) := by decide +kernel
theorem dX2_stayChance_72 : decode cX2_stayChance 72 = .ok (.goto 4, 3) := by decide +kernel
theorem dX2_stayChance_75 : decode cX2_stayChance 75 = .ok (.iconst 0, 1) := by decide +kernel
theorem dX2_stayChance_76 : decode cX2_stayChance 76 = .ok (.istore 8, 2) := by decide +kernel
theorem dX2_stayChance_78 : decode cX2_stayChance 78 = .ok (.lconst 1, 1) := by decide +kernel
theorem dX2_stayChance_79 : decode cX2_stayChance 79 = .ok (.lstore 9, 2) := by decide +kernel
theorem dX2_stayChance_81 : decode cX2_stayChance 81 = .ok (.iconst 0, 1) := by decide +kernel
theorem dX2_stayChance_82 : decode cX2_stayChance 82 = .ok (.istore 11, 2) := by decide +kernel
theorem dX2_stayChance_84 : decode cX2_stayChance 84 = .ok (.iload 11, 2) := by decide +kernel
theorem dX2_stayChance_86 : decode cX2_stayChance 86 = .ok (.iload_n 3, 1) := by decide +kernel
theorem dX2_stayChance_87 : decode cX2_stayChance 87 = .ok (.if_icmp .gt 39, 3) := by decide +kernel
theorem dX2_stayChance_90 : decode cX2_stayChance 90 = .ok (.iload 8, 2) := by decide +kernel
theorem dX2_stayChance_92 : decode cX2_stayChance 92 = .ok (.ifCond .eq 28, 3) := by decide +kernel
theorem dX2_stayChance_95 : decode cX2_stayChance 95 = .ok (.aload_n 0, 1) := by decide +kernel
theorem dX2_stayChance_96 : decode cX2_stayChance 96 = .ok (.getfield 22, 3) := by decide +kernel
theorem dX2_stayChance_99 : decode cX2_stayChance 99 = .ok (.iload 11, 2) := by decide +kernel
theorem dX2_stayChance_101 : decode cX2_stayChance 101 = .ok (.aaload, 1) := by decide +kernel
theorem dX2_stayChance_102 : decode cX2_stayChance 102 = .ok (.getfield 104, 3) := by decide +kernel
theorem dX2_stayChance_105 : decode cX2_stayChance 105 = .ok (.iload_n 2, 1) := by decide +kernel
theorem dX2_stayChance_106 : decode cX2_stayChance 106 = .ok (.ishr, 1) := by decide +kernel
theorem dX2_stayChance_107 : decode cX2_stayChance 107 = .ok (.iconst 1, 1) := by decide +kernel
theorem dX2_stayChance_108 : decode cX2_stayChance 108 = .ok (.iand, 1) := by decide +kernel
theorem dX2_stayChance_109 : decode cX2_stayChance 109 = .ok (.ifCond .eq 11, 3) := by decide +kernel
theorem dX2_stayChance_112 : decode cX2_stayChance 112 = .ok (.lload 9, 2) := by decide +kernel
theorem dX2_stayChance_114 : decode cX2_stayChance 114 = .ok (.iload 7, 2) := by decide +kernel
theorem dX2_stayChance_116 : decode cX2_stayChance 116 = .ok (.i2l, 1) := by decide +kernel
theorem dX2_stayChance_117 : decode cX2_stayChance 117 = .ok (.lmul, 1) := by decide +kernel
theorem dX2_stayChance_118 : decode cX2_stayChance 118 = .ok (.lstore 9, 2) := by decide +kernel
theorem dX2_stayChance_120 : decode cX2_stayChance 120 = .ok (.iinc 11 1, 3) := by decide +kernel
theorem dX2_stayChance_123 : decode cX2_stayChance 123 = .ok (.goto (-39), 3) := by decide +kernel
theorem dX2_stayChance_126 : decode cX2_stayChance 126 = .ok (.lload 9, 2) := by decide +kernel
theorem dX2_stayChance_128 : decode cX2_stayChance 128 = .ok (.lreturn, 1) := by decide +kernel
theorem dX2_dayBySeed_0 : decode cX2_dayBySeed 0 = .ok (.aload_n 0, 1) := by decide +kernel
theorem dX2_dayBySeed_1 : decode cX2_dayBySeed 1 = .ok (.getfield 28, 3) := by decide +kernel
theorem dX2_dayBySeed_4 : decode cX2_dayBySeed 4 = .ok (.getfield 60, 3) := by decide +kernel
theorem dX2_dayBySeed_7 : decode cX2_dayBySeed 7 = .ok (.ifCond .le 17, 3) := by decide +kernel
theorem dX2_dayBySeed_10 : decode cX2_dayBySeed 10 = .ok (.aload_n 0, 1) := by decide +kernel
theorem dX2_dayBySeed_11 : decode cX2_dayBySeed 11 = .ok (.getfield 28, 3) := by decide +kernel
theorem dX2_dayBySeed_14 : decode cX2_dayBySeed 14 = .ok (.getfield 69, 3) := by decide +kernel
theorem dX2_dayBySeed_17 : decode cX2_dayBySeed 17 = .ok (.ifCond .le 7, 3) := by decide +kernel
theorem dX2_dayBySeed_20 : decode cX2_dayBySeed 20 = .ok (.iconst 1, 1) := by decide +kernel
theorem dX2_dayBySeed_21 : decode cX2_dayBySeed 21 = .ok (.goto 4, 3) := by decide +kernel
theorem dX2_dayBySeed_24 : decode cX2_dayBySeed 24 = .ok (.iconst 0, 1) := by decide +kernel
theorem dX2_dayBySeed_25 : decode cX2_dayBySeed 25 = .ok (.istore 4, 2) := by decide +kernel
theorem dX2_dayBySeed_27 : decode cX2_dayBySeed 27 = .ok (.iload_n 1, 1) := by decide +kernel
theorem dX2_dayBySeed_28 : decode cX2_dayBySeed 28 = .ok (.istore 5, 2) := by decide +kernel
theorem dX2_dayBySeed_30 : decode cX2_dayBySeed 30 = .ok (.iconst 0, 1) := by decide +kernel
theorem dX2_dayBySeed_31 : decode cX2_dayBySeed 31 = .ok (.istore 6, 2) := by decide +kernel
theorem dX2_dayBySeed_33 : decode cX2_dayBySeed 33 = .ok (.aload_n 0, 1) := by decide +kernel
theorem dX2_dayBySeed_34 : decode cX2_dayBySeed 34 = .ok (.getfield 25, 3) := by decide +kernel
theorem dX2_dayBySeed_37 : decode cX2_dayBySeed 37 = .ok (.aload_n 0, 1) := by decide +kernel
theorem dX2_dayBySeed_38 : decode cX2_dayBySeed 38 = .ok (.getfield 12, 3) := by decide +kernel
theorem dX2_dayBySeed_41 : decode cX2_dayBySeed 41 = .ok (.invokevirtual 39, 3) := by decide +kernel
theorem dX2_dayBySeed_44 : decode cX2_dayBySeed 44 = .ok (.iconst 0, 1) := by decide +kernel
theorem dX2_dayBySeed_45 : decode cX2_dayBySeed 45 = .ok (.istore 7, 2) := by decide +kernel
theorem dX2_dayBySeed_47 : decode cX2_dayBySeed 47 = .ok (.iload 7, 2) := by decide +kernel
theorem dX2_dayBySeed_49 : decode cX2_dayBySeed 49 = .ok (.iload_n 2, 1) := by decide +kernel
theorem dX2_dayBySeed_50 : decode cX2_dayBySeed 50 = .ok (.if_icmp .gt 130, 3) := by decide +kernel
theorem dX2_dayBySeed_53 : decode cX2_dayBySeed 53 = .ok (.aload_n 0, 1) := by decide +kernel
theorem dX2_dayBySeed_54 : decode cX2_dayBySeed 54 = .ok (.aload_n 0, 1) := by decide +kernel
theorem dX2_dayBySeed_55 : decode cX2_dayBySeed 55 = .ok (.getfield 25, 3) := by decide +kernel
theorem dX2_dayBySeed_58 : decode cX2_dayBySeed 58 = .ok (.iload 7, 2) := by decide +kernel
theorem dX2_dayBySeed_60 : decode cX2_dayBySeed 60 = .ok (.invokevirtual 47, 3) := by decide +kernel
theorem dX2_dayBySeed_63 : decode cX2_dayBySeed 63 = .ok (.pop, 1) := by decide +kernel
theorem dX2_dayBySeed_64 : decode cX2_dayBySeed 64 = .ok (.iload 4, 2) := by decide +kernel
theorem dX2_dayBySeed_66 : decode cX2_dayBySeed 66 = .ok (.ifCond .eq 91, 3) := by decide +kernel
theorem dX2_dayBySeed_69 : decode cX2_dayBySeed 69 = .ok (.iload 5, 2) := by decide +kernel
theorem dX2_dayBySeed_71 : decode cX2_dayBySeed 71 = .ok (.invokestatic 148, 3) := by decide +kernel
theorem dX2_dayBySeed_74 : decode cX2_dayBySeed 74 = .ok (.istore 5, 2) := by decide +kernel
theorem dX2_dayBySeed_76 : decode cX2_dayBySeed 76 = .ok (.iload 5, 2) := by decide +kernel
theorem dX2_dayBySeed_78 : decode cX2_dayBySeed 78 = .ok (.aload_n 0, 1) := by decide +kernel
theorem dX2_dayBySeed_79 : decode cX2_dayBySeed 79 = .ok (.getfield 28, 3) := by decide +kernel
theorem dX2_dayBySeed_82 : decode cX2_dayBySeed 82 = .ok (.getfield 69, 3) := by decide +kernel
theorem dX2_dayBySeed_85 : decode cX2_dayBySeed 85 = .ok (.invokestatic 151, 3) := by decide +kernel
theorem dX2_dayBySeed_88 : decode cX2_dayBySeed 88 = .ok (.istore 8, 2) := by decide +kernel
theorem dX2_dayBySeed_90 : decode cX2_dayBySeed 90 = .ok (.iload 5, 2) := by decide +kernel
theorem dX2_dayBySeed_92 : decode cX2_dayBySeed 92 = .ok (.invokestatic 148, 3) := by decide +kernel
theorem dX2_dayBySeed_95 : decode cX2_dayBySeed 95 = .ok (.istore 5, 2) := by decide +kernel
theorem dX2_dayBySeed_97 : decode cX2_dayBySeed 97 = .ok (.iload 5, 2) := by decide +kernel
theorem dX2_dayBySeed_99 : decode cX2_dayBySeed 99 = .ok (.aload_n 0, 1) := by decide +kernel
theorem dX2_dayBySeed_100 : decode cX2_dayBySeed 100 = .ok (.getfield 28, 3) := by decide +kernel
theorem dX2_dayBySeed_103 : decode cX2_dayBySeed 103 = .ok (.getfield 60, 3) := by decide +kernel
theorem dX2_dayBySeed_106 : decode cX2_dayBySeed 106 = .ok (.invokestatic 151, 3) := by decide +kernel
theorem dX2_dayBySeed_109 : decode cX2_dayBySeed 109 = .ok (.istore 9, 2) := by decide +kernel
theorem dX2_dayBySeed_111 : decode cX2_dayBySeed 111 = .ok (.iload 5, 2) := by decide +kernel
theorem dX2_dayBySeed_113 : decode cX2_dayBySeed 113 = .ok (.invokestatic 148, 3) := by decide +kernel
theorem dX2_dayBySeed_116 : decode cX2_dayBySeed 116 = .ok (.istore 5, 2) := by decide +kernel
theorem dX2_dayBySeed_118 : decode cX2_dayBySeed 118 = .ok (.iload 6, 2) := by decide +kernel
theorem dX2_dayBySeed_120 : decode cX2_dayBySeed 120 = .ok (.aload_n 0, 1) := by decide +kernel
theorem dX2_dayBySeed_121 : decode cX2_dayBySeed 121 = .ok (.aload_n 0, 1) := by decide +kernel
theorem dX2_dayBySeed_122 : decode cX2_dayBySeed 122 = .ok (.getfield 25, 3) := by decide +kernel
theorem dX2_dayBySeed_125 : decode cX2_dayBySeed 125 = .ok (.bipush 64, 2) := by decide +kernel
theorem dX2_dayBySeed_127 : decode cX2_dayBySeed 127 = .ok (.iload 5, 2) := by decide +kernel
theorem dX2_dayBySeed_129 : decode cX2_dayBySeed 129 = .ok (.iconst 2, 1) := by decide +kernel
theorem dX2_dayBySeed_130 : decode cX2_dayBySeed 130 = .ok (.invokestatic 151, 3) := by decide +kernel
theorem dX2_dayBySeed_133 : decode cX2_dayBySeed 133 = .ok (.imul, 1) := by decide +kernel
theorem dX2_dayBySeed_134 : decode cX2_dayBySeed 134 = .ok (.bipush 8, 2) := by decide +kernel
theorem dX2_dayBySeed_136 : decode cX2_dayBySeed 136 = .ok (.iload 8, 2) := by decide +kernel
theorem dX2_dayBySeed_138 : decode cX2_dayBySeed 138 = .ok (.imul, 1) := by decide +kernel
theorem dX2_dayBySeed_139 : decode cX2_dayBySeed 139 = .ok (.iadd, 1) := by decide +kernel
theorem dX2_dayBySeed_140 : decode cX2_dayBySeed 140 = .ok (.iload 9, 2) := by decide +kernel
theorem dX2_dayBySeed_142 : decode cX2_dayBySeed 142 = .ok (.iadd, 1) := by decide +kernel
theorem dX2_dayBySeed_143 : decode cX2_dayBySeed 143 = .ok (.invokevirtual 91, 3) := by decide +kernel
theorem dX2_dayBySeed_146 : decode cX2_dayBySeed 146 = .ok (.ifCond .eq 7, 3) := by decide +kernel
theorem dX2_dayBySeed_149 : decode cX2_dayBySeed 149 = .ok (.iconst 1, 1) := by decide +kernel
theorem dX2_dayBySeed_150 : decode cX2_dayBySeed 150 = .ok (.goto 4, 3) := by decide +kernel
theorem dX2_dayBySeed_153 : decode cX2_dayBySeed 153 = .ok (.iconst 0, 1) := by decide +kernel
theorem dX2_dayBySeed_154 : decode cX2_dayBySeed 154 = .ok (.iadd, 1) := by decide +kernel
theorem dX2_dayBySeed_155 : decode cX2_dayBySeed 155 = .ok (.istore 6, 2) := by decide +kernel
theorem dX2_dayBySeed_157 : decode cX2_dayBySeed 157 = .ok (.aload_n 0, 1) := by decide +kernel
theorem dX2_dayBySeed_158 : decode cX2_dayBySeed 158 = .ok (.aload_n 0, 1) := by decide +kernel
theorem dX2_dayBySeed_159 : decode cX2_dayBySeed 159 = .ok (.getfield 25, 3) := by decide +kernel
theorem dX2_dayBySeed_162 : decode cX2_dayBySeed 162 = .ok (.iload 7, 2) := by decide +kernel
theorem dX2_dayBySeed_164 : decode cX2_dayBySeed 164 = .ok (.aload_n 0, 1) := by decide +kernel
theorem dX2_dayBySeed_165 : decode cX2_dayBySeed 165 = .ok (.getfield 32, 3) := by decide +kernel
theorem dX2_dayBySeed_168 : decode cX2_dayBySeed 168 = .ok (.getfield 51, 3) := by decide +kernel
theorem dX2_dayBySeed_171 : decode cX2_dayBySeed 171 = .ok (.invokevirtual 56, 3) := by decide +kernel
theorem dX2_dayBySeed_174 : decode cX2_dayBySeed 174 = .ok (.iinc 7 1, 3) := by decide +kernel
theorem dX2_dayBySeed_177 : decode cX2_dayBySeed 177 = .ok (.goto (-130), 3) := by decide +kernel
theorem dX2_dayBySeed_180 : decode cX2_dayBySeed 180 = .ok (.iload_n 3, 1) := by decide +kernel
theorem dX2_dayBySeed_181 : decode cX2_dayBySeed 181 = .ok (.iconst (-1), 1) := by decide +kernel
theorem dX2_dayBySeed_182 : decode cX2_dayBySeed 182 = .ok (.if_icmp .ne 8, 3) := by decide +kernel
theorem dX2_dayBySeed_185 : decode cX2_dayBySeed 185 = .ok (.iload 6, 2) := by decide +kernel
theorem dX2_dayBySeed_187 : decode cX2_dayBySeed 187 = .ok (.goto 11, 3) := by decide +kernel
theorem dX2_dayBySeed_190 : decode cX2_dayBySeed 190 = .ok (.aload_n 0, 1) := by decide +kernel
theorem dX2_dayBySeed_191 : decode cX2_dayBySeed 191 = .ok (.getfield 25, 3) := by decide +kernel
theorem dX2_dayBySeed_194 : decode cX2_dayBySeed 194 = .ok (.iload_n 3, 1) := by decide +kernel
theorem dX2_dayBySeed_195 : decode cX2_dayBySeed 195 = .ok (.invokevirtual 135, 3) := by decide +kernel
theorem dX2_dayBySeed_198 : decode cX2_dayBySeed 198 = .ok (.ireturn, 1) := by decide +kernel
theorem dX2_nextLot_0 : decode cX2_nextLot 0 = .ok (.ldc 155, 2) := by decide +kernel
theorem dX2_nextLot_2 : decode cX2_nextLot 2 = .ok (.iload_n 0, 1) := by decide +kernel
theorem dX2_nextLot_3 : decode cX2_nextLot 3 = .ok (.imul, 1) := by decide +kernel
theorem dX2_nextLot_4 : decode cX2_nextLot 4 = .ok (.sipush 12345, 3) := by decide +kernel
theorem dX2_nextLot_7 : decode cX2_nextLot 7 = .ok (.iadd, 1) := by decide +kernel
theorem dX2_nextLot_8 : decode cX2_nextLot 8 = .ok (.ireturn, 1) := by decide +kernel
theorem dX2_drawn_0 : decode cX2_drawn 0 = .ok (.iload_n 1, 1) := by decide +kernel
theorem dX2_drawn_1 : decode cX2_drawn 1 = .ok (.ifCond .le 12, 3) := by decide +kernel
theorem dX2_drawn_4 : decode cX2_drawn 4 = .ok (.iload_n 0, 1) := by decide +kernel
theorem dX2_drawn_5 : decode cX2_drawn 5 = .ok (.bipush 16, 2) := by decide +kernel
theorem dX2_drawn_7 : decode cX2_drawn 7 = .ok (.iushr, 1) := by decide +kernel
theorem dX2_drawn_8 : decode cX2_drawn 8 = .ok (.iload_n 1, 1) := by decide +kernel
theorem dX2_drawn_9 : decode cX2_drawn 9 = .ok (.irem, 1) := by decide +kernel
theorem dX2_drawn_10 : decode cX2_drawn 10 = .ok (.goto 4, 3) := by decide +kernel
theorem dX2_drawn_13 : decode cX2_drawn 13 = .ok (.iconst 0, 1) := by decide +kernel
theorem dX2_drawn_14 : decode cX2_drawn 14 = .ok (.ireturn, 1) := by decide +kernel
theorem dX3_init_0 : decode cX3_init 0 = .ok (.aload_n 0, 1) := by decide +kernel
theorem dX3_init_1 : decode cX3_init 1 = .ok (.invokespecial 3, 3) := by decide +kernel
theorem dX3_init_4 : decode cX3_init 4 = .ok (.aload_n 0, 1) := by decide +kernel
theorem dX3_init_5 : decode cX3_init 5 = .ok (.new 9, 3) := by decide +kernel
theorem dX3_init_8 : decode cX3_init 8 = .ok (.dup, 1) := by decide +kernel
theorem dX3_init_9 : decode cX3_init 9 = .ok (.invokespecial 11, 3) := by decide +kernel
theorem dX3_init_12 : decode cX3_init 12 = .ok (.putfield 12, 3) := by decide +kernel
theorem dX3_init_15 : decode cX3_init 15 = .ok (.aload_n 0, 1) := by decide +kernel
theorem dX3_init_16 : decode cX3_init 16 = .ok (.new 9, 3) := by decide +kernel
theorem dX3_init_19 : decode cX3_init 19 = .ok (.dup, 1) := by decide +kernel
theorem dX3_init_20 : decode cX3_init 20 = .ok (.invokespecial 11, 3) := by decide +kernel
theorem dX3_init_23 : decode cX3_init 23 = .ok (.putfield 18, 3) := by decide +kernel
theorem dX3_init_26 : decode cX3_init 26 = .ok (.aload_n 0, 1) := by decide +kernel
theorem dX3_init_27 : decode cX3_init 27 = .ok (.iconst (-1), 1) := by decide +kernel
theorem dX3_init_28 : decode cX3_init 28 = .ok (.putfield 21, 3) := by decide +kernel
theorem dX3_init_31 : decode cX3_init 31 = .ok (.aload_n 0, 1) := by decide +kernel
theorem dX3_init_32 : decode cX3_init 32 = .ok (.iconst (-1), 1) := by decide +kernel
theorem dX3_init_33 : decode cX3_init 33 = .ok (.putfield 25, 3) := by decide +kernel
theorem dX3_init_36 : decode cX3_init 36 = .ok (.aload_n 0, 1) := by decide +kernel
theorem dX3_init_37 : decode cX3_init 37 = .ok (.bipush 6, 2) := by decide +kernel
theorem dX3_init_39 : decode cX3_init 39 = .ok (.anewarray 28, 3) := by decide +kernel
theorem dX3_init_42 : decode cX3_init 42 = .ok (.putfield 30, 3) := by decide +kernel
theorem dX3_init_45 : decode cX3_init 45 = .ok (.aload_n 0, 1) := by decide +kernel
theorem dX3_init_46 : decode cX3_init 46 = .ok (.bipush 24, 2) := by decide +kernel
theorem dX3_init_48 : decode cX3_init 48 = .ok (.newarray .int, 2) := by decide +kernel
theorem dX3_init_50 : decode cX3_init 50 = .ok (.putfield 34, 3) := by decide +kernel
theorem dX3_init_53 : decode cX3_init 53 = .ok (.aload_n 0, 1) := by decide +kernel
theorem dX3_init_54 : decode cX3_init 54 = .ok (.aload_n 1, 1) := by decide +kernel
theorem dX3_init_55 : decode cX3_init 55 = .ok (.putfield 38, 3) := by decide +kernel
theorem dX3_init_58 : decode cX3_init 58 = .ok (.aload_n 0, 1) := by decide +kernel
theorem dX3_init_59 : decode cX3_init 59 = .ok (.aload_n 2, 1) := by decide +kernel
theorem dX3_init_60 : decode cX3_init 60 = .ok (.putfield 42, 3) := by decide +kernel
theorem dX3_init_63 : decode cX3_init 63 = .ok (.aload_n 0, 1) := by decide +kernel
theorem dX3_init_64 : decode cX3_init 64 = .ok (.aload_n 3, 1) := by decide +kernel
theorem dX3_init_65 : decode cX3_init 65 = .ok (.putfield 46, 3) := by decide +kernel
theorem dX3_init_68 : decode cX3_init 68 = .ok (.iconst 0, 1) := by decide +kernel
theorem dX3_init_69 : decode cX3_init 69 = .ok (.istore 4, 2) := by decide +kernel
theorem dX3_init_71 : decode cX3_init 71 = .ok (.iload 4, 2) := by decide +kernel
theorem dX3_init_73 : decode cX3_init 73 = .ok (.aload_n 0, 1) := by decide +kernel
theorem dX3_init_74 : decode cX3_init 74 = .ok (.getfield 30, 3) := by decide +kernel
theorem dX3_init_77 : decode cX3_init 77 = .ok (.arraylength, 1) := by decide +kernel
theorem dX3_init_78 : decode cX3_init 78 = .ok (.if_icmp .ge 23, 3) := by decide +kernel
theorem dX3_init_81 : decode cX3_init 81 = .ok (.aload_n 0, 1) := by decide +kernel
theorem dX3_init_82 : decode cX3_init 82 = .ok (.getfield 30, 3) := by decide +kernel
theorem dX3_init_85 : decode cX3_init 85 = .ok (.iload 4, 2) := by decide +kernel
theorem dX3_init_87 : decode cX3_init 87 = .ok (.new 28, 3) := by decide +kernel
theorem dX3_init_90 : decode cX3_init 90 = .ok (.dup, 1) := by decide +kernel
theorem dX3_init_91 : decode cX3_init 91 = .ok (.invokespecial 50, 3) := by decide +kernel
theorem dX3_init_94 : decode cX3_init 94 = .ok (.aastore, 1) := by decide +kernel
theorem dX3_init_95 : decode cX3_init 95 = .ok (.iinc 4 1, 3) := by decide +kernel
theorem dX3_init_98 : decode cX3_init 98 = .ok (.goto (-27), 3) := by decide +kernel
theorem dX3_init_101 : decode cX3_init 101 = .ok (.return_, 1) := by decide +kernel
theorem dX3_drop_0 : decode cX3_drop 0 = .ok (.aload_n 0, 1) := by decide +kernel
theorem dX3_drop_1 : decode cX3_drop 1 = .ok (.iconst (-1), 1) := by decide +kernel
theorem dX3_drop_2 : decode cX3_drop 2 = .ok (.putfield 21, 3) := by decide +kernel
theorem dX3_drop_5 : decode cX3_drop 5 = .ok (.aload_n 0, 1) := by decide +kernel
theorem dX3_drop_6 : decode cX3_drop 6 = .ok (.iconst (-1), 1) := by decide +kernel
theorem dX3_drop_7 : decode cX3_drop 7 = .ok (.putfield 25, 3) := by decide +kernel
theorem dX3_drop_10 : decode cX3_drop 10 = .ok (.return_, 1) := by decide +kernel
theorem dX3_planLend_0 : decode cX3_planLend 0 = .ok (.iload_n 1, 1) := by decide +kernel
theorem dX3_planLend_1 : decode cX3_planLend 1 = .ok (.bipush 8, 2) := by decide +kernel
theorem dX3_planLend_3 : decode cX3_planLend 3 = .ok (.imul, 1) := by decide +kernel
theorem dX3_planLend_4 : decode cX3_planLend 4 = .ok (.iload_n 2, 1) := by decide +kernel
theorem dX3_planLend_5 : decode cX3_planLend 5 = .ok (.iadd, 1) := by decide +kernel
theorem dX3_planLend_6 : decode cX3_planLend 6 = .ok (.bipush 24, 2) := by decide +kernel
theorem dX3_planLend_8 : decode cX3_planLend 8 = .ok (.imul, 1) := by decide +kernel
theorem dX3_planLend_9 : decode cX3_planLend 9 = .ok (.iload_n 3, 1) := by decide +kernel
theorem dX3_planLend_10 : decode cX3_planLend 10 = .ok (.iadd, 1) := by decide +kernel
theorem dX3_planLend_11 : decode cX3_planLend 11 = .ok (.bipush 24, 2) := by decide +kernel
theorem dX3_planLend_13 : decode cX3_planLend 13 = .ok (.imul, 1) := by decide +kernel
theorem dX3_planLend_14 : decode cX3_planLend 14 = .ok (.iload 4, 2) := by decide +kernel
theorem dX3_planLend_16 : decode cX3_planLend 16 = .ok (.iadd, 1) := by decide +kernel
theorem dX3_planLend_17 : decode cX3_planLend 17 = .ok (.istore 5, 2) := by decide +kernel
theorem dX3_planLend_19 : decode cX3_planLend 19 = .ok (.iload 5, 2) := by decide +kernel
theorem dX3_planLend_21 : decode cX3_planLend 21 = .ok (.aload_n 0, 1) := by decide +kernel
theorem dX3_planLend_22 : decode cX3_planLend 22 = .ok (.getfield 21, 3) := by decide +kernel
theorem dX3_planLend_25 : decode cX3_planLend 25 = .ok (.if_icmp .ne 4, 3) := by decide +kernel
theorem dX3_planLend_28 : decode cX3_planLend 28 = .ok (.return_, 1) := by decide +kernel
theorem dX3_planLend_29 : decode cX3_planLend 29 = .ok (.aload_n 0, 1) := by decide +kernel
theorem dX3_planLend_30 : decode cX3_planLend 30 = .ok (.iload 5, 2) := by decide +kernel
theorem dX3_planLend_32 : decode cX3_planLend 32 = .ok (.putfield 21, 3) := by decide +kernel
theorem dX3_planLend_35 : decode cX3_planLend 35 = .ok (.aload_n 0, 1) := by decide +kernel
theorem dX3_planLend_36 : decode cX3_planLend 36 = .ok (.getfield 12, 3) := by decide +kernel
theorem dX3_planLend_39 : decode cX3_planLend 39 = .ok (.iconst (-1), 1) := by decide +kernel
theorem dX3_planLend_40 : decode cX3_planLend 40 = .ok (.iconst (-1), 1) := by decide +kernel
theorem dX3_planLend_41 : decode cX3_planLend 41 = .ok (.iconst (-1), 1) := by decide +kernel
theorem dX3_planLend_42 : decode cX3_planLend 42 = .ok (.invokevirtual 51, 3) := by decide +kernel
theorem dX3_planLend_45 : decode cX3_planLend 45 = .ok (.aload_n 0, 1) := by decide +kernel
theorem dX3_planLend_46 : decode cX3_planLend 46 = .ok (.getfield 46, 3) := by decide +kernel
theorem dX3_planLend_49 : decode cX3_planLend 49 = .ok (.getfield 55, 3) := by decide +kernel
theorem dX3_planLend_52 : decode cX3_planLend 52 = .ok (.iload_n 3, 1) := by decide +kernel
theorem dX3_planLend_53 : decode cX3_planLend 53 = .ok (.aaload, 1) := by decide +kernel
theorem dX3_planLend_54 : decode cX3_planLend 54 = .ok (.astore 6, 2) := by decide +kernel
theorem dX3_planLend_56 : decode cX3_planLend 56 = .ok (.aload_n 0, 1) := by decide +kernel
theorem dX3_planLend_57 : decode cX3_planLend 57 = .ok (.getfield 46, 3) := by decide +kernel
theorem dX3_planLend_60 : decode cX3_planLend 60 = .ok (.getfield 60, 3) := by decide +kernel
theorem dX3_planLend_63 : decode cX3_planLend 63 = .ok (.iload 4, 2) := by decide +kernel
theorem dX3_planLend_65 : decode cX3_planLend 65 = .ok (.aaload, 1) := by decide +kernel
theorem dX3_planLend_66 : decode cX3_planLend 66 = .ok (.iload_n 2, 1) := by decide +kernel
theorem dX3_planLend_67 : decode cX3_planLend 67 = .ok (.invokevirtual 63, 3) := by decide +kernel
theorem dX3_planLend_70 : decode cX3_planLend 70 = .ok (.iload_n 1, 1) := by decide +kernel
theorem dX3_planLend_71 : decode cX3_planLend 71 = .ok (.if_icmp .ne 13, 3) := by decide +kernel
theorem dX3_planLend_74 : decode cX3_planLend 74 = .ok (.aload_n 0, 1) := by decide +kernel
theorem dX3_planLend_75 : decode cX3_planLend 75 = .ok (.getfield 12, 3) := by decide +kernel
theorem dX3_planLend_78 : decode cX3_planLend 78 = .ok (.iconst 0, 1) := by decide +kernel
theorem dX3_planLend_79 : decode cX3_planLend 79 = .ok (.iconst (-1), 1) := by decide +kernel
theorem dX3_planLend_80 : decode cX3_planLend 80 = .ok (.iconst (-1), 1) := by decide +kernel
theorem dX3_planLend_81 : decode cX3_planLend 81 = .ok (.invokevirtual 51, 3) := by decide +kernel
theorem dX3_planLend_84 : decode cX3_planLend 84 = .ok (.aload_n 0, 1) := by decide +kernel
theorem dX3_planLend_85 : decode cX3_planLend 85 = .ok (.getfield 12, 3) := by decide +kernel
theorem dX3_planLend_88 : decode cX3_planLend 88 = .ok (.getfield 67, 3) := by decide +kernel
theorem dX3_planLend_91 : decode cX3_planLend 91 = .ok (.ifCond .eq 20, 3) := by decide +kernel
theorem dX3_planLend_94 : decode cX3_planLend 94 = .ok (.iload 4, 2) := by decide +kernel
theorem dX3_planLend_96 : decode cX3_planLend 96 = .ok (.iload_n 3, 1) := by decide +kernel
theorem dX3_planLend_97 : decode cX3_planLend 97 = .ok (.if_icmp .lt 14, 3) := by decide +kernel
theorem dX3_planLend_100 : decode cX3_planLend 100 = .ok (.aload 6, 2) := by decide +kernel
theorem dX3_planLend_102 : decode cX3_planLend 102 = .ok (.iload_n 2, 1) := by decide +kernel
theorem dX3_planLend_103 : decode cX3_planLend 103 = .ok (.invokevirtual 63, 3) := by decide +kernel
theorem dX3_planLend_106 : decode cX3_planLend 106 = .ok (.bipush 9, 2) := by decide +kernel
theorem dX3_planLend_108 : decode cX3_planLend 108 = .ok (.if_icmp .ne 4, 3) := by decide +kernel
theorem dX3_planLend_111 : decode cX3_planLend 111 = .ok (.return_, 1) := by decide +kernel
theorem dX3_planLend_112 : decode cX3_planLend 112 = .ok (.aload_n 0, 1) := by decide +kernel
theorem dX3_planLend_113 : decode cX3_planLend 113 = .ok (.getfield 30, 3) := by decide +kernel
theorem dX3_planLend_116 : decode cX3_planLend 116 = .ok (.iconst 0, 1) := by decide +kernel
theorem dX3_planLend_117 : decode cX3_planLend 117 = .ok (.aaload, 1) := by decide +kernel
theorem dX3_planLend_118 : decode cX3_planLend 118 = .ok (.aload 6, 2) := by decide +kernel
theorem dX3_planLend_120 : decode cX3_planLend 120 = .ok (.invokevirtual 70, 3) := by decide +kernel
theorem dX3_planLend_123 : decode cX3_planLend 123 = .ok (.aload_n 0, 1) := by decide +kernel
theorem dX3_planLend_124 : decode cX3_planLend 124 = .ok (.iload_n 1, 1) := by decide +kernel
theorem dX3_planLend_125 : decode cX3_planLend 125 = .ok (.iload_n 2, 1) := by decide +kernel
theorem dX3_planLend_126 : decode cX3_planLend 126 = .ok (.iload_n 3, 1) := by decide +kernel
theorem dX3_planLend_127 : decode cX3_planLend 127 = .ok (.iload 4, 2) := by decide +kernel
theorem dX3_planLend_129 : decode cX3_planLend 129 = .ok (.invokevirtual 74, 3) := by decide +kernel
theorem dX3_planLend_132 : decode cX3_planLend 132 = .ok (.istore 7, 2) := by decide +kernel
theorem dX3_planLend_134 : decode cX3_planLend 134 = .ok (.iload 7, 2) := by decide +kernel
theorem dX3_planLend_136 : decode cX3_planLend 136 = .ok (.iconst (-1), 1) := by decide +kernel
theorem dX3_planLend_137 : decode cX3_planLend 137 = .ok (.if_icmp .eq 14, 3) := by decide +kernel
theorem dX3_planLend_140 : decode cX3_planLend 140 = .ok (.aload_n 0, 1) := by decide +kernel
theorem dX3_planLend_141 : decode cX3_planLend 141 = .ok (.getfield 12, 3) := by decide +kernel
theorem dX3_planLend_144 : decode cX3_planLend 144 = .ok (.iconst 1, 1) := by decide +kernel
theorem dX3_planLend_145 : decode cX3_planLend 145 = .ok (.iload 7, 2) := by decide +kernel
theorem dX3_planLend_147 : decode cX3_planLend 147 = .ok (.iconst (-1), 1) := by decide +kernel
theorem dX3_planLend_148 : decode cX3_planLend 148 = .ok (.invokevirtual 51, 3) := by decide +kernel
theorem dX3_planLend_151 : decode cX3_planLend 151 = .ok (.iconst 0, 1) := by decide +kernel
theorem dX3_planLend_152 : decode cX3_planLend 152 = .ok (.istore 8, 2) := by decide +kernel
theorem dX3_planLend_154 : decode cX3_planLend 154 = .ok (.iload 8, 2) := by decide +kernel
theorem dX3_planLend_156 : decode cX3_planLend 156 = .ok (.sipush 128, 3) := by decide +kernel
theorem dX3_planLend_159 : decode cX3_planLend 159 = .ok (.if_icmp .ge 88, 3) := by decide +kernel
theorem dX3_planLend_162 : decode cX3_planLend 162 = .ok (.aload_n 0, 1) := by decide +kernel
theorem dX3_planLend_163 : decode cX3_planLend 163 = .ok (.getfield 12, 3) := by decide +kernel
theorem dX3_planLend_166 : decode cX3_planLend 166 = .ok (.getfield 67, 3) := by decide +kernel
theorem dX3_planLend_169 : decode cX3_planLend 169 = .ok (.iconst (-1), 1) := by decide +kernel
theorem dX3_planLend_170 : decode cX3_planLend 170 = .ok (.if_icmp .ne 77, 3) := by decide +kernel
theorem dX3_planLend_173 : decode cX3_planLend 173 = .ok (.aload_n 0, 1) := by decide +kernel
theorem dX3_planLend_174 : decode cX3_planLend 174 = .ok (.getfield 30, 3) := by decide +kernel
theorem dX3_planLend_177 : decode cX3_planLend 177 = .ok (.iconst 0, 1) := by decide +kernel
theorem dX3_planLend_178 : decode cX3_planLend 178 = .ok (.aaload, 1) := by decide +kernel
theorem dX3_planLend_179 : decode cX3_planLend 179 = .ok (.aload 6, 2) := by decide +kernel
theorem dX3_planLend_181 : decode cX3_planLend 181 = .ok (.invokevirtual 70, 3) := by decide +kernel
theorem dX3_planLend_184 : decode cX3_planLend 184 = .ok (.aload_n 0, 1) := by decide +kernel
theorem dX3_planLend_185 : decode cX3_planLend 185 = .ok (.iload 8, 2) := by decide +kernel
theorem dX3_planLend_187 : decode cX3_planLend 187 = .ok (.iload_n 2, 1) := by decide +kernel
theorem dX3_planLend_188 : decode cX3_planLend 188 = .ok (.invokevirtual 78, 3) := by decide +kernel
theorem dX3_planLend_191 : decode cX3_planLend 191 = .ok (.ifCond .eq 50, 3) := by decide +kernel
theorem dX3_planLend_194 : decode cX3_planLend 194 = .ok (.aload_n 0, 1) := by decide +kernel
theorem dX3_planLend_195 : decode cX3_planLend 195 = .ok (.getfield 46, 3) := by decide +kernel
theorem dX3_planLend_198 : decode cX3_planLend 198 = .ok (.aload_n 0, 1) := by decide +kernel
theorem dX3_planLend_199 : decode cX3_planLend 199 = .ok (.getfield 30, 3) := by decide +kernel
theorem dX3_planLend_202 : decode cX3_planLend 202 = .ok (.iconst 0, 1) := by decide +kernel
theorem dX3_planLend_203 : decode cX3_planLend 203 = .ok (.aaload, 1) := by decide +kernel
theorem dX3_planLend_204 : decode cX3_planLend 204 = .ok (.iload 8, 2) := by decide +kernel
theorem dX3_planLend_206 : decode cX3_planLend 206 = .ok (.invokevirtual 82, 3) := by decide +kernel
theorem dX3_planLend_209 : decode cX3_planLend 209 = .ok (.ifCond .eq 32, 3) := by decide +kernel
theorem dX3_planLend_212 : decode cX3_planLend 212 = .ok (.aload_n 0, 1) := by decide +kernel
theorem dX3_planLend_213 : decode cX3_planLend 213 = .ok (.iload_n 1, 1) := by decide +kernel
theorem dX3_planLend_214 : decode cX3_planLend 214 = .ok (.iload_n 2, 1) := by decide +kernel
theorem dX3_planLend_215 : decode cX3_planLend 215 = .ok (.iload_n 3, 1) := by decide +kernel
theorem dX3_planLend_216 : decode cX3_planLend 216 = .ok (.iload 4, 2) := by decide +kernel
theorem dX3_planLend_218 : decode cX3_planLend 218 = .ok (.invokevirtual 74, 3) := by decide +kernel
theorem dX3_planLend_221 : decode cX3_planLend 221 = .ok (.istore 7, 2) := by decide +kernel
theorem dX3_planLend_223 : decode cX3_planLend 223 = .ok (.iload 7, 2) := by decide +kernel
theorem dX3_planLend_225 : decode cX3_planLend 225 = .ok (.iconst (-1), 1) := by decide +kernel
theorem dX3_planLend_226 : decode cX3_planLend 226 = .ok (.if_icmp .eq 15, 3) := by decide +kernel
theorem dX3_planLend_229 : decode cX3_planLend 229 = .ok (.aload_n 0, 1) := by decide +kernel
theorem dX3_planLend_230 : decode cX3_planLend 230 = .ok (.getfield 12, 3) := by decide +kernel
theorem dX3_planLend_233 : decode cX3_planLend 233 = .ok (.iconst 2, 1) := by decide +kernel
theorem dX3_planLend_234 : decode cX3_planLend 234 = .ok (.iload 8, 2) := by decide +kernel
theorem dX3_planLend_236 : decode cX3_planLend 236 = .ok (.iload 7, 2) := by decide +kernel
theorem dX3_planLend_238 : decode cX3_planLend 238 = .ok (.invokevirtual 51, 3) := by decide +kernel
theorem dX3_planLend_241 : decode cX3_planLend 241 = .ok (.iinc 8 1, 3) := by decide +kernel
theorem dX3_planLend_244 : decode cX3_planLend 244 = .ok (.goto (-90), 3) := by decide +kernel
theorem dX3_planLend_247 : decode cX3_planLend 247 = .ok (.return_, 1) := by decide +kernel
theorem dX3_leastHand_0 : decode cX3_leastHand 0 = .ok (.aload_n 0, 1) := by decide +kernel
theorem dX3_leastHand_1 : decode cX3_leastHand 1 = .ok (.getfield 30, 3) := by decide +kernel
theorem dX3_leastHand_4 : decode cX3_leastHand 4 = .ok (.iconst 1, 1) := by decide +kernel
theorem dX3_leastHand_5 : decode cX3_leastHand 5 = .ok (.aaload, 1) := by decide +kernel
theorem dX3_leastHand_6 : decode cX3_leastHand 6 = .ok (.astore 5, 2) := by decide +kernel
theorem dX3_leastHand_8 : decode cX3_leastHand 8 = .ok (.aload 5, 2) := by decide +kernel
theorem dX3_leastHand_10 : decode cX3_leastHand 10 = .ok (.aload_n 0, 1) := by decide +kernel
theorem dX3_leastHand_11 : decode cX3_leastHand 11 = .ok (.getfield 30, 3) := by decide +kernel
theorem dX3_leastHand_14 : decode cX3_leastHand 14 = .ok (.iconst 0, 1) := by decide +kernel
theorem dX3_leastHand_15 : decode cX3_leastHand 15 = .ok (.aaload, 1) := by decide +kernel
theorem dX3_leastHand_16 : decode cX3_leastHand 16 = .ok (.invokevirtual 70, 3) := by decide +kernel
theorem dX3_leastHand_19 : decode cX3_leastHand 19 = .ok (.iconst 0, 1) := by decide +kernel
theorem dX3_leastHand_20 : decode cX3_leastHand 20 = .ok (.istore 6, 2) := by decide +kernel
theorem dX3_leastHand_22 : decode cX3_leastHand 22 = .ok (.iload 6, 2) := by decide +kernel
theorem dX3_leastHand_24 : decode cX3_leastHand 24 = .ok (.sipush 128, 3) := by decide +kernel
theorem dX3_leastHand_27 : decode cX3_leastHand 27 = .ok (.if_icmp .ge 69, 3) := by decide +kernel
theorem dX3_leastHand_30 : decode cX3_leastHand 30 = .ok (.aload_n 0, 1) := by decide +kernel
theorem dX3_leastHand_31 : decode cX3_leastHand 31 = .ok (.iload 6, 2) := by decide +kernel
theorem dX3_leastHand_33 : decode cX3_leastHand 33 = .ok (.iload_n 2, 1) := by decide +kernel
theorem dX3_leastHand_34 : decode cX3_leastHand 34 = .ok (.invokevirtual 78, 3) := by decide +kernel
theorem dX3_leastHand_37 : decode cX3_leastHand 37 = .ok (.ifCond .eq 53, 3) := by decide +kernel
theorem dX3_leastHand_40 : decode cX3_leastHand 40 = .ok (.aload_n 0, 1) := by decide +kernel
theorem dX3_leastHand_41 : decode cX3_leastHand 41 = .ok (.getfield 46, 3) := by decide +kernel
theorem dX3_leastHand_44 : decode cX3_leastHand 44 = .ok (.aload 5, 2) := by decide +kernel
theorem dX3_leastHand_46 : decode cX3_leastHand 46 = .ok (.iload 6, 2) := by decide +kernel
theorem dX3_leastHand_48 : decode cX3_leastHand 48 = .ok (.invokevirtual 82, 3) := by decide +kernel
theorem dX3_leastHand_51 : decode cX3_leastHand 51 = .ok (.ifCond .eq 39, 3) := by decide +kernel
theorem dX3_leastHand_54 : decode cX3_leastHand 54 = .ok (.aload_n 0, 1) := by decide +kernel
theorem dX3_leastHand_55 : decode cX3_leastHand 55 = .ok (.getfield 46, 3) := by decide +kernel
theorem dX3_leastHand_58 : decode cX3_leastHand 58 = .ok (.aload 5, 2) := by decide +kernel
theorem dX3_leastHand_60 : decode cX3_leastHand 60 = .ok (.iload_n 3, 1) := by decide +kernel
theorem dX3_leastHand_61 : decode cX3_leastHand 61 = .ok (.iload 4, 2) := by decide +kernel
theorem dX3_leastHand_63 : decode cX3_leastHand 63 = .ok (.invokevirtual 86, 3) := by decide +kernel
theorem dX3_leastHand_66 : decode cX3_leastHand 66 = .ok (.aload 5, 2) := by decide +kernel
theorem dX3_leastHand_68 : decode cX3_leastHand 68 = .ok (.iload_n 2, 1) := by decide +kernel
theorem dX3_leastHand_69 : decode cX3_leastHand 69 = .ok (.invokevirtual 63, 3) := by decide +kernel
theorem dX3_leastHand_72 : decode cX3_leastHand 72 = .ok (.iload_n 1, 1) := by decide +kernel
theorem dX3_leastHand_73 : decode cX3_leastHand 73 = .ok (.if_icmp .ne 6, 3) := by decide +kernel
theorem dX3_leastHand_76 : decode cX3_leastHand 76 = .ok (.iload 6, 2) := by decide +kernel
theorem dX3_leastHand_78 : decode cX3_leastHand 78 = .ok (.ireturn, 1) := by decide +kernel
theorem dX3_leastHand_79 : decode cX3_leastHand 79 = .ok (.aload 5, 2) := by decide +kernel
theorem dX3_leastHand_81 : decode cX3_leastHand 81 = .ok (.aload_n 0, 1) := by decide +kernel
theorem dX3_leastHand_82 : decode cX3_leastHand 82 = .ok (.getfield 30, 3) := by decide +kernel
theorem dX3_leastHand_85 : decode cX3_leastHand 85 = .ok (.iconst 0, 1) := by decide +kernel
theorem dX3_leastHand_86 : decode cX3_leastHand 86 = .ok (.aaload, 1) := by decide +kernel
theorem dX3_leastHand_87 : decode cX3_leastHand 87 = .ok (.invokevirtual 70, 3) := by decide +kernel
theorem dX3_leastHand_90 : decode cX3_leastHand 90 = .ok (.iinc 6 1, 3) := by decide +kernel
theorem dX3_leastHand_93 : decode cX3_leastHand 93 = .ok (.goto (-71), 3) := by decide +kernel
theorem dX3_leastHand_96 : decode cX3_leastHand 96 = .ok (.iconst (-1), 1) := by decide +kernel
theorem dX3_leastHand_97 : decode cX3_leastHand 97 = .ok (.ireturn, 1) := by decide +kernel
theorem dX3_matters_0 : decode cX3_matters 0 = .ok (.aload_n 0, 1) := by decide +kernel
theorem dX3_matters_1 : decode cX3_matters 1 = .ok (.getfield 38, 3) := by decide +kernel
theorem dX3_matters_4 : decode cX3_matters 4 = .ok (.getfield 90, 3) := by decide +kernel
theorem dX3_matters_7 : decode cX3_matters 7 = .ok (.aload_n 0, 1) := by decide +kernel
theorem dX3_matters_8 : decode cX3_matters 8 = .ok (.getfield 42, 3) := by decide +kernel
theorem dX3_matters_11 : decode cX3_matters 11 = .ok (.getfield 95, 3) := by decide +kernel
theorem dX3_matters_14 : decode cX3_matters 14 = .ok (.if_icmp .gt 11, 3) := by decide +kernel
theorem dX3_matters_17 : decode cX3_matters 17 = .ok (.iload_n 1, 1) := by decide +kernel
theorem dX3_matters_18 : decode cX3_matters 18 = .ok (.bipush 7, 2) := by decide +kernel
theorem dX3_matters_20 : decode cX3_matters 20 = .ok (.iand, 1) := by decide +kernel
theorem dX3_matters_21 : decode cX3_matters 21 = .ok (.iload_n 2, 1) := by decide +kernel
theorem dX3_matters_22 : decode cX3_matters 22 = .ok (.if_icmp .ne 7, 3) := by decide +kernel
theorem dX3_matters_25 : decode cX3_matters 25 = .ok (.iconst 1, 1) := by decide +kernel
theorem dX3_matters_26 : decode cX3_matters 26 = .ok (.goto 4, 3) := by decide +kernel
theorem dX3_matters_29 : decode cX3_matters 29 = .ok (.iconst 0, 1) := by decide +kernel
theorem dX3_matters_30 : decode cX3_matters 30 = .ok (.ireturn, 1) := by decide +kernel
theorem dX3_planSort_0 : decode cX3_planSort 0 = .ok (.iload_n 1, 1) := by decide +kernel
theorem dX3_planSort_1 : decode cX3_planSort 1 = .ok (.aload_n 0, 1) := by decide +kernel
theorem dX3_planSort_2 : decode cX3_planSort 2 = .ok (.getfield 25, 3) := by decide +kernel
theorem dX3_planSort_5 : decode cX3_planSort 5 = .ok (.if_icmp .ne 4, 3) := by decide +kernel
theorem dX3_planSort_8 : decode cX3_planSort 8 = .ok (.return_, 1) := by decide +kernel
theorem dX3_planSort_9 : decode cX3_planSort 9 = .ok (.aload_n 0, 1) := by decide +kernel
theorem dX3_planSort_10 : decode cX3_planSort 10 = .ok (.iload_n 1, 1) := by decide +kernel
theorem dX3_planSort_11 : decode cX3_planSort 11 = .ok (.putfield 25, 3) := by decide +kernel
theorem dX3_planSort_14 : decode cX3_planSort 14 = .ok (.aload_n 0, 1) := by decide +kernel
theorem dX3_planSort_15 : decode cX3_planSort 15 = .ok (.getfield 18, 3) := by decide +kernel
theorem dX3_planSort_18 : decode cX3_planSort 18 = .ok (.iconst (-1), 1) := by decide +kernel
theorem dX3_planSort_19 : decode cX3_planSort 19 = .ok (.iconst (-1), 1) := by decide +kernel
theorem dX3_planSort_20 : decode cX3_planSort 20 = .ok (.iconst (-1), 1) := by decide +kernel
theorem dX3_planSort_21 : decode cX3_planSort 21 = .ok (.invokevirtual 51, 3) := by decide +kernel
theorem dX3_planSort_24 : decode cX3_planSort 24 = .ok (.aload_n 0, 1) := by decide +kernel
theorem dX3_planSort_25 : decode cX3_planSort 25 = .ok (.iload_n 1, 1) := by decide +kernel
theorem dX3_planSort_26 : decode cX3_planSort 26 = .ok (.iconst 0, 1) := by decide +kernel
theorem dX3_planSort_27 : decode cX3_planSort 27 = .ok (.invokevirtual 100, 3) := by decide +kernel
theorem dX3_planSort_30 : decode cX3_planSort 30 = .ok (.istore_n 2, 1) := by decide +kernel
theorem dX3_planSort_31 : decode cX3_planSort 31 = .ok (.iload_n 2, 1) := by decide +kernel
theorem dX3_planSort_32 : decode cX3_planSort 32 = .ok (.bipush 24, 2) := by decide +kernel
theorem dX3_planSort_34 : decode cX3_planSort 34 = .ok (.if_icmp .ne 14, 3) := by decide +kernel
theorem dX3_planSort_37 : decode cX3_planSort 37 = .ok (.aload_n 0, 1) := by decide +kernel
theorem dX3_planSort_38 : decode cX3_planSort 38 = .ok (.getfield 18, 3) := by decide +kernel
theorem dX3_planSort_41 : decode cX3_planSort 41 = .ok (.iconst 0, 1) := by decide +kernel
theorem dX3_planSort_42 : decode cX3_planSort 42 = .ok (.iconst (-1), 1) := by decide +kernel
theorem dX3_planSort_43 : decode cX3_planSort 43 = .ok (.iconst (-1), 1) := by decide +kernel
theorem dX3_planSort_44 : decode cX3_planSort 44 = .ok (.invokevirtual 51, 3) := by decide +kernel
theorem dX3_planSort_47 : decode cX3_planSort 47 = .ok (.return_, 1) := by decide +kernel
theorem dX3_planSort_48 : decode cX3_planSort 48 = .ok (.iconst 0, 1) := by decide +kernel
theorem dX3_planSort_49 : decode cX3_planSort 49 = .ok (.istore_n 3, 1) := by decide +kernel
theorem dX3_planSort_50 : decode cX3_planSort 50 = .ok (.iload_n 3, 1) := by decide +kernel
theorem dX3_planSort_51 : decode cX3_planSort 51 = .ok (.iload_n 2, 1) := by decide +kernel
theorem dX3_planSort_52 : decode cX3_planSort 52 = .ok (.if_icmp .gt 45, 3) := by decide +kernel
theorem dX3_planSort_55 : decode cX3_planSort 55 = .ok (.aload_n 0, 1) := by decide +kernel
theorem dX3_planSort_56 : decode cX3_planSort 56 = .ok (.getfield 34, 3) := by decide +kernel
theorem dX3_planSort_59 : decode cX3_planSort 59 = .ok (.iload_n 3, 1) := by decide +kernel
theorem dX3_planSort_60 : decode cX3_planSort 60 = .ok (.aload_n 0, 1) := by decide +kernel
theorem dX3_planSort_61 : decode cX3_planSort 61 = .ok (.iload_n 1, 1) := by decide +kernel
theorem dX3_planSort_62 : decode cX3_planSort 62 = .ok (.iconst 1, 1) := by decide +kernel
theorem dX3_planSort_63 : decode cX3_planSort 63 = .ok (.iload_n 3, 1) := by decide +kernel
theorem dX3_planSort_64 : decode cX3_planSort 64 = .ok (.ishl, 1) := by decide +kernel
theorem dX3_planSort_65 : decode cX3_planSort 65 = .ok (.invokevirtual 100, 3) := by decide +kernel
theorem dX3_planSort_68 : decode cX3_planSort 68 = .ok (.iastore, 1) := by decide +kernel
theorem dX3_planSort_69 : decode cX3_planSort 69 = .ok (.aload_n 0, 1) := by decide +kernel
theorem dX3_planSort_70 : decode cX3_planSort 70 = .ok (.getfield 34, 3) := by decide +kernel
theorem dX3_planSort_73 : decode cX3_planSort 73 = .ok (.iload_n 3, 1) := by decide +kernel
theorem dX3_planSort_74 : decode cX3_planSort 74 = .ok (.iaload, 1) := by decide +kernel
theorem dX3_planSort_75 : decode cX3_planSort 75 = .ok (.bipush 24, 2) := by decide +kernel
theorem dX3_planSort_77 : decode cX3_planSort 77 = .ok (.if_icmp .ne 14, 3) := by decide +kernel
theorem dX3_planSort_80 : decode cX3_planSort 80 = .ok (.aload_n 0, 1) := by decide +kernel
theorem dX3_planSort_81 : decode cX3_planSort 81 = .ok (.getfield 18, 3) := by decide +kernel
theorem dX3_planSort_84 : decode cX3_planSort 84 = .ok (.iconst 1, 1) := by decide +kernel
theorem dX3_planSort_85 : decode cX3_planSort 85 = .ok (.iload_n 3, 1) := by decide +kernel
theorem dX3_planSort_86 : decode cX3_planSort 86 = .ok (.iconst (-1), 1) := by decide +kernel
theorem dX3_planSort_87 : decode cX3_planSort 87 = .ok (.invokevirtual 51, 3) := by decide +kernel
theorem dX3_planSort_90 : decode cX3_planSort 90 = .ok (.return_, 1) := by decide +kernel
theorem dX3_planSort_91 : decode cX3_planSort 91 = .ok (.iinc 3 1, 3) := by decide +kernel
theorem dX3_planSort_94 : decode cX3_planSort 94 = .ok (.goto (-44), 3) := by decide +kernel
theorem dX3_planSort_97 : decode cX3_planSort 97 = .ok (.aload_n 0, 1) := by decide +kernel
theorem dX3_planSort_98 : decode cX3_planSort 98 = .ok (.iload_n 1, 1) := by decide +kernel
theorem dX3_planSort_99 : decode cX3_planSort 99 = .ok (.iload_n 2, 1) := by decide +kernel
theorem dX3_planSort_100 : decode cX3_planSort 100 = .ok (.invokevirtual 104, 3) := by decide +kernel
theorem dX3_planSort_103 : decode cX3_planSort 103 = .ok (.return_, 1) := by decide +kernel
theorem dX3_planTwoSortings_0 : decode cX3_planTwoSortings 0 = .ok (.iconst 0, 1) := by decide +kernel
theorem dX3_planTwoSortings_1 : decode cX3_planTwoSortings 1 = .ok (.istore_n 3, 1) := by decide +kernel
theorem dX3_planTwoSortings_2 : decode cX3_planTwoSortings 2 = .ok (.iload_n 3, 1) := by decide +kernel
theorem dX3_planTwoSortings_3 : decode cX3_planTwoSortings 3 = .ok (.iload_n 2, 1) := by decide +kernel
theorem dX3_planTwoSortings_4 : decode cX3_planTwoSortings 4 = .ok (.if_icmp .gt 67, 3) := by decide +kernel
theorem dX3_planTwoSortings_7 : decode cX3_planTwoSortings 7 = .ok (.iload_n 3, 1) := by decide +kernel
theorem dX3_planTwoSortings_8 : decode cX3_planTwoSortings 8 = .ok (.bipush 24, 2) := by decide +kernel
theorem dX3_planTwoSortings_10 : decode cX3_planTwoSortings 10 = .ok (.if_icmp .ge 61, 3) := by decide +kernel
theorem dX3_planTwoSortings_13 : decode cX3_planTwoSortings 13 = .ok (.iload_n 3, 1) := by decide +kernel
theorem dX3_planTwoSortings_14 : decode cX3_planTwoSortings 14 = .ok (.iconst 1, 1) := by decide +kernel
theorem dX3_planTwoSortings_15 : decode cX3_planTwoSortings 15 = .ok (.iadd, 1) := by decide +kernel
theorem dX3_planTwoSortings_16 : decode cX3_planTwoSortings 16 = .ok (.istore 4, 2) := by decide +kernel
theorem dX3_planTwoSortings_18 : decode cX3_planTwoSortings 18 = .ok (.iload 4, 2) := by decide +kernel
theorem dX3_planTwoSortings_20 : decode cX3_planTwoSortings 20 = .ok (.aload_n 0, 1) := by decide +kernel
theorem dX3_planTwoSortings_21 : decode cX3_planTwoSortings 21 = .ok (.getfield 34, 3) := by decide +kernel
theorem dX3_planTwoSortings_24 : decode cX3_planTwoSortings 24 = .ok (.iload_n 3, 1) := by decide +kernel
theorem dX3_planTwoSortings_25 : decode cX3_planTwoSortings 25 = .ok (.iaload, 1) := by decide +kernel
theorem dX3_planTwoSortings_26 : decode cX3_planTwoSortings 26 = .ok (.if_icmp .gt 39, 3) := by decide +kernel
theorem dX3_planTwoSortings_29 : decode cX3_planTwoSortings 29 = .ok (.aload_n 0, 1) := by decide +kernel
theorem dX3_planTwoSortings_30 : decode cX3_planTwoSortings 30 = .ok (.iload_n 1, 1) := by decide +kernel
theorem dX3_planTwoSortings_31 : decode cX3_planTwoSortings 31 = .ok (.iconst 1, 1) := by decide +kernel
theorem dX3_planTwoSortings_32 : decode cX3_planTwoSortings 32 = .ok (.iload_n 3, 1) := by decide +kernel
theorem dX3_planTwoSortings_33 : decode cX3_planTwoSortings 33 = .ok (.ishl, 1) := by decide +kernel
theorem dX3_planTwoSortings_34 : decode cX3_planTwoSortings 34 = .ok (.iconst 1, 1) := by decide +kernel
theorem dX3_planTwoSortings_35 : decode cX3_planTwoSortings 35 = .ok (.iload 4, 2) := by decide +kernel
theorem dX3_planTwoSortings_37 : decode cX3_planTwoSortings 37 = .ok (.ishl, 1) := by decide +kernel
theorem dX3_planTwoSortings_38 : decode cX3_planTwoSortings 38 = .ok (.ior, 1) := by decide +kernel
theorem dX3_planTwoSortings_39 : decode cX3_planTwoSortings 39 = .ok (.invokevirtual 100, 3) := by decide +kernel
theorem dX3_planTwoSortings_42 : decode cX3_planTwoSortings 42 = .ok (.bipush 24, 2) := by decide +kernel
theorem dX3_planTwoSortings_44 : decode cX3_planTwoSortings 44 = .ok (.if_icmp .ne 15, 3) := by decide +kernel
theorem dX3_planTwoSortings_47 : decode cX3_planTwoSortings 47 = .ok (.aload_n 0, 1) := by decide +kernel
theorem dX3_planTwoSortings_48 : decode cX3_planTwoSortings 48 = .ok (.getfield 18, 3) := by decide +kernel
theorem dX3_planTwoSortings_51 : decode cX3_planTwoSortings 51 = .ok (.iconst 2, 1) := by decide +kernel
theorem dX3_planTwoSortings_52 : decode cX3_planTwoSortings 52 = .ok (.iload_n 3, 1) := by decide +kernel
theorem dX3_planTwoSortings_53 : decode cX3_planTwoSortings 53 = .ok (.iload 4, 2) := by decide +kernel
theorem dX3_planTwoSortings_55 : decode cX3_planTwoSortings 55 = .ok (.invokevirtual 51, 3) := by decide +kernel
theorem dX3_planTwoSortings_58 : decode cX3_planTwoSortings 58 = .ok (.return_, 1) := by decide +kernel
theorem dX3_planTwoSortings_59 : decode cX3_planTwoSortings 59 = .ok (.iinc 4 1, 3) := by decide +kernel
theorem dX3_planTwoSortings_62 : decode cX3_planTwoSortings 62 = .ok (.goto (-44), 3) := by decide +kernel
theorem dX3_planTwoSortings_65 : decode cX3_planTwoSortings 65 = .ok (.iinc 3 1, 3) := by decide +kernel
theorem dX3_planTwoSortings_68 : decode cX3_planTwoSortings 68 = .ok (.goto (-66), 3) := by decide +kernel
theorem dX3_planTwoSortings_71 : decode cX3_planTwoSortings 71 = .ok (.return_, 1) := by decide +kernel
theorem dX3_firstBulge_0 : decode cX3_firstBulge 0 = .ok (.aload_n 0, 1) := by decide +kernel
theorem dX3_firstBulge_1 : decode cX3_firstBulge 1 = .ok (.getfield 30, 3) := by decide +kernel
theorem dX3_firstBulge_4 : decode cX3_firstBulge 4 = .ok (.iconst 0, 1) := by decide +kernel
theorem dX3_firstBulge_5 : decode cX3_firstBulge 5 = .ok (.aaload, 1) := by decide +kernel
theorem dX3_firstBulge_6 : decode cX3_firstBulge 6 = .ok (.astore_n 3, 1) := by decide +kernel
theorem dX3_firstBulge_7 : decode cX3_firstBulge 7 = .ok (.aload_n 3, 1) := by decide +kernel
theorem dX3_firstBulge_8 : decode cX3_firstBulge 8 = .ok (.aload_n 0, 1) := by decide +kernel
theorem dX3_firstBulge_9 : decode cX3_firstBulge 9 = .ok (.getfield 46, 3) := by decide +kernel
theorem dX3_firstBulge_12 : decode cX3_firstBulge 12 = .ok (.getfield 108, 3) := by decide +kernel
theorem dX3_firstBulge_15 : decode cX3_firstBulge 15 = .ok (.invokevirtual 70, 3) := by decide +kernel
theorem dX3_firstBulge_18 : decode cX3_firstBulge 18 = .ok (.iconst 0, 1) := by decide +kernel
theorem dX3_firstBulge_19 : decode cX3_firstBulge 19 = .ok (.istore 4, 2) := by decide +kernel
theorem dX3_firstBulge_21 : decode cX3_firstBulge 21 = .ok (.iload 4, 2) := by decide +kernel
theorem dX3_firstBulge_23 : decode cX3_firstBulge 23 = .ok (.bipush 24, 2) := by decide +kernel
theorem dX3_firstBulge_25 : decode cX3_firstBulge 25 = .ok (.if_icmp .ge 42, 3) := by decide +kernel
theorem dX3_firstBulge_28 : decode cX3_firstBulge 28 = .ok (.aload_n 0, 1) := by decide +kernel
theorem dX3_firstBulge_29 : decode cX3_firstBulge 29 = .ok (.getfield 46, 3) := by decide +kernel
theorem dX3_firstBulge_32 : decode cX3_firstBulge 32 = .ok (.aload_n 3, 1) := by decide +kernel
theorem dX3_firstBulge_33 : decode cX3_firstBulge 33 = .ok (.iload 4, 2) := by decide +kernel
theorem dX3_firstBulge_35 : decode cX3_firstBulge 35 = .ok (.invokevirtual 112, 3) := by decide +kernel
theorem dX3_firstBulge_38 : decode cX3_firstBulge 38 = .ok (.pop, 1) := by decide +kernel
theorem dX3_firstBulge_39 : decode cX3_firstBulge 39 = .ok (.aload_n 0, 1) := by decide +kernel
theorem dX3_firstBulge_40 : decode cX3_firstBulge 40 = .ok (.getfield 46, 3) := by decide +kernel
theorem dX3_firstBulge_43 : decode cX3_firstBulge 43 = .ok (.aload_n 3, 1) := by decide +kernel
theorem dX3_firstBulge_44 : decode cX3_firstBulge 44 = .ok (.iload 4, 2) := by decide +kernel
theorem dX3_firstBulge_46 : decode cX3_firstBulge 46 = .ok (.iload_n 2, 1) := by decide +kernel
theorem dX3_firstBulge_47 : decode cX3_firstBulge 47 = .ok (.invokevirtual 116, 3) := by decide +kernel
theorem dX3_firstBulge_50 : decode cX3_firstBulge 50 = .ok (.aload_n 3, 1) := by decide +kernel
theorem dX3_firstBulge_51 : decode cX3_firstBulge 51 = .ok (.getfield 119, 3) := by decide +kernel
theorem dX3_firstBulge_54 : decode cX3_firstBulge 54 = .ok (.iload_n 1, 1) := by decide +kernel
theorem dX3_firstBulge_55 : decode cX3_firstBulge 55 = .ok (.if_icmp .le 6, 3) := by decide +kernel
theorem dX3_firstBulge_58 : decode cX3_firstBulge 58 = .ok (.iload 4, 2) := by decide +kernel
theorem dX3_firstBulge_60 : decode cX3_firstBulge 60 = .ok (.ireturn, 1) := by decide +kernel
theorem dX3_firstBulge_61 : decode cX3_firstBulge 61 = .ok (.iinc 4 1, 3) := by decide +kernel
theorem dX3_firstBulge_64 : decode cX3_firstBulge 64 = .ok (.goto (-43), 3) := by decide +kernel
theorem dX3_firstBulge_67 : decode cX3_firstBulge 67 = .ok (.bipush 24, 2) := by decide +kernel
theorem dX3_firstBulge_69 : decode cX3_firstBulge 69 = .ok (.ireturn, 1) := by decide +kernel
theorem dX3_unsettled_0 : decode cX3_unsettled 0 = .ok (.aload_n 0, 1) := by decide +kernel
theorem dX3_unsettled_1 : decode cX3_unsettled 1 = .ok (.iconst 0, 1) := by decide +kernel
theorem dX3_unsettled_2 : decode cX3_unsettled 2 = .ok (.putfield 122, 3) := by decide +kernel
theorem dX3_unsettled_5 : decode cX3_unsettled 5 = .ok (.aload_n 0, 1) := by decide +kernel
theorem dX3_unsettled_6 : decode cX3_unsettled 6 = .ok (.getfield 30, 3) := by decide +kernel
theorem dX3_unsettled_9 : decode cX3_unsettled 9 = .ok (.iconst 0, 1) := by decide +kernel
theorem dX3_unsettled_10 : decode cX3_unsettled 10 = .ok (.aaload, 1) := by decide +kernel
theorem dX3_unsettled_11 : decode cX3_unsettled 11 = .ok (.iload_n 1, 1) := by decide +kernel
theorem dX3_unsettled_12 : decode cX3_unsettled 12 = .ok (.ifCond .ne 13, 3) := by decide +kernel
theorem dX3_unsettled_15 : decode cX3_unsettled 15 = .ok (.aload_n 0, 1) := by decide +kernel
theorem dX3_unsettled_16 : decode cX3_unsettled 16 = .ok (.getfield 46, 3) := by decide +kernel
theorem dX3_unsettled_19 : decode cX3_unsettled 19 = .ok (.getfield 108, 3) := by decide +kernel
theorem dX3_unsettled_22 : decode cX3_unsettled 22 = .ok (.goto 14, 3) := by decide +kernel
theorem dX3_unsettled_25 : decode cX3_unsettled 25 = .ok (.aload_n 0, 1) := by decide +kernel
theorem dX3_unsettled_26 : decode cX3_unsettled 26 = .ok (.getfield 46, 3) := by decide +kernel
theorem dX3_unsettled_29 : decode cX3_unsettled 29 = .ok (.getfield 60, 3) := by decide +kernel
theorem dX3_unsettled_32 : decode cX3_unsettled 32 = .ok (.iload_n 1, 1) := by decide +kernel
theorem dX3_unsettled_33 : decode cX3_unsettled 33 = .ok (.iconst 1, 1) := by decide +kernel
theorem dX3_unsettled_34 : decode cX3_unsettled 34 = .ok (.isub, 1) := by decide +kernel
theorem dX3_unsettled_35 : decode cX3_unsettled 35 = .ok (.aaload, 1) := by decide +kernel
theorem dX3_unsettled_36 : decode cX3_unsettled 36 = .ok (.invokevirtual 70, 3) := by decide +kernel
theorem dX3_unsettled_39 : decode cX3_unsettled 39 = .ok (.aload_n 0, 1) := by decide +kernel
theorem dX3_unsettled_40 : decode cX3_unsettled 40 = .ok (.getfield 46, 3) := by decide +kernel
theorem dX3_unsettled_43 : decode cX3_unsettled 43 = .ok (.aload_n 0, 1) := by decide +kernel
theorem dX3_unsettled_44 : decode cX3_unsettled 44 = .ok (.getfield 30, 3) := by decide +kernel
theorem dX3_unsettled_47 : decode cX3_unsettled 47 = .ok (.iconst 0, 1) := by decide +kernel
theorem dX3_unsettled_48 : decode cX3_unsettled 48 = .ok (.aaload, 1) := by decide +kernel
theorem dX3_unsettled_49 : decode cX3_unsettled 49 = .ok (.invokevirtual 125, 3) := by decide +kernel
theorem dX3_unsettled_52 : decode cX3_unsettled 52 = .ok (.aload_n 0, 1) := by decide +kernel
theorem dX3_unsettled_53 : decode cX3_unsettled 53 = .ok (.iload_n 1, 1) := by decide +kernel
theorem dX3_unsettled_54 : decode cX3_unsettled 54 = .ok (.iconst 0, 1) := by decide +kernel
theorem dX3_unsettled_55 : decode cX3_unsettled 55 = .ok (.iconst 0, 1) := by decide +kernel
theorem dX3_unsettled_56 : decode cX3_unsettled 56 = .ok (.invokevirtual 128, 3) := by decide +kernel
theorem dX3_unsettled_59 : decode cX3_unsettled 59 = .ok (.iconst 0, 1) := by decide +kernel
theorem dX3_unsettled_60 : decode cX3_unsettled 60 = .ok (.istore_n 2, 1) := by decide +kernel
theorem dX3_unsettled_61 : decode cX3_unsettled 61 = .ok (.iconst 0, 1) := by decide +kernel
theorem dX3_unsettled_62 : decode cX3_unsettled 62 = .ok (.istore_n 3, 1) := by decide +kernel
theorem dX3_unsettled_63 : decode cX3_unsettled 63 = .ok (.iload_n 3, 1) := by decide +kernel
theorem dX3_unsettled_64 : decode cX3_unsettled 64 = .ok (.aload_n 0, 1) := by decide +kernel
theorem dX3_unsettled_65 : decode cX3_unsettled 65 = .ok (.getfield 38, 3) := by decide +kernel
theorem dX3_unsettled_68 : decode cX3_unsettled 68 = .ok (.getfield 131, 3) := by decide +kernel
theorem dX3_unsettled_71 : decode cX3_unsettled 71 = .ok (.if_icmp .ge 29, 3) := by decide +kernel
theorem dX3_unsettled_74 : decode cX3_unsettled 74 = .ok (.aload_n 0, 1) := by decide +kernel
theorem dX3_unsettled_75 : decode cX3_unsettled 75 = .ok (.getfield 122, 3) := by decide +kernel
theorem dX3_unsettled_78 : decode cX3_unsettled 78 = .ok (.iconst 4, 1) := by decide +kernel
theorem dX3_unsettled_79 : decode cX3_unsettled 79 = .ok (.iload_n 3, 1) := by decide +kernel
theorem dX3_unsettled_80 : decode cX3_unsettled 80 = .ok (.imul, 1) := by decide +kernel
theorem dX3_unsettled_81 : decode cX3_unsettled 81 = .ok (.iushr, 1) := by decide +kernel
theorem dX3_unsettled_82 : decode cX3_unsettled 82 = .ok (.bipush 15, 2) := by decide +kernel
theorem dX3_unsettled_84 : decode cX3_unsettled 84 = .ok (.iand, 1) := by decide +kernel
theorem dX3_unsettled_85 : decode cX3_unsettled 85 = .ok (.ifCond .eq 9, 3) := by decide +kernel
theorem dX3_unsettled_88 : decode cX3_unsettled 88 = .ok (.iload_n 2, 1) := by decide +kernel
theorem dX3_unsettled_89 : decode cX3_unsettled 89 = .ok (.iconst 1, 1) := by decide +kernel
theorem dX3_unsettled_90 : decode cX3_unsettled 90 = .ok (.iload_n 3, 1) := by decide +kernel
theorem dX3_unsettled_91 : decode cX3_unsettled 91 = .ok (.ishl, 1) := by decide +kernel
theorem dX3_unsettled_92 : decode cX3_unsettled 92 = .ok (.ior, 1) := by decide +kernel
theorem dX3_unsettled_93 : decode cX3_unsettled 93 = .ok (.istore_n 2, 1) := by decide +kernel
theorem dX3_unsettled_94 : decode cX3_unsettled 94 = .ok (.iinc 3 1, 3) := by decide +kernel
theorem dX3_unsettled_97 : decode cX3_unsettled 97 = .ok (.goto (-34), 3) := by decide +kernel
theorem dX3_unsettled_100 : decode cX3_unsettled 100 = .ok (.iload_n 2, 1) := by decide +kernel
theorem dX3_unsettled_101 : decode cX3_unsettled 101 = .ok (.ireturn, 1) := by decide +kernel
theorem dX3_order_0 : decode cX3_order 0 = .ok (.aload_n 0, 1) := by decide +kernel
theorem dX3_order_1 : decode cX3_order 1 = .ok (.getfield 42, 3) := by decide +kernel
theorem dX3_order_4 : decode cX3_order 4 = .ok (.getfield 134, 3) := by decide +kernel
theorem dX3_order_7 : decode cX3_order 7 = .ok (.iload_n 1, 1) := by decide +kernel
theorem dX3_order_8 : decode cX3_order 8 = .ok (.iaload, 1) := by decide +kernel
theorem dX3_order_9 : decode cX3_order 9 = .ok (.istore 4, 2) := by decide +kernel
theorem dX3_order_11 : decode cX3_order 11 = .ok (.iconst 5, 1) := by decide +kernel
theorem dX3_order_12 : decode cX3_order 12 = .ok (.aload_n 0, 1) := by decide +kernel
theorem dX3_order_13 : decode cX3_order 13 = .ok (.getfield 42, 3) := by decide +kernel
theorem dX3_order_16 : decode cX3_order 16 = .ok (.getfield 134, 3) := by decide +kernel
theorem dX3_order_19 : decode cX3_order 19 = .ok (.iload_n 1, 1) := by decide +kernel
theorem dX3_order_20 : decode cX3_order 20 = .ok (.iconst 1, 1) := by decide +kernel
theorem dX3_order_21 : decode cX3_order 21 = .ok (.iadd, 1) := by decide +kernel
theorem dX3_order_22 : decode cX3_order 22 = .ok (.iaload, 1) := by decide +kernel
theorem dX3_order_23 : decode cX3_order 23 = .ok (.iload 4, 2) := by decide +kernel
theorem dX3_order_25 : decode cX3_order 25 = .ok (.isub, 1) := by decide +kernel
theorem dX3_order_26 : decode cX3_order 26 = .ok (.invokestatic 137, 3) := by decide +kernel
theorem dX3_order_29 : decode cX3_order 29 = .ok (.istore 5, 2) := by decide +kernel
theorem dX3_order_31 : decode cX3_order 31 = .ok (.iload_n 2, 1) := by decide +kernel
theorem dX3_order_32 : decode cX3_order 32 = .ok (.iload 5, 2) := by decide +kernel
theorem dX3_order_34 : decode cX3_order 34 = .ok (.if_icmp .lt 86, 3) := by decide +kernel
theorem dX3_order_37 : decode cX3_order 37 = .ok (.aload_n 0, 1) := by decide +kernel
theorem dX3_order_38 : decode cX3_order 38 = .ok (.getfield 30, 3) := by decide +kernel
theorem dX3_order_41 : decode cX3_order 41 = .ok (.iload_n 2, 1) := by decide +kernel
theorem dX3_order_42 : decode cX3_order 42 = .ok (.iconst 5, 1) := by decide +kernel
theorem dX3_order_43 : decode cX3_order 43 = .ok (.invokestatic 137, 3) := by decide +kernel
theorem dX3_order_46 : decode cX3_order 46 = .ok (.aaload, 1) := by decide +kernel
theorem dX3_order_47 : decode cX3_order 47 = .ok (.astore 6, 2) := by decide +kernel
theorem dX3_order_49 : decode cX3_order 49 = .ok (.aload_n 0, 1) := by decide +kernel
theorem dX3_order_50 : decode cX3_order 50 = .ok (.getfield 46, 3) := by decide +kernel
theorem dX3_order_53 : decode cX3_order 53 = .ok (.aload 6, 2) := by decide +kernel
theorem dX3_order_55 : decode cX3_order 55 = .ok (.iload 4, 2) := by decide +kernel
theorem dX3_order_57 : decode cX3_order 57 = .ok (.iload 5, 2) := by decide +kernel
theorem dX3_order_59 : decode cX3_order 59 = .ok (.iadd, 1) := by decide +kernel
theorem dX3_order_60 : decode cX3_order 60 = .ok (.aload_n 0, 1) := by decide +kernel
theorem dX3_order_61 : decode cX3_order 61 = .ok (.getfield 42, 3) := by decide +kernel
theorem dX3_order_64 : decode cX3_order 64 = .ok (.getfield 134, 3) := by decide +kernel
theorem dX3_order_67 : decode cX3_order 67 = .ok (.iload_n 1, 1) := by decide +kernel
theorem dX3_order_68 : decode cX3_order 68 = .ok (.iconst 1, 1) := by decide +kernel
theorem dX3_order_69 : decode cX3_order 69 = .ok (.iadd, 1) := by decide +kernel
theorem dX3_order_70 : decode cX3_order 70 = .ok (.iaload, 1) := by decide +kernel
theorem dX3_order_71 : decode cX3_order 71 = .ok (.invokevirtual 142, 3) := by decide +kernel
theorem dX3_order_74 : decode cX3_order 74 = .ok (.pop, 1) := by decide +kernel
theorem dX3_order_75 : decode cX3_order 75 = .ok (.aload_n 0, 1) := by decide +kernel
theorem dX3_order_76 : decode cX3_order 76 = .ok (.getfield 46, 3) := by decide +kernel
theorem dX3_order_79 : decode cX3_order 79 = .ok (.aload 6, 2) := by decide +kernel
theorem dX3_order_81 : decode cX3_order 81 = .ok (.iload_n 1, 1) := by decide +kernel
theorem dX3_order_82 : decode cX3_order 82 = .ok (.aload_n 0, 1) := by decide +kernel
theorem dX3_order_83 : decode cX3_order 83 = .ok (.getfield 42, 3) := by decide +kernel
theorem dX3_order_86 : decode cX3_order 86 = .ok (.getfield 146, 3) := by decide +kernel
theorem dX3_order_89 : decode cX3_order 89 = .ok (.invokevirtual 116, 3) := by decide +kernel
theorem dX3_order_92 : decode cX3_order 92 = .ok (.aload_n 0, 1) := by decide +kernel
theorem dX3_order_93 : decode cX3_order 93 = .ok (.dup, 1) := by decide +kernel
theorem dX3_order_94 : decode cX3_order 94 = .ok (.getfield 122, 3) := by decide +kernel
theorem dX3_order_97 : decode cX3_order 97 = .ok (.aload 6, 2) := by decide +kernel
theorem dX3_order_99 : decode cX3_order 99 = .ok (.getfield 149, 3) := by decide +kernel
theorem dX3_order_102 : decode cX3_order 102 = .ok (.aload_n 0, 1) := by decide +kernel
theorem dX3_order_103 : decode cX3_order 103 = .ok (.getfield 46, 3) := by decide +kernel
theorem dX3_order_106 : decode cX3_order 106 = .ok (.getfield 60, 3) := by decide +kernel
theorem dX3_order_109 : decode cX3_order 109 = .ok (.iload_n 1, 1) := by decide +kernel
theorem dX3_order_110 : decode cX3_order 110 = .ok (.aaload, 1) := by decide +kernel
theorem dX3_order_111 : decode cX3_order 111 = .ok (.getfield 149, 3) := by decide +kernel
theorem dX3_order_114 : decode cX3_order 114 = .ok (.ixor, 1) := by decide +kernel
theorem dX3_order_115 : decode cX3_order 115 = .ok (.ior, 1) := by decide +kernel
theorem dX3_order_116 : decode cX3_order 116 = .ok (.putfield 122, 3) := by decide +kernel
theorem dX3_order_119 : decode cX3_order 119 = .ok (.return_, 1) := by decide +kernel
theorem dX3_order_120 : decode cX3_order 120 = .ok (.iconst 0, 1) := by decide +kernel
theorem dX3_order_121 : decode cX3_order 121 = .ok (.istore 6, 2) := by decide +kernel
theorem dX3_order_123 : decode cX3_order 123 = .ok (.iload 6, 2) := by decide +kernel
theorem dX3_order_125 : decode cX3_order 125 = .ok (.iload 5, 2) := by decide +kernel
theorem dX3_order_127 : decode cX3_order 127 = .ok (.if_icmp .ge 84, 3) := by decide +kernel
theorem dX3_order_130 : decode cX3_order 130 = .ok (.iload_n 3, 1) := by decide +kernel
theorem dX3_order_131 : decode cX3_order 131 = .ok (.iload 6, 2) := by decide +kernel
theorem dX3_order_133 : decode cX3_order 133 = .ok (.ishr, 1) := by decide +kernel
theorem dX3_order_134 : decode cX3_order 134 = .ok (.iconst 1, 1) := by decide +kernel
theorem dX3_order_135 : decode cX3_order 135 = .ok (.iand, 1) := by decide +kernel
theorem dX3_order_136 : decode cX3_order 136 = .ok (.ifCond .ne 69, 3) := by decide +kernel
theorem dX3_order_139 : decode cX3_order 139 = .ok (.aload_n 0, 1) := by decide +kernel
theorem dX3_order_140 : decode cX3_order 140 = .ok (.getfield 30, 3) := by decide +kernel
theorem dX3_order_143 : decode cX3_order 143 = .ok (.iload_n 2, 1) := by decide +kernel
theorem dX3_order_144 : decode cX3_order 144 = .ok (.iconst 1, 1) := by decide +kernel
theorem dX3_order_145 : decode cX3_order 145 = .ok (.iadd, 1) := by decide +kernel
theorem dX3_order_146 : decode cX3_order 146 = .ok (.aaload, 1) := by decide +kernel
theorem dX3_order_147 : decode cX3_order 147 = .ok (.astore 7, 2) := by decide +kernel
theorem dX3_order_149 : decode cX3_order 149 = .ok (.aload 7, 2) := by decide +kernel
theorem dX3_order_151 : decode cX3_order 151 = .ok (.aload_n 0, 1) := by decide +kernel
theorem dX3_order_152 : decode cX3_order 152 = .ok (.getfield 30, 3) := by decide +kernel
theorem dX3_order_155 : decode cX3_order 155 = .ok (.iload_n 2, 1) := by decide +kernel
theorem dX3_order_156 : decode cX3_order 156 = .ok (.aaload, 1) := by decide +kernel
theorem dX3_order_157 : decode cX3_order 157 = .ok (.invokevirtual 70, 3) := by decide +kernel
theorem dX3_order_160 : decode cX3_order 160 = .ok (.aload_n 0, 1) := by decide +kernel
theorem dX3_order_161 : decode cX3_order 161 = .ok (.getfield 46, 3) := by decide +kernel
theorem dX3_order_164 : decode cX3_order 164 = .ok (.aload 7, 2) := by decide +kernel
theorem dX3_order_166 : decode cX3_order 166 = .ok (.aload_n 0, 1) := by decide +kernel
theorem dX3_order_167 : decode cX3_order 167 = .ok (.getfield 42, 3) := by decide +kernel
theorem dX3_order_170 : decode cX3_order 170 = .ok (.getfield 152, 3) := by decide +kernel
theorem dX3_order_173 : decode cX3_order 173 = .ok (.aload_n 0, 1) := by decide +kernel
theorem dX3_order_174 : decode cX3_order 174 = .ok (.getfield 42, 3) := by decide +kernel
theorem dX3_order_177 : decode cX3_order 177 = .ok (.getfield 155, 3) := by decide +kernel
theorem dX3_order_180 : decode cX3_order 180 = .ok (.iload 4, 2) := by decide +kernel
theorem dX3_order_182 : decode cX3_order 182 = .ok (.iload 6, 2) := by decide +kernel
theorem dX3_order_184 : decode cX3_order 184 = .ok (.iadd, 1) := by decide +kernel
theorem dX3_order_185 : decode cX3_order 185 = .ok (.iaload, 1) := by decide +kernel
theorem dX3_order_186 : decode cX3_order 186 = .ok (.iaload, 1) := by decide +kernel
theorem dX3_order_187 : decode cX3_order 187 = .ok (.invokevirtual 82, 3) := by decide +kernel
theorem dX3_order_190 : decode cX3_order 190 = .ok (.pop, 1) := by decide +kernel
theorem dX3_order_191 : decode cX3_order 191 = .ok (.aload_n 0, 1) := by decide +kernel
theorem dX3_order_192 : decode cX3_order 192 = .ok (.iload_n 1, 1) := by decide +kernel
theorem dX3_order_193 : decode cX3_order 193 = .ok (.iload_n 2, 1) := by decide +kernel
theorem dX3_order_194 : decode cX3_order 194 = .ok (.iconst 1, 1) := by decide +kernel
theorem dX3_order_195 : decode cX3_order 195 = .ok (.iadd, 1) := by decide +kernel
theorem dX3_order_196 : decode cX3_order 196 = .ok (.iload_n 3, 1) := by decide +kernel
theorem dX3_order_197 : decode cX3_order 197 = .ok (.iconst 1, 1) := by decide +kernel
theorem dX3_order_198 : decode cX3_order 198 = .ok (.iload 6, 2) := by decide +kernel
theorem dX3_order_200 : decode cX3_order 200 = .ok (.ishl, 1) := by decide +kernel
theorem dX3_order_201 : decode cX3_order 201 = .ok (.ior, 1) := by decide +kernel
theorem dX3_order_202 : decode cX3_order 202 = .ok (.invokevirtual 128, 3) := by decide +kernel
theorem dX3_order_205 : decode cX3_order 205 = .ok (.iinc 6 1, 3) := by decide +kernel
theorem dX3_order_208 : decode cX3_order 208 = .ok (.goto (-85), 3) := by decide +kernel
theorem dX3_order_211 : decode cX3_order 211 = .ok (.return_, 1) := by decide +kernel
theorem dX4_init_0 : decode cX4_init 0 = .ok (.aload_n 0, 1) := by decide +kernel
theorem dX4_init_1 : decode cX4_init 1 = .ok (.invokespecial 3, 3) := by decide +kernel
theorem dX4_init_4 : decode cX4_init 4 = .ok (.return_, 1) := by decide +kernel
theorem dX4_plan_0 : decode cX4_plan 0 = .ok (.aload_n 0, 1) := by decide +kernel
theorem dX4_plan_1 : decode cX4_plan 1 = .ok (.iload_n 1, 1) := by decide +kernel
theorem dX4_plan_2 : decode cX4_plan 2 = .ok (.putfield 9, 3) := by decide +kernel
theorem dX4_plan_5 : decode cX4_plan 5 = .ok (.aload_n 0, 1) := by decide +kernel
theorem dX4_plan_6 : decode cX4_plan 6 = .ok (.iload_n 2, 1) := by decide +kernel
theorem dX4_plan_7 : decode cX4_plan 7 = .ok (.putfield 15, 3) := by decide +kernel
theorem dX4_plan_10 : decode cX4_plan 10 = .ok (.aload_n 0, 1) := by decide +kernel
theorem dX4_plan_11 : decode cX4_plan 11 = .ok (.iload_n 3, 1) := by decide +kernel
theorem dX4_plan_12 : decode cX4_plan 12 = .ok (.putfield 18, 3) := by decide +kernel
theorem dX4_plan_15 : decode cX4_plan 15 = .ok (.return_, 1) := by decide +kernel
theorem dX4_told_0 : decode cX4_told 0 = .ok (.iload_n 1, 1) := by decide +kernel
theorem dX4_told_1 : decode cX4_told 1 = .ok (.iconst (-1), 1) := by decide +kernel
theorem dX4_told_2 : decode cX4_told 2 = .ok (.if_icmp .ne 8, 3) := by decide +kernel
theorem dX4_told_5 : decode cX4_told 5 = .ok (.aload_n 0, 1) := by decide +kernel
theorem dX4_told_6 : decode cX4_told 6 = .ok (.getfield 9, 3) := by decide +kernel
theorem dX4_told_9 : decode cX4_told 9 = .ok (.ireturn, 1) := by decide +kernel
theorem dX4_told_10 : decode cX4_told 10 = .ok (.iload_n 1, 1) := by decide +kernel
theorem dX4_told_11 : decode cX4_told 11 = .ok (.aload_n 0, 1) := by decide +kernel
theorem dX4_told_12 : decode cX4_told 12 = .ok (.getfield 9, 3) := by decide +kernel
theorem dX4_told_15 : decode cX4_told 15 = .ok (.if_icmp .lt 5, 3) := by decide +kernel
theorem dX4_told_18 : decode cX4_told 18 = .ok (.iconst (-1), 1) := by decide +kernel
theorem dX4_told_19 : decode cX4_told 19 = .ok (.ireturn, 1) := by decide +kernel
theorem dX4_told_20 : decode cX4_told 20 = .ok (.iload_n 1, 1) := by decide +kernel
theorem dX4_told_21 : decode cX4_told 21 = .ok (.ifCond .ne 10, 3) := by decide +kernel
theorem dX4_told_24 : decode cX4_told 24 = .ok (.aload_n 0, 1) := by decide +kernel
theorem dX4_told_25 : decode cX4_told 25 = .ok (.getfield 15, 3) := by decide +kernel
theorem dX4_told_28 : decode cX4_told 28 = .ok (.goto 7, 3) := by decide +kernel
theorem dX4_told_31 : decode cX4_told 31 = .ok (.aload_n 0, 1) := by decide +kernel
theorem dX4_told_32 : decode cX4_told 32 = .ok (.getfield 18, 3) := by decide +kernel
theorem dX4_told_35 : decode cX4_told 35 = .ok (.ireturn, 1) := by decide +kernel
theorem dX5_init_0 : decode cX5_init 0 = .ok (.aload_n 0, 1) := by decide +kernel
theorem dX5_init_1 : decode cX5_init 1 = .ok (.invokespecial 3, 3) := by decide +kernel
theorem dX5_init_4 : decode cX5_init 4 = .ok (.aload_n 0, 1) := by decide +kernel
theorem dX5_init_5 : decode cX5_init 5 = .ok (.iconst (-1), 1) := by decide +kernel
theorem dX5_init_6 : decode cX5_init 6 = .ok (.putfield 9, 3) := by decide +kernel
theorem dX5_init_9 : decode cX5_init 9 = .ok (.aload_n 0, 1) := by decide +kernel
theorem dX5_init_10 : decode cX5_init 10 = .ok (.bipush 60, 2) := by decide +kernel
theorem dX5_init_12 : decode cX5_init 12 = .ok (.newarray .int, 2) := by decide +kernel
theorem dX5_init_14 : decode cX5_init 14 = .ok (.putfield 15, 3) := by decide +kernel
theorem dX5_init_17 : decode cX5_init 17 = .ok (.return_, 1) := by decide +kernel
theorem dX5_refusal_0 : decode cX5_refusal 0 = .ok (.aload_n 0, 1) := by decide +kernel
theorem dX5_refusal_1 : decode cX5_refusal 1 = .ok (.getfield 9, 3) := by decide +kernel
theorem dX5_refusal_4 : decode cX5_refusal 4 = .ok (.ifCond .ge 5, 3) := by decide +kernel
theorem dX5_refusal_7 : decode cX5_refusal 7 = .ok (.iconst 1, 1) := by decide +kernel
theorem dX5_refusal_8 : decode cX5_refusal 8 = .ok (.ireturn, 1) := by decide +kernel
theorem dX5_refusal_9 : decode cX5_refusal 9 = .ok (.aload_n 0, 1) := by decide +kernel
theorem dX5_refusal_10 : decode cX5_refusal 10 = .ok (.getfield 19, 3) := by decide +kernel
theorem dX5_refusal_13 : decode cX5_refusal 13 = .ok (.iload_n 1, 1) := by decide +kernel
theorem dX5_refusal_14 : decode cX5_refusal 14 = .ok (.if_icmp .eq 5, 3) := by decide +kernel
theorem dX5_refusal_17 : decode cX5_refusal 17 = .ok (.iconst 3, 1) := by decide +kernel
theorem dX5_refusal_18 : decode cX5_refusal 18 = .ok (.ireturn, 1) := by decide +kernel
theorem dX5_refusal_19 : decode cX5_refusal 19 = .ok (.iload_n 2, 1) := by decide +kernel
theorem dX5_refusal_20 : decode cX5_refusal 20 = .ok (.ifCond .lt 11, 3) := by decide +kernel
theorem dX5_refusal_23 : decode cX5_refusal 23 = .ok (.iload_n 2, 1) := by decide +kernel
theorem dX5_refusal_24 : decode cX5_refusal 24 = .ok (.aload_n 0, 1) := by decide +kernel
theorem dX5_refusal_25 : decode cX5_refusal 25 = .ok (.getfield 9, 3) := by decide +kernel
theorem dX5_refusal_28 : decode cX5_refusal 28 = .ok (.if_icmp .lt 7, 3) := by decide +kernel
theorem dX5_refusal_31 : decode cX5_refusal 31 = .ok (.iconst 2, 1) := by decide +kernel
theorem dX5_refusal_32 : decode cX5_refusal 32 = .ok (.goto 4, 3) := by decide +kernel
theorem dX5_refusal_35 : decode cX5_refusal 35 = .ok (.iconst 0, 1) := by decide +kernel
theorem dX5_refusal_36 : decode cX5_refusal 36 = .ok (.ireturn, 1) := by decide +kernel
theorem dX5_holds_0 : decode cX5_holds 0 = .ok (.iload_n 1, 1) := by decide +kernel
theorem dX5_holds_1 : decode cX5_holds 1 = .ok (.ifCond .lt 21, 3) := by decide +kernel
theorem dX5_holds_4 : decode cX5_holds 4 = .ok (.iload_n 2, 1) := by decide +kernel
theorem dX5_holds_5 : decode cX5_holds 5 = .ok (.ifCond .lt 17, 3) := by decide +kernel
theorem dX5_holds_8 : decode cX5_holds 8 = .ok (.iload_n 2, 1) := by decide +kernel
theorem dX5_holds_9 : decode cX5_holds 9 = .ok (.aload_n 0, 1) := by decide +kernel
theorem dX5_holds_10 : decode cX5_holds 10 = .ok (.getfield 9, 3) := by decide +kernel
theorem dX5_holds_13 : decode cX5_holds 13 = .ok (.iload_n 1, 1) := by decide +kernel
theorem dX5_holds_14 : decode cX5_holds 14 = .ok (.isub, 1) := by decide +kernel
theorem dX5_holds_15 : decode cX5_holds 15 = .ok (.if_icmp .gt 7, 3) := by decide +kernel
theorem dX5_holds_18 : decode cX5_holds 18 = .ok (.iconst 1, 1) := by decide +kernel
theorem dX5_holds_19 : decode cX5_holds 19 = .ok (.goto 4, 3) := by decide +kernel
theorem dX5_holds_22 : decode cX5_holds 22 = .ok (.iconst 0, 1) := by decide +kernel
theorem dX5_holds_23 : decode cX5_holds 23 = .ok (.ireturn, 1) := by decide +kernel
theorem dX5_set_0 : decode cX5_set 0 = .ok (.aload_n 0, 1) := by decide +kernel
theorem dX5_set_1 : decode cX5_set 1 = .ok (.getfield 19, 3) := by decide +kernel
theorem dX5_set_4 : decode cX5_set 4 = .ok (.ifCond .ne 14, 3) := by decide +kernel
theorem dX5_set_7 : decode cX5_set 7 = .ok (.aload_n 0, 1) := by decide +kernel
theorem dX5_set_8 : decode cX5_set 8 = .ok (.getfield 15, 3) := by decide +kernel
theorem dX5_set_11 : decode cX5_set 11 = .ok (.iload_n 1, 1) := by decide +kernel
theorem dX5_set_12 : decode cX5_set 12 = .ok (.iload_n 2, 1) := by decide +kernel
theorem dX5_set_13 : decode cX5_set 13 = .ok (.i2b, 1) := by decide +kernel
theorem dX5_set_14 : decode cX5_set 14 = .ok (.iastore, 1) := by decide +kernel
theorem dX5_set_15 : decode cX5_set 15 = .ok (.goto 23, 3) := by decide +kernel
theorem dX5_set_18 : decode cX5_set 18 = .ok (.aload_n 0, 1) := by decide +kernel
theorem dX5_set_19 : decode cX5_set 19 = .ok (.getfield 15, 3) := by decide +kernel
theorem dX5_set_22 : decode cX5_set 22 = .ok (.iload_n 1, 1) := by decide +kernel
theorem dX5_set_23 : decode cX5_set 23 = .ok (.aload_n 0, 1) := by decide +kernel
theorem dX5_set_24 : decode cX5_set 24 = .ok (.getfield 19, 3) := by decide +kernel
theorem dX5_set_27 : decode cX5_set 27 = .ok (.iconst 1, 1) := by decide +kernel
theorem dX5_set_28 : decode cX5_set 28 = .ok (.if_icmp .ne 8, 3) := by decide +kernel
theorem dX5_set_31 : decode cX5_set 31 = .ok (.iload_n 2, 1) := by decide +kernel
theorem dX5_set_32 : decode cX5_set 32 = .ok (.i2s, 1) := by decide +kernel
theorem dX5_set_33 : decode cX5_set 33 = .ok (.goto 4, 3) := by decide +kernel
theorem dX5_set_36 : decode cX5_set 36 = .ok (.iload_n 2, 1) := by decide +kernel
theorem dX5_set_37 : decode cX5_set 37 = .ok (.iastore, 1) := by decide +kernel
theorem dX5_set_38 : decode cX5_set 38 = .ok (.return_, 1) := by decide +kernel
theorem dX6_init_0 : decode cX6_init 0 = .ok (.aload_n 0, 1) := by decide +kernel
theorem dX6_init_1 : decode cX6_init 1 = .ok (.invokespecial 1, 3) := by decide +kernel
theorem dX6_init_4 : decode cX6_init 4 = .ok (.return_, 1) := by decide +kernel
theorem dX6_become_0 : decode cX6_become 0 = .ok (.aload_n 0, 1) := by decide +kernel
theorem dX6_become_1 : decode cX6_become 1 = .ok (.aload_n 1, 1) := by decide +kernel
theorem dX6_become_2 : decode cX6_become 2 = .ok (.getfield 7, 3) := by decide +kernel
theorem dX6_become_5 : decode cX6_become 5 = .ok (.putfield 7, 3) := by decide +kernel
theorem dX6_become_8 : decode cX6_become 8 = .ok (.aload_n 0, 1) := by decide +kernel
theorem dX6_become_9 : decode cX6_become 9 = .ok (.aload_n 1, 1) := by decide +kernel
theorem dX6_become_10 : decode cX6_become 10 = .ok (.getfield 13, 3) := by decide +kernel
theorem dX6_become_13 : decode cX6_become 13 = .ok (.putfield 13, 3) := by decide +kernel
theorem dX6_become_16 : decode cX6_become 16 = .ok (.aload_n 0, 1) := by decide +kernel
theorem dX6_become_17 : decode cX6_become 17 = .ok (.aload_n 1, 1) := by decide +kernel
theorem dX6_become_18 : decode cX6_become 18 = .ok (.getfield 16, 3) := by decide +kernel
theorem dX6_become_21 : decode cX6_become 21 = .ok (.putfield 16, 3) := by decide +kernel
theorem dX6_become_24 : decode cX6_become 24 = .ok (.aload_n 0, 1) := by decide +kernel
theorem dX6_become_25 : decode cX6_become 25 = .ok (.aload_n 1, 1) := by decide +kernel
theorem dX6_become_26 : decode cX6_become 26 = .ok (.getfield 19, 3) := by decide +kernel
theorem dX6_become_29 : decode cX6_become 29 = .ok (.putfield 19, 3) := by decide +kernel
theorem dX6_become_32 : decode cX6_become 32 = .ok (.aload_n 0, 1) := by decide +kernel
theorem dX6_become_33 : decode cX6_become 33 = .ok (.aload_n 1, 1) := by decide +kernel
theorem dX6_become_34 : decode cX6_become 34 = .ok (.getfield 22, 3) := by decide +kernel
theorem dX6_become_37 : decode cX6_become 37 = .ok (.putfield 22, 3) := by decide +kernel
theorem dX6_become_40 : decode cX6_become 40 = .ok (.aload_n 0, 1) := by decide +kernel
theorem dX6_become_41 : decode cX6_become 41 = .ok (.aload_n 1, 1) := by decide +kernel
theorem dX6_become_42 : decode cX6_become 42 = .ok (.getfield 25, 3) := by decide +kernel
theorem dX6_become_45 : decode cX6_become 45 = .ok (.putfield 25, 3) := by decide +kernel
theorem dX6_become_48 : decode cX6_become 48 = .ok (.return_, 1) := by decide +kernel
theorem dX6_placeOf_0 : decode cX6_placeOf 0 = .ok (.aload_n 0, 1) := by decide +kernel
theorem dX6_placeOf_1 : decode cX6_placeOf 1 = .ok (.getfield 7, 3) := by decide +kernel
theorem dX6_placeOf_4 : decode cX6_placeOf 4 = .ok (.iconst 4, 1) := by decide +kernel
theorem dX6_placeOf_5 : decode cX6_placeOf 5 = .ok (.iload_n 1, 1) := by decide +kernel
theorem dX6_placeOf_6 : decode cX6_placeOf 6 = .ok (.imul, 1) := by decide +kernel
theorem dX6_placeOf_7 : decode cX6_placeOf 7 = .ok (.iushr, 1) := by decide +kernel
theorem dX6_placeOf_8 : decode cX6_placeOf 8 = .ok (.bipush 15, 2) := by decide +kernel
theorem dX6_placeOf_10 : decode cX6_placeOf 10 = .ok (.iand, 1) := by decide +kernel
theorem dX6_placeOf_11 : decode cX6_placeOf 11 = .ok (.ireturn, 1) := by decide +kernel
theorem dX7_init_0 : decode cX7_init 0 = .ok (.aload_n 0, 1) := by decide +kernel
theorem dX7_init_1 : decode cX7_init 1 = .ok (.invokespecial 3, 3) := by decide +kernel
theorem dX7_init_4 : decode cX7_init 4 = .ok (.aload_n 0, 1) := by decide +kernel
theorem dX7_init_5 : decode cX7_init 5 = .ok (.iload_n 1, 1) := by decide +kernel
theorem dX7_init_6 : decode cX7_init 6 = .ok (.newarray .int, 2) := by decide +kernel
theorem dX7_init_8 : decode cX7_init 8 = .ok (.putfield 9, 3) := by decide +kernel
theorem dX7_init_11 : decode cX7_init 11 = .ok (.aload_n 0, 1) := by decide +kernel
theorem dX7_init_12 : decode cX7_init 12 = .ok (.aload_n 2, 1) := by decide +kernel
theorem dX7_init_13 : decode cX7_init 13 = .ok (.putfield 15, 3) := by decide +kernel
theorem dX7_init_16 : decode cX7_init 16 = .ok (.aload_n 0, 1) := by decide +kernel
theorem dX7_init_17 : decode cX7_init 17 = .ok (.aload_n 3, 1) := by decide +kernel
theorem dX7_init_18 : decode cX7_init 18 = .ok (.putfield 19, 3) := by decide +kernel
theorem dX7_init_21 : decode cX7_init 21 = .ok (.aload_n 0, 1) := by decide +kernel
theorem dX7_init_22 : decode cX7_init 22 = .ok (.aload 4, 2) := by decide +kernel
theorem dX7_init_24 : decode cX7_init 24 = .ok (.putfield 22, 3) := by decide +kernel
theorem dX7_init_27 : decode cX7_init 27 = .ok (.aload_n 0, 1) := by decide +kernel
theorem dX7_init_28 : decode cX7_init 28 = .ok (.aload 4, 2) := by decide +kernel
theorem dX7_init_30 : decode cX7_init 30 = .ok (.invokevirtual 25, 3) := by decide +kernel
theorem dX7_init_33 : decode cX7_init 33 = .ok (.ifCond .eq 7, 3) := by decide +kernel
theorem dX7_init_36 : decode cX7_init 36 = .ok (.iconst 2, 1) := by decide +kernel
theorem dX7_init_37 : decode cX7_init 37 = .ok (.goto 4, 3) := by decide +kernel
theorem dX7_init_40 : decode cX7_init 40 = .ok (.iconst 3, 1) := by decide +kernel
theorem dX7_init_41 : decode cX7_init 41 = .ok (.putfield 31, 3) := by decide +kernel
theorem dX7_init_44 : decode cX7_init 44 = .ok (.return_, 1) := by decide +kernel
theorem dX7_append_0 : decode cX7_append 0 = .ok (.aload_n 0, 1) := by decide +kernel
theorem dX7_append_1 : decode cX7_append 1 = .ok (.getfield 35, 3) := by decide +kernel
theorem dX7_append_4 : decode cX7_append 4 = .ok (.aload_n 0, 1) := by decide +kernel
theorem dX7_append_5 : decode cX7_append 5 = .ok (.getfield 9, 3) := by decide +kernel
theorem dX7_append_8 : decode cX7_append 8 = .ok (.arraylength, 1) := by decide +kernel
theorem dX7_append_9 : decode cX7_append 9 = .ok (.if_icmp .lt 6, 3) := by decide +kernel
theorem dX7_append_12 : decode cX7_append 12 = .ok (.bipush (-4), 2) := by decide +kernel
theorem dX7_append_14 : decode cX7_append 14 = .ok (.ireturn, 1) := by decide +kernel
theorem dX7_append_15 : decode cX7_append 15 = .ok (.aload_n 0, 1) := by decide +kernel
theorem dX7_append_16 : decode cX7_append 16 = .ok (.getfield 9, 3) := by decide +kernel
theorem dX7_append_19 : decode cX7_append 19 = .ok (.aload_n 0, 1) := by decide +kernel
theorem dX7_append_20 : decode cX7_append 20 = .ok (.getfield 35, 3) := by decide +kernel
theorem dX7_append_23 : decode cX7_append 23 = .ok (.iload_n 1, 1) := by decide +kernel
theorem dX7_append_24 : decode cX7_append 24 = .ok (.iastore, 1) := by decide +kernel
theorem dX7_append_25 : decode cX7_append 25 = .ok (.aload_n 0, 1) := by decide +kernel
theorem dX7_append_26 : decode cX7_append 26 = .ok (.dup, 1) := by decide +kernel
theorem dX7_append_27 : decode cX7_append 27 = .ok (.getfield 35, 3) := by decide +kernel
theorem dX7_append_30 : decode cX7_append 30 = .ok (.iconst 1, 1) := by decide +kernel
theorem dX7_append_31 : decode cX7_append 31 = .ok (.iadd, 1) := by decide +kernel
theorem dX7_append_32 : decode cX7_append 32 = .ok (.putfield 35, 3) := by decide +kernel
theorem dX7_append_35 : decode cX7_append 35 = .ok (.aload_n 0, 1) := by decide +kernel
theorem dX7_append_36 : decode cX7_append 36 = .ok (.getfield 35, 3) := by decide +kernel
theorem dX7_append_39 : decode cX7_append 39 = .ok (.ireturn, 1) := by decide +kernel
theorem dX7_firstWrong_0 : decode cX7_firstWrong 0 = .ok (.iconst 0, 1) := by decide +kernel
theorem dX7_firstWrong_1 : decode cX7_firstWrong 1 = .ok (.istore_n 1, 1) := by decide +kernel
theorem dX7_firstWrong_2 : decode cX7_firstWrong 2 = .ok (.iconst 0, 1) := by decide +kernel
theorem dX7_firstWrong_3 : decode cX7_firstWrong 3 = .ok (.istore_n 2, 1) := by decide +kernel
theorem dX7_firstWrong_4 : decode cX7_firstWrong 4 = .ok (.iload_n 2, 1) := by decide +kernel
theorem dX7_firstWrong_5 : decode cX7_firstWrong 5 = .ok (.aload_n 0, 1) := by decide +kernel
theorem dX7_firstWrong_6 : decode cX7_firstWrong 6 = .ok (.getfield 35, 3) := by decide +kernel
theorem dX7_firstWrong_9 : decode cX7_firstWrong 9 = .ok (.if_icmp .ge 41, 3) := by decide +kernel
theorem dX7_firstWrong_12 : decode cX7_firstWrong 12 = .ok (.aload_n 0, 1) := by decide +kernel
theorem dX7_firstWrong_13 : decode cX7_firstWrong 13 = .ok (.iload_n 1, 1) := by decide +kernel
theorem dX7_firstWrong_14 : decode cX7_firstWrong 14 = .ok (.aload_n 0, 1) := by decide +kernel
theorem dX7_firstWrong_15 : decode cX7_firstWrong 15 = .ok (.getfield 9, 3) := by decide +kernel
theorem dX7_firstWrong_18 : decode cX7_firstWrong 18 = .ok (.iload_n 2, 1) := by decide +kernel
theorem dX7_firstWrong_19 : decode cX7_firstWrong 19 = .ok (.iaload, 1) := by decide +kernel
theorem dX7_firstWrong_20 : decode cX7_firstWrong 20 = .ok (.invokevirtual 38, 3) := by decide +kernel
theorem dX7_firstWrong_23 : decode cX7_firstWrong 23 = .ok (.ifCond .ne 5, 3) := by decide +kernel
theorem dX7_firstWrong_26 : decode cX7_firstWrong 26 = .ok (.iload_n 2, 1) := by decide +kernel
theorem dX7_firstWrong_27 : decode cX7_firstWrong 27 = .ok (.ireturn, 1) := by decide +kernel
theorem dX7_firstWrong_28 : decode cX7_firstWrong 28 = .ok (.iload_n 1, 1) := by decide +kernel
theorem dX7_firstWrong_29 : decode cX7_firstWrong 29 = .ok (.aload_n 0, 1) := by decide +kernel
theorem dX7_firstWrong_30 : decode cX7_firstWrong 30 = .ok (.getfield 31, 3) := by decide +kernel
theorem dX7_firstWrong_33 : decode cX7_firstWrong 33 = .ok (.if_icmp .ne 7, 3) := by decide +kernel
theorem dX7_firstWrong_36 : decode cX7_firstWrong 36 = .ok (.iconst 0, 1) := by decide +kernel
theorem dX7_firstWrong_37 : decode cX7_firstWrong 37 = .ok (.goto 6, 3) := by decide +kernel
theorem dX7_firstWrong_40 : decode cX7_firstWrong 40 = .ok (.iload_n 1, 1) := by decide +kernel
theorem dX7_firstWrong_41 : decode cX7_firstWrong 41 = .ok (.iconst 1, 1) := by decide +kernel
theorem dX7_firstWrong_42 : decode cX7_firstWrong 42 = .ok (.iadd, 1) := by decide +kernel
theorem dX7_firstWrong_43 : decode cX7_firstWrong 43 = .ok (.istore_n 1, 1) := by decide +kernel
theorem dX7_firstWrong_44 : decode cX7_firstWrong 44 = .ok (.iinc 2 1, 3) := by decide +kernel
theorem dX7_firstWrong_47 : decode cX7_firstWrong 47 = .ok (.goto (-43), 3) := by decide +kernel
theorem dX7_firstWrong_50 : decode cX7_firstWrong 50 = .ok (.aload_n 0, 1) := by decide +kernel
theorem dX7_firstWrong_51 : decode cX7_firstWrong 51 = .ok (.getfield 35, 3) := by decide +kernel
theorem dX7_firstWrong_54 : decode cX7_firstWrong 54 = .ok (.ifCond .eq 11, 3) := by decide +kernel
theorem dX7_firstWrong_57 : decode cX7_firstWrong 57 = .ok (.iload_n 1, 1) := by decide +kernel
theorem dX7_firstWrong_58 : decode cX7_firstWrong 58 = .ok (.aload_n 0, 1) := by decide +kernel
theorem dX7_firstWrong_59 : decode cX7_firstWrong 59 = .ok (.getfield 31, 3) := by decide +kernel
theorem dX7_firstWrong_62 : decode cX7_firstWrong 62 = .ok (.if_icmp .ne 7, 3) := by decide +kernel
theorem dX7_firstWrong_65 : decode cX7_firstWrong 65 = .ok (.iconst (-1), 1) := by decide +kernel
theorem dX7_firstWrong_66 : decode cX7_firstWrong 66 = .ok (.goto 7, 3) := by decide +kernel
theorem dX7_firstWrong_69 : decode cX7_firstWrong 69 = .ok (.aload_n 0, 1) := by decide +kernel
theorem dX7_firstWrong_70 : decode cX7_firstWrong 70 = .ok (.getfield 35, 3) := by decide +kernel
theorem dX7_firstWrong_73 : decode cX7_firstWrong 73 = .ok (.ireturn, 1) := by decide +kernel
theorem dX7_items_0 : decode cX7_items 0 = .ok (.aload_n 0, 1) := by decide +kernel
theorem dX7_items_1 : decode cX7_items 1 = .ok (.invokevirtual 42, 3) := by decide +kernel
theorem dX7_items_4 : decode cX7_items 4 = .ok (.iconst (-1), 1) := by decide +kernel
theorem dX7_items_5 : decode cX7_items 5 = .ok (.if_icmp .eq 5, 3) := by decide +kernel
theorem dX7_items_8 : decode cX7_items 8 = .ok (.iconst 0, 1) := by decide +kernel
theorem dX7_items_9 : decode cX7_items 9 = .ok (.ireturn, 1) := by decide +kernel
theorem dX7_items_10 : decode cX7_items 10 = .ok (.aload_n 0, 1) := by decide +kernel
theorem dX7_items_11 : decode cX7_items 11 = .ok (.getfield 31, 3) := by decide +kernel
theorem dX7_items_14 : decode cX7_items 14 = .ok (.iconst 2, 1) := by decide +kernel
theorem dX7_items_15 : decode cX7_items 15 = .ok (.if_icmp .ne 14, 3) := by decide +kernel
theorem dX7_items_18 : decode cX7_items 18 = .ok (.aload_n 0, 1) := by decide +kernel
theorem dX7_items_19 : decode cX7_items 19 = .ok (.getfield 35, 3) := by decide +kernel
theorem dX7_items_22 : decode cX7_items 22 = .ok (.iconst 1, 1) := by decide +kernel
theorem dX7_items_23 : decode cX7_items 23 = .ok (.iadd, 1) := by decide +kernel
theorem dX7_items_24 : decode cX7_items 24 = .ok (.iconst 3, 1) := by decide +kernel
theorem dX7_items_25 : decode cX7_items 25 = .ok (.idiv, 1) := by decide +kernel
theorem dX7_items_26 : decode cX7_items 26 = .ok (.goto 11, 3) := by decide +kernel
theorem dX7_items_29 : decode cX7_items 29 = .ok (.aload_n 0, 1) := by decide +kernel
theorem dX7_items_30 : decode cX7_items 30 = .ok (.getfield 35, 3) := by decide +kernel
theorem dX7_items_33 : decode cX7_items 33 = .ok (.iconst 1, 1) := by decide +kernel
theorem dX7_items_34 : decode cX7_items 34 = .ok (.iadd, 1) := by decide +kernel
theorem dX7_items_35 : decode cX7_items 35 = .ok (.iconst 4, 1) := by decide +kernel
theorem dX7_items_36 : decode cX7_items 36 = .ok (.idiv, 1) := by decide +kernel
theorem dX7_items_37 : decode cX7_items 37 = .ok (.ireturn, 1) := by decide +kernel
theorem dX7_sign_0 : decode cX7_sign 0 = .ok (.iload_n 1, 1) := by decide +kernel
theorem dX7_sign_1 : decode cX7_sign 1 = .ok (.aload_n 0, 1) := by decide +kernel
theorem dX7_sign_2 : decode cX7_sign 2 = .ok (.getfield 31, 3) := by decide +kernel
theorem dX7_sign_5 : decode cX7_sign 5 = .ok (.iconst 1, 1) := by decide +kernel
theorem dX7_sign_6 : decode cX7_sign 6 = .ok (.iadd, 1) := by decide +kernel
theorem dX7_sign_7 : decode cX7_sign 7 = .ok (.imul, 1) := by decide +kernel
theorem dX7_sign_8 : decode cX7_sign 8 = .ok (.iload_n 2, 1) := by decide +kernel
theorem dX7_sign_9 : decode cX7_sign 9 = .ok (.iadd, 1) := by decide +kernel
theorem dX7_sign_10 : decode cX7_sign 10 = .ok (.istore_n 3, 1) := by decide +kernel
theorem dX7_sign_11 : decode cX7_sign 11 = .ok (.iload_n 3, 1) := by decide +kernel
theorem dX7_sign_12 : decode cX7_sign 12 = .ok (.ifCond .lt 11, 3) := by decide +kernel
theorem dX7_sign_15 : decode cX7_sign 15 = .ok (.iload_n 3, 1) := by decide +kernel
theorem dX7_sign_16 : decode cX7_sign 16 = .ok (.aload_n 0, 1) := by decide +kernel
theorem dX7_sign_17 : decode cX7_sign 17 = .ok (.getfield 35, 3) := by decide +kernel
theorem dX7_sign_20 : decode cX7_sign 20 = .ok (.if_icmp .lt 7, 3) := by decide +kernel
theorem dX7_sign_23 : decode cX7_sign 23 = .ok (.iconst (-1), 1) := by decide +kernel
theorem dX7_sign_24 : decode cX7_sign 24 = .ok (.goto 18, 3) := by decide +kernel
theorem dX7_sign_27 : decode cX7_sign 27 = .ok (.aload_n 0, 1) := by decide +kernel
theorem dX7_sign_28 : decode cX7_sign 28 = .ok (.iload_n 2, 1) := by decide +kernel
theorem dX7_sign_29 : decode cX7_sign 29 = .ok (.invokevirtual 46, 3) := by decide +kernel
theorem dX7_sign_32 : decode cX7_sign 32 = .ok (.aload_n 0, 1) := by decide +kernel
theorem dX7_sign_33 : decode cX7_sign 33 = .ok (.getfield 9, 3) := by decide +kernel
theorem dX7_sign_36 : decode cX7_sign 36 = .ok (.iload_n 3, 1) := by decide +kernel
theorem dX7_sign_37 : decode cX7_sign 37 = .ok (.iaload, 1) := by decide +kernel
theorem dX7_sign_38 : decode cX7_sign 38 = .ok (.i2c, 1) := by decide +kernel
theorem dX7_sign_39 : decode cX7_sign 39 = .ok (.invokevirtual 50, 3) := by decide +kernel
theorem dX7_sign_42 : decode cX7_sign 42 = .ok (.ireturn, 1) := by decide +kernel
theorem dX7_fits_0 : decode cX7_fits 0 = .ok (.iload_n 1, 1) := by decide +kernel
theorem dX7_fits_1 : decode cX7_fits 1 = .ok (.aload_n 0, 1) := by decide +kernel
theorem dX7_fits_2 : decode cX7_fits 2 = .ok (.getfield 31, 3) := by decide +kernel
theorem dX7_fits_5 : decode cX7_fits 5 = .ok (.if_icmp .ne 17, 3) := by decide +kernel
theorem dX7_fits_8 : decode cX7_fits 8 = .ok (.iload_n 2, 1) := by decide +kernel
theorem dX7_fits_9 : decode cX7_fits 9 = .ok (.bipush 59, 2) := by decide +kernel
theorem dX7_fits_11 : decode cX7_fits 11 = .ok (.if_icmp .ne 7, 3) := by decide +kernel
theorem dX7_fits_14 : decode cX7_fits 14 = .ok (.iconst 1, 1) := by decide +kernel
theorem dX7_fits_15 : decode cX7_fits 15 = .ok (.goto 25, 3) := by decide +kernel
theorem dX7_fits_18 : decode cX7_fits 18 = .ok (.iconst 0, 1) := by decide +kernel
theorem dX7_fits_19 : decode cX7_fits 19 = .ok (.goto 21, 3) := by decide +kernel
theorem dX7_fits_22 : decode cX7_fits 22 = .ok (.aload_n 0, 1) := by decide +kernel
theorem dX7_fits_23 : decode cX7_fits 23 = .ok (.iload_n 1, 1) := by decide +kernel
theorem dX7_fits_24 : decode cX7_fits 24 = .ok (.invokevirtual 46, 3) := by decide +kernel
theorem dX7_fits_27 : decode cX7_fits 27 = .ok (.iload_n 2, 1) := by decide +kernel
theorem dX7_fits_28 : decode cX7_fits 28 = .ok (.i2c, 1) := by decide +kernel
theorem dX7_fits_29 : decode cX7_fits 29 = .ok (.invokevirtual 50, 3) := by decide +kernel
theorem dX7_fits_32 : decode cX7_fits 32 = .ok (.ifCond .lt 7, 3) := by decide +kernel
theorem dX7_fits_35 : decode cX7_fits 35 = .ok (.iconst 1, 1) := by decide +kernel
theorem dX7_fits_36 : decode cX7_fits 36 = .ok (.goto 4, 3) := by decide +kernel
