theorem dX10_keeps_38 : decode cX10_keeps 38 = .ok (.getfield 49, 3) := by decide +kernel
theorem dX10_keeps_41 : decode cX10_keeps 41 = .ok (.iload_n 1, 1) := by decide +kernel
theorem dX10_keeps_42 : decode cX10_keeps 42 = .ok (.iaload, 1) := by decide +kernel
theorem dX10_keeps_43 : decode cX10_keeps 43 = .ok (.iastore, 1) := by decide +kernel
theorem dX10_keeps_44 : decode cX10_keeps 44 = .ok (.iinc 1 1, 3) := by decide +kernel
theorem dX10_keeps_47 : decode cX10_keeps 47 = .ok (.goto (-45), 3) := by decide +kernel
theorem dX10_keeps_50 : decode cX10_keeps 50 = .ok (.return_, 1) := by decide +kernel
theorem dX10_restores_0 : decode cX10_restores 0 = .ok (.iconst 0, 1) := by decide +kernel
theorem dX10_restores_1 : decode cX10_restores 1 = .ok (.istore_n 1, 1) := by decide +kernel
theorem dX10_restores_2 : decode cX10_restores 2 = .ok (.iload_n 1, 1) := by decide +kernel
theorem dX10_restores_3 : decode cX10_restores 3 = .ok (.bipush 8, 2) := by decide +kernel
theorem dX10_restores_5 : decode cX10_restores 5 = .ok (.if_icmp .ge 45, 3) := by decide +kernel
theorem dX10_restores_8 : decode cX10_restores 8 = .ok (.aload_n 0, 1) := by decide +kernel
theorem dX10_restores_9 : decode cX10_restores 9 = .ok (.getfield 43, 3) := by decide +kernel
theorem dX10_restores_12 : decode cX10_restores 12 = .ok (.iload_n 1, 1) := by decide +kernel
theorem dX10_restores_13 : decode cX10_restores 13 = .ok (.aload_n 0, 1) := by decide +kernel
theorem dX10_restores_14 : decode cX10_restores 14 = .ok (.getfield 59, 3) := by decide +kernel
theorem dX10_restores_17 : decode cX10_restores 17 = .ok (.iload_n 1, 1) := by decide +kernel
theorem dX10_restores_18 : decode cX10_restores 18 = .ok (.iaload, 1) := by decide +kernel
theorem dX10_restores_19 : decode cX10_restores 19 = .ok (.iastore, 1) := by decide +kernel
theorem dX10_restores_20 : decode cX10_restores 20 = .ok (.aload_n 0, 1) := by decide +kernel
theorem dX10_restores_21 : decode cX10_restores 21 = .ok (.getfield 46, 3) := by decide +kernel
theorem dX10_restores_24 : decode cX10_restores 24 = .ok (.iload_n 1, 1) := by decide +kernel
theorem dX10_restores_25 : decode cX10_restores 25 = .ok (.aload_n 0, 1) := by decide +kernel
theorem dX10_restores_26 : decode cX10_restores 26 = .ok (.getfield 62, 3) := by decide +kernel
theorem dX10_restores_29 : decode cX10_restores 29 = .ok (.iload_n 1, 1) := by decide +kernel
theorem dX10_restores_30 : decode cX10_restores 30 = .ok (.iaload, 1) := by decide +kernel
theorem dX10_restores_31 : decode cX10_restores 31 = .ok (.iastore, 1) := by decide +kernel
theorem dX10_restores_32 : decode cX10_restores 32 = .ok (.aload_n 0, 1) := by decide +kernel
theorem dX10_restores_33 : decode cX10_restores 33 = .ok (.getfield 49, 3) := by decide +kernel
theorem dX10_restores_36 : decode cX10_restores 36 = .ok (.iload_n 1, 1) := by decide +kernel
theorem dX10_restores_37 : decode cX10_restores 37 = .ok (.aload_n 0, 1) := by decide +kernel
theorem dX10_restores_38 : decode cX10_restores 38 = .ok (.getfield 65, 3) := by decide +kernel
theorem dX10_restores_41 : decode cX10_restores 41 = .ok (.iload_n 1, 1) := by decide +kernel
theorem dX10_restores_42 : decode cX10_restores 42 = .ok (.iaload, 1) := by decide +kernel
theorem dX10_restores_43 : decode cX10_restores 43 = .ok (.iastore, 1) := by decide +kernel
theorem dX10_restores_44 : decode cX10_restores 44 = .ok (.iinc 1 1, 3) := by decide +kernel
theorem dX10_restores_47 : decode cX10_restores 47 = .ok (.goto (-45), 3) := by decide +kernel
theorem dX10_restores_50 : decode cX10_restores 50 = .ok (.return_, 1) := by decide +kernel
theorem dX10_lends_0 : decode cX10_lends 0 = .ok (.aload_n 0, 1) := by decide +kernel
theorem dX10_lends_1 : decode cX10_lends 1 = .ok (.invokevirtual 245, 3) := by decide +kernel
theorem dX10_lends_4 : decode cX10_lends 4 = .ok (.iload_n 1, 1) := by decide +kernel
theorem dX10_lends_5 : decode cX10_lends 5 = .ok (.iconst (-1), 1) := by decide +kernel
theorem dX10_lends_6 : decode cX10_lends 6 = .ok (.if_icmp .eq 15, 3) := by decide +kernel
theorem dX10_lends_9 : decode cX10_lends 9 = .ok (.aload_n 0, 1) := by decide +kernel
theorem dX10_lends_10 : decode cX10_lends 10 = .ok (.iload_n 1, 1) := by decide +kernel
theorem dX10_lends_11 : decode cX10_lends 11 = .ok (.invokevirtual 196, 3) := by decide +kernel
theorem dX10_lends_14 : decode cX10_lends 14 = .ok (.ifCond .eq 7, 3) := by decide +kernel
theorem dX10_lends_17 : decode cX10_lends 17 = .ok (.iconst 1, 1) := by decide +kernel
theorem dX10_lends_18 : decode cX10_lends 18 = .ok (.goto 4, 3) := by decide +kernel
theorem dX10_lends_21 : decode cX10_lends 21 = .ok (.iconst 0, 1) := by decide +kernel
theorem dX10_lends_22 : decode cX10_lends 22 = .ok (.istore 7, 2) := by decide +kernel
theorem dX10_lends_24 : decode cX10_lends 24 = .ok (.iload_n 2, 1) := by decide +kernel
theorem dX10_lends_25 : decode cX10_lends 25 = .ok (.iconst (-1), 1) := by decide +kernel
theorem dX10_lends_26 : decode cX10_lends 26 = .ok (.if_icmp .eq 15, 3) := by decide +kernel
theorem dX10_lends_29 : decode cX10_lends 29 = .ok (.aload_n 0, 1) := by decide +kernel
theorem dX10_lends_30 : decode cX10_lends 30 = .ok (.iload_n 2, 1) := by decide +kernel
theorem dX10_lends_31 : decode cX10_lends 31 = .ok (.invokevirtual 196, 3) := by decide +kernel
theorem dX10_lends_34 : decode cX10_lends 34 = .ok (.ifCond .eq 7, 3) := by decide +kernel
theorem dX10_lends_37 : decode cX10_lends 37 = .ok (.iconst 1, 1) := by decide +kernel
theorem dX10_lends_38 : decode cX10_lends 38 = .ok (.goto 4, 3) := by decide +kernel
theorem dX10_lends_41 : decode cX10_lends 41 = .ok (.iconst 0, 1) := by decide +kernel
theorem dX10_lends_42 : decode cX10_lends 42 = .ok (.istore 7, 2) := by decide +kernel
theorem dX10_lends_44 : decode cX10_lends 44 = .ok (.aload_n 0, 1) := by decide +kernel
theorem dX10_lends_45 : decode cX10_lends 45 = .ok (.iload 5, 2) := by decide +kernel
theorem dX10_lends_47 : decode cX10_lends 47 = .ok (.invokevirtual 206, 3) := by decide +kernel
theorem dX10_lends_50 : decode cX10_lends 50 = .ok (.iload 5, 2) := by decide +kernel
theorem dX10_lends_52 : decode cX10_lends 52 = .ok (.iconst 1, 1) := by decide +kernel
theorem dX10_lends_53 : decode cX10_lends 53 = .ok (.iadd, 1) := by decide +kernel
theorem dX10_lends_54 : decode cX10_lends 54 = .ok (.istore 8, 2) := by decide +kernel
theorem dX10_lends_56 : decode cX10_lends 56 = .ok (.iload 8, 2) := by decide +kernel
theorem dX10_lends_58 : decode cX10_lends 58 = .ok (.iload 6, 2) := by decide +kernel
theorem dX10_lends_60 : decode cX10_lends 60 = .ok (.if_icmp .gt 15, 3) := by decide +kernel
theorem dX10_lends_63 : decode cX10_lends 63 = .ok (.aload_n 0, 1) := by decide +kernel
theorem dX10_lends_64 : decode cX10_lends 64 = .ok (.iload 8, 2) := by decide +kernel
theorem dX10_lends_66 : decode cX10_lends 66 = .ok (.invokevirtual 212, 3) := by decide +kernel
theorem dX10_lends_69 : decode cX10_lends 69 = .ok (.iinc 8 1, 3) := by decide +kernel
theorem dX10_lends_72 : decode cX10_lends 72 = .ok (.goto (-16), 3) := by decide +kernel
theorem dX10_lends_75 : decode cX10_lends 75 = .ok (.aload_n 0, 1) := by decide +kernel
theorem dX10_lends_76 : decode cX10_lends 76 = .ok (.getfield 68, 3) := by decide +kernel
theorem dX10_lends_79 : decode cX10_lends 79 = .ok (.iconst 0, 1) := by decide +kernel
theorem dX10_lends_80 : decode cX10_lends 80 = .ok (.iload_n 1, 1) := by decide +kernel
theorem dX10_lends_81 : decode cX10_lends 81 = .ok (.iastore, 1) := by decide +kernel
theorem dX10_lends_82 : decode cX10_lends 82 = .ok (.aload_n 0, 1) := by decide +kernel
theorem dX10_lends_83 : decode cX10_lends 83 = .ok (.getfield 68, 3) := by decide +kernel
theorem dX10_lends_86 : decode cX10_lends 86 = .ok (.iconst 1, 1) := by decide +kernel
theorem dX10_lends_87 : decode cX10_lends 87 = .ok (.iload_n 2, 1) := by decide +kernel
theorem dX10_lends_88 : decode cX10_lends 88 = .ok (.iastore, 1) := by decide +kernel
theorem dX10_lends_89 : decode cX10_lends 89 = .ok (.aload_n 0, 1) := by decide +kernel
theorem dX10_lends_90 : decode cX10_lends 90 = .ok (.getfield 43, 3) := by decide +kernel
theorem dX10_lends_93 : decode cX10_lends 93 = .ok (.iload 4, 2) := by decide +kernel
theorem dX10_lends_95 : decode cX10_lends 95 = .ok (.iaload, 1) := by decide +kernel
theorem dX10_lends_96 : decode cX10_lends 96 = .ok (.iload_n 3, 1) := by decide +kernel
theorem dX10_lends_97 : decode cX10_lends 97 = .ok (.if_icmp .ne 7, 3) := by decide +kernel
theorem dX10_lends_100 : decode cX10_lends 100 = .ok (.iconst 1, 1) := by decide +kernel
theorem dX10_lends_101 : decode cX10_lends 101 = .ok (.goto 4, 3) := by decide +kernel
theorem dX10_lends_104 : decode cX10_lends 104 = .ok (.iconst 0, 1) := by decide +kernel
theorem dX10_lends_105 : decode cX10_lends 105 = .ok (.ireturn, 1) := by decide +kernel
theorem dX10_mayCode_0 : decode cX10_mayCode 0 = .ok (.iload_n 1, 1) := by decide +kernel
theorem dX10_mayCode_1 : decode cX10_mayCode 1 = .ok (.bipush 8, 2) := by decide +kernel
theorem dX10_mayCode_3 : decode cX10_mayCode 3 = .ok (.idiv, 1) := by decide +kernel
theorem dX10_mayCode_4 : decode cX10_mayCode 4 = .ok (.bipush 8, 2) := by decide +kernel
theorem dX10_mayCode_6 : decode cX10_mayCode 6 = .ok (.irem, 1) := by decide +kernel
theorem dX10_mayCode_7 : decode cX10_mayCode 7 = .ok (.aload_n 0, 1) := by decide +kernel
theorem dX10_mayCode_8 : decode cX10_mayCode 8 = .ok (.getfield 128, 3) := by decide +kernel
theorem dX10_mayCode_11 : decode cX10_mayCode 11 = .ok (.if_icmp .ge 18, 3) := by decide +kernel
theorem dX10_mayCode_14 : decode cX10_mayCode 14 = .ok (.iload_n 1, 1) := by decide +kernel
theorem dX10_mayCode_15 : decode cX10_mayCode 15 = .ok (.bipush 8, 2) := by decide +kernel
theorem dX10_mayCode_17 : decode cX10_mayCode 17 = .ok (.irem, 1) := by decide +kernel
theorem dX10_mayCode_18 : decode cX10_mayCode 18 = .ok (.aload_n 0, 1) := by decide +kernel
theorem dX10_mayCode_19 : decode cX10_mayCode 19 = .ok (.getfield 125, 3) := by decide +kernel
theorem dX10_mayCode_22 : decode cX10_mayCode 22 = .ok (.if_icmp .ge 7, 3) := by decide +kernel
theorem dX10_mayCode_25 : decode cX10_mayCode 25 = .ok (.iconst 1, 1) := by decide +kernel
theorem dX10_mayCode_26 : decode cX10_mayCode 26 = .ok (.goto 4, 3) := by decide +kernel
theorem dX10_mayCode_29 : decode cX10_mayCode 29 = .ok (.iconst 0, 1) := by decide +kernel
theorem dX10_mayCode_30 : decode cX10_mayCode 30 = .ok (.ireturn, 1) := by decide +kernel
theorem dX10_lendBy_0 : decode cX10_lendBy 0 = .ok (.aload_n 0, 1) := by decide +kernel
theorem dX10_lendBy_1 : decode cX10_lendBy 1 = .ok (.iload 4, 2) := by decide +kernel
theorem dX10_lendBy_3 : decode cX10_lendBy 3 = .ok (.iload_n 3, 1) := by decide +kernel
theorem dX10_lendBy_4 : decode cX10_lendBy 4 = .ok (.if_icmp .ge 8, 3) := by decide +kernel
theorem dX10_lendBy_7 : decode cX10_lendBy 7 = .ok (.iload 4, 2) := by decide +kernel
theorem dX10_lendBy_9 : decode cX10_lendBy 9 = .ok (.goto 6, 3) := by decide +kernel
theorem dX10_lendBy_12 : decode cX10_lendBy 12 = .ok (.iload_n 3, 1) := by decide +kernel
theorem dX10_lendBy_13 : decode cX10_lendBy 13 = .ok (.iconst 1, 1) := by decide +kernel
theorem dX10_lendBy_14 : decode cX10_lendBy 14 = .ok (.isub, 1) := by decide +kernel
theorem dX10_lendBy_15 : decode cX10_lendBy 15 = .ok (.invokevirtual 221, 3) := by decide +kernel
theorem dX10_lendBy_18 : decode cX10_lendBy 18 = .ok (.iload_n 3, 1) := by decide +kernel
theorem dX10_lendBy_19 : decode cX10_lendBy 19 = .ok (.ifCond .ne 7, 3) := by decide +kernel
theorem dX10_lendBy_22 : decode cX10_lendBy 22 = .ok (.aload_n 0, 1) := by decide +kernel
theorem dX10_lendBy_23 : decode cX10_lendBy 23 = .ok (.invokevirtual 209, 3) := by decide +kernel
theorem dX10_lendBy_26 : decode cX10_lendBy 26 = .ok (.iload 4, 2) := by decide +kernel
theorem dX10_lendBy_28 : decode cX10_lendBy 28 = .ok (.iload_n 3, 1) := by decide +kernel
theorem dX10_lendBy_29 : decode cX10_lendBy 29 = .ok (.if_icmp .ge 19, 3) := by decide +kernel
theorem dX10_lendBy_32 : decode cX10_lendBy 32 = .ok (.aload_n 0, 1) := by decide +kernel
theorem dX10_lendBy_33 : decode cX10_lendBy 33 = .ok (.getfield 43, 3) := by decide +kernel
theorem dX10_lendBy_36 : decode cX10_lendBy 36 = .ok (.iload_n 2, 1) := by decide +kernel
theorem dX10_lendBy_37 : decode cX10_lendBy 37 = .ok (.iaload, 1) := by decide +kernel
theorem dX10_lendBy_38 : decode cX10_lendBy 38 = .ok (.iload_n 1, 1) := by decide +kernel
theorem dX10_lendBy_39 : decode cX10_lendBy 39 = .ok (.if_icmp .ne 7, 3) := by decide +kernel
theorem dX10_lendBy_42 : decode cX10_lendBy 42 = .ok (.iconst 0, 1) := by decide +kernel
theorem dX10_lendBy_43 : decode cX10_lendBy 43 = .ok (.goto 4, 3) := by decide +kernel
theorem dX10_lendBy_46 : decode cX10_lendBy 46 = .ok (.iconst (-1), 1) := by decide +kernel
theorem dX10_lendBy_47 : decode cX10_lendBy 47 = .ok (.ireturn, 1) := by decide +kernel
theorem dX10_lendBy_48 : decode cX10_lendBy 48 = .ok (.aload_n 0, 1) := by decide +kernel
theorem dX10_lendBy_49 : decode cX10_lendBy 49 = .ok (.invokevirtual 199, 3) := by decide +kernel
theorem dX10_lendBy_52 : decode cX10_lendBy 52 = .ok (.aload_n 0, 1) := by decide +kernel
theorem dX10_lendBy_53 : decode cX10_lendBy 53 = .ok (.iload_n 3, 1) := by decide +kernel
theorem dX10_lendBy_54 : decode cX10_lendBy 54 = .ok (.invokevirtual 202, 3) := by decide +kernel
theorem dX10_lendBy_57 : decode cX10_lendBy 57 = .ok (.aload_n 0, 1) := by decide +kernel
theorem dX10_lendBy_58 : decode cX10_lendBy 58 = .ok (.invokevirtual 248, 3) := by decide +kernel
theorem dX10_lendBy_61 : decode cX10_lendBy 61 = .ok (.aload_n 0, 1) := by decide +kernel
theorem dX10_lendBy_62 : decode cX10_lendBy 62 = .ok (.iconst (-1), 1) := by decide +kernel
theorem dX10_lendBy_63 : decode cX10_lendBy 63 = .ok (.iconst (-1), 1) := by decide +kernel
theorem dX10_lendBy_64 : decode cX10_lendBy 64 = .ok (.iload_n 1, 1) := by decide +kernel
theorem dX10_lendBy_65 : decode cX10_lendBy 65 = .ok (.iload_n 2, 1) := by decide +kernel
theorem dX10_lendBy_66 : decode cX10_lendBy 66 = .ok (.iload_n 3, 1) := by decide +kernel
theorem dX10_lendBy_67 : decode cX10_lendBy 67 = .ok (.iload 4, 2) := by decide +kernel
theorem dX10_lendBy_69 : decode cX10_lendBy 69 = .ok (.invokevirtual 251, 3) := by decide +kernel
theorem dX10_lendBy_72 : decode cX10_lendBy 72 = .ok (.ifCond .eq 5, 3) := by decide +kernel
theorem dX10_lendBy_75 : decode cX10_lendBy 75 = .ok (.iconst 0, 1) := by decide +kernel
theorem dX10_lendBy_76 : decode cX10_lendBy 76 = .ok (.ireturn, 1) := by decide +kernel
theorem dX10_lendBy_77 : decode cX10_lendBy 77 = .ok (.iconst 0, 1) := by decide +kernel
theorem dX10_lendBy_78 : decode cX10_lendBy 78 = .ok (.istore 5, 2) := by decide +kernel
theorem dX10_lendBy_80 : decode cX10_lendBy 80 = .ok (.iload 5, 2) := by decide +kernel
theorem dX10_lendBy_82 : decode cX10_lendBy 82 = .ok (.sipush 128, 3) := by decide +kernel
theorem dX10_lendBy_85 : decode cX10_lendBy 85 = .ok (.if_icmp .ge 35, 3) := by decide +kernel
theorem dX10_lendBy_88 : decode cX10_lendBy 88 = .ok (.aload_n 0, 1) := by decide +kernel
theorem dX10_lendBy_89 : decode cX10_lendBy 89 = .ok (.iload 5, 2) := by decide +kernel
theorem dX10_lendBy_91 : decode cX10_lendBy 91 = .ok (.invokevirtual 255, 3) := by decide +kernel
theorem dX10_lendBy_94 : decode cX10_lendBy 94 = .ok (.ifCond .eq 20, 3) := by decide +kernel
theorem dX10_lendBy_97 : decode cX10_lendBy 97 = .ok (.aload_n 0, 1) := by decide +kernel
theorem dX10_lendBy_98 : decode cX10_lendBy 98 = .ok (.iload 5, 2) := by decide +kernel
theorem dX10_lendBy_100 : decode cX10_lendBy 100 = .ok (.iconst (-1), 1) := by decide +kernel
theorem dX10_lendBy_101 : decode cX10_lendBy 101 = .ok (.iload_n 1, 1) := by decide +kernel
theorem dX10_lendBy_102 : decode cX10_lendBy 102 = .ok (.iload_n 2, 1) := by decide +kernel
theorem dX10_lendBy_103 : decode cX10_lendBy 103 = .ok (.iload_n 3, 1) := by decide +kernel
theorem dX10_lendBy_104 : decode cX10_lendBy 104 = .ok (.iload 4, 2) := by decide +kernel
theorem dX10_lendBy_106 : decode cX10_lendBy 106 = .ok (.invokevirtual 251, 3) := by decide +kernel
theorem dX10_lendBy_109 : decode cX10_lendBy 109 = .ok (.ifCond .eq 5, 3) := by decide +kernel
theorem dX10_lendBy_112 : decode cX10_lendBy 112 = .ok (.iconst 1, 1) := by decide +kernel
theorem dX10_lendBy_113 : decode cX10_lendBy 113 = .ok (.ireturn, 1) := by decide +kernel
theorem dX10_lendBy_114 : decode cX10_lendBy 114 = .ok (.iinc 5 1, 3) := by decide +kernel
theorem dX10_lendBy_117 : decode cX10_lendBy 117 = .ok (.goto (-37), 3) := by decide +kernel
theorem dX10_lendBy_120 : decode cX10_lendBy 120 = .ok (.iconst 0, 1) := by decide +kernel
theorem dX10_lendBy_121 : decode cX10_lendBy 121 = .ok (.istore 5, 2) := by decide +kernel
theorem dX10_lendBy_123 : decode cX10_lendBy 123 = .ok (.iload 5, 2) := by decide +kernel
theorem dX10_lendBy_125 : decode cX10_lendBy 125 = .ok (.sipush 128, 3) := by decide +kernel
theorem dX10_lendBy_128 : decode cX10_lendBy 128 = .ok (.if_icmp .ge 62, 3) := by decide +kernel
theorem dX10_lendBy_131 : decode cX10_lendBy 131 = .ok (.iconst 0, 1) := by decide +kernel
theorem dX10_lendBy_132 : decode cX10_lendBy 132 = .ok (.istore 6, 2) := by decide +kernel
theorem dX10_lendBy_134 : decode cX10_lendBy 134 = .ok (.iload 6, 2) := by decide +kernel
theorem dX10_lendBy_136 : decode cX10_lendBy 136 = .ok (.sipush 128, 3) := by decide +kernel
theorem dX10_lendBy_139 : decode cX10_lendBy 139 = .ok (.if_icmp .ge 45, 3) := by decide +kernel
theorem dX10_lendBy_142 : decode cX10_lendBy 142 = .ok (.aload_n 0, 1) := by decide +kernel
theorem dX10_lendBy_143 : decode cX10_lendBy 143 = .ok (.iload 5, 2) := by decide +kernel
theorem dX10_lendBy_145 : decode cX10_lendBy 145 = .ok (.invokevirtual 255, 3) := by decide +kernel
theorem dX10_lendBy_148 : decode cX10_lendBy 148 = .ok (.ifCond .eq 30, 3) := by decide +kernel
theorem dX10_lendBy_151 : decode cX10_lendBy 151 = .ok (.aload_n 0, 1) := by decide +kernel
theorem dX10_lendBy_152 : decode cX10_lendBy 152 = .ok (.iload 6, 2) := by decide +kernel
theorem dX10_lendBy_154 : decode cX10_lendBy 154 = .ok (.invokevirtual 255, 3) := by decide +kernel
theorem dX10_lendBy_157 : decode cX10_lendBy 157 = .ok (.ifCond .eq 21, 3) := by decide +kernel
theorem dX10_lendBy_160 : decode cX10_lendBy 160 = .ok (.aload_n 0, 1) := by decide +kernel
theorem dX10_lendBy_161 : decode cX10_lendBy 161 = .ok (.iload 5, 2) := by decide +kernel
theorem dX10_lendBy_163 : decode cX10_lendBy 163 = .ok (.iload 6, 2) := by decide +kernel
theorem dX10_lendBy_165 : decode cX10_lendBy 165 = .ok (.iload_n 1, 1) := by decide +kernel
theorem dX10_lendBy_166 : decode cX10_lendBy 166 = .ok (.iload_n 2, 1) := by decide +kernel
theorem dX10_lendBy_167 : decode cX10_lendBy 167 = .ok (.iload_n 3, 1) := by decide +kernel
theorem dX10_lendBy_168 : decode cX10_lendBy 168 = .ok (.iload 4, 2) := by decide +kernel
theorem dX10_lendBy_170 : decode cX10_lendBy 170 = .ok (.invokevirtual 251, 3) := by decide +kernel
theorem dX10_lendBy_173 : decode cX10_lendBy 173 = .ok (.ifCond .eq 5, 3) := by decide +kernel
theorem dX10_lendBy_176 : decode cX10_lendBy 176 = .ok (.iconst 2, 1) := by decide +kernel
theorem dX10_lendBy_177 : decode cX10_lendBy 177 = .ok (.ireturn, 1) := by decide +kernel
theorem dX10_lendBy_178 : decode cX10_lendBy 178 = .ok (.iinc 6 1, 3) := by decide +kernel
theorem dX10_lendBy_181 : decode cX10_lendBy 181 = .ok (.goto (-47), 3) := by decide +kernel
theorem dX10_lendBy_184 : decode cX10_lendBy 184 = .ok (.iinc 5 1, 3) := by decide +kernel
theorem dX10_lendBy_187 : decode cX10_lendBy 187 = .ok (.goto (-64), 3) := by decide +kernel
theorem dX10_lendBy_190 : decode cX10_lendBy 190 = .ok (.iconst (-1), 1) := by decide +kernel
theorem dX10_lendBy_191 : decode cX10_lendBy 191 = .ok (.ireturn, 1) := by decide +kernel
theorem dX10_ofRow_0 : decode cX10_ofRow 0 = .ok (.iload_n 2, 1) := by decide +kernel
theorem dX10_ofRow_1 : decode cX10_ofRow 1 = .ok (.iconst (-1), 1) := by decide +kernel
theorem dX10_ofRow_2 : decode cX10_ofRow 2 = .ok (.if_icmp .ne 7, 3) := by decide +kernel
theorem dX10_ofRow_5 : decode cX10_ofRow 5 = .ok (.iload_n 1, 1) := by decide +kernel
theorem dX10_ofRow_6 : decode cX10_ofRow 6 = .ok (.goto 18, 3) := by decide +kernel
theorem dX10_ofRow_9 : decode cX10_ofRow 9 = .ok (.iload_n 2, 1) := by decide +kernel
theorem dX10_ofRow_10 : decode cX10_ofRow 10 = .ok (.iload_n 1, 1) := by decide +kernel
theorem dX10_ofRow_11 : decode cX10_ofRow 11 = .ok (.if_icmp .ge 12, 3) := by decide +kernel
theorem dX10_ofRow_14 : decode cX10_ofRow 14 = .ok (.aload_n 0, 1) := by decide +kernel
theorem dX10_ofRow_15 : decode cX10_ofRow 15 = .ok (.getfield 68, 3) := by decide +kernel
theorem dX10_ofRow_18 : decode cX10_ofRow 18 = .ok (.iload_n 2, 1) := by decide +kernel
theorem dX10_ofRow_19 : decode cX10_ofRow 19 = .ok (.iaload, 1) := by decide +kernel
theorem dX10_ofRow_20 : decode cX10_ofRow 20 = .ok (.goto 4, 3) := by decide +kernel
theorem dX10_ofRow_23 : decode cX10_ofRow 23 = .ok (.iconst (-1), 1) := by decide +kernel
theorem dX10_ofRow_24 : decode cX10_ofRow 24 = .ok (.ireturn, 1) := by decide +kernel
theorem dX10_lendOf_0 : decode cX10_lendOf 0 = .ok (.aload_n 0, 1) := by decide +kernel
theorem dX10_lendOf_1 : decode cX10_lendOf 1 = .ok (.aload_n 0, 1) := by decide +kernel
theorem dX10_lendOf_2 : decode cX10_lendOf 2 = .ok (.iload_n 1, 1) := by decide +kernel
theorem dX10_lendOf_3 : decode cX10_lendOf 3 = .ok (.iload_n 2, 1) := by decide +kernel
theorem dX10_lendOf_4 : decode cX10_lendOf 4 = .ok (.iload_n 3, 1) := by decide +kernel
theorem dX10_lendOf_5 : decode cX10_lendOf 5 = .ok (.iload 4, 2) := by decide +kernel
theorem dX10_lendOf_7 : decode cX10_lendOf 7 = .ok (.invokevirtual 258, 3) := by decide +kernel
theorem dX10_lendOf_10 : decode cX10_lendOf 10 = .ok (.iload 5, 2) := by decide +kernel
theorem dX10_lendOf_12 : decode cX10_lendOf 12 = .ok (.invokevirtual 261, 3) := by decide +kernel
theorem dX10_lendOf_15 : decode cX10_lendOf 15 = .ok (.ireturn, 1) := by decide +kernel
theorem dX10_lend_0 : decode cX10_lend 0 = .ok (.aload_n 0, 1) := by decide +kernel
theorem dX10_lend_1 : decode cX10_lend 1 = .ok (.iload_n 1, 1) := by decide +kernel
theorem dX10_lend_2 : decode cX10_lend 2 = .ok (.invokevirtual 153, 3) := by decide +kernel
theorem dX10_lend_5 : decode cX10_lend 5 = .ok (.ifCond .eq 50, 3) := by decide +kernel
theorem dX10_lend_8 : decode cX10_lend 8 = .ok (.aload_n 0, 1) := by decide +kernel
theorem dX10_lend_9 : decode cX10_lend 9 = .ok (.iload_n 2, 1) := by decide +kernel
theorem dX10_lend_10 : decode cX10_lend 10 = .ok (.invokevirtual 147, 3) := by decide +kernel
theorem dX10_lend_13 : decode cX10_lend 13 = .ok (.ifCond .eq 42, 3) := by decide +kernel
theorem dX10_lend_16 : decode cX10_lend 16 = .ok (.iload_n 3, 1) := by decide +kernel
theorem dX10_lend_17 : decode cX10_lend 17 = .ok (.invokestatic 160, 3) := by decide +kernel
theorem dX10_lend_20 : decode cX10_lend 20 = .ok (.ifCond .eq 35, 3) := by decide +kernel
theorem dX10_lend_23 : decode cX10_lend 23 = .ok (.iload 4, 2) := by decide +kernel
theorem dX10_lend_25 : decode cX10_lend 25 = .ok (.invokestatic 160, 3) := by decide +kernel
theorem dX10_lend_28 : decode cX10_lend 28 = .ok (.ifCond .eq 27, 3) := by decide +kernel
theorem dX10_lend_31 : decode cX10_lend 31 = .ok (.iload 5, 2) := by decide +kernel
theorem dX10_lend_33 : decode cX10_lend 33 = .ok (.iconst (-1), 1) := by decide +kernel
theorem dX10_lend_34 : decode cX10_lend 34 = .ok (.iconst 1, 1) := by decide +kernel
theorem dX10_lend_35 : decode cX10_lend 35 = .ok (.invokestatic 110, 3) := by decide +kernel
theorem dX10_lend_38 : decode cX10_lend 38 = .ok (.ifCond .eq 17, 3) := by decide +kernel
theorem dX10_lend_41 : decode cX10_lend 41 = .ok (.aload_n 0, 1) := by decide +kernel
theorem dX10_lend_42 : decode cX10_lend 42 = .ok (.iload_n 1, 1) := by decide +kernel
theorem dX10_lend_43 : decode cX10_lend 43 = .ok (.iload_n 2, 1) := by decide +kernel
theorem dX10_lend_44 : decode cX10_lend 44 = .ok (.iload_n 3, 1) := by decide +kernel
theorem dX10_lend_45 : decode cX10_lend 45 = .ok (.iload 4, 2) := by decide +kernel
theorem dX10_lend_47 : decode cX10_lend 47 = .ok (.iload 5, 2) := by decide +kernel
theorem dX10_lend_49 : decode cX10_lend 49 = .ok (.invokevirtual 264, 3) := by decide +kernel
theorem dX10_lend_52 : decode cX10_lend 52 = .ok (.goto 5, 3) := by decide +kernel
theorem dX10_lend_55 : decode cX10_lend 55 = .ok (.bipush (-2), 2) := by decide +kernel
theorem dX10_lend_57 : decode cX10_lend 57 = .ok (.ireturn, 1) := by decide +kernel
theorem dX10_hangsOf_0 : decode cX10_hangsOf 0 = .ok (.aload_n 0, 1) := by decide +kernel
theorem dX10_hangsOf_1 : decode cX10_hangsOf 1 = .ok (.iload_n 1, 1) := by decide +kernel
theorem dX10_hangsOf_2 : decode cX10_hangsOf 2 = .ok (.iconst 1, 1) := by decide +kernel
theorem dX10_hangsOf_3 : decode cX10_hangsOf 3 = .ok (.isub, 1) := by decide +kernel
theorem dX10_hangsOf_4 : decode cX10_hangsOf 4 = .ok (.invokevirtual 221, 3) := by decide +kernel
theorem dX10_hangsOf_7 : decode cX10_hangsOf 7 = .ok (.iload_n 1, 1) := by decide +kernel
theorem dX10_hangsOf_8 : decode cX10_hangsOf 8 = .ok (.ifCond .ne 7, 3) := by decide +kernel
theorem dX10_hangsOf_11 : decode cX10_hangsOf 11 = .ok (.aload_n 0, 1) := by decide +kernel
theorem dX10_hangsOf_12 : decode cX10_hangsOf 12 = .ok (.invokevirtual 209, 3) := by decide +kernel
theorem dX10_hangsOf_15 : decode cX10_hangsOf 15 = .ok (.aload_n 0, 1) := by decide +kernel
theorem dX10_hangsOf_16 : decode cX10_hangsOf 16 = .ok (.invokevirtual 199, 3) := by decide +kernel
theorem dX10_hangsOf_19 : decode cX10_hangsOf 19 = .ok (.aload_n 0, 1) := by decide +kernel
theorem dX10_hangsOf_20 : decode cX10_hangsOf 20 = .ok (.invokevirtual 248, 3) := by decide +kernel
theorem dX10_hangsOf_23 : decode cX10_hangsOf 23 = .ok (.iconst 0, 1) := by decide +kernel
theorem dX10_hangsOf_24 : decode cX10_hangsOf 24 = .ok (.istore_n 2, 1) := by decide +kernel
theorem dX10_hangsOf_25 : decode cX10_hangsOf 25 = .ok (.iconst 0, 1) := by decide +kernel
theorem dX10_hangsOf_26 : decode cX10_hangsOf 26 = .ok (.istore_n 3, 1) := by decide +kernel
theorem dX10_hangsOf_27 : decode cX10_hangsOf 27 = .ok (.iload_n 3, 1) := by decide +kernel
theorem dX10_hangsOf_28 : decode cX10_hangsOf 28 = .ok (.aload_n 0, 1) := by decide +kernel
theorem dX10_hangsOf_29 : decode cX10_hangsOf 29 = .ok (.getfield 163, 3) := by decide +kernel
theorem dX10_hangsOf_32 : decode cX10_hangsOf 32 = .ok (.if_icmp .ge 34, 3) := by decide +kernel
theorem dX10_hangsOf_35 : decode cX10_hangsOf 35 = .ok (.aload_n 0, 1) := by decide +kernel
theorem dX10_hangsOf_36 : decode cX10_hangsOf 36 = .ok (.getfield 31, 3) := by decide +kernel
theorem dX10_hangsOf_39 : decode cX10_hangsOf 39 = .ok (.iload_n 3, 1) := by decide +kernel
theorem dX10_hangsOf_40 : decode cX10_hangsOf 40 = .ok (.iaload, 1) := by decide +kernel
theorem dX10_hangsOf_41 : decode cX10_hangsOf 41 = .ok (.iload_n 1, 1) := by decide +kernel
theorem dX10_hangsOf_42 : decode cX10_hangsOf 42 = .ok (.if_icmp .ne 18, 3) := by decide +kernel
theorem dX10_hangsOf_45 : decode cX10_hangsOf 45 = .ok (.aload_n 0, 1) := by decide +kernel
theorem dX10_hangsOf_46 : decode cX10_hangsOf 46 = .ok (.getfield 71, 3) := by decide +kernel
theorem dX10_hangsOf_49 : decode cX10_hangsOf 49 = .ok (.iload_n 2, 1) := by decide +kernel
theorem dX10_hangsOf_50 : decode cX10_hangsOf 50 = .ok (.aload_n 0, 1) := by decide +kernel
theorem dX10_hangsOf_51 : decode cX10_hangsOf 51 = .ok (.getfield 34, 3) := by decide +kernel
theorem dX10_hangsOf_54 : decode cX10_hangsOf 54 = .ok (.iload_n 3, 1) := by decide +kernel
theorem dX10_hangsOf_55 : decode cX10_hangsOf 55 = .ok (.iaload, 1) := by decide +kernel
theorem dX10_hangsOf_56 : decode cX10_hangsOf 56 = .ok (.iastore, 1) := by decide +kernel
theorem dX10_hangsOf_57 : decode cX10_hangsOf 57 = .ok (.iinc 2 1, 3) := by decide +kernel
theorem dX10_hangsOf_60 : decode cX10_hangsOf 60 = .ok (.iinc 3 1, 3) := by decide +kernel
theorem dX10_hangsOf_63 : decode cX10_hangsOf 63 = .ok (.goto (-36), 3) := by decide +kernel
theorem dX10_hangsOf_66 : decode cX10_hangsOf 66 = .ok (.iload_n 2, 1) := by decide +kernel
theorem dX10_hangsOf_67 : decode cX10_hangsOf 67 = .ok (.iconst 5, 1) := by decide +kernel
theorem dX10_hangsOf_68 : decode cX10_hangsOf 68 = .ok (.if_icmp .ge 7, 3) := by decide +kernel
theorem dX10_hangsOf_71 : decode cX10_hangsOf 71 = .ok (.iload_n 2, 1) := by decide +kernel
theorem dX10_hangsOf_72 : decode cX10_hangsOf 72 = .ok (.goto 4, 3) := by decide +kernel
theorem dX10_hangsOf_75 : decode cX10_hangsOf 75 = .ok (.iconst 5, 1) := by decide +kernel
theorem dX10_hangsOf_76 : decode cX10_hangsOf 76 = .ok (.istore_n 3, 1) := by decide +kernel
theorem dX10_hangsOf_77 : decode cX10_hangsOf 77 = .ok (.iconst 1, 1) := by decide +kernel
theorem dX10_hangsOf_78 : decode cX10_hangsOf 78 = .ok (.istore 4, 2) := by decide +kernel
theorem dX10_hangsOf_80 : decode cX10_hangsOf 80 = .ok (.iconst 0, 1) := by decide +kernel
theorem dX10_hangsOf_81 : decode cX10_hangsOf 81 = .ok (.istore 5, 2) := by decide +kernel
theorem dX10_hangsOf_83 : decode cX10_hangsOf 83 = .ok (.iload 5, 2) := by decide +kernel
theorem dX10_hangsOf_85 : decode cX10_hangsOf 85 = .ok (.iload_n 3, 1) := by decide +kernel
theorem dX10_hangsOf_86 : decode cX10_hangsOf 86 = .ok (.if_icmp .ge 15, 3) := by decide +kernel
theorem dX10_hangsOf_89 : decode cX10_hangsOf 89 = .ok (.iload 4, 2) := by decide +kernel
theorem dX10_hangsOf_91 : decode cX10_hangsOf 91 = .ok (.iload_n 3, 1) := by decide +kernel
theorem dX10_hangsOf_92 : decode cX10_hangsOf 92 = .ok (.imul, 1) := by decide +kernel
theorem dX10_hangsOf_93 : decode cX10_hangsOf 93 = .ok (.istore 4, 2) := by decide +kernel
theorem dX10_hangsOf_95 : decode cX10_hangsOf 95 = .ok (.iinc 5 1, 3) := by decide +kernel
theorem dX10_hangsOf_98 : decode cX10_hangsOf 98 = .ok (.goto (-15), 3) := by decide +kernel
theorem dX10_hangsOf_101 : decode cX10_hangsOf 101 = .ok (.iconst 0, 1) := by decide +kernel
theorem dX10_hangsOf_102 : decode cX10_hangsOf 102 = .ok (.istore 5, 2) := by decide +kernel
theorem dX10_hangsOf_104 : decode cX10_hangsOf 104 = .ok (.iload 5, 2) := by decide +kernel
theorem dX10_hangsOf_106 : decode cX10_hangsOf 106 = .ok (.bipush 8, 2) := by decide +kernel
theorem dX10_hangsOf_108 : decode cX10_hangsOf 108 = .ok (.if_icmp .ge 17, 3) := by decide +kernel
theorem dX10_hangsOf_111 : decode cX10_hangsOf 111 = .ok (.aload_n 0, 1) := by decide +kernel
theorem dX10_hangsOf_112 : decode cX10_hangsOf 112 = .ok (.getfield 74, 3) := by decide +kernel
theorem dX10_hangsOf_115 : decode cX10_hangsOf 115 = .ok (.iload 5, 2) := by decide +kernel
theorem dX10_hangsOf_117 : decode cX10_hangsOf 117 = .ok (.iconst 0, 1) := by decide +kernel
theorem dX10_hangsOf_118 : decode cX10_hangsOf 118 = .ok (.iastore, 1) := by decide +kernel
theorem dX10_hangsOf_119 : decode cX10_hangsOf 119 = .ok (.iinc 5 1, 3) := by decide +kernel
theorem dX10_hangsOf_122 : decode cX10_hangsOf 122 = .ok (.goto (-18), 3) := by decide +kernel
theorem dX10_hangsOf_125 : decode cX10_hangsOf 125 = .ok (.iconst 0, 1) := by decide +kernel
theorem dX10_hangsOf_126 : decode cX10_hangsOf 126 = .ok (.istore 5, 2) := by decide +kernel
theorem dX10_hangsOf_128 : decode cX10_hangsOf 128 = .ok (.iload 5, 2) := by decide +kernel
theorem dX10_hangsOf_130 : decode cX10_hangsOf 130 = .ok (.iload 4, 2) := by decide +kernel
theorem dX10_hangsOf_132 : decode cX10_hangsOf 132 = .ok (.if_icmp .ge 172, 3) := by decide +kernel
theorem dX10_hangsOf_135 : decode cX10_hangsOf 135 = .ok (.iconst 0, 1) := by decide +kernel
theorem dX10_hangsOf_136 : decode cX10_hangsOf 136 = .ok (.istore 6, 2) := by decide +kernel
theorem dX10_hangsOf_138 : decode cX10_hangsOf 138 = .ok (.iload 5, 2) := by decide +kernel
theorem dX10_hangsOf_140 : decode cX10_hangsOf 140 = .ok (.istore 7, 2) := by decide +kernel
theorem dX10_hangsOf_142 : decode cX10_hangsOf 142 = .ok (.iconst 0, 1) := by decide +kernel
theorem dX10_hangsOf_143 : decode cX10_hangsOf 143 = .ok (.istore 8, 2) := by decide +kernel
theorem dX10_hangsOf_145 : decode cX10_hangsOf 145 = .ok (.iload 8, 2) := by decide +kernel
theorem dX10_hangsOf_147 : decode cX10_hangsOf 147 = .ok (.iload_n 3, 1) := by decide +kernel
theorem dX10_hangsOf_148 : decode cX10_hangsOf 148 = .ok (.if_icmp .ge 26, 3) := by decide +kernel
theorem dX10_hangsOf_151 : decode cX10_hangsOf 151 = .ok (.iload 6, 2) := by decide +kernel
theorem dX10_hangsOf_153 : decode cX10_hangsOf 153 = .ok (.iconst 1, 1) := by decide +kernel
theorem dX10_hangsOf_154 : decode cX10_hangsOf 154 = .ok (.iload 7, 2) := by decide +kernel
theorem dX10_hangsOf_156 : decode cX10_hangsOf 156 = .ok (.iload_n 3, 1) := by decide +kernel
theorem dX10_hangsOf_157 : decode cX10_hangsOf 157 = .ok (.irem, 1) := by decide +kernel
theorem dX10_hangsOf_158 : decode cX10_hangsOf 158 = .ok (.ishl, 1) := by decide +kernel
theorem dX10_hangsOf_159 : decode cX10_hangsOf 159 = .ok (.ior, 1) := by decide +kernel
theorem dX10_hangsOf_160 : decode cX10_hangsOf 160 = .ok (.istore 6, 2) := by decide +kernel
theorem dX10_hangsOf_162 : decode cX10_hangsOf 162 = .ok (.iload 7, 2) := by decide +kernel
theorem dX10_hangsOf_164 : decode cX10_hangsOf 164 = .ok (.iload_n 3, 1) := by decide +kernel
theorem dX10_hangsOf_165 : decode cX10_hangsOf 165 = .ok (.idiv, 1) := by decide +kernel
theorem dX10_hangsOf_166 : decode cX10_hangsOf 166 = .ok (.istore 7, 2) := by decide +kernel
theorem dX10_hangsOf_168 : decode cX10_hangsOf 168 = .ok (.iinc 8 1, 3) := by decide +kernel
theorem dX10_hangsOf_171 : decode cX10_hangsOf 171 = .ok (.goto (-26), 3) := by decide +kernel
theorem dX10_hangsOf_174 : decode cX10_hangsOf 174 = .ok (.iload 6, 2) := by decide +kernel
theorem dX10_hangsOf_176 : decode cX10_hangsOf 176 = .ok (.iconst 1, 1) := by decide +kernel
theorem dX10_hangsOf_177 : decode cX10_hangsOf 177 = .ok (.iload_n 3, 1) := by decide +kernel
theorem dX10_hangsOf_178 : decode cX10_hangsOf 178 = .ok (.ishl, 1) := by decide +kernel
theorem dX10_hangsOf_179 : decode cX10_hangsOf 179 = .ok (.iconst 1, 1) := by decide +kernel
theorem dX10_hangsOf_180 : decode cX10_hangsOf 180 = .ok (.isub, 1) := by decide +kernel
theorem dX10_hangsOf_181 : decode cX10_hangsOf 181 = .ok (.if_icmp .ne 117, 3) := by decide +kernel
theorem dX10_hangsOf_184 : decode cX10_hangsOf 184 = .ok (.aload_n 0, 1) := by decide +kernel
theorem dX10_hangsOf_185 : decode cX10_hangsOf 185 = .ok (.invokevirtual 245, 3) := by decide +kernel
theorem dX10_hangsOf_188 : decode cX10_hangsOf 188 = .ok (.iload 5, 2) := by decide +kernel
theorem dX10_hangsOf_190 : decode cX10_hangsOf 190 = .ok (.istore 7, 2) := by decide +kernel
theorem dX10_hangsOf_192 : decode cX10_hangsOf 192 = .ok (.iconst 0, 1) := by decide +kernel
theorem dX10_hangsOf_193 : decode cX10_hangsOf 193 = .ok (.istore 8, 2) := by decide +kernel
theorem dX10_hangsOf_195 : decode cX10_hangsOf 195 = .ok (.iload 8, 2) := by decide +kernel
theorem dX10_hangsOf_197 : decode cX10_hangsOf 197 = .ok (.iload_n 3, 1) := by decide +kernel
theorem dX10_hangsOf_198 : decode cX10_hangsOf 198 = .ok (.if_icmp .ge 30, 3) := by decide +kernel
theorem dX10_hangsOf_201 : decode cX10_hangsOf 201 = .ok (.aload_n 0, 1) := by decide +kernel
theorem dX10_hangsOf_202 : decode cX10_hangsOf 202 = .ok (.aload_n 0, 1) := by decide +kernel
theorem dX10_hangsOf_203 : decode cX10_hangsOf 203 = .ok (.getfield 71, 3) := by decide +kernel
theorem dX10_hangsOf_206 : decode cX10_hangsOf 206 = .ok (.iload 7, 2) := by decide +kernel
theorem dX10_hangsOf_208 : decode cX10_hangsOf 208 = .ok (.iload_n 3, 1) := by decide +kernel
theorem dX10_hangsOf_209 : decode cX10_hangsOf 209 = .ok (.irem, 1) := by decide +kernel
theorem dX10_hangsOf_210 : decode cX10_hangsOf 210 = .ok (.iaload, 1) := by decide +kernel
theorem dX10_hangsOf_211 : decode cX10_hangsOf 211 = .ok (.invokevirtual 196, 3) := by decide +kernel
theorem dX10_hangsOf_214 : decode cX10_hangsOf 214 = .ok (.istore 9, 2) := by decide +kernel
theorem dX10_hangsOf_216 : decode cX10_hangsOf 216 = .ok (.iload 7, 2) := by decide +kernel
theorem dX10_hangsOf_218 : decode cX10_hangsOf 218 = .ok (.iload_n 3, 1) := by decide +kernel
theorem dX10_hangsOf_219 : decode cX10_hangsOf 219 = .ok (.idiv, 1) := by decide +kernel
theorem dX10_hangsOf_220 : decode cX10_hangsOf 220 = .ok (.istore 7, 2) := by decide +kernel
theorem dX10_hangsOf_222 : decode cX10_hangsOf 222 = .ok (.iinc 8 1, 3) := by decide +kernel
theorem dX10_hangsOf_225 : decode cX10_hangsOf 225 = .ok (.goto (-30), 3) := by decide +kernel
theorem dX10_hangsOf_228 : decode cX10_hangsOf 228 = .ok (.iload_n 3, 1) := by decide +kernel
theorem dX10_hangsOf_229 : decode cX10_hangsOf 229 = .ok (.istore 8, 2) := by decide +kernel
theorem dX10_hangsOf_231 : decode cX10_hangsOf 231 = .ok (.iload 8, 2) := by decide +kernel
theorem dX10_hangsOf_233 : decode cX10_hangsOf 233 = .ok (.iload_n 2, 1) := by decide +kernel
theorem dX10_hangsOf_234 : decode cX10_hangsOf 234 = .ok (.if_icmp .ge 22, 3) := by decide +kernel
theorem dX10_hangsOf_237 : decode cX10_hangsOf 237 = .ok (.aload_n 0, 1) := by decide +kernel
theorem dX10_hangsOf_238 : decode cX10_hangsOf 238 = .ok (.aload_n 0, 1) := by decide +kernel
theorem dX10_hangsOf_239 : decode cX10_hangsOf 239 = .ok (.getfield 71, 3) := by decide +kernel
theorem dX10_hangsOf_242 : decode cX10_hangsOf 242 = .ok (.iload 8, 2) := by decide +kernel
theorem dX10_hangsOf_244 : decode cX10_hangsOf 244 = .ok (.iaload, 1) := by decide +kernel
theorem dX10_hangsOf_245 : decode cX10_hangsOf 245 = .ok (.invokevirtual 196, 3) := by decide +kernel
theorem dX10_hangsOf_248 : decode cX10_hangsOf 248 = .ok (.istore 9, 2) := by decide +kernel
theorem dX10_hangsOf_250 : decode cX10_hangsOf 250 = .ok (.iinc 8 1, 3) := by decide +kernel
theorem dX10_hangsOf_253 : decode cX10_hangsOf 253 = .ok (.goto (-22), 3) := by decide +kernel
theorem dX10_hangsOf_256 : decode cX10_hangsOf 256 = .ok (.aload_n 0, 1) := by decide +kernel
theorem dX10_hangsOf_257 : decode cX10_hangsOf 257 = .ok (.iload_n 1, 1) := by decide +kernel
theorem dX10_hangsOf_258 : decode cX10_hangsOf 258 = .ok (.invokevirtual 206, 3) := by decide +kernel
theorem dX10_hangsOf_261 : decode cX10_hangsOf 261 = .ok (.iconst 0, 1) := by decide +kernel
theorem dX10_hangsOf_262 : decode cX10_hangsOf 262 = .ok (.istore 8, 2) := by decide +kernel
theorem dX10_hangsOf_264 : decode cX10_hangsOf 264 = .ok (.iload 8, 2) := by decide +kernel
theorem dX10_hangsOf_266 : decode cX10_hangsOf 266 = .ok (.aload_n 0, 1) := by decide +kernel
theorem dX10_hangsOf_267 : decode cX10_hangsOf 267 = .ok (.getfield 125, 3) := by decide +kernel
theorem dX10_hangsOf_270 : decode cX10_hangsOf 270 = .ok (.if_icmp .ge 28, 3) := by decide +kernel
theorem dX10_hangsOf_273 : decode cX10_hangsOf 273 = .ok (.aload_n 0, 1) := by decide +kernel
theorem dX10_hangsOf_274 : decode cX10_hangsOf 274 = .ok (.getfield 74, 3) := by decide +kernel
theorem dX10_hangsOf_277 : decode cX10_hangsOf 277 = .ok (.iload 8, 2) := by decide +kernel
theorem dX10_hangsOf_279 : decode cX10_hangsOf 279 = .ok (.dup2, 1) := by decide +kernel
theorem dX10_hangsOf_280 : decode cX10_hangsOf 280 = .ok (.iaload, 1) := by decide +kernel
theorem dX10_hangsOf_281 : decode cX10_hangsOf 281 = .ok (.iconst 1, 1) := by decide +kernel
theorem dX10_hangsOf_282 : decode cX10_hangsOf 282 = .ok (.aload_n 0, 1) := by decide +kernel
theorem dX10_hangsOf_283 : decode cX10_hangsOf 283 = .ok (.getfield 43, 3) := by decide +kernel
theorem dX10_hangsOf_286 : decode cX10_hangsOf 286 = .ok (.iload 8, 2) := by decide +kernel
theorem dX10_hangsOf_288 : decode cX10_hangsOf 288 = .ok (.iaload, 1) := by decide +kernel
theorem dX10_hangsOf_289 : decode cX10_hangsOf 289 = .ok (.ishl, 1) := by decide +kernel
theorem dX10_hangsOf_290 : decode cX10_hangsOf 290 = .ok (.ior, 1) := by decide +kernel
theorem dX10_hangsOf_291 : decode cX10_hangsOf 291 = .ok (.iastore, 1) := by decide +kernel
theorem dX10_hangsOf_292 : decode cX10_hangsOf 292 = .ok (.iinc 8 1, 3) := by decide +kernel
theorem dX10_hangsOf_295 : decode cX10_hangsOf 295 = .ok (.goto (-31), 3) := by decide +kernel
theorem dX10_hangsOf_298 : decode cX10_hangsOf 298 = .ok (.iinc 5 1, 3) := by decide +kernel
theorem dX10_hangsOf_301 : decode cX10_hangsOf 301 = .ok (.goto (-173), 3) := by decide +kernel
theorem dX10_hangsOf_304 : decode cX10_hangsOf 304 = .ok (.iconst 0, 1) := by decide +kernel
theorem dX10_hangsOf_305 : decode cX10_hangsOf 305 = .ok (.istore 5, 2) := by decide +kernel
theorem dX10_hangsOf_307 : decode cX10_hangsOf 307 = .ok (.iconst 0, 1) := by decide +kernel
theorem dX10_hangsOf_308 : decode cX10_hangsOf 308 = .ok (.istore 6, 2) := by decide +kernel
theorem dX10_hangsOf_310 : decode cX10_hangsOf 310 = .ok (.iload 6, 2) := by decide +kernel
theorem dX10_hangsOf_312 : decode cX10_hangsOf 312 = .ok (.aload_n 0, 1) := by decide +kernel
theorem dX10_hangsOf_313 : decode cX10_hangsOf 313 = .ok (.getfield 125, 3) := by decide +kernel
theorem dX10_hangsOf_316 : decode cX10_hangsOf 316 = .ok (.if_icmp .ge 42, 3) := by decide +kernel
theorem dX10_hangsOf_319 : decode cX10_hangsOf 319 = .ok (.iload 5, 2) := by decide +kernel
theorem dX10_hangsOf_321 : decode cX10_hangsOf 321 = .ok (.aload_n 0, 1) := by decide +kernel
theorem dX10_hangsOf_322 : decode cX10_hangsOf 322 = .ok (.getfield 74, 3) := by decide +kernel
theorem dX10_hangsOf_325 : decode cX10_hangsOf 325 = .ok (.iload 6, 2) := by decide +kernel
theorem dX10_hangsOf_327 : decode cX10_hangsOf 327 = .ok (.iaload, 1) := by decide +kernel
theorem dX10_hangsOf_328 : decode cX10_hangsOf 328 = .ok (.aload_n 0, 1) := by decide +kernel
theorem dX10_hangsOf_329 : decode cX10_hangsOf 329 = .ok (.getfield 74, 3) := by decide +kernel
theorem dX10_hangsOf_332 : decode cX10_hangsOf 332 = .ok (.iload 6, 2) := by decide +kernel
theorem dX10_hangsOf_334 : decode cX10_hangsOf 334 = .ok (.iaload, 1) := by decide +kernel
theorem dX10_hangsOf_335 : decode cX10_hangsOf 335 = .ok (.iconst 1, 1) := by decide +kernel
theorem dX10_hangsOf_336 : decode cX10_hangsOf 336 = .ok (.isub, 1) := by decide +kernel
theorem dX10_hangsOf_337 : decode cX10_hangsOf 337 = .ok (.iand, 1) := by decide +kernel
theorem dX10_hangsOf_338 : decode cX10_hangsOf 338 = .ok (.ifCond .eq 10, 3) := by decide +kernel
theorem dX10_hangsOf_341 : decode cX10_hangsOf 341 = .ok (.iconst 1, 1) := by decide +kernel
theorem dX10_hangsOf_342 : decode cX10_hangsOf 342 = .ok (.iload 6, 2) := by decide +kernel
theorem dX10_hangsOf_344 : decode cX10_hangsOf 344 = .ok (.ishl, 1) := by decide +kernel
theorem dX10_hangsOf_345 : decode cX10_hangsOf 345 = .ok (.goto 4, 3) := by decide +kernel
theorem dX10_hangsOf_348 : decode cX10_hangsOf 348 = .ok (.iconst 0, 1) := by decide +kernel
theorem dX10_hangsOf_349 : decode cX10_hangsOf 349 = .ok (.ior, 1) := by decide +kernel
theorem dX10_hangsOf_350 : decode cX10_hangsOf 350 = .ok (.istore 5, 2) := by decide +kernel
theorem dX10_hangsOf_352 : decode cX10_hangsOf 352 = .ok (.iinc 6 1, 3) := by decide +kernel
theorem dX10_hangsOf_355 : decode cX10_hangsOf 355 = .ok (.goto (-45), 3) := by decide +kernel
theorem dX10_hangsOf_358 : decode cX10_hangsOf 358 = .ok (.iload 5, 2) := by decide +kernel
theorem dX10_hangsOf_360 : decode cX10_hangsOf 360 = .ok (.ireturn, 1) := by decide +kernel
theorem dX10_hangs_0 : decode cX10_hangs 0 = .ok (.iload_n 1, 1) := by decide +kernel
theorem dX10_hangs_1 : decode cX10_hangs 1 = .ok (.invokestatic 160, 3) := by decide +kernel
theorem dX10_hangs_4 : decode cX10_hangs 4 = .ok (.ifCond .eq 11, 3) := by decide +kernel
theorem dX10_hangs_7 : decode cX10_hangs 7 = .ok (.aload_n 0, 1) := by decide +kernel
theorem dX10_hangs_8 : decode cX10_hangs 8 = .ok (.iload_n 1, 1) := by decide +kernel
theorem dX10_hangs_9 : decode cX10_hangs 9 = .ok (.invokevirtual 268, 3) := by decide +kernel
theorem dX10_hangs_12 : decode cX10_hangs 12 = .ok (.goto 5, 3) := by decide +kernel
theorem dX10_hangs_15 : decode cX10_hangs 15 = .ok (.bipush (-2), 2) := by decide +kernel
theorem dX10_hangs_17 : decode cX10_hangs 17 = .ok (.ireturn, 1) := by decide +kernel
theorem dX10_sorts_0 : decode cX10_sorts 0 = .ok (.aload_n 0, 1) := by decide +kernel
theorem dX10_sorts_1 : decode cX10_sorts 1 = .ok (.invokevirtual 215, 3) := by decide +kernel
theorem dX10_sorts_4 : decode cX10_sorts 4 = .ok (.aload_n 0, 1) := by decide +kernel
theorem dX10_sorts_5 : decode cX10_sorts 5 = .ok (.iload_n 1, 1) := by decide +kernel
theorem dX10_sorts_6 : decode cX10_sorts 6 = .ok (.putfield 182, 3) := by decide +kernel
theorem dX10_sorts_9 : decode cX10_sorts 9 = .ok (.aload_n 0, 1) := by decide +kernel
theorem dX10_sorts_10 : decode cX10_sorts 10 = .ok (.invokevirtual 209, 3) := by decide +kernel
theorem dX10_sorts_13 : decode cX10_sorts 13 = .ok (.iconst 0, 1) := by decide +kernel
theorem dX10_sorts_14 : decode cX10_sorts 14 = .ok (.istore_n 3, 1) := by decide +kernel
theorem dX10_sorts_15 : decode cX10_sorts 15 = .ok (.iload_n 3, 1) := by decide +kernel
theorem dX10_sorts_16 : decode cX10_sorts 16 = .ok (.bipush 24, 2) := by decide +kernel
theorem dX10_sorts_18 : decode cX10_sorts 18 = .ok (.if_icmp .ge 24, 3) := by decide +kernel
theorem dX10_sorts_21 : decode cX10_sorts 21 = .ok (.aload_n 0, 1) := by decide +kernel
theorem dX10_sorts_22 : decode cX10_sorts 22 = .ok (.iload_n 3, 1) := by decide +kernel
theorem dX10_sorts_23 : decode cX10_sorts 23 = .ok (.invokevirtual 212, 3) := by decide +kernel
theorem dX10_sorts_26 : decode cX10_sorts 26 = .ok (.aload_n 0, 1) := by decide +kernel
theorem dX10_sorts_27 : decode cX10_sorts 27 = .ok (.invokevirtual 185, 3) := by decide +kernel
theorem dX10_sorts_30 : decode cX10_sorts 30 = .ok (.iload_n 2, 1) := by decide +kernel
theorem dX10_sorts_31 : decode cX10_sorts 31 = .ok (.if_icmp .le 5, 3) := by decide +kernel
theorem dX10_sorts_34 : decode cX10_sorts 34 = .ok (.iconst 0, 1) := by decide +kernel
theorem dX10_sorts_35 : decode cX10_sorts 35 = .ok (.ireturn, 1) := by decide +kernel
theorem dX10_sorts_36 : decode cX10_sorts 36 = .ok (.iinc 3 1, 3) := by decide +kernel
theorem dX10_sorts_39 : decode cX10_sorts 39 = .ok (.goto (-24), 3) := by decide +kernel
theorem dX10_sorts_42 : decode cX10_sorts 42 = .ok (.iconst 1, 1) := by decide +kernel
theorem dX10_sorts_43 : decode cX10_sorts 43 = .ok (.ireturn, 1) := by decide +kernel
theorem dX10_sortBy_0 : decode cX10_sortBy 0 = .ok (.aload_n 0, 1) := by decide +kernel
theorem dX10_sortBy_1 : decode cX10_sortBy 1 = .ok (.invokevirtual 144, 3) := by decide +kernel
theorem dX10_sortBy_4 : decode cX10_sortBy 4 = .ok (.aload_n 0, 1) := by decide +kernel
theorem dX10_sortBy_5 : decode cX10_sortBy 5 = .ok (.iconst 0, 1) := by decide +kernel
theorem dX10_sortBy_6 : decode cX10_sortBy 6 = .ok (.iload_n 1, 1) := by decide +kernel
theorem dX10_sortBy_7 : decode cX10_sortBy 7 = .ok (.invokevirtual 271, 3) := by decide +kernel
theorem dX10_sortBy_10 : decode cX10_sortBy 10 = .ok (.ifCond .eq 5, 3) := by decide +kernel
theorem dX10_sortBy_13 : decode cX10_sortBy 13 = .ok (.iconst 0, 1) := by decide +kernel
theorem dX10_sortBy_14 : decode cX10_sortBy 14 = .ok (.ireturn, 1) := by decide +kernel
theorem dX10_sortBy_15 : decode cX10_sortBy 15 = .ok (.iconst 0, 1) := by decide +kernel
theorem dX10_sortBy_16 : decode cX10_sortBy 16 = .ok (.istore_n 2, 1) := by decide +kernel
theorem dX10_sortBy_17 : decode cX10_sortBy 17 = .ok (.iload_n 2, 1) := by decide +kernel
theorem dX10_sortBy_18 : decode cX10_sortBy 18 = .ok (.bipush 24, 2) := by decide +kernel
theorem dX10_sortBy_20 : decode cX10_sortBy 20 = .ok (.if_icmp .ge 29, 3) := by decide +kernel
theorem dX10_sortBy_23 : decode cX10_sortBy 23 = .ok (.aload_n 0, 1) := by decide +kernel
theorem dX10_sortBy_24 : decode cX10_sortBy 24 = .ok (.getfield 68, 3) := by decide +kernel
theorem dX10_sortBy_27 : decode cX10_sortBy 27 = .ok (.iconst 0, 1) := by decide +kernel
theorem dX10_sortBy_28 : decode cX10_sortBy 28 = .ok (.iload_n 2, 1) := by decide +kernel
theorem dX10_sortBy_29 : decode cX10_sortBy 29 = .ok (.iastore, 1) := by decide +kernel
theorem dX10_sortBy_30 : decode cX10_sortBy 30 = .ok (.aload_n 0, 1) := by decide +kernel
theorem dX10_sortBy_31 : decode cX10_sortBy 31 = .ok (.iconst 1, 1) := by decide +kernel
theorem dX10_sortBy_32 : decode cX10_sortBy 32 = .ok (.iload_n 2, 1) := by decide +kernel
theorem dX10_sortBy_33 : decode cX10_sortBy 33 = .ok (.ishl, 1) := by decide +kernel
theorem dX10_sortBy_34 : decode cX10_sortBy 34 = .ok (.iload_n 1, 1) := by decide +kernel
theorem dX10_sortBy_35 : decode cX10_sortBy 35 = .ok (.invokevirtual 271, 3) := by decide +kernel
theorem dX10_sortBy_38 : decode cX10_sortBy 38 = .ok (.ifCond .eq 5, 3) := by decide +kernel
theorem dX10_sortBy_41 : decode cX10_sortBy 41 = .ok (.iconst 1, 1) := by decide +kernel
theorem dX10_sortBy_42 : decode cX10_sortBy 42 = .ok (.ireturn, 1) := by decide +kernel
theorem dX10_sortBy_43 : decode cX10_sortBy 43 = .ok (.iinc 2 1, 3) := by decide +kernel
theorem dX10_sortBy_46 : decode cX10_sortBy 46 = .ok (.goto (-29), 3) := by decide +kernel
theorem dX10_sortBy_49 : decode cX10_sortBy 49 = .ok (.iconst 0, 1) := by decide +kernel
theorem dX10_sortBy_50 : decode cX10_sortBy 50 = .ok (.istore_n 2, 1) := by decide +kernel
theorem dX10_sortBy_51 : decode cX10_sortBy 51 = .ok (.iload_n 2, 1) := by decide +kernel
theorem dX10_sortBy_52 : decode cX10_sortBy 52 = .ok (.bipush 24, 2) := by decide +kernel
theorem dX10_sortBy_54 : decode cX10_sortBy 54 = .ok (.if_icmp .ge 56, 3) := by decide +kernel
theorem dX10_sortBy_57 : decode cX10_sortBy 57 = .ok (.iload_n 2, 1) := by decide +kernel
theorem dX10_sortBy_58 : decode cX10_sortBy 58 = .ok (.iconst 1, 1) := by decide +kernel
theorem dX10_sortBy_59 : decode cX10_sortBy 59 = .ok (.iadd, 1) := by decide +kernel
theorem dX10_sortBy_60 : decode cX10_sortBy 60 = .ok (.istore_n 3, 1) := by decide +kernel
theorem dX10_sortBy_61 : decode cX10_sortBy 61 = .ok (.iload_n 3, 1) := by decide +kernel
theorem dX10_sortBy_62 : decode cX10_sortBy 62 = .ok (.bipush 24, 2) := by decide +kernel
theorem dX10_sortBy_64 : decode cX10_sortBy 64 = .ok (.if_icmp .ge 40, 3) := by decide +kernel
theorem dX10_sortBy_67 : decode cX10_sortBy 67 = .ok (.aload_n 0, 1) := by decide +kernel
theorem dX10_sortBy_68 : decode cX10_sortBy 68 = .ok (.getfield 68, 3) := by decide +kernel
theorem dX10_sortBy_71 : decode cX10_sortBy 71 = .ok (.iconst 0, 1) := by decide +kernel
theorem dX10_sortBy_72 : decode cX10_sortBy 72 = .ok (.iload_n 2, 1) := by decide +kernel
theorem dX10_sortBy_73 : decode cX10_sortBy 73 = .ok (.iastore, 1) := by decide +kernel
theorem dX10_sortBy_74 : decode cX10_sortBy 74 = .ok (.aload_n 0, 1) := by decide +kernel
theorem dX10_sortBy_75 : decode cX10_sortBy 75 = .ok (.getfield 68, 3) := by decide +kernel
theorem dX10_sortBy_78 : decode cX10_sortBy 78 = .ok (.iconst 1, 1) := by decide +kernel
theorem dX10_sortBy_79 : decode cX10_sortBy 79 = .ok (.iload_n 3, 1) := by decide +kernel
theorem dX10_sortBy_80 : decode cX10_sortBy 80 = .ok (.iastore, 1) := by decide +kernel
theorem dX10_sortBy_81 : decode cX10_sortBy 81 = .ok (.aload_n 0, 1) := by decide +kernel
theorem dX10_sortBy_82 : decode cX10_sortBy 82 = .ok (.iconst 1, 1) := by decide +kernel
theorem dX10_sortBy_83 : decode cX10_sortBy 83 = .ok (.iload_n 2, 1) := by decide +kernel
theorem dX10_sortBy_84 : decode cX10_sortBy 84 = .ok (.ishl, 1) := by decide +kernel
theorem dX10_sortBy_85 : decode cX10_sortBy 85 = .ok (.iconst 1, 1) := by decide +kernel
theorem dX10_sortBy_86 : decode cX10_sortBy 86 = .ok (.iload_n 3, 1) := by decide +kernel
theorem dX10_sortBy_87 : decode cX10_sortBy 87 = .ok (.ishl, 1) := by decide +kernel
theorem dX10_sortBy_88 : decode cX10_sortBy 88 = .ok (.ior, 1) := by decide +kernel
theorem dX10_sortBy_89 : decode cX10_sortBy 89 = .ok (.iload_n 1, 1) := by decide +kernel
theorem dX10_sortBy_90 : decode cX10_sortBy 90 = .ok (.invokevirtual 271, 3) := by decide +kernel
theorem dX10_sortBy_93 : decode cX10_sortBy 93 = .ok (.ifCond .eq 5, 3) := by decide +kernel
theorem dX10_sortBy_96 : decode cX10_sortBy 96 = .ok (.iconst 2, 1) := by decide +kernel
theorem dX10_sortBy_97 : decode cX10_sortBy 97 = .ok (.ireturn, 1) := by decide +kernel
theorem dX10_sortBy_98 : decode cX10_sortBy 98 = .ok (.iinc 3 1, 3) := by decide +kernel
theorem dX10_sortBy_101 : decode cX10_sortBy 101 = .ok (.goto (-40), 3) := by decide +kernel
theorem dX10_sortBy_104 : decode cX10_sortBy 104 = .ok (.iinc 2 1, 3) := by decide +kernel
theorem dX10_sortBy_107 : decode cX10_sortBy 107 = .ok (.goto (-56), 3) := by decide +kernel
theorem dX10_sortBy_110 : decode cX10_sortBy 110 = .ok (.iconst (-1), 1) := by decide +kernel
theorem dX10_sortBy_111 : decode cX10_sortBy 111 = .ok (.ireturn, 1) := by decide +kernel
theorem dX10_sort_0 : decode cX10_sort 0 = .ok (.iload_n 1, 1) := by decide +kernel
theorem dX10_sort_1 : decode cX10_sort 1 = .ok (.iconst 0, 1) := by decide +kernel
theorem dX10_sort_2 : decode cX10_sort 2 = .ok (.bipush 72, 2) := by decide +kernel
theorem dX10_sort_4 : decode cX10_sort 4 = .ok (.invokestatic 110, 3) := by decide +kernel
theorem dX10_sort_7 : decode cX10_sort 7 = .ok (.ifCond .eq 25, 3) := by decide +kernel
theorem dX10_sort_10 : decode cX10_sort 10 = .ok (.iload_n 2, 1) := by decide +kernel
theorem dX10_sort_11 : decode cX10_sort 11 = .ok (.iconst (-1), 1) := by decide +kernel
theorem dX10_sort_12 : decode cX10_sort 12 = .ok (.iconst 1, 1) := by decide +kernel
theorem dX10_sort_13 : decode cX10_sort 13 = .ok (.invokestatic 110, 3) := by decide +kernel
theorem dX10_sort_16 : decode cX10_sort 16 = .ok (.ifCond .eq 16, 3) := by decide +kernel
theorem dX10_sort_19 : decode cX10_sort 19 = .ok (.aload_n 0, 1) := by decide +kernel
theorem dX10_sort_20 : decode cX10_sort 20 = .ok (.aload_n 0, 1) := by decide +kernel
theorem dX10_sort_21 : decode cX10_sort 21 = .ok (.iload_n 1, 1) := by decide +kernel
theorem dX10_sort_22 : decode cX10_sort 22 = .ok (.invokevirtual 274, 3) := by decide +kernel
theorem dX10_sort_25 : decode cX10_sort 25 = .ok (.iload_n 2, 1) := by decide +kernel
theorem dX10_sort_26 : decode cX10_sort 26 = .ok (.invokevirtual 261, 3) := by decide +kernel
theorem dX10_sort_29 : decode cX10_sort 29 = .ok (.goto 5, 3) := by decide +kernel
theorem dX10_sort_32 : decode cX10_sort 32 = .ok (.bipush (-2), 2) := by decide +kernel
theorem dX10_sort_34 : decode cX10_sort 34 = .ok (.ireturn, 1) := by decide +kernel
theorem dX10_felt_0 : decode cX10_felt 0 = .ok (.iload_n 1, 1) := by decide +kernel
theorem dX10_felt_1 : decode cX10_felt 1 = .ok (.invokestatic 160, 3) := by decide +kernel
theorem dX10_felt_4 : decode cX10_felt 4 = .ok (.ifCond .eq 19, 3) := by decide +kernel
theorem dX10_felt_7 : decode cX10_felt 7 = .ok (.iload_n 2, 1) := by decide +kernel
theorem dX10_felt_8 : decode cX10_felt 8 = .ok (.invokestatic 122, 3) := by decide +kernel
theorem dX10_felt_11 : decode cX10_felt 11 = .ok (.ifCond .eq 12, 3) := by decide +kernel
theorem dX10_felt_14 : decode cX10_felt 14 = .ok (.iload_n 3, 1) := by decide +kernel
theorem dX10_felt_15 : decode cX10_felt 15 = .ok (.iconst 0, 1) := by decide +kernel
theorem dX10_felt_16 : decode cX10_felt 16 = .ok (.iconst 1, 1) := by decide +kernel
theorem dX10_felt_17 : decode cX10_felt 17 = .ok (.invokestatic 110, 3) := by decide +kernel
theorem dX10_felt_20 : decode cX10_felt 20 = .ok (.ifCond .ne 6, 3) := by decide +kernel
theorem dX10_felt_23 : decode cX10_felt 23 = .ok (.bipush (-2), 2) := by decide +kernel
theorem dX10_felt_25 : decode cX10_felt 25 = .ok (.ireturn, 1) := by decide +kernel
theorem dX10_felt_26 : decode cX10_felt 26 = .ok (.aload_n 0, 1) := by decide +kernel
theorem dX10_felt_27 : decode cX10_felt 27 = .ok (.getfield 277, 3) := by decide +kernel
theorem dX10_felt_30 : decode cX10_felt 30 = .ok (.bipush 8, 2) := by decide +kernel
theorem dX10_felt_32 : decode cX10_felt 32 = .ok (.if_icmp .ne 6, 3) := by decide +kernel
theorem dX10_felt_35 : decode cX10_felt 35 = .ok (.bipush (-4), 2) := by decide +kernel
theorem dX10_felt_37 : decode cX10_felt 37 = .ok (.ireturn, 1) := by decide +kernel
theorem dX10_felt_38 : decode cX10_felt 38 = .ok (.aload_n 0, 1) := by decide +kernel
theorem dX10_felt_39 : decode cX10_felt 39 = .ok (.getfield 77, 3) := by decide +kernel
theorem dX10_felt_42 : decode cX10_felt 42 = .ok (.aload_n 0, 1) := by decide +kernel
theorem dX10_felt_43 : decode cX10_felt 43 = .ok (.getfield 277, 3) := by decide +kernel
theorem dX10_felt_46 : decode cX10_felt 46 = .ok (.iload_n 1, 1) := by decide +kernel
theorem dX10_felt_47 : decode cX10_felt 47 = .ok (.iastore, 1) := by decide +kernel
theorem dX10_felt_48 : decode cX10_felt 48 = .ok (.aload_n 0, 1) := by decide +kernel
theorem dX10_felt_49 : decode cX10_felt 49 = .ok (.getfield 80, 3) := by decide +kernel
theorem dX10_felt_52 : decode cX10_felt 52 = .ok (.aload_n 0, 1) := by decide +kernel
theorem dX10_felt_53 : decode cX10_felt 53 = .ok (.getfield 277, 3) := by decide +kernel
theorem dX10_felt_56 : decode cX10_felt 56 = .ok (.iload_n 2, 1) := by decide +kernel
theorem dX10_felt_57 : decode cX10_felt 57 = .ok (.iastore, 1) := by decide +kernel
theorem dX10_felt_58 : decode cX10_felt 58 = .ok (.aload_n 0, 1) := by decide +kernel
theorem dX10_felt_59 : decode cX10_felt 59 = .ok (.getfield 83, 3) := by decide +kernel
theorem dX10_felt_62 : decode cX10_felt 62 = .ok (.aload_n 0, 1) := by decide +kernel
theorem dX10_felt_63 : decode cX10_felt 63 = .ok (.getfield 277, 3) := by decide +kernel
theorem dX10_felt_66 : decode cX10_felt 66 = .ok (.iload_n 3, 1) := by decide +kernel
theorem dX10_felt_67 : decode cX10_felt 67 = .ok (.iastore, 1) := by decide +kernel
theorem dX10_felt_68 : decode cX10_felt 68 = .ok (.aload_n 0, 1) := by decide +kernel
theorem dX10_felt_69 : decode cX10_felt 69 = .ok (.dup, 1) := by decide +kernel
theorem dX10_felt_70 : decode cX10_felt 70 = .ok (.getfield 277, 3) := by decide +kernel
theorem dX10_felt_73 : decode cX10_felt 73 = .ok (.iconst 1, 1) := by decide +kernel
theorem dX10_felt_74 : decode cX10_felt 74 = .ok (.iadd, 1) := by decide +kernel
theorem dX10_felt_75 : decode cX10_felt 75 = .ok (.putfield 277, 3) := by decide +kernel
theorem dX10_felt_78 : decode cX10_felt 78 = .ok (.aload_n 0, 1) := by decide +kernel
theorem dX10_felt_79 : decode cX10_felt 79 = .ok (.getfield 277, 3) := by decide +kernel
theorem dX10_felt_82 : decode cX10_felt 82 = .ok (.ireturn, 1) := by decide +kernel
theorem dX10_forget_0 : decode cX10_forget 0 = .ok (.aload_n 0, 1) := by decide +kernel
theorem dX10_forget_1 : decode cX10_forget 1 = .ok (.getfield 277, 3) := by decide +kernel
theorem dX10_forget_4 : decode cX10_forget 4 = .ok (.istore_n 1, 1) := by decide +kernel
theorem dX10_forget_5 : decode cX10_forget 5 = .ok (.aload_n 0, 1) := by decide +kernel
theorem dX10_forget_6 : decode cX10_forget 6 = .ok (.iconst 0, 1) := by decide +kernel
theorem dX10_forget_7 : decode cX10_forget 7 = .ok (.putfield 277, 3) := by decide +kernel
theorem dX10_forget_10 : decode cX10_forget 10 = .ok (.iload_n 1, 1) := by decide +kernel
theorem dX10_forget_11 : decode cX10_forget 11 = .ok (.ireturn, 1) := by decide +kernel
theorem dX10_isFelt_0 : decode cX10_isFelt 0 = .ok (.iconst 1, 1) := by decide +kernel
theorem dX10_isFelt_1 : decode cX10_isFelt 1 = .ok (.istore_n 2, 1) := by decide +kernel
theorem dX10_isFelt_2 : decode cX10_isFelt 2 = .ok (.aload_n 0, 1) := by decide +kernel
theorem dX10_isFelt_3 : decode cX10_isFelt 3 = .ok (.iconst 0, 1) := by decide +kernel
theorem dX10_isFelt_4 : decode cX10_isFelt 4 = .ok (.putfield 280, 3) := by decide +kernel
theorem dX10_isFelt_7 : decode cX10_isFelt 7 = .ok (.aload_n 0, 1) := by decide +kernel
theorem dX10_isFelt_8 : decode cX10_isFelt 8 = .ok (.invokevirtual 209, 3) := by decide +kernel
theorem dX10_isFelt_11 : decode cX10_isFelt 11 = .ok (.iconst 0, 1) := by decide +kernel
theorem dX10_isFelt_12 : decode cX10_isFelt 12 = .ok (.istore_n 3, 1) := by decide +kernel
theorem dX10_isFelt_13 : decode cX10_isFelt 13 = .ok (.iload_n 3, 1) := by decide +kernel
theorem dX10_isFelt_14 : decode cX10_isFelt 14 = .ok (.bipush 24, 2) := by decide +kernel
theorem dX10_isFelt_16 : decode cX10_isFelt 16 = .ok (.if_icmp .ge 121, 3) := by decide +kernel
theorem dX10_isFelt_19 : decode cX10_isFelt 19 = .ok (.aload_n 0, 1) := by decide +kernel
theorem dX10_isFelt_20 : decode cX10_isFelt 20 = .ok (.iload_n 3, 1) := by decide +kernel
theorem dX10_isFelt_21 : decode cX10_isFelt 21 = .ok (.invokevirtual 212, 3) := by decide +kernel
theorem dX10_isFelt_24 : decode cX10_isFelt 24 = .ok (.aload_n 0, 1) := by decide +kernel
theorem dX10_isFelt_25 : decode cX10_isFelt 25 = .ok (.dup, 1) := by decide +kernel
theorem dX10_isFelt_26 : decode cX10_isFelt 26 = .ok (.getfield 280, 3) := by decide +kernel
theorem dX10_isFelt_29 : decode cX10_isFelt 29 = .ok (.aload_n 0, 1) := by decide +kernel
theorem dX10_isFelt_30 : decode cX10_isFelt 30 = .ok (.getfield 43, 3) := by decide +kernel
theorem dX10_isFelt_33 : decode cX10_isFelt 33 = .ok (.iload_n 1, 1) := by decide +kernel
theorem dX10_isFelt_34 : decode cX10_isFelt 34 = .ok (.iaload, 1) := by decide +kernel
theorem dX10_isFelt_35 : decode cX10_isFelt 35 = .ok (.bipush 8, 2) := by decide +kernel
theorem dX10_isFelt_37 : decode cX10_isFelt 37 = .ok (.if_icmp .ne 9, 3) := by decide +kernel
theorem dX10_isFelt_40 : decode cX10_isFelt 40 = .ok (.iconst 1, 1) := by decide +kernel
theorem dX10_isFelt_41 : decode cX10_isFelt 41 = .ok (.iload_n 3, 1) := by decide +kernel
theorem dX10_isFelt_42 : decode cX10_isFelt 42 = .ok (.ishl, 1) := by decide +kernel
theorem dX10_isFelt_43 : decode cX10_isFelt 43 = .ok (.goto 4, 3) := by decide +kernel
theorem dX10_isFelt_46 : decode cX10_isFelt 46 = .ok (.iconst 0, 1) := by decide +kernel
theorem dX10_isFelt_47 : decode cX10_isFelt 47 = .ok (.ior, 1) := by decide +kernel
theorem dX10_isFelt_48 : decode cX10_isFelt 48 = .ok (.putfield 280, 3) := by decide +kernel
theorem dX10_isFelt_51 : decode cX10_isFelt 51 = .ok (.iconst 0, 1) := by decide +kernel
theorem dX10_isFelt_52 : decode cX10_isFelt 52 = .ok (.istore 4, 2) := by decide +kernel
theorem dX10_isFelt_54 : decode cX10_isFelt 54 = .ok (.iload 4, 2) := by decide +kernel
theorem dX10_isFelt_56 : decode cX10_isFelt 56 = .ok (.aload_n 0, 1) := by decide +kernel
theorem dX10_isFelt_57 : decode cX10_isFelt 57 = .ok (.getfield 277, 3) := by decide +kernel
theorem dX10_isFelt_60 : decode cX10_isFelt 60 = .ok (.if_icmp .ge 71, 3) := by decide +kernel
theorem dX10_isFelt_63 : decode cX10_isFelt 63 = .ok (.iload_n 2, 1) := by decide +kernel
theorem dX10_isFelt_64 : decode cX10_isFelt 64 = .ok (.ifCond .eq 59, 3) := by decide +kernel
theorem dX10_isFelt_67 : decode cX10_isFelt 67 = .ok (.aload_n 0, 1) := by decide +kernel
theorem dX10_isFelt_68 : decode cX10_isFelt 68 = .ok (.getfield 77, 3) := by decide +kernel
theorem dX10_isFelt_71 : decode cX10_isFelt 71 = .ok (.iload 4, 2) := by decide +kernel
theorem dX10_isFelt_73 : decode cX10_isFelt 73 = .ok (.iaload, 1) := by decide +kernel
theorem dX10_isFelt_74 : decode cX10_isFelt 74 = .ok (.iload_n 3, 1) := by decide +kernel
theorem dX10_isFelt_75 : decode cX10_isFelt 75 = .ok (.if_icmp .ne 44, 3) := by decide +kernel
theorem dX10_isFelt_78 : decode cX10_isFelt 78 = .ok (.aload_n 0, 1) := by decide +kernel
theorem dX10_isFelt_79 : decode cX10_isFelt 79 = .ok (.getfield 43, 3) := by decide +kernel
theorem dX10_isFelt_82 : decode cX10_isFelt 82 = .ok (.aload_n 0, 1) := by decide +kernel
theorem dX10_isFelt_83 : decode cX10_isFelt 83 = .ok (.getfield 80, 3) := by decide +kernel
theorem dX10_isFelt_86 : decode cX10_isFelt 86 = .ok (.iload 4, 2) := by decide +kernel
theorem dX10_isFelt_88 : decode cX10_isFelt 88 = .ok (.iaload, 1) := by decide +kernel
theorem dX10_isFelt_89 : decode cX10_isFelt 89 = .ok (.iaload, 1) := by decide +kernel
theorem dX10_isFelt_90 : decode cX10_isFelt 90 = .ok (.bipush 8, 2) := by decide +kernel
theorem dX10_isFelt_92 : decode cX10_isFelt 92 = .ok (.if_icmp .ne 7, 3) := by decide +kernel
theorem dX10_isFelt_95 : decode cX10_isFelt 95 = .ok (.iconst 1, 1) := by decide +kernel
theorem dX10_isFelt_96 : decode cX10_isFelt 96 = .ok (.goto 4, 3) := by decide +kernel
theorem dX10_isFelt_99 : decode cX10_isFelt 99 = .ok (.iconst 0, 1) := by decide +kernel
theorem dX10_isFelt_100 : decode cX10_isFelt 100 = .ok (.aload_n 0, 1) := by decide +kernel
theorem dX10_isFelt_101 : decode cX10_isFelt 101 = .ok (.getfield 83, 3) := by decide +kernel
theorem dX10_isFelt_104 : decode cX10_isFelt 104 = .ok (.iload 4, 2) := by decide +kernel
theorem dX10_isFelt_106 : decode cX10_isFelt 106 = .ok (.iaload, 1) := by decide +kernel
theorem dX10_isFelt_107 : decode cX10_isFelt 107 = .ok (.iconst 1, 1) := by decide +kernel
theorem dX10_isFelt_108 : decode cX10_isFelt 108 = .ok (.if_icmp .ne 7, 3) := by decide +kernel
theorem dX10_isFelt_111 : decode cX10_isFelt 111 = .ok (.iconst 1, 1) := by decide +kernel
theorem dX10_isFelt_112 : decode cX10_isFelt 112 = .ok (.goto 4, 3) := by decide +kernel
theorem dX10_isFelt_115 : decode cX10_isFelt 115 = .ok (.iconst 0, 1) := by decide +kernel
theorem dX10_isFelt_116 : decode cX10_isFelt 116 = .ok (.if_icmp .ne 7, 3) := by decide +kernel
theorem dX10_isFelt_119 : decode cX10_isFelt 119 = .ok (.iconst 1, 1) := by decide +kernel
theorem dX10_isFelt_120 : decode cX10_isFelt 120 = .ok (.goto 4, 3) := by decide +kernel
theorem dX10_isFelt_123 : decode cX10_isFelt 123 = .ok (.iconst 0, 1) := by decide +kernel
theorem dX10_isFelt_124 : decode cX10_isFelt 124 = .ok (.istore_n 2, 1) := by decide +kernel
theorem dX10_isFelt_125 : decode cX10_isFelt 125 = .ok (.iinc 4 1, 3) := by decide +kernel
theorem dX10_isFelt_128 : decode cX10_isFelt 128 = .ok (.goto (-74), 3) := by decide +kernel
theorem dX10_isFelt_131 : decode cX10_isFelt 131 = .ok (.iinc 3 1, 3) := by decide +kernel
theorem dX10_isFelt_134 : decode cX10_isFelt 134 = .ok (.goto (-121), 3) := by decide +kernel
theorem dX10_isFelt_137 : decode cX10_isFelt 137 = .ok (.iload_n 2, 1) := by decide +kernel
theorem dX10_isFelt_138 : decode cX10_isFelt 138 = .ok (.ireturn, 1) := by decide +kernel
theorem dX10_whenOf_0 : decode cX10_whenOf 0 = .ok (.aload_n 0, 1) := by decide +kernel
theorem dX10_whenOf_1 : decode cX10_whenOf 1 = .ok (.invokevirtual 144, 3) := by decide +kernel
theorem dX10_whenOf_4 : decode cX10_whenOf 4 = .ok (.aload_n 0, 1) := by decide +kernel
theorem dX10_whenOf_5 : decode cX10_whenOf 5 = .ok (.invokevirtual 215, 3) := by decide +kernel
theorem dX10_whenOf_8 : decode cX10_whenOf 8 = .ok (.aload_n 0, 1) := by decide +kernel
theorem dX10_whenOf_9 : decode cX10_whenOf 9 = .ok (.dup, 1) := by decide +kernel
theorem dX10_whenOf_10 : decode cX10_whenOf 10 = .ok (.getfield 179, 3) := by decide +kernel
theorem dX10_whenOf_13 : decode cX10_whenOf 13 = .ok (.iconst 1, 1) := by decide +kernel
theorem dX10_whenOf_14 : decode cX10_whenOf 14 = .ok (.iadd, 1) := by decide +kernel
theorem dX10_whenOf_15 : decode cX10_whenOf 15 = .ok (.putfield 179, 3) := by decide +kernel
theorem dX10_whenOf_18 : decode cX10_whenOf 18 = .ok (.aload_n 0, 1) := by decide +kernel
theorem dX10_whenOf_19 : decode cX10_whenOf 19 = .ok (.getfield 34, 3) := by decide +kernel
theorem dX10_whenOf_22 : decode cX10_whenOf 22 = .ok (.aload_n 0, 1) := by decide +kernel
theorem dX10_whenOf_23 : decode cX10_whenOf 23 = .ok (.getfield 163, 3) := by decide +kernel
theorem dX10_whenOf_26 : decode cX10_whenOf 26 = .ok (.bipush 64, 2) := by decide +kernel
theorem dX10_whenOf_28 : decode cX10_whenOf 28 = .ok (.bipush 8, 2) := by decide +kernel
theorem dX10_whenOf_30 : decode cX10_whenOf 30 = .ok (.iload_n 1, 1) := by decide +kernel
theorem dX10_whenOf_31 : decode cX10_whenOf 31 = .ok (.imul, 1) := by decide +kernel
theorem dX10_whenOf_32 : decode cX10_whenOf 32 = .ok (.iadd, 1) := by decide +kernel
theorem dX10_whenOf_33 : decode cX10_whenOf 33 = .ok (.iload_n 2, 1) := by decide +kernel
theorem dX10_whenOf_34 : decode cX10_whenOf 34 = .ok (.iadd, 1) := by decide +kernel
theorem dX10_whenOf_35 : decode cX10_whenOf 35 = .ok (.iastore, 1) := by decide +kernel
theorem dX10_whenOf_36 : decode cX10_whenOf 36 = .ok (.iconst 0, 1) := by decide +kernel
theorem dX10_whenOf_37 : decode cX10_whenOf 37 = .ok (.istore_n 3, 1) := by decide +kernel
theorem dX10_whenOf_38 : decode cX10_whenOf 38 = .ok (.iconst 0, 1) := by decide +kernel
theorem dX10_whenOf_39 : decode cX10_whenOf 39 = .ok (.istore 4, 2) := by decide +kernel
theorem dX10_whenOf_41 : decode cX10_whenOf 41 = .ok (.iload 4, 2) := by decide +kernel
theorem dX10_whenOf_43 : decode cX10_whenOf 43 = .ok (.bipush 24, 2) := by decide +kernel
theorem dX10_whenOf_45 : decode cX10_whenOf 45 = .ok (.if_icmp .ge 39, 3) := by decide +kernel
theorem dX10_whenOf_48 : decode cX10_whenOf 48 = .ok (.aload_n 0, 1) := by decide +kernel
theorem dX10_whenOf_49 : decode cX10_whenOf 49 = .ok (.getfield 31, 3) := by decide +kernel
theorem dX10_whenOf_52 : decode cX10_whenOf 52 = .ok (.aload_n 0, 1) := by decide +kernel
theorem dX10_whenOf_53 : decode cX10_whenOf 53 = .ok (.getfield 163, 3) := by decide +kernel
theorem dX10_whenOf_56 : decode cX10_whenOf 56 = .ok (.iload 4, 2) := by decide +kernel
theorem dX10_whenOf_58 : decode cX10_whenOf 58 = .ok (.iastore, 1) := by decide +kernel
theorem dX10_whenOf_59 : decode cX10_whenOf 59 = .ok (.iload_n 3, 1) := by decide +kernel
theorem dX10_whenOf_60 : decode cX10_whenOf 60 = .ok (.aload_n 0, 1) := by decide +kernel
theorem dX10_whenOf_61 : decode cX10_whenOf 61 = .ok (.iload_n 2, 1) := by decide +kernel
theorem dX10_whenOf_62 : decode cX10_whenOf 62 = .ok (.invokevirtual 283, 3) := by decide +kernel
theorem dX10_whenOf_65 : decode cX10_whenOf 65 = .ok (.ifCond .eq 10, 3) := by decide +kernel
theorem dX10_whenOf_68 : decode cX10_whenOf 68 = .ok (.iconst 1, 1) := by decide +kernel
theorem dX10_whenOf_69 : decode cX10_whenOf 69 = .ok (.iload 4, 2) := by decide +kernel
theorem dX10_whenOf_71 : decode cX10_whenOf 71 = .ok (.ishl, 1) := by decide +kernel
theorem dX10_whenOf_72 : decode cX10_whenOf 72 = .ok (.goto 4, 3) := by decide +kernel
theorem dX10_whenOf_75 : decode cX10_whenOf 75 = .ok (.iconst 0, 1) := by decide +kernel
theorem dX10_whenOf_76 : decode cX10_whenOf 76 = .ok (.ior, 1) := by decide +kernel
theorem dX10_whenOf_77 : decode cX10_whenOf 77 = .ok (.istore_n 3, 1) := by decide +kernel
theorem dX10_whenOf_78 : decode cX10_whenOf 78 = .ok (.iinc 4 1, 3) := by decide +kernel
theorem dX10_whenOf_81 : decode cX10_whenOf 81 = .ok (.goto (-40), 3) := by decide +kernel
theorem dX10_whenOf_84 : decode cX10_whenOf 84 = .ok (.iload_n 3, 1) := by decide +kernel
theorem dX10_whenOf_85 : decode cX10_whenOf 85 = .ok (.ireturn, 1) := by decide +kernel
theorem dX10_when_0 : decode cX10_when 0 = .ok (.aload_n 0, 1) := by decide +kernel
theorem dX10_when_1 : decode cX10_when 1 = .ok (.iload_n 1, 1) := by decide +kernel
theorem dX10_when_2 : decode cX10_when 2 = .ok (.invokevirtual 153, 3) := by decide +kernel
theorem dX10_when_5 : decode cX10_when 5 = .ok (.ifCond .eq 20, 3) := by decide +kernel
theorem dX10_when_8 : decode cX10_when 8 = .ok (.aload_n 0, 1) := by decide +kernel
theorem dX10_when_9 : decode cX10_when 9 = .ok (.iload_n 2, 1) := by decide +kernel
theorem dX10_when_10 : decode cX10_when 10 = .ok (.invokevirtual 147, 3) := by decide +kernel
theorem dX10_when_13 : decode cX10_when 13 = .ok (.ifCond .eq 12, 3) := by decide +kernel
theorem dX10_when_16 : decode cX10_when 16 = .ok (.aload_n 0, 1) := by decide +kernel
theorem dX10_when_17 : decode cX10_when 17 = .ok (.iload_n 1, 1) := by decide +kernel
theorem dX10_when_18 : decode cX10_when 18 = .ok (.iload_n 2, 1) := by decide +kernel
theorem dX10_when_19 : decode cX10_when 19 = .ok (.invokevirtual 286, 3) := by decide +kernel
theorem dX10_when_22 : decode cX10_when 22 = .ok (.goto 5, 3) := by decide +kernel
theorem dX10_when_25 : decode cX10_when 25 = .ok (.bipush (-2), 2) := by decide +kernel
theorem dX10_when_27 : decode cX10_when 27 = .ok (.ireturn, 1) := by decide +kernel
theorem dX10_thiefOf_0 : decode cX10_thiefOf 0 = .ok (.aload_n 0, 1) := by decide +kernel
theorem dX10_thiefOf_1 : decode cX10_thiefOf 1 = .ok (.invokevirtual 144, 3) := by decide +kernel
theorem dX10_thiefOf_4 : decode cX10_thiefOf 4 = .ok (.iconst 0, 1) := by decide +kernel
theorem dX10_thiefOf_5 : decode cX10_thiefOf 5 = .ok (.istore_n 2, 1) := by decide +kernel
theorem dX10_thiefOf_6 : decode cX10_thiefOf 6 = .ok (.iconst 0, 1) := by decide +kernel
theorem dX10_thiefOf_7 : decode cX10_thiefOf 7 = .ok (.istore_n 3, 1) := by decide +kernel
theorem dX10_thiefOf_8 : decode cX10_thiefOf 8 = .ok (.iload_n 3, 1) := by decide +kernel
theorem dX10_thiefOf_9 : decode cX10_thiefOf 9 = .ok (.aload_n 0, 1) := by decide +kernel
theorem dX10_thiefOf_10 : decode cX10_thiefOf 10 = .ok (.getfield 128, 3) := by decide +kernel
theorem dX10_thiefOf_13 : decode cX10_thiefOf 13 = .ok (.if_icmp .ge 28, 3) := by decide +kernel
theorem dX10_thiefOf_16 : decode cX10_thiefOf 16 = .ok (.iload_n 2, 1) := by decide +kernel
theorem dX10_thiefOf_17 : decode cX10_thiefOf 17 = .ok (.aload_n 0, 1) := by decide +kernel
theorem dX10_thiefOf_18 : decode cX10_thiefOf 18 = .ok (.iload_n 3, 1) := by decide +kernel
theorem dX10_thiefOf_19 : decode cX10_thiefOf 19 = .ok (.iload_n 1, 1) := by decide +kernel
theorem dX10_thiefOf_20 : decode cX10_thiefOf 20 = .ok (.invokevirtual 286, 3) := by decide +kernel
theorem dX10_thiefOf_23 : decode cX10_thiefOf 23 = .ok (.ifCond .eq 9, 3) := by decide +kernel
theorem dX10_thiefOf_26 : decode cX10_thiefOf 26 = .ok (.iconst 1, 1) := by decide +kernel
theorem dX10_thiefOf_27 : decode cX10_thiefOf 27 = .ok (.iload_n 3, 1) := by decide +kernel
theorem dX10_thiefOf_28 : decode cX10_thiefOf 28 = .ok (.ishl, 1) := by decide +kernel
theorem dX10_thiefOf_29 : decode cX10_thiefOf 29 = .ok (.goto 4, 3) := by decide +kernel
theorem dX10_thiefOf_32 : decode cX10_thiefOf 32 = .ok (.iconst 0, 1) := by decide +kernel
theorem dX10_thiefOf_33 : decode cX10_thiefOf 33 = .ok (.ior, 1) := by decide +kernel
theorem dX10_thiefOf_34 : decode cX10_thiefOf 34 = .ok (.istore_n 2, 1) := by decide +kernel
theorem dX10_thiefOf_35 : decode cX10_thiefOf 35 = .ok (.iinc 3 1, 3) := by decide +kernel
theorem dX10_thiefOf_38 : decode cX10_thiefOf 38 = .ok (.goto (-30), 3) := by decide +kernel
theorem dX10_thiefOf_41 : decode cX10_thiefOf 41 = .ok (.iload_n 2, 1) := by decide +kernel
theorem dX10_thiefOf_42 : decode cX10_thiefOf 42 = .ok (.ireturn, 1) := by decide +kernel
theorem dX10_thief_0 : decode cX10_thief 0 = .ok (.aload_n 0, 1) := by decide +kernel
theorem dX10_thief_1 : decode cX10_thief 1 = .ok (.iload_n 1, 1) := by decide +kernel
theorem dX10_thief_2 : decode cX10_thief 2 = .ok (.invokevirtual 147, 3) := by decide +kernel
theorem dX10_thief_5 : decode cX10_thief 5 = .ok (.ifCond .eq 11, 3) := by decide +kernel
theorem dX10_thief_8 : decode cX10_thief 8 = .ok (.aload_n 0, 1) := by decide +kernel
theorem dX10_thief_9 : decode cX10_thief 9 = .ok (.iload_n 1, 1) := by decide +kernel
theorem dX10_thief_10 : decode cX10_thief 10 = .ok (.invokevirtual 289, 3) := by decide +kernel
theorem dX10_thief_13 : decode cX10_thief 13 = .ok (.goto 5, 3) := by decide +kernel
theorem dX10_thief_16 : decode cX10_thief 16 = .ok (.bipush (-2), 2) := by decide +kernel
theorem dX10_thief_18 : decode cX10_thief 18 = .ok (.ireturn, 1) := by decide +kernel
theorem dX10_feelOf_0 : decode cX10_feelOf 0 = .ok (.iconst 0, 1) := by decide +kernel
theorem dX10_feelOf_1 : decode cX10_feelOf 1 = .ok (.istore_n 3, 1) := by decide +kernel
theorem dX10_feelOf_2 : decode cX10_feelOf 2 = .ok (.aload_n 0, 1) := by decide +kernel
theorem dX10_feelOf_3 : decode cX10_feelOf 3 = .ok (.invokevirtual 144, 3) := by decide +kernel
theorem dX10_feelOf_6 : decode cX10_feelOf 6 = .ok (.aload_n 0, 1) := by decide +kernel
theorem dX10_feelOf_7 : decode cX10_feelOf 7 = .ok (.invokevirtual 215, 3) := by decide +kernel
theorem dX10_feelOf_10 : decode cX10_feelOf 10 = .ok (.aload_n 0, 1) := by decide +kernel
theorem dX10_feelOf_11 : decode cX10_feelOf 11 = .ok (.dup, 1) := by decide +kernel
theorem dX10_feelOf_12 : decode cX10_feelOf 12 = .ok (.getfield 179, 3) := by decide +kernel
theorem dX10_feelOf_15 : decode cX10_feelOf 15 = .ok (.iconst 1, 1) := by decide +kernel
theorem dX10_feelOf_16 : decode cX10_feelOf 16 = .ok (.iadd, 1) := by decide +kernel
theorem dX10_feelOf_17 : decode cX10_feelOf 17 = .ok (.putfield 179, 3) := by decide +kernel
theorem dX10_feelOf_20 : decode cX10_feelOf 20 = .ok (.aload_n 0, 1) := by decide +kernel
theorem dX10_feelOf_21 : decode cX10_feelOf 21 = .ok (.getfield 34, 3) := by decide +kernel
theorem dX10_feelOf_24 : decode cX10_feelOf 24 = .ok (.aload_n 0, 1) := by decide +kernel
theorem dX10_feelOf_25 : decode cX10_feelOf 25 = .ok (.getfield 163, 3) := by decide +kernel
theorem dX10_feelOf_28 : decode cX10_feelOf 28 = .ok (.bipush 64, 2) := by decide +kernel
theorem dX10_feelOf_30 : decode cX10_feelOf 30 = .ok (.bipush 8, 2) := by decide +kernel
theorem dX10_feelOf_32 : decode cX10_feelOf 32 = .ok (.iload_n 1, 1) := by decide +kernel
theorem dX10_feelOf_33 : decode cX10_feelOf 33 = .ok (.imul, 1) := by decide +kernel
theorem dX10_feelOf_34 : decode cX10_feelOf 34 = .ok (.iadd, 1) := by decide +kernel
theorem dX10_feelOf_35 : decode cX10_feelOf 35 = .ok (.iload_n 2, 1) := by decide +kernel
theorem dX10_feelOf_36 : decode cX10_feelOf 36 = .ok (.iadd, 1) := by decide +kernel
theorem dX10_feelOf_37 : decode cX10_feelOf 37 = .ok (.iastore, 1) := by decide +kernel
theorem dX10_feelOf_38 : decode cX10_feelOf 38 = .ok (.iconst 0, 1) := by decide +kernel
theorem dX10_feelOf_39 : decode cX10_feelOf 39 = .ok (.istore 4, 2) := by decide +kernel
theorem dX10_feelOf_41 : decode cX10_feelOf 41 = .ok (.iload 4, 2) := by decide +kernel
theorem dX10_feelOf_43 : decode cX10_feelOf 43 = .ok (.bipush 24, 2) := by decide +kernel
theorem dX10_feelOf_45 : decode cX10_feelOf 45 = .ok (.if_icmp .ge 17, 3) := by decide +kernel
theorem dX10_feelOf_48 : decode cX10_feelOf 48 = .ok (.aload_n 0, 1) := by decide +kernel
theorem dX10_feelOf_49 : decode cX10_feelOf 49 = .ok (.getfield 86, 3) := by decide +kernel
theorem dX10_feelOf_52 : decode cX10_feelOf 52 = .ok (.iload 4, 2) := by decide +kernel
theorem dX10_feelOf_54 : decode cX10_feelOf 54 = .ok (.iconst 0, 1) := by decide +kernel
theorem dX10_feelOf_55 : decode cX10_feelOf 55 = .ok (.iastore, 1) := by decide +kernel
theorem dX10_feelOf_56 : decode cX10_feelOf 56 = .ok (.iinc 4 1, 3) := by decide +kernel
theorem dX10_feelOf_59 : decode cX10_feelOf 59 = .ok (.goto (-18), 3) := by decide +kernel
theorem dX10_feelOf_62 : decode cX10_feelOf 62 = .ok (.iconst 0, 1) := by decide +kernel
theorem dX10_feelOf_63 : decode cX10_feelOf 63 = .ok (.istore 4, 2) := by decide +kernel
theorem dX10_feelOf_65 : decode cX10_feelOf 65 = .ok (.iload 4, 2) := by decide +kernel
theorem dX10_feelOf_67 : decode cX10_feelOf 67 = .ok (.bipush 24, 2) := by decide +kernel
theorem dX10_feelOf_69 : decode cX10_feelOf 69 = .ok (.if_icmp .ge 66, 3) := by decide +kernel
theorem dX10_feelOf_72 : decode cX10_feelOf 72 = .ok (.aload_n 0, 1) := by decide +kernel
theorem dX10_feelOf_73 : decode cX10_feelOf 73 = .ok (.getfield 31, 3) := by decide +kernel
theorem dX10_feelOf_76 : decode cX10_feelOf 76 = .ok (.aload_n 0, 1) := by decide +kernel
theorem dX10_feelOf_77 : decode cX10_feelOf 77 = .ok (.getfield 163, 3) := by decide +kernel
theorem dX10_feelOf_80 : decode cX10_feelOf 80 = .ok (.iload 4, 2) := by decide +kernel
theorem dX10_feelOf_82 : decode cX10_feelOf 82 = .ok (.iastore, 1) := by decide +kernel
theorem dX10_feelOf_83 : decode cX10_feelOf 83 = .ok (.aload_n 0, 1) := by decide +kernel
theorem dX10_feelOf_84 : decode cX10_feelOf 84 = .ok (.iload_n 2, 1) := by decide +kernel
theorem dX10_feelOf_85 : decode cX10_feelOf 85 = .ok (.invokevirtual 283, 3) := by decide +kernel
theorem dX10_feelOf_88 : decode cX10_feelOf 88 = .ok (.ifCond .eq 41, 3) := by decide +kernel
theorem dX10_feelOf_91 : decode cX10_feelOf 91 = .ok (.iinc 3 1, 3) := by decide +kernel
theorem dX10_feelOf_94 : decode cX10_feelOf 94 = .ok (.iconst 0, 1) := by decide +kernel
theorem dX10_feelOf_95 : decode cX10_feelOf 95 = .ok (.istore 5, 2) := by decide +kernel
theorem dX10_feelOf_97 : decode cX10_feelOf 97 = .ok (.iload 5, 2) := by decide +kernel
theorem dX10_feelOf_99 : decode cX10_feelOf 99 = .ok (.bipush 24, 2) := by decide +kernel
theorem dX10_feelOf_101 : decode cX10_feelOf 101 = .ok (.if_icmp .ge 28, 3) := by decide +kernel
theorem dX10_feelOf_104 : decode cX10_feelOf 104 = .ok (.aload_n 0, 1) := by decide +kernel
theorem dX10_feelOf_105 : decode cX10_feelOf 105 = .ok (.getfield 86, 3) := by decide +kernel
theorem dX10_feelOf_108 : decode cX10_feelOf 108 = .ok (.iload 5, 2) := by decide +kernel
theorem dX10_feelOf_110 : decode cX10_feelOf 110 = .ok (.dup2, 1) := by decide +kernel
theorem dX10_feelOf_111 : decode cX10_feelOf 111 = .ok (.iaload, 1) := by decide +kernel
theorem dX10_feelOf_112 : decode cX10_feelOf 112 = .ok (.aload_n 0, 1) := by decide +kernel
theorem dX10_feelOf_113 : decode cX10_feelOf 113 = .ok (.getfield 280, 3) := by decide +kernel
theorem dX10_feelOf_116 : decode cX10_feelOf 116 = .ok (.iload 5, 2) := by decide +kernel
theorem dX10_feelOf_118 : decode cX10_feelOf 118 = .ok (.ishr, 1) := by decide +kernel
theorem dX10_feelOf_119 : decode cX10_feelOf 119 = .ok (.iconst 1, 1) := by decide +kernel
theorem dX10_feelOf_120 : decode cX10_feelOf 120 = .ok (.iand, 1) := by decide +kernel
theorem dX10_feelOf_121 : decode cX10_feelOf 121 = .ok (.iadd, 1) := by decide +kernel
theorem dX10_feelOf_122 : decode cX10_feelOf 122 = .ok (.iastore, 1) := by decide +kernel
theorem dX10_feelOf_123 : decode cX10_feelOf 123 = .ok (.iinc 5 1, 3) := by decide +kernel
theorem dX10_feelOf_126 : decode cX10_feelOf 126 = .ok (.goto (-29), 3) := by decide +kernel
theorem dX10_feelOf_129 : decode cX10_feelOf 129 = .ok (.iinc 4 1, 3) := by decide +kernel
theorem dX10_feelOf_132 : decode cX10_feelOf 132 = .ok (.goto (-67), 3) := by decide +kernel
theorem dX10_feelOf_135 : decode cX10_feelOf 135 = .ok (.iconst 0, 1) := by decide +kernel
theorem dX10_feelOf_136 : decode cX10_feelOf 136 = .ok (.istore 4, 2) := by decide +kernel
theorem dX10_feelOf_138 : decode cX10_feelOf 138 = .ok (.iload_n 3, 1) := by decide +kernel
theorem dX10_feelOf_139 : decode cX10_feelOf 139 = .ok (.istore 5, 2) := by decide +kernel
theorem dX10_feelOf_141 : decode cX10_feelOf 141 = .ok (.iconst 0, 1) := by decide +kernel
theorem dX10_feelOf_142 : decode cX10_feelOf 142 = .ok (.istore 6, 2) := by decide +kernel
theorem dX10_feelOf_144 : decode cX10_feelOf 144 = .ok (.iload 6, 2) := by decide +kernel
theorem dX10_feelOf_146 : decode cX10_feelOf 146 = .ok (.bipush 24, 2) := by decide +kernel
theorem dX10_feelOf_148 : decode cX10_feelOf 148 = .ok (.if_icmp .ge 81, 3) := by decide +kernel
theorem dX10_feelOf_151 : decode cX10_feelOf 151 = .ok (.aload_n 0, 1) := by decide +kernel
theorem dX10_feelOf_152 : decode cX10_feelOf 152 = .ok (.getfield 86, 3) := by decide +kernel
theorem dX10_feelOf_155 : decode cX10_feelOf 155 = .ok (.iload 6, 2) := by decide +kernel
theorem dX10_feelOf_157 : decode cX10_feelOf 157 = .ok (.iaload, 1) := by decide +kernel
theorem dX10_feelOf_158 : decode cX10_feelOf 158 = .ok (.iload_n 3, 1) := by decide +kernel
theorem dX10_feelOf_159 : decode cX10_feelOf 159 = .ok (.aload_n 0, 1) := by decide +kernel
theorem dX10_feelOf_160 : decode cX10_feelOf 160 = .ok (.getfield 86, 3) := by decide +kernel
theorem dX10_feelOf_163 : decode cX10_feelOf 163 = .ok (.iload 6, 2) := by decide +kernel
theorem dX10_feelOf_165 : decode cX10_feelOf 165 = .ok (.iaload, 1) := by decide +kernel
theorem dX10_feelOf_166 : decode cX10_feelOf 166 = .ok (.isub, 1) := by decide +kernel
theorem dX10_feelOf_167 : decode cX10_feelOf 167 = .ok (.if_icmp .le 13, 3) := by decide +kernel
theorem dX10_feelOf_170 : decode cX10_feelOf 170 = .ok (.aload_n 0, 1) := by decide +kernel
theorem dX10_feelOf_171 : decode cX10_feelOf 171 = .ok (.getfield 86, 3) := by decide +kernel
theorem dX10_feelOf_174 : decode cX10_feelOf 174 = .ok (.iload 6, 2) := by decide +kernel
theorem dX10_feelOf_176 : decode cX10_feelOf 176 = .ok (.iaload, 1) := by decide +kernel
theorem dX10_feelOf_177 : decode cX10_feelOf 177 = .ok (.goto 12, 3) := by decide +kernel
theorem dX10_feelOf_180 : decode cX10_feelOf 180 = .ok (.iload_n 3, 1) := by decide +kernel
theorem dX10_feelOf_181 : decode cX10_feelOf 181 = .ok (.aload_n 0, 1) := by decide +kernel
theorem dX10_feelOf_182 : decode cX10_feelOf 182 = .ok (.getfield 86, 3) := by decide +kernel
theorem dX10_feelOf_185 : decode cX10_feelOf 185 = .ok (.iload 6, 2) := by decide +kernel
theorem dX10_feelOf_187 : decode cX10_feelOf 187 = .ok (.iaload, 1) := by decide +kernel
theorem dX10_feelOf_188 : decode cX10_feelOf 188 = .ok (.isub, 1) := by decide +kernel
theorem dX10_feelOf_189 : decode cX10_feelOf 189 = .ok (.istore 7, 2) := by decide +kernel
theorem dX10_feelOf_191 : decode cX10_feelOf 191 = .ok (.iload 7, 2) := by decide +kernel
theorem dX10_feelOf_193 : decode cX10_feelOf 193 = .ok (.iload 5, 2) := by decide +kernel
theorem dX10_feelOf_195 : decode cX10_feelOf 195 = .ok (.if_icmp .ge 8, 3) := by decide +kernel
theorem dX10_feelOf_198 : decode cX10_feelOf 198 = .ok (.iload 6, 2) := by decide +kernel
theorem dX10_feelOf_200 : decode cX10_feelOf 200 = .ok (.goto 5, 3) := by decide +kernel
theorem dX10_feelOf_203 : decode cX10_feelOf 203 = .ok (.iload 4, 2) := by decide +kernel
theorem dX10_feelOf_205 : decode cX10_feelOf 205 = .ok (.istore 4, 2) := by decide +kernel
theorem dX10_feelOf_207 : decode cX10_feelOf 207 = .ok (.iload 7, 2) := by decide +kernel
theorem dX10_feelOf_209 : decode cX10_feelOf 209 = .ok (.iload 5, 2) := by decide +kernel
theorem dX10_feelOf_211 : decode cX10_feelOf 211 = .ok (.if_icmp .ge 8, 3) := by decide +kernel
theorem dX10_feelOf_214 : decode cX10_feelOf 214 = .ok (.iload 7, 2) := by decide +kernel
theorem dX10_feelOf_216 : decode cX10_feelOf 216 = .ok (.goto 5, 3) := by decide +kernel
theorem dX10_feelOf_219 : decode cX10_feelOf 219 = .ok (.iload 5, 2) := by decide +kernel
theorem dX10_feelOf_221 : decode cX10_feelOf 221 = .ok (.istore 5, 2) := by decide +kernel
theorem dX10_feelOf_223 : decode cX10_feelOf 223 = .ok (.iinc 6 1, 3) := by decide +kernel
theorem dX10_feelOf_226 : decode cX10_feelOf 226 = .ok (.goto (-82), 3) := by decide +kernel
theorem dX10_feelOf_229 : decode cX10_feelOf 229 = .ok (.iload 4, 2) := by decide +kernel
theorem dX10_feelOf_231 : decode cX10_feelOf 231 = .ok (.ireturn, 1) := by decide +kernel
theorem dX10_feel_0 : decode cX10_feel 0 = .ok (.aload_n 0, 1) := by decide +kernel
theorem dX10_feel_1 : decode cX10_feel 1 = .ok (.iload_n 1, 1) := by decide +kernel
theorem dX10_feel_2 : decode cX10_feel 2 = .ok (.invokevirtual 153, 3) := by decide +kernel
theorem dX10_feel_5 : decode cX10_feel 5 = .ok (.ifCond .eq 20, 3) := by decide +kernel
theorem dX10_feel_8 : decode cX10_feel 8 = .ok (.aload_n 0, 1) := by decide +kernel
theorem dX10_feel_9 : decode cX10_feel 9 = .ok (.iload_n 2, 1) := by decide +kernel
theorem dX10_feel_10 : decode cX10_feel 10 = .ok (.invokevirtual 147, 3) := by decide +kernel
theorem dX10_feel_13 : decode cX10_feel 13 = .ok (.ifCond .eq 12, 3) := by decide +kernel
theorem dX10_feel_16 : decode cX10_feel 16 = .ok (.aload_n 0, 1) := by decide +kernel
theorem dX10_feel_17 : decode cX10_feel 17 = .ok (.iload_n 1, 1) := by decide +kernel
theorem dX10_feel_18 : decode cX10_feel 18 = .ok (.iload_n 2, 1) := by decide +kernel
theorem dX10_feel_19 : decode cX10_feel 19 = .ok (.invokevirtual 292, 3) := by decide +kernel
theorem dX10_feel_22 : decode cX10_feel 22 = .ok (.goto 5, 3) := by decide +kernel
theorem dX10_feel_25 : decode cX10_feel 25 = .ok (.bipush (-2), 2) := by decide +kernel
theorem dX10_feel_27 : decode cX10_feel 27 = .ok (.ireturn, 1) := by decide +kernel
theorem dX10_jumpsOf_0 : decode cX10_jumpsOf 0 = .ok (.aload_n 0, 1) := by decide +kernel
theorem dX10_jumpsOf_1 : decode cX10_jumpsOf 1 = .ok (.invokevirtual 144, 3) := by decide +kernel
theorem dX10_jumpsOf_4 : decode cX10_jumpsOf 4 = .ok (.aload_n 0, 1) := by decide +kernel
theorem dX10_jumpsOf_5 : decode cX10_jumpsOf 5 = .ok (.invokevirtual 215, 3) := by decide +kernel
theorem dX10_jumpsOf_8 : decode cX10_jumpsOf 8 = .ok (.aload_n 0, 1) := by decide +kernel
theorem dX10_jumpsOf_9 : decode cX10_jumpsOf 9 = .ok (.invokevirtual 209, 3) := by decide +kernel
theorem dX10_jumpsOf_12 : decode cX10_jumpsOf 12 = .ok (.lconst 1, 1) := by decide +kernel
theorem dX10_jumpsOf_13 : decode cX10_jumpsOf 13 = .ok (.lstore 5, 2) := by decide +kernel
theorem dX10_jumpsOf_15 : decode cX10_jumpsOf 15 = .ok (.lconst 1, 1) := by decide +kernel
theorem dX10_jumpsOf_16 : decode cX10_jumpsOf 16 = .ok (.lstore 7, 2) := by decide +kernel
theorem dX10_jumpsOf_18 : decode cX10_jumpsOf 18 = .ok (.iconst 0, 1) := by decide +kernel
theorem dX10_jumpsOf_19 : decode cX10_jumpsOf 19 = .ok (.istore 9, 2) := by decide +kernel
theorem dX10_jumpsOf_21 : decode cX10_jumpsOf 21 = .ok (.iload 9, 2) := by decide +kernel
theorem dX10_jumpsOf_23 : decode cX10_jumpsOf 23 = .ok (.iload_n 3, 1) := by decide +kernel
theorem dX10_jumpsOf_24 : decode cX10_jumpsOf 24 = .ok (.if_icmp .gt 54, 3) := by decide +kernel
theorem dX10_jumpsOf_27 : decode cX10_jumpsOf 27 = .ok (.aload_n 0, 1) := by decide +kernel
theorem dX10_jumpsOf_28 : decode cX10_jumpsOf 28 = .ok (.iload 9, 2) := by decide +kernel
theorem dX10_jumpsOf_30 : decode cX10_jumpsOf 30 = .ok (.invokevirtual 212, 3) := by decide +kernel
theorem dX10_jumpsOf_33 : decode cX10_jumpsOf 33 = .ok (.aload_n 0, 1) := by decide +kernel
theorem dX10_jumpsOf_34 : decode cX10_jumpsOf 34 = .ok (.getfield 22, 3) := by decide +kernel
theorem dX10_jumpsOf_37 : decode cX10_jumpsOf 37 = .ok (.iload_n 2, 1) := by decide +kernel
theorem dX10_jumpsOf_38 : decode cX10_jumpsOf 38 = .ok (.iaload, 1) := by decide +kernel
theorem dX10_jumpsOf_39 : decode cX10_jumpsOf 39 = .ok (.iconst 2, 1) := by decide +kernel
theorem dX10_jumpsOf_40 : decode cX10_jumpsOf 40 = .ok (.if_icmp .ne 32, 3) := by decide +kernel
theorem dX10_jumpsOf_43 : decode cX10_jumpsOf 43 = .ok (.aload_n 0, 1) := by decide +kernel
theorem dX10_jumpsOf_44 : decode cX10_jumpsOf 44 = .ok (.getfield 43, 3) := by decide +kernel
theorem dX10_jumpsOf_47 : decode cX10_jumpsOf 47 = .ok (.iload_n 2, 1) := by decide +kernel
theorem dX10_jumpsOf_48 : decode cX10_jumpsOf 48 = .ok (.iaload, 1) := by decide +kernel
theorem dX10_jumpsOf_49 : decode cX10_jumpsOf 49 = .ok (.bipush 8, 2) := by decide +kernel
theorem dX10_jumpsOf_51 : decode cX10_jumpsOf 51 = .ok (.if_icmp .ne 21, 3) := by decide +kernel
theorem dX10_jumpsOf_54 : decode cX10_jumpsOf 54 = .ok (.lload 5, 2) := by decide +kernel
theorem dX10_jumpsOf_56 : decode cX10_jumpsOf 56 = .ok (.bipush 16, 2) := by decide +kernel
theorem dX10_jumpsOf_58 : decode cX10_jumpsOf 58 = .ok (.iload_n 1, 1) := by decide +kernel
theorem dX10_jumpsOf_59 : decode cX10_jumpsOf 59 = .ok (.isub, 1) := by decide +kernel
theorem dX10_jumpsOf_60 : decode cX10_jumpsOf 60 = .ok (.i2l, 1) := by decide +kernel
theorem dX10_jumpsOf_61 : decode cX10_jumpsOf 61 = .ok (.lmul, 1) := by decide +kernel
theorem dX10_jumpsOf_62 : decode cX10_jumpsOf 62 = .ok (.lstore 5, 2) := by decide +kernel
theorem dX10_jumpsOf_64 : decode cX10_jumpsOf 64 = .ok (.lload 7, 2) := by decide +kernel
theorem dX10_jumpsOf_66 : decode cX10_jumpsOf 66 = .ok (.ldc2_w 295, 3) := by decide +kernel
theorem dX10_jumpsOf_69 : decode cX10_jumpsOf 69 = .ok (.lmul, 1) := by decide +kernel
theorem dX10_jumpsOf_70 : decode cX10_jumpsOf 70 = .ok (.lstore 7, 2) := by decide +kernel
theorem dX10_jumpsOf_72 : decode cX10_jumpsOf 72 = .ok (.iinc 9 1, 3) := by decide +kernel
theorem dX10_jumpsOf_75 : decode cX10_jumpsOf 75 = .ok (.goto (-54), 3) := by decide +kernel
theorem dX10_jumpsOf_78 : decode cX10_jumpsOf 78 = .ok (.lload 5, 2) := by decide +kernel
theorem dX10_jumpsOf_80 : decode cX10_jumpsOf 80 = .ok (.lload 7, 2) := by decide +kernel
theorem dX10_jumpsOf_82 : decode cX10_jumpsOf 82 = .ok (.iload 4, 2) := by decide +kernel
theorem dX10_jumpsOf_84 : decode cX10_jumpsOf 84 = .ok (.invokestatic 297, 3) := by decide +kernel
theorem dX10_jumpsOf_87 : decode cX10_jumpsOf 87 = .ok (.lreturn, 1) := by decide +kernel
theorem dX10_jumps_0 : decode cX10_jumps 0 = .ok (.iload_n 1, 1) := by decide +kernel
theorem dX10_jumps_1 : decode cX10_jumps 1 = .ok (.iconst 0, 1) := by decide +kernel
theorem dX10_jumps_2 : decode cX10_jumps 2 = .ok (.bipush 16, 2) := by decide +kernel
theorem dX10_jumps_4 : decode cX10_jumps 4 = .ok (.invokestatic 110, 3) := by decide +kernel
theorem dX10_jumps_7 : decode cX10_jumps 7 = .ok (.ifCond .eq 43, 3) := by decide +kernel
theorem dX10_jumps_10 : decode cX10_jumps 10 = .ok (.aload_n 0, 1) := by decide +kernel
theorem dX10_jumps_11 : decode cX10_jumps 11 = .ok (.iload_n 2, 1) := by decide +kernel
theorem dX10_jumps_12 : decode cX10_jumps 12 = .ok (.invokevirtual 147, 3) := by decide +kernel
theorem dX10_jumps_15 : decode cX10_jumps 15 = .ok (.ifCond .eq 35, 3) := by decide +kernel
theorem dX10_jumps_18 : decode cX10_jumps 18 = .ok (.iload_n 3, 1) := by decide +kernel
theorem dX10_jumps_19 : decode cX10_jumps 19 = .ok (.iconst 0, 1) := by decide +kernel
theorem dX10_jumps_20 : decode cX10_jumps 20 = .ok (.bipush 12, 2) := by decide +kernel
theorem dX10_jumps_22 : decode cX10_jumps 22 = .ok (.invokestatic 110, 3) := by decide +kernel
theorem dX10_jumps_25 : decode cX10_jumps 25 = .ok (.ifCond .eq 25, 3) := by decide +kernel
theorem dX10_jumps_28 : decode cX10_jumps 28 = .ok (.iload 4, 2) := by decide +kernel
theorem dX10_jumps_30 : decode cX10_jumps 30 = .ok (.iconst 0, 1) := by decide +kernel
theorem dX10_jumps_31 : decode cX10_jumps 31 = .ok (.iconst 1, 1) := by decide +kernel
theorem dX10_jumps_32 : decode cX10_jumps 32 = .ok (.invokestatic 110, 3) := by decide +kernel
theorem dX10_jumps_35 : decode cX10_jumps 35 = .ok (.ifCond .eq 15, 3) := by decide +kernel
theorem dX10_jumps_38 : decode cX10_jumps 38 = .ok (.aload_n 0, 1) := by decide +kernel
theorem dX10_jumps_39 : decode cX10_jumps 39 = .ok (.iload_n 1, 1) := by decide +kernel
theorem dX10_jumps_40 : decode cX10_jumps 40 = .ok (.iload_n 2, 1) := by decide +kernel
theorem dX10_jumps_41 : decode cX10_jumps 41 = .ok (.iload_n 3, 1) := by decide +kernel
theorem dX10_jumps_42 : decode cX10_jumps 42 = .ok (.iload 4, 2) := by decide +kernel
theorem dX10_jumps_44 : decode cX10_jumps 44 = .ok (.invokevirtual 301, 3) := by decide +kernel
theorem dX10_jumps_47 : decode cX10_jumps 47 = .ok (.goto 8, 3) := by decide +kernel
theorem dX10_jumps_50 : decode cX10_jumps 50 = .ok (.bipush (-2), 2) := by decide +kernel
theorem dX10_jumps_52 : decode cX10_jumps 52 = .ok (.invokestatic 305, 3) := by decide +kernel
theorem dX10_jumps_55 : decode cX10_jumps 55 = .ok (.lreturn, 1) := by decide +kernel
theorem dX10_dayOf_0 : decode cX10_dayOf 0 = .ok (.aload_n 0, 1) := by decide +kernel
theorem dX10_dayOf_1 : decode cX10_dayOf 1 = .ok (.invokevirtual 144, 3) := by decide +kernel
theorem dX10_dayOf_4 : decode cX10_dayOf 4 = .ok (.aload_n 0, 1) := by decide +kernel
theorem dX10_dayOf_5 : decode cX10_dayOf 5 = .ok (.invokevirtual 215, 3) := by decide +kernel
theorem dX10_dayOf_8 : decode cX10_dayOf 8 = .ok (.iload_n 1, 1) := by decide +kernel
theorem dX10_dayOf_9 : decode cX10_dayOf 9 = .ok (.istore 4, 2) := by decide +kernel
theorem dX10_dayOf_11 : decode cX10_dayOf 11 = .ok (.iconst 0, 1) := by decide +kernel
theorem dX10_dayOf_12 : decode cX10_dayOf 12 = .ok (.istore 5, 2) := by decide +kernel
theorem dX10_dayOf_14 : decode cX10_dayOf 14 = .ok (.iload 5, 2) := by decide +kernel
theorem dX10_dayOf_16 : decode cX10_dayOf 16 = .ok (.iload_n 2, 1) := by decide +kernel
theorem dX10_dayOf_17 : decode cX10_dayOf 17 = .ok (.if_icmp .gt 132, 3) := by decide +kernel
theorem dX10_dayOf_20 : decode cX10_dayOf 20 = .ok (.aload_n 0, 1) := by decide +kernel
theorem dX10_dayOf_21 : decode cX10_dayOf 21 = .ok (.getfield 128, 3) := by decide +kernel
theorem dX10_dayOf_24 : decode cX10_dayOf 24 = .ok (.ifCond .le 125, 3) := by decide +kernel
theorem dX10_dayOf_27 : decode cX10_dayOf 27 = .ok (.aload_n 0, 1) := by decide +kernel
theorem dX10_dayOf_28 : decode cX10_dayOf 28 = .ok (.getfield 125, 3) := by decide +kernel
theorem dX10_dayOf_31 : decode cX10_dayOf 31 = .ok (.ifCond .le 118, 3) := by decide +kernel
theorem dX10_dayOf_34 : decode cX10_dayOf 34 = .ok (.ldc_w 309, 3) := by decide +kernel
theorem dX10_dayOf_37 : decode cX10_dayOf 37 = .ok (.iload 4, 2) := by decide +kernel
theorem dX10_dayOf_39 : decode cX10_dayOf 39 = .ok (.imul, 1) := by decide +kernel
theorem dX10_dayOf_40 : decode cX10_dayOf 40 = .ok (.sipush 12345, 3) := by decide +kernel
theorem dX10_dayOf_43 : decode cX10_dayOf 43 = .ok (.iadd, 1) := by decide +kernel
theorem dX10_dayOf_44 : decode cX10_dayOf 44 = .ok (.istore 4, 2) := by decide +kernel
theorem dX10_dayOf_46 : decode cX10_dayOf 46 = .ok (.iload 4, 2) := by decide +kernel
theorem dX10_dayOf_48 : decode cX10_dayOf 48 = .ok (.bipush 16, 2) := by decide +kernel
theorem dX10_dayOf_50 : decode cX10_dayOf 50 = .ok (.iushr, 1) := by decide +kernel
theorem dX10_dayOf_51 : decode cX10_dayOf 51 = .ok (.aload_n 0, 1) := by decide +kernel
theorem dX10_dayOf_52 : decode cX10_dayOf 52 = .ok (.getfield 128, 3) := by decide +kernel
theorem dX10_dayOf_55 : decode cX10_dayOf 55 = .ok (.irem, 1) := by decide +kernel
theorem dX10_dayOf_56 : decode cX10_dayOf 56 = .ok (.istore 6, 2) := by decide +kernel
theorem dX10_dayOf_58 : decode cX10_dayOf 58 = .ok (.ldc_w 309, 3) := by decide +kernel
theorem dX10_dayOf_61 : decode cX10_dayOf 61 = .ok (.iload 4, 2) := by decide +kernel
theorem dX10_dayOf_63 : decode cX10_dayOf 63 = .ok (.imul, 1) := by decide +kernel
theorem dX10_dayOf_64 : decode cX10_dayOf 64 = .ok (.sipush 12345, 3) := by decide +kernel
theorem dX10_dayOf_67 : decode cX10_dayOf 67 = .ok (.iadd, 1) := by decide +kernel
theorem dX10_dayOf_68 : decode cX10_dayOf 68 = .ok (.istore 4, 2) := by decide +kernel
theorem dX10_dayOf_70 : decode cX10_dayOf 70 = .ok (.iload 4, 2) := by decide +kernel
theorem dX10_dayOf_72 : decode cX10_dayOf 72 = .ok (.bipush 16, 2) := by decide +kernel
theorem dX10_dayOf_74 : decode cX10_dayOf 74 = .ok (.iushr, 1) := by decide +kernel
theorem dX10_dayOf_75 : decode cX10_dayOf 75 = .ok (.aload_n 0, 1) := by decide +kernel
theorem dX10_dayOf_76 : decode cX10_dayOf 76 = .ok (.getfield 125, 3) := by decide +kernel
theorem dX10_dayOf_79 : decode cX10_dayOf 79 = .ok (.irem, 1) := by decide +kernel
theorem dX10_dayOf_80 : decode cX10_dayOf 80 = .ok (.istore 7, 2) := by decide +kernel
theorem dX10_dayOf_82 : decode cX10_dayOf 82 = .ok (.ldc_w 309, 3) := by decide +kernel
theorem dX10_dayOf_85 : decode cX10_dayOf 85 = .ok (.iload 4, 2) := by decide +kernel
theorem dX10_dayOf_87 : decode cX10_dayOf 87 = .ok (.imul, 1) := by decide +kernel
theorem dX10_dayOf_88 : decode cX10_dayOf 88 = .ok (.sipush 12345, 3) := by decide +kernel
theorem dX10_dayOf_91 : decode cX10_dayOf 91 = .ok (.iadd, 1) := by decide +kernel
theorem dX10_dayOf_92 : decode cX10_dayOf 92 = .ok (.istore 4, 2) := by decide +kernel
theorem dX10_dayOf_94 : decode cX10_dayOf 94 = .ok (.aload_n 0, 1) := by decide +kernel
theorem dX10_dayOf_95 : decode cX10_dayOf 95 = .ok (.getfield 31, 3) := by decide +kernel
theorem dX10_dayOf_98 : decode cX10_dayOf 98 = .ok (.aload_n 0, 1) := by decide +kernel
theorem dX10_dayOf_99 : decode cX10_dayOf 99 = .ok (.getfield 179, 3) := by decide +kernel
