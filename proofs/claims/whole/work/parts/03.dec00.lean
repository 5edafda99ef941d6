theorem dX0_init_0 : decode cX0_init 0 = .ok (.aload_n 0, 1) := by decide +kernel
theorem dX0_init_1 : decode cX0_init 1 = .ok (.invokespecial 3, 3) := by decide +kernel
theorem dX0_init_4 : decode cX0_init 4 = .ok (.aload_n 0, 1) := by decide +kernel
theorem dX0_init_5 : decode cX0_init 5 = .ok (.bipush 8, 2) := by decide +kernel
theorem dX0_init_7 : decode cX0_init 7 = .ok (.newarray .int, 2) := by decide +kernel
theorem dX0_init_9 : decode cX0_init 9 = .ok (.putfield 9, 3) := by decide +kernel
theorem dX0_init_12 : decode cX0_init 12 = .ok (.aload_n 0, 1) := by decide +kernel
theorem dX0_init_13 : decode cX0_init 13 = .ok (.bipush 8, 2) := by decide +kernel
theorem dX0_init_15 : decode cX0_init 15 = .ok (.newarray .int, 2) := by decide +kernel
theorem dX0_init_17 : decode cX0_init 17 = .ok (.putfield 15, 3) := by decide +kernel
theorem dX0_init_20 : decode cX0_init 20 = .ok (.aload_n 0, 1) := by decide +kernel
theorem dX0_init_21 : decode cX0_init 21 = .ok (.bipush 8, 2) := by decide +kernel
theorem dX0_init_23 : decode cX0_init 23 = .ok (.newarray .int, 2) := by decide +kernel
theorem dX0_init_25 : decode cX0_init 25 = .ok (.putfield 18, 3) := by decide +kernel
theorem dX0_init_28 : decode cX0_init 28 = .ok (.aload_n 0, 1) := by decide +kernel
theorem dX0_init_29 : decode cX0_init 29 = .ok (.bipush 8, 2) := by decide +kernel
theorem dX0_init_31 : decode cX0_init 31 = .ok (.newarray .int, 2) := by decide +kernel
theorem dX0_init_33 : decode cX0_init 33 = .ok (.putfield 21, 3) := by decide +kernel
theorem dX0_init_36 : decode cX0_init 36 = .ok (.aload_n 0, 1) := by decide +kernel
theorem dX0_init_37 : decode cX0_init 37 = .ok (.bipush 10, 2) := by decide +kernel
theorem dX0_init_39 : decode cX0_init 39 = .ok (.newarray .int, 2) := by decide +kernel
theorem dX0_init_41 : decode cX0_init 41 = .ok (.putfield 24, 3) := by decide +kernel
theorem dX0_init_44 : decode cX0_init 44 = .ok (.return_, 1) := by decide +kernel
theorem dX0_learnThings_0 : decode cX0_learnThings 0 = .ok (.aload_n 0, 1) := by decide +kernel
theorem dX0_learnThings_1 : decode cX0_learnThings 1 = .ok (.aload_n 1, 1) := by decide +kernel
theorem dX0_learnThings_2 : decode cX0_learnThings 2 = .ok (.invokevirtual 27, 3) := by decide +kernel
theorem dX0_learnThings_5 : decode cX0_learnThings 5 = .ok (.bipush 8, 2) := by decide +kernel
theorem dX0_learnThings_7 : decode cX0_learnThings 7 = .ok (.invokestatic 33, 3) := by decide +kernel
theorem dX0_learnThings_10 : decode cX0_learnThings 10 = .ok (.putfield 39, 3) := by decide +kernel
theorem dX0_learnThings_13 : decode cX0_learnThings 13 = .ok (.aload_n 0, 1) := by decide +kernel
theorem dX0_learnThings_14 : decode cX0_learnThings 14 = .ok (.iconst 0, 1) := by decide +kernel
theorem dX0_learnThings_15 : decode cX0_learnThings 15 = .ok (.putfield 43, 3) := by decide +kernel
theorem dX0_learnThings_18 : decode cX0_learnThings 18 = .ok (.aload_n 0, 1) := by decide +kernel
theorem dX0_learnThings_19 : decode cX0_learnThings 19 = .ok (.iconst 0, 1) := by decide +kernel
theorem dX0_learnThings_20 : decode cX0_learnThings 20 = .ok (.putfield 46, 3) := by decide +kernel
theorem dX0_learnThings_23 : decode cX0_learnThings 23 = .ok (.aload_n 0, 1) := by decide +kernel
theorem dX0_learnThings_24 : decode cX0_learnThings 24 = .ok (.getfield 24, 3) := by decide +kernel
theorem dX0_learnThings_27 : decode cX0_learnThings 27 = .ok (.iconst 0, 1) := by decide +kernel
theorem dX0_learnThings_28 : decode cX0_learnThings 28 = .ok (.invokestatic 49, 3) := by decide +kernel
theorem dX0_learnThings_31 : decode cX0_learnThings 31 = .ok (.iconst 0, 1) := by decide +kernel
theorem dX0_learnThings_32 : decode cX0_learnThings 32 = .ok (.istore_n 2, 1) := by decide +kernel
theorem dX0_learnThings_33 : decode cX0_learnThings 33 = .ok (.iload_n 2, 1) := by decide +kernel
theorem dX0_learnThings_34 : decode cX0_learnThings 34 = .ok (.aload_n 0, 1) := by decide +kernel
theorem dX0_learnThings_35 : decode cX0_learnThings 35 = .ok (.getfield 39, 3) := by decide +kernel
theorem dX0_learnThings_38 : decode cX0_learnThings 38 = .ok (.if_icmp .ge 123, 3) := by decide +kernel
theorem dX0_learnThings_41 : decode cX0_learnThings 41 = .ok (.aload_n 0, 1) := by decide +kernel
theorem dX0_learnThings_42 : decode cX0_learnThings 42 = .ok (.getfield 9, 3) := by decide +kernel
theorem dX0_learnThings_45 : decode cX0_learnThings 45 = .ok (.iload_n 2, 1) := by decide +kernel
theorem dX0_learnThings_46 : decode cX0_learnThings 46 = .ok (.aload_n 1, 1) := by decide +kernel
theorem dX0_learnThings_47 : decode cX0_learnThings 47 = .ok (.iload_n 2, 1) := by decide +kernel
theorem dX0_learnThings_48 : decode cX0_learnThings 48 = .ok (.iconst 0, 1) := by decide +kernel
theorem dX0_learnThings_49 : decode cX0_learnThings 49 = .ok (.invokevirtual 55, 3) := by decide +kernel
theorem dX0_learnThings_52 : decode cX0_learnThings 52 = .ok (.iconst 1, 1) := by decide +kernel
theorem dX0_learnThings_53 : decode cX0_learnThings 53 = .ok (.iadd, 1) := by decide +kernel
theorem dX0_learnThings_54 : decode cX0_learnThings 54 = .ok (.iastore, 1) := by decide +kernel
theorem dX0_learnThings_55 : decode cX0_learnThings 55 = .ok (.aload_n 0, 1) := by decide +kernel
theorem dX0_learnThings_56 : decode cX0_learnThings 56 = .ok (.getfield 15, 3) := by decide +kernel
theorem dX0_learnThings_59 : decode cX0_learnThings 59 = .ok (.iload_n 2, 1) := by decide +kernel
theorem dX0_learnThings_60 : decode cX0_learnThings 60 = .ok (.aload_n 1, 1) := by decide +kernel
theorem dX0_learnThings_61 : decode cX0_learnThings 61 = .ok (.iload_n 2, 1) := by decide +kernel
theorem dX0_learnThings_62 : decode cX0_learnThings 62 = .ok (.iconst 1, 1) := by decide +kernel
theorem dX0_learnThings_63 : decode cX0_learnThings 63 = .ok (.invokevirtual 55, 3) := by decide +kernel
theorem dX0_learnThings_66 : decode cX0_learnThings 66 = .ok (.iastore, 1) := by decide +kernel
theorem dX0_learnThings_67 : decode cX0_learnThings 67 = .ok (.aload_n 0, 1) := by decide +kernel
theorem dX0_learnThings_68 : decode cX0_learnThings 68 = .ok (.getfield 18, 3) := by decide +kernel
theorem dX0_learnThings_71 : decode cX0_learnThings 71 = .ok (.iload_n 2, 1) := by decide +kernel
theorem dX0_learnThings_72 : decode cX0_learnThings 72 = .ok (.aload_n 1, 1) := by decide +kernel
theorem dX0_learnThings_73 : decode cX0_learnThings 73 = .ok (.iload_n 2, 1) := by decide +kernel
theorem dX0_learnThings_74 : decode cX0_learnThings 74 = .ok (.iconst 2, 1) := by decide +kernel
theorem dX0_learnThings_75 : decode cX0_learnThings 75 = .ok (.invokevirtual 55, 3) := by decide +kernel
theorem dX0_learnThings_78 : decode cX0_learnThings 78 = .ok (.iastore, 1) := by decide +kernel
theorem dX0_learnThings_79 : decode cX0_learnThings 79 = .ok (.aload_n 0, 1) := by decide +kernel
theorem dX0_learnThings_80 : decode cX0_learnThings 80 = .ok (.dup, 1) := by decide +kernel
theorem dX0_learnThings_81 : decode cX0_learnThings 81 = .ok (.getfield 46, 3) := by decide +kernel
theorem dX0_learnThings_84 : decode cX0_learnThings 84 = .ok (.aload_n 0, 1) := by decide +kernel
theorem dX0_learnThings_85 : decode cX0_learnThings 85 = .ok (.getfield 9, 3) := by decide +kernel
theorem dX0_learnThings_88 : decode cX0_learnThings 88 = .ok (.iload_n 2, 1) := by decide +kernel
theorem dX0_learnThings_89 : decode cX0_learnThings 89 = .ok (.iaload, 1) := by decide +kernel
theorem dX0_learnThings_90 : decode cX0_learnThings 90 = .ok (.iadd, 1) := by decide +kernel
theorem dX0_learnThings_91 : decode cX0_learnThings 91 = .ok (.putfield 46, 3) := by decide +kernel
theorem dX0_learnThings_94 : decode cX0_learnThings 94 = .ok (.aload_n 0, 1) := by decide +kernel
theorem dX0_learnThings_95 : decode cX0_learnThings 95 = .ok (.getfield 18, 3) := by decide +kernel
theorem dX0_learnThings_98 : decode cX0_learnThings 98 = .ok (.iload_n 2, 1) := by decide +kernel
theorem dX0_learnThings_99 : decode cX0_learnThings 99 = .ok (.iaload, 1) := by decide +kernel
theorem dX0_learnThings_100 : decode cX0_learnThings 100 = .ok (.iconst 1, 1) := by decide +kernel
theorem dX0_learnThings_101 : decode cX0_learnThings 101 = .ok (.if_icmp .ne 15, 3) := by decide +kernel
theorem dX0_learnThings_104 : decode cX0_learnThings 104 = .ok (.aload_n 0, 1) := by decide +kernel
theorem dX0_learnThings_105 : decode cX0_learnThings 105 = .ok (.dup, 1) := by decide +kernel
theorem dX0_learnThings_106 : decode cX0_learnThings 106 = .ok (.getfield 43, 3) := by decide +kernel
theorem dX0_learnThings_109 : decode cX0_learnThings 109 = .ok (.iconst 1, 1) := by decide +kernel
theorem dX0_learnThings_110 : decode cX0_learnThings 110 = .ok (.iload_n 2, 1) := by decide +kernel
theorem dX0_learnThings_111 : decode cX0_learnThings 111 = .ok (.ishl, 1) := by decide +kernel
theorem dX0_learnThings_112 : decode cX0_learnThings 112 = .ok (.ior, 1) := by decide +kernel
theorem dX0_learnThings_113 : decode cX0_learnThings 113 = .ok (.putfield 43, 3) := by decide +kernel
theorem dX0_learnThings_116 : decode cX0_learnThings 116 = .ok (.iconst 0, 1) := by decide +kernel
theorem dX0_learnThings_117 : decode cX0_learnThings 117 = .ok (.istore_n 3, 1) := by decide +kernel
theorem dX0_learnThings_118 : decode cX0_learnThings 118 = .ok (.iload_n 3, 1) := by decide +kernel
theorem dX0_learnThings_119 : decode cX0_learnThings 119 = .ok (.aload_n 0, 1) := by decide +kernel
theorem dX0_learnThings_120 : decode cX0_learnThings 120 = .ok (.getfield 24, 3) := by decide +kernel
theorem dX0_learnThings_123 : decode cX0_learnThings 123 = .ok (.arraylength, 1) := by decide +kernel
theorem dX0_learnThings_124 : decode cX0_learnThings 124 = .ok (.if_icmp .ge 31, 3) := by decide +kernel
theorem dX0_learnThings_127 : decode cX0_learnThings 127 = .ok (.aload_n 0, 1) := by decide +kernel
theorem dX0_learnThings_128 : decode cX0_learnThings 128 = .ok (.getfield 9, 3) := by decide +kernel
theorem dX0_learnThings_131 : decode cX0_learnThings 131 = .ok (.iload_n 2, 1) := by decide +kernel
theorem dX0_learnThings_132 : decode cX0_learnThings 132 = .ok (.iaload, 1) := by decide +kernel
theorem dX0_learnThings_133 : decode cX0_learnThings 133 = .ok (.iload_n 3, 1) := by decide +kernel
theorem dX0_learnThings_134 : decode cX0_learnThings 134 = .ok (.if_icmp .gt 15, 3) := by decide +kernel
theorem dX0_learnThings_137 : decode cX0_learnThings 137 = .ok (.aload_n 0, 1) := by decide +kernel
theorem dX0_learnThings_138 : decode cX0_learnThings 138 = .ok (.getfield 24, 3) := by decide +kernel
theorem dX0_learnThings_141 : decode cX0_learnThings 141 = .ok (.iload_n 3, 1) := by decide +kernel
theorem dX0_learnThings_142 : decode cX0_learnThings 142 = .ok (.dup2, 1) := by decide +kernel
theorem dX0_learnThings_143 : decode cX0_learnThings 143 = .ok (.iaload, 1) := by decide +kernel
theorem dX0_learnThings_144 : decode cX0_learnThings 144 = .ok (.iconst 1, 1) := by decide +kernel
theorem dX0_learnThings_145 : decode cX0_learnThings 145 = .ok (.iload_n 2, 1) := by decide +kernel
theorem dX0_learnThings_146 : decode cX0_learnThings 146 = .ok (.ishl, 1) := by decide +kernel
theorem dX0_learnThings_147 : decode cX0_learnThings 147 = .ok (.ior, 1) := by decide +kernel
theorem dX0_learnThings_148 : decode cX0_learnThings 148 = .ok (.iastore, 1) := by decide +kernel
theorem dX0_learnThings_149 : decode cX0_learnThings 149 = .ok (.iinc 3 1, 3) := by decide +kernel
theorem dX0_learnThings_152 : decode cX0_learnThings 152 = .ok (.goto (-34), 3) := by decide +kernel
theorem dX0_learnThings_155 : decode cX0_learnThings 155 = .ok (.iinc 2 1, 3) := by decide +kernel
theorem dX0_learnThings_158 : decode cX0_learnThings 158 = .ok (.goto (-125), 3) := by decide +kernel
theorem dX0_learnThings_161 : decode cX0_learnThings 161 = .ok (.return_, 1) := by decide +kernel
theorem dX0_learnCousins_0 : decode cX0_learnCousins 0 = .ok (.aload_n 0, 1) := by decide +kernel
theorem dX0_learnCousins_1 : decode cX0_learnCousins 1 = .ok (.aload_n 1, 1) := by decide +kernel
theorem dX0_learnCousins_2 : decode cX0_learnCousins 2 = .ok (.invokevirtual 27, 3) := by decide +kernel
theorem dX0_learnCousins_5 : decode cX0_learnCousins 5 = .ok (.bipush 8, 2) := by decide +kernel
theorem dX0_learnCousins_7 : decode cX0_learnCousins 7 = .ok (.invokestatic 33, 3) := by decide +kernel
theorem dX0_learnCousins_10 : decode cX0_learnCousins 10 = .ok (.putfield 58, 3) := by decide +kernel
theorem dX0_learnCousins_13 : decode cX0_learnCousins 13 = .ok (.aload_n 0, 1) := by decide +kernel
theorem dX0_learnCousins_14 : decode cX0_learnCousins 14 = .ok (.iconst 0, 1) := by decide +kernel
theorem dX0_learnCousins_15 : decode cX0_learnCousins 15 = .ok (.putfield 61, 3) := by decide +kernel
theorem dX0_learnCousins_18 : decode cX0_learnCousins 18 = .ok (.iconst 0, 1) := by decide +kernel
theorem dX0_learnCousins_19 : decode cX0_learnCousins 19 = .ok (.istore_n 2, 1) := by decide +kernel
theorem dX0_learnCousins_20 : decode cX0_learnCousins 20 = .ok (.iload_n 2, 1) := by decide +kernel
theorem dX0_learnCousins_21 : decode cX0_learnCousins 21 = .ok (.aload_n 0, 1) := by decide +kernel
theorem dX0_learnCousins_22 : decode cX0_learnCousins 22 = .ok (.getfield 58, 3) := by decide +kernel
theorem dX0_learnCousins_25 : decode cX0_learnCousins 25 = .ok (.if_icmp .ge 50, 3) := by decide +kernel
theorem dX0_learnCousins_28 : decode cX0_learnCousins 28 = .ok (.aload_n 0, 1) := by decide +kernel
theorem dX0_learnCousins_29 : decode cX0_learnCousins 29 = .ok (.dup, 1) := by decide +kernel
theorem dX0_learnCousins_30 : decode cX0_learnCousins 30 = .ok (.getfield 61, 3) := by decide +kernel
theorem dX0_learnCousins_33 : decode cX0_learnCousins 33 = .ok (.aload_n 1, 1) := by decide +kernel
theorem dX0_learnCousins_34 : decode cX0_learnCousins 34 = .ok (.iload_n 2, 1) := by decide +kernel
theorem dX0_learnCousins_35 : decode cX0_learnCousins 35 = .ok (.iconst 0, 1) := by decide +kernel
theorem dX0_learnCousins_36 : decode cX0_learnCousins 36 = .ok (.invokevirtual 55, 3) := by decide +kernel
theorem dX0_learnCousins_39 : decode cX0_learnCousins 39 = .ok (.iload_n 2, 1) := by decide +kernel
theorem dX0_learnCousins_40 : decode cX0_learnCousins 40 = .ok (.ishl, 1) := by decide +kernel
theorem dX0_learnCousins_41 : decode cX0_learnCousins 41 = .ok (.ior, 1) := by decide +kernel
theorem dX0_learnCousins_42 : decode cX0_learnCousins 42 = .ok (.putfield 61, 3) := by decide +kernel
theorem dX0_learnCousins_45 : decode cX0_learnCousins 45 = .ok (.aload_n 1, 1) := by decide +kernel
theorem dX0_learnCousins_46 : decode cX0_learnCousins 46 = .ok (.iload_n 2, 1) := by decide +kernel
theorem dX0_learnCousins_47 : decode cX0_learnCousins 47 = .ok (.iconst 1, 1) := by decide +kernel
theorem dX0_learnCousins_48 : decode cX0_learnCousins 48 = .ok (.invokevirtual 55, 3) := by decide +kernel
theorem dX0_learnCousins_51 : decode cX0_learnCousins 51 = .ok (.istore_n 3, 1) := by decide +kernel
theorem dX0_learnCousins_52 : decode cX0_learnCousins 52 = .ok (.aload_n 0, 1) := by decide +kernel
theorem dX0_learnCousins_53 : decode cX0_learnCousins 53 = .ok (.getfield 21, 3) := by decide +kernel
theorem dX0_learnCousins_56 : decode cX0_learnCousins 56 = .ok (.iload_n 2, 1) := by decide +kernel
theorem dX0_learnCousins_57 : decode cX0_learnCousins 57 = .ok (.iload_n 3, 1) := by decide +kernel
theorem dX0_learnCousins_58 : decode cX0_learnCousins 58 = .ok (.bipush 8, 2) := by decide +kernel
theorem dX0_learnCousins_60 : decode cX0_learnCousins 60 = .ok (.if_icmp .ge 7, 3) := by decide +kernel
theorem dX0_learnCousins_63 : decode cX0_learnCousins 63 = .ok (.iload_n 3, 1) := by decide +kernel
theorem dX0_learnCousins_64 : decode cX0_learnCousins 64 = .ok (.goto 4, 3) := by decide +kernel
theorem dX0_learnCousins_67 : decode cX0_learnCousins 67 = .ok (.iconst (-1), 1) := by decide +kernel
theorem dX0_learnCousins_68 : decode cX0_learnCousins 68 = .ok (.iastore, 1) := by decide +kernel
theorem dX0_learnCousins_69 : decode cX0_learnCousins 69 = .ok (.iinc 2 1, 3) := by decide +kernel
theorem dX0_learnCousins_72 : decode cX0_learnCousins 72 = .ok (.goto (-52), 3) := by decide +kernel
theorem dX0_learnCousins_75 : decode cX0_learnCousins 75 = .ok (.return_, 1) := by decide +kernel
theorem dX0_ofThing_0 : decode cX0_ofThing 0 = .ok (.iload_n 2, 1) := by decide +kernel
theorem dX0_ofThing_1 : decode cX0_ofThing 1 = .ok (.ifCond .ne 10, 3) := by decide +kernel
theorem dX0_ofThing_4 : decode cX0_ofThing 4 = .ok (.aload_n 0, 1) := by decide +kernel
theorem dX0_ofThing_5 : decode cX0_ofThing 5 = .ok (.getfield 9, 3) := by decide +kernel
theorem dX0_ofThing_8 : decode cX0_ofThing 8 = .ok (.iload_n 1, 1) := by decide +kernel
theorem dX0_ofThing_9 : decode cX0_ofThing 9 = .ok (.iaload, 1) := by decide +kernel
theorem dX0_ofThing_10 : decode cX0_ofThing 10 = .ok (.ireturn, 1) := by decide +kernel
theorem dX0_ofThing_11 : decode cX0_ofThing 11 = .ok (.iload_n 2, 1) := by decide +kernel
theorem dX0_ofThing_12 : decode cX0_ofThing 12 = .ok (.iconst 1, 1) := by decide +kernel
theorem dX0_ofThing_13 : decode cX0_ofThing 13 = .ok (.if_icmp .ne 12, 3) := by decide +kernel
theorem dX0_ofThing_16 : decode cX0_ofThing 16 = .ok (.aload_n 0, 1) := by decide +kernel
theorem dX0_ofThing_17 : decode cX0_ofThing 17 = .ok (.getfield 15, 3) := by decide +kernel
theorem dX0_ofThing_20 : decode cX0_ofThing 20 = .ok (.iload_n 1, 1) := by decide +kernel
theorem dX0_ofThing_21 : decode cX0_ofThing 21 = .ok (.iaload, 1) := by decide +kernel
theorem dX0_ofThing_22 : decode cX0_ofThing 22 = .ok (.goto 9, 3) := by decide +kernel
theorem dX0_ofThing_25 : decode cX0_ofThing 25 = .ok (.aload_n 0, 1) := by decide +kernel
theorem dX0_ofThing_26 : decode cX0_ofThing 26 = .ok (.getfield 18, 3) := by decide +kernel
theorem dX0_ofThing_29 : decode cX0_ofThing 29 = .ok (.iload_n 1, 1) := by decide +kernel
theorem dX0_ofThing_30 : decode cX0_ofThing 30 = .ok (.iaload, 1) := by decide +kernel
theorem dX0_ofThing_31 : decode cX0_ofThing 31 = .ok (.ireturn, 1) := by decide +kernel
theorem dX0_ofCousin_0 : decode cX0_ofCousin 0 = .ok (.iload_n 2, 1) := by decide +kernel
theorem dX0_ofCousin_1 : decode cX0_ofCousin 1 = .ok (.ifCond .ne 14, 3) := by decide +kernel
theorem dX0_ofCousin_4 : decode cX0_ofCousin 4 = .ok (.aload_n 0, 1) := by decide +kernel
theorem dX0_ofCousin_5 : decode cX0_ofCousin 5 = .ok (.getfield 61, 3) := by decide +kernel
theorem dX0_ofCousin_8 : decode cX0_ofCousin 8 = .ok (.iload_n 1, 1) := by decide +kernel
theorem dX0_ofCousin_9 : decode cX0_ofCousin 9 = .ok (.ishr, 1) := by decide +kernel
theorem dX0_ofCousin_10 : decode cX0_ofCousin 10 = .ok (.iconst 1, 1) := by decide +kernel
theorem dX0_ofCousin_11 : decode cX0_ofCousin 11 = .ok (.iand, 1) := by decide +kernel
theorem dX0_ofCousin_12 : decode cX0_ofCousin 12 = .ok (.goto 9, 3) := by decide +kernel
theorem dX0_ofCousin_15 : decode cX0_ofCousin 15 = .ok (.aload_n 0, 1) := by decide +kernel
theorem dX0_ofCousin_16 : decode cX0_ofCousin 16 = .ok (.getfield 21, 3) := by decide +kernel
theorem dX0_ofCousin_19 : decode cX0_ofCousin 19 = .ok (.iload_n 1, 1) := by decide +kernel
theorem dX0_ofCousin_20 : decode cX0_ofCousin 20 = .ok (.iaload, 1) := by decide +kernel
theorem dX0_ofCousin_21 : decode cX0_ofCousin 21 = .ok (.ireturn, 1) := by decide +kernel
theorem dX1_init_0 : decode cX1_init 0 = .ok (.aload_n 0, 1) := by decide +kernel
theorem dX1_init_1 : decode cX1_init 1 = .ok (.invokespecial 3, 3) := by decide +kernel
theorem dX1_init_4 : decode cX1_init 4 = .ok (.aload_n 0, 1) := by decide +kernel
theorem dX1_init_5 : decode cX1_init 5 = .ok (.new 9, 3) := by decide +kernel
theorem dX1_init_8 : decode cX1_init 8 = .ok (.dup, 1) := by decide +kernel
theorem dX1_init_9 : decode cX1_init 9 = .ok (.invokespecial 11, 3) := by decide +kernel
theorem dX1_init_12 : decode cX1_init 12 = .ok (.putfield 12, 3) := by decide +kernel
theorem dX1_init_15 : decode cX1_init 15 = .ok (.aload_n 0, 1) := by decide +kernel
theorem dX1_init_16 : decode cX1_init 16 = .ok (.bipush 24, 2) := by decide +kernel
theorem dX1_init_18 : decode cX1_init 18 = .ok (.newarray .int, 2) := by decide +kernel
theorem dX1_init_20 : decode cX1_init 20 = .ok (.putfield 18, 3) := by decide +kernel
theorem dX1_init_23 : decode cX1_init 23 = .ok (.aload_n 0, 1) := by decide +kernel
theorem dX1_init_24 : decode cX1_init 24 = .ok (.bipush 24, 2) := by decide +kernel
theorem dX1_init_26 : decode cX1_init 26 = .ok (.newarray .int, 2) := by decide +kernel
theorem dX1_init_28 : decode cX1_init 28 = .ok (.putfield 22, 3) := by decide +kernel
theorem dX1_init_31 : decode cX1_init 31 = .ok (.aload_n 0, 1) := by decide +kernel
theorem dX1_init_32 : decode cX1_init 32 = .ok (.aload_n 1, 1) := by decide +kernel
theorem dX1_init_33 : decode cX1_init 33 = .ok (.putfield 25, 3) := by decide +kernel
theorem dX1_init_36 : decode cX1_init 36 = .ok (.aload_n 0, 1) := by decide +kernel
theorem dX1_init_37 : decode cX1_init 37 = .ok (.aload_n 2, 1) := by decide +kernel
theorem dX1_init_38 : decode cX1_init 38 = .ok (.putfield 29, 3) := by decide +kernel
theorem dX1_init_41 : decode cX1_init 41 = .ok (.aload_n 0, 1) := by decide +kernel
theorem dX1_init_42 : decode cX1_init 42 = .ok (.aload_n 3, 1) := by decide +kernel
theorem dX1_init_43 : decode cX1_init 43 = .ok (.putfield 33, 3) := by decide +kernel
theorem dX1_init_46 : decode cX1_init 46 = .ok (.return_, 1) := by decide +kernel
theorem dX1_fittingHours_0 : decode cX1_fittingHours 0 = .ok (.iconst 0, 1) := by decide +kernel
theorem dX1_fittingHours_1 : decode cX1_fittingHours 1 = .ok (.istore_n 3, 1) := by decide +kernel
theorem dX1_fittingHours_2 : decode cX1_fittingHours 2 = .ok (.iconst 0, 1) := by decide +kernel
theorem dX1_fittingHours_3 : decode cX1_fittingHours 3 = .ok (.istore 4, 2) := by decide +kernel
theorem dX1_fittingHours_5 : decode cX1_fittingHours 5 = .ok (.iload 4, 2) := by decide +kernel
theorem dX1_fittingHours_7 : decode cX1_fittingHours 7 = .ok (.bipush 24, 2) := by decide +kernel
theorem dX1_fittingHours_9 : decode cX1_fittingHours 9 = .ok (.if_icmp .ge 38, 3) := by decide +kernel
theorem dX1_fittingHours_12 : decode cX1_fittingHours 12 = .ok (.aload_n 0, 1) := by decide +kernel
theorem dX1_fittingHours_13 : decode cX1_fittingHours 13 = .ok (.iload 4, 2) := by decide +kernel
theorem dX1_fittingHours_15 : decode cX1_fittingHours 15 = .ok (.bipush 64, 2) := by decide +kernel
theorem dX1_fittingHours_17 : decode cX1_fittingHours 17 = .ok (.bipush 8, 2) := by decide +kernel
theorem dX1_fittingHours_19 : decode cX1_fittingHours 19 = .ok (.iload_n 1, 1) := by decide +kernel
theorem dX1_fittingHours_20 : decode cX1_fittingHours 20 = .ok (.imul, 1) := by decide +kernel
theorem dX1_fittingHours_21 : decode cX1_fittingHours 21 = .ok (.iadd, 1) := by decide +kernel
theorem dX1_fittingHours_22 : decode cX1_fittingHours 22 = .ok (.iload_n 2, 1) := by decide +kernel
theorem dX1_fittingHours_23 : decode cX1_fittingHours 23 = .ok (.iadd, 1) := by decide +kernel
theorem dX1_fittingHours_24 : decode cX1_fittingHours 24 = .ok (.invokevirtual 37, 3) := by decide +kernel
theorem dX1_fittingHours_27 : decode cX1_fittingHours 27 = .ok (.aload_n 0, 1) := by decide +kernel
theorem dX1_fittingHours_28 : decode cX1_fittingHours 28 = .ok (.invokevirtual 41, 3) := by decide +kernel
theorem dX1_fittingHours_31 : decode cX1_fittingHours 31 = .ok (.ifCond .eq 10, 3) := by decide +kernel
theorem dX1_fittingHours_34 : decode cX1_fittingHours 34 = .ok (.iload_n 3, 1) := by decide +kernel
theorem dX1_fittingHours_35 : decode cX1_fittingHours 35 = .ok (.iconst 1, 1) := by decide +kernel
theorem dX1_fittingHours_36 : decode cX1_fittingHours 36 = .ok (.iload 4, 2) := by decide +kernel
theorem dX1_fittingHours_38 : decode cX1_fittingHours 38 = .ok (.ishl, 1) := by decide +kernel
theorem dX1_fittingHours_39 : decode cX1_fittingHours 39 = .ok (.ior, 1) := by decide +kernel
theorem dX1_fittingHours_40 : decode cX1_fittingHours 40 = .ok (.istore_n 3, 1) := by decide +kernel
theorem dX1_fittingHours_41 : decode cX1_fittingHours 41 = .ok (.iinc 4 1, 3) := by decide +kernel
theorem dX1_fittingHours_44 : decode cX1_fittingHours 44 = .ok (.goto (-39), 3) := by decide +kernel
theorem dX1_fittingHours_47 : decode cX1_fittingHours 47 = .ok (.iload_n 3, 1) := by decide +kernel
theorem dX1_fittingHours_48 : decode cX1_fittingHours 48 = .ok (.ireturn, 1) := by decide +kernel
theorem dX1_suspects_0 : decode cX1_suspects 0 = .ok (.iconst 0, 1) := by decide +kernel
theorem dX1_suspects_1 : decode cX1_suspects 1 = .ok (.istore_n 2, 1) := by decide +kernel
theorem dX1_suspects_2 : decode cX1_suspects 2 = .ok (.iconst 0, 1) := by decide +kernel
theorem dX1_suspects_3 : decode cX1_suspects 3 = .ok (.istore_n 3, 1) := by decide +kernel
theorem dX1_suspects_4 : decode cX1_suspects 4 = .ok (.iload_n 3, 1) := by decide +kernel
theorem dX1_suspects_5 : decode cX1_suspects 5 = .ok (.aload_n 0, 1) := by decide +kernel
theorem dX1_suspects_6 : decode cX1_suspects 6 = .ok (.getfield 25, 3) := by decide +kernel
theorem dX1_suspects_9 : decode cX1_suspects 9 = .ok (.getfield 45, 3) := by decide +kernel
theorem dX1_suspects_12 : decode cX1_suspects 12 = .ok (.if_icmp .ge 24, 3) := by decide +kernel
theorem dX1_suspects_15 : decode cX1_suspects 15 = .ok (.aload_n 0, 1) := by decide +kernel
theorem dX1_suspects_16 : decode cX1_suspects 16 = .ok (.iload_n 3, 1) := by decide +kernel
theorem dX1_suspects_17 : decode cX1_suspects 17 = .ok (.iload_n 1, 1) := by decide +kernel
theorem dX1_suspects_18 : decode cX1_suspects 18 = .ok (.invokevirtual 51, 3) := by decide +kernel
theorem dX1_suspects_21 : decode cX1_suspects 21 = .ok (.ifCond .eq 9, 3) := by decide +kernel
theorem dX1_suspects_24 : decode cX1_suspects 24 = .ok (.iload_n 2, 1) := by decide +kernel
theorem dX1_suspects_25 : decode cX1_suspects 25 = .ok (.iconst 1, 1) := by decide +kernel
theorem dX1_suspects_26 : decode cX1_suspects 26 = .ok (.iload_n 3, 1) := by decide +kernel
theorem dX1_suspects_27 : decode cX1_suspects 27 = .ok (.ishl, 1) := by decide +kernel
theorem dX1_suspects_28 : decode cX1_suspects 28 = .ok (.ior, 1) := by decide +kernel
theorem dX1_suspects_29 : decode cX1_suspects 29 = .ok (.istore_n 2, 1) := by decide +kernel
theorem dX1_suspects_30 : decode cX1_suspects 30 = .ok (.iinc 3 1, 3) := by decide +kernel
theorem dX1_suspects_33 : decode cX1_suspects 33 = .ok (.goto (-29), 3) := by decide +kernel
theorem dX1_suspects_36 : decode cX1_suspects 36 = .ok (.iload_n 2, 1) := by decide +kernel
theorem dX1_suspects_37 : decode cX1_suspects 37 = .ok (.ireturn, 1) := by decide +kernel
theorem dX1_bestHour_0 : decode cX1_bestHour 0 = .ok (.iconst 0, 1) := by decide +kernel
theorem dX1_bestHour_1 : decode cX1_bestHour 1 = .ok (.istore_n 3, 1) := by decide +kernel
theorem dX1_bestHour_2 : decode cX1_bestHour 2 = .ok (.aload_n 0, 1) := by decide +kernel
theorem dX1_bestHour_3 : decode cX1_bestHour 3 = .ok (.getfield 22, 3) := by decide +kernel
theorem dX1_bestHour_6 : decode cX1_bestHour 6 = .ok (.iconst 0, 1) := by decide +kernel
theorem dX1_bestHour_7 : decode cX1_bestHour 7 = .ok (.invokestatic 55, 3) := by decide +kernel
theorem dX1_bestHour_10 : decode cX1_bestHour 10 = .ok (.iconst 0, 1) := by decide +kernel
theorem dX1_bestHour_11 : decode cX1_bestHour 11 = .ok (.istore 4, 2) := by decide +kernel
theorem dX1_bestHour_13 : decode cX1_bestHour 13 = .ok (.iload 4, 2) := by decide +kernel
theorem dX1_bestHour_15 : decode cX1_bestHour 15 = .ok (.bipush 24, 2) := by decide +kernel
theorem dX1_bestHour_17 : decode cX1_bestHour 17 = .ok (.if_icmp .ge 39, 3) := by decide +kernel
theorem dX1_bestHour_20 : decode cX1_bestHour 20 = .ok (.aload_n 0, 1) := by decide +kernel
theorem dX1_bestHour_21 : decode cX1_bestHour 21 = .ok (.iload 4, 2) := by decide +kernel
theorem dX1_bestHour_23 : decode cX1_bestHour 23 = .ok (.bipush 64, 2) := by decide +kernel
theorem dX1_bestHour_25 : decode cX1_bestHour 25 = .ok (.bipush 8, 2) := by decide +kernel
theorem dX1_bestHour_27 : decode cX1_bestHour 27 = .ok (.iload_n 1, 1) := by decide +kernel
theorem dX1_bestHour_28 : decode cX1_bestHour 28 = .ok (.imul, 1) := by decide +kernel
theorem dX1_bestHour_29 : decode cX1_bestHour 29 = .ok (.iadd, 1) := by decide +kernel
theorem dX1_bestHour_30 : decode cX1_bestHour 30 = .ok (.iload_n 2, 1) := by decide +kernel
theorem dX1_bestHour_31 : decode cX1_bestHour 31 = .ok (.iadd, 1) := by decide +kernel
theorem dX1_bestHour_32 : decode cX1_bestHour 32 = .ok (.invokevirtual 37, 3) := by decide +kernel
theorem dX1_bestHour_35 : decode cX1_bestHour 35 = .ok (.aload_n 0, 1) := by decide +kernel
theorem dX1_bestHour_36 : decode cX1_bestHour 36 = .ok (.invokevirtual 41, 3) := by decide +kernel
theorem dX1_bestHour_39 : decode cX1_bestHour 39 = .ok (.ifCond .eq 11, 3) := by decide +kernel
theorem dX1_bestHour_42 : decode cX1_bestHour 42 = .ok (.iinc 3 1, 3) := by decide +kernel
theorem dX1_bestHour_45 : decode cX1_bestHour 45 = .ok (.aload_n 0, 1) := by decide +kernel
theorem dX1_bestHour_46 : decode cX1_bestHour 46 = .ok (.iload_n 2, 1) := by decide +kernel
theorem dX1_bestHour_47 : decode cX1_bestHour 47 = .ok (.invokevirtual 61, 3) := by decide +kernel
theorem dX1_bestHour_50 : decode cX1_bestHour 50 = .ok (.iinc 4 1, 3) := by decide +kernel
theorem dX1_bestHour_53 : decode cX1_bestHour 53 = .ok (.goto (-40), 3) := by decide +kernel
theorem dX1_bestHour_56 : decode cX1_bestHour 56 = .ok (.iconst 0, 1) := by decide +kernel
theorem dX1_bestHour_57 : decode cX1_bestHour 57 = .ok (.istore 4, 2) := by decide +kernel
theorem dX1_bestHour_59 : decode cX1_bestHour 59 = .ok (.iconst 1, 1) := by decide +kernel
theorem dX1_bestHour_60 : decode cX1_bestHour 60 = .ok (.istore 5, 2) := by decide +kernel
theorem dX1_bestHour_62 : decode cX1_bestHour 62 = .ok (.iload 5, 2) := by decide +kernel
theorem dX1_bestHour_64 : decode cX1_bestHour 64 = .ok (.bipush 24, 2) := by decide +kernel
theorem dX1_bestHour_66 : decode cX1_bestHour 66 = .ok (.if_icmp .ge 54, 3) := by decide +kernel
theorem dX1_bestHour_69 : decode cX1_bestHour 69 = .ok (.aload_n 0, 1) := by decide +kernel
theorem dX1_bestHour_70 : decode cX1_bestHour 70 = .ok (.getfield 22, 3) := by decide +kernel
theorem dX1_bestHour_73 : decode cX1_bestHour 73 = .ok (.iload 5, 2) := by decide +kernel
theorem dX1_bestHour_75 : decode cX1_bestHour 75 = .ok (.iaload, 1) := by decide +kernel
theorem dX1_bestHour_76 : decode cX1_bestHour 76 = .ok (.iload_n 3, 1) := by decide +kernel
theorem dX1_bestHour_77 : decode cX1_bestHour 77 = .ok (.aload_n 0, 1) := by decide +kernel
theorem dX1_bestHour_78 : decode cX1_bestHour 78 = .ok (.getfield 22, 3) := by decide +kernel
theorem dX1_bestHour_81 : decode cX1_bestHour 81 = .ok (.iload 5, 2) := by decide +kernel
theorem dX1_bestHour_83 : decode cX1_bestHour 83 = .ok (.iaload, 1) := by decide +kernel
theorem dX1_bestHour_84 : decode cX1_bestHour 84 = .ok (.isub, 1) := by decide +kernel
theorem dX1_bestHour_85 : decode cX1_bestHour 85 = .ok (.invokestatic 65, 3) := by decide +kernel
theorem dX1_bestHour_88 : decode cX1_bestHour 88 = .ok (.aload_n 0, 1) := by decide +kernel
theorem dX1_bestHour_89 : decode cX1_bestHour 89 = .ok (.getfield 22, 3) := by decide +kernel
theorem dX1_bestHour_92 : decode cX1_bestHour 92 = .ok (.iload 4, 2) := by decide +kernel
theorem dX1_bestHour_94 : decode cX1_bestHour 94 = .ok (.iaload, 1) := by decide +kernel
theorem dX1_bestHour_95 : decode cX1_bestHour 95 = .ok (.iload_n 3, 1) := by decide +kernel
theorem dX1_bestHour_96 : decode cX1_bestHour 96 = .ok (.aload_n 0, 1) := by decide +kernel
theorem dX1_bestHour_97 : decode cX1_bestHour 97 = .ok (.getfield 22, 3) := by decide +kernel
theorem dX1_bestHour_100 : decode cX1_bestHour 100 = .ok (.iload 4, 2) := by decide +kernel
theorem dX1_bestHour_102 : decode cX1_bestHour 102 = .ok (.iaload, 1) := by decide +kernel
theorem dX1_bestHour_103 : decode cX1_bestHour 103 = .ok (.isub, 1) := by decide +kernel
theorem dX1_bestHour_104 : decode cX1_bestHour 104 = .ok (.invokestatic 65, 3) := by decide +kernel
theorem dX1_bestHour_107 : decode cX1_bestHour 107 = .ok (.if_icmp .ge 7, 3) := by decide +kernel
theorem dX1_bestHour_110 : decode cX1_bestHour 110 = .ok (.iload 5, 2) := by decide +kernel
theorem dX1_bestHour_112 : decode cX1_bestHour 112 = .ok (.istore 4, 2) := by decide +kernel
theorem dX1_bestHour_114 : decode cX1_bestHour 114 = .ok (.iinc 5 1, 3) := by decide +kernel
theorem dX1_bestHour_117 : decode cX1_bestHour 117 = .ok (.goto (-55), 3) := by decide +kernel
theorem dX1_bestHour_120 : decode cX1_bestHour 120 = .ok (.iload 4, 2) := by decide +kernel
theorem dX1_bestHour_122 : decode cX1_bestHour 122 = .ok (.ireturn, 1) := by decide +kernel
theorem dX1_countSeen_0 : decode cX1_countSeen 0 = .ok (.iconst 0, 1) := by decide +kernel
theorem dX1_countSeen_1 : decode cX1_countSeen 1 = .ok (.istore_n 2, 1) := by decide +kernel
theorem dX1_countSeen_2 : decode cX1_countSeen 2 = .ok (.iload_n 2, 1) := by decide +kernel
theorem dX1_countSeen_3 : decode cX1_countSeen 3 = .ok (.bipush 24, 2) := by decide +kernel
theorem dX1_countSeen_5 : decode cX1_countSeen 5 = .ok (.if_icmp .ge 28, 3) := by decide +kernel
theorem dX1_countSeen_8 : decode cX1_countSeen 8 = .ok (.aload_n 0, 1) := by decide +kernel
theorem dX1_countSeen_9 : decode cX1_countSeen 9 = .ok (.getfield 22, 3) := by decide +kernel
theorem dX1_countSeen_12 : decode cX1_countSeen 12 = .ok (.iload_n 2, 1) := by decide +kernel
theorem dX1_countSeen_13 : decode cX1_countSeen 13 = .ok (.dup2, 1) := by decide +kernel
theorem dX1_countSeen_14 : decode cX1_countSeen 14 = .ok (.iaload, 1) := by decide +kernel
theorem dX1_countSeen_15 : decode cX1_countSeen 15 = .ok (.aload_n 0, 1) := by decide +kernel
theorem dX1_countSeen_16 : decode cX1_countSeen 16 = .ok (.getfield 18, 3) := by decide +kernel
theorem dX1_countSeen_19 : decode cX1_countSeen 19 = .ok (.iload_n 2, 1) := by decide +kernel
theorem dX1_countSeen_20 : decode cX1_countSeen 20 = .ok (.iaload, 1) := by decide +kernel
theorem dX1_countSeen_21 : decode cX1_countSeen 21 = .ok (.iload_n 1, 1) := by decide +kernel
theorem dX1_countSeen_22 : decode cX1_countSeen 22 = .ok (.ishr, 1) := by decide +kernel
theorem dX1_countSeen_23 : decode cX1_countSeen 23 = .ok (.iconst 1, 1) := by decide +kernel
theorem dX1_countSeen_24 : decode cX1_countSeen 24 = .ok (.iand, 1) := by decide +kernel
theorem dX1_countSeen_25 : decode cX1_countSeen 25 = .ok (.iadd, 1) := by decide +kernel
theorem dX1_countSeen_26 : decode cX1_countSeen 26 = .ok (.iastore, 1) := by decide +kernel
theorem dX1_countSeen_27 : decode cX1_countSeen 27 = .ok (.iinc 2 1, 3) := by decide +kernel
theorem dX1_countSeen_30 : decode cX1_countSeen 30 = .ok (.goto (-28), 3) := by decide +kernel
theorem dX1_countSeen_33 : decode cX1_countSeen 33 = .ok (.return_, 1) := by decide +kernel
theorem dX1_comesOut_0 : decode cX1_comesOut 0 = .ok (.iconst 0, 1) := by decide +kernel
theorem dX1_comesOut_1 : decode cX1_comesOut 1 = .ok (.istore_n 1, 1) := by decide +kernel
theorem dX1_comesOut_2 : decode cX1_comesOut 2 = .ok (.iload_n 1, 1) := by decide +kernel
theorem dX1_comesOut_3 : decode cX1_comesOut 3 = .ok (.aload_n 0, 1) := by decide +kernel
theorem dX1_comesOut_4 : decode cX1_comesOut 4 = .ok (.getfield 29, 3) := by decide +kernel
theorem dX1_comesOut_7 : decode cX1_comesOut 7 = .ok (.getfield 70, 3) := by decide +kernel
theorem dX1_comesOut_10 : decode cX1_comesOut 10 = .ok (.if_icmp .ge 49, 3) := by decide +kernel
theorem dX1_comesOut_13 : decode cX1_comesOut 13 = .ok (.aload_n 0, 1) := by decide +kernel
theorem dX1_comesOut_14 : decode cX1_comesOut 14 = .ok (.getfield 18, 3) := by decide +kernel
theorem dX1_comesOut_17 : decode cX1_comesOut 17 = .ok (.aload_n 0, 1) := by decide +kernel
theorem dX1_comesOut_18 : decode cX1_comesOut 18 = .ok (.getfield 29, 3) := by decide +kernel
theorem dX1_comesOut_21 : decode cX1_comesOut 21 = .ok (.getfield 75, 3) := by decide +kernel
theorem dX1_comesOut_24 : decode cX1_comesOut 24 = .ok (.iload_n 1, 1) := by decide +kernel
theorem dX1_comesOut_25 : decode cX1_comesOut 25 = .ok (.iaload, 1) := by decide +kernel
theorem dX1_comesOut_26 : decode cX1_comesOut 26 = .ok (.iaload, 1) := by decide +kernel
theorem dX1_comesOut_27 : decode cX1_comesOut 27 = .ok (.aload_n 0, 1) := by decide +kernel
theorem dX1_comesOut_28 : decode cX1_comesOut 28 = .ok (.getfield 29, 3) := by decide +kernel
theorem dX1_comesOut_31 : decode cX1_comesOut 31 = .ok (.getfield 78, 3) := by decide +kernel
theorem dX1_comesOut_34 : decode cX1_comesOut 34 = .ok (.iload_n 1, 1) := by decide +kernel
theorem dX1_comesOut_35 : decode cX1_comesOut 35 = .ok (.iaload, 1) := by decide +kernel
theorem dX1_comesOut_36 : decode cX1_comesOut 36 = .ok (.ishr, 1) := by decide +kernel
theorem dX1_comesOut_37 : decode cX1_comesOut 37 = .ok (.iconst 1, 1) := by decide +kernel
theorem dX1_comesOut_38 : decode cX1_comesOut 38 = .ok (.iand, 1) := by decide +kernel
theorem dX1_comesOut_39 : decode cX1_comesOut 39 = .ok (.aload_n 0, 1) := by decide +kernel
theorem dX1_comesOut_40 : decode cX1_comesOut 40 = .ok (.getfield 29, 3) := by decide +kernel
theorem dX1_comesOut_43 : decode cX1_comesOut 43 = .ok (.getfield 81, 3) := by decide +kernel
theorem dX1_comesOut_46 : decode cX1_comesOut 46 = .ok (.iload_n 1, 1) := by decide +kernel
theorem dX1_comesOut_47 : decode cX1_comesOut 47 = .ok (.iaload, 1) := by decide +kernel
theorem dX1_comesOut_48 : decode cX1_comesOut 48 = .ok (.if_icmp .eq 5, 3) := by decide +kernel
theorem dX1_comesOut_51 : decode cX1_comesOut 51 = .ok (.iconst 0, 1) := by decide +kernel
theorem dX1_comesOut_52 : decode cX1_comesOut 52 = .ok (.ireturn, 1) := by decide +kernel
theorem dX1_comesOut_53 : decode cX1_comesOut 53 = .ok (.iinc 1 1, 3) := by decide +kernel
theorem dX1_comesOut_56 : decode cX1_comesOut 56 = .ok (.goto (-54), 3) := by decide +kernel
theorem dX1_comesOut_59 : decode cX1_comesOut 59 = .ok (.iconst 1, 1) := by decide +kernel
theorem dX1_comesOut_60 : decode cX1_comesOut 60 = .ok (.ireturn, 1) := by decide +kernel
theorem dX1_look_0 : decode cX1_look 0 = .ok (.aload_n 0, 1) := by decide +kernel
theorem dX1_look_1 : decode cX1_look 1 = .ok (.getfield 12, 3) := by decide +kernel
theorem dX1_look_4 : decode cX1_look 4 = .ok (.aload_n 0, 1) := by decide +kernel
theorem dX1_look_5 : decode cX1_look 5 = .ok (.getfield 33, 3) := by decide +kernel
theorem dX1_look_8 : decode cX1_look 8 = .ok (.getfield 84, 3) := by decide +kernel
theorem dX1_look_11 : decode cX1_look 11 = .ok (.iload_n 1, 1) := by decide +kernel
theorem dX1_look_12 : decode cX1_look 12 = .ok (.aaload, 1) := by decide +kernel
theorem dX1_look_13 : decode cX1_look 13 = .ok (.invokevirtual 90, 3) := by decide +kernel
theorem dX1_look_16 : decode cX1_look 16 = .ok (.aload_n 0, 1) := by decide +kernel
theorem dX1_look_17 : decode cX1_look 17 = .ok (.getfield 33, 3) := by decide +kernel
theorem dX1_look_20 : decode cX1_look 20 = .ok (.aload_n 0, 1) := by decide +kernel
theorem dX1_look_21 : decode cX1_look 21 = .ok (.getfield 12, 3) := by decide +kernel
theorem dX1_look_24 : decode cX1_look 24 = .ok (.iload_n 2, 1) := by decide +kernel
theorem dX1_look_25 : decode cX1_look 25 = .ok (.invokevirtual 94, 3) := by decide +kernel
theorem dX1_look_28 : decode cX1_look 28 = .ok (.istore_n 3, 1) := by decide +kernel
theorem dX1_look_29 : decode cX1_look 29 = .ok (.iconst 0, 1) := by decide +kernel
theorem dX1_look_30 : decode cX1_look 30 = .ok (.istore 4, 2) := by decide +kernel
theorem dX1_look_32 : decode cX1_look 32 = .ok (.iload 4, 2) := by decide +kernel
theorem dX1_look_34 : decode cX1_look 34 = .ok (.bipush 24, 2) := by decide +kernel
theorem dX1_look_36 : decode cX1_look 36 = .ok (.if_icmp .ge 96, 3) := by decide +kernel
theorem dX1_look_39 : decode cX1_look 39 = .ok (.iload_n 3, 1) := by decide +kernel
theorem dX1_look_40 : decode cX1_look 40 = .ok (.ifCond .eq 9, 3) := by decide +kernel
theorem dX1_look_43 : decode cX1_look 43 = .ok (.iload 4, 2) := by decide +kernel
theorem dX1_look_45 : decode cX1_look 45 = .ok (.iload_n 1, 1) := by decide +kernel
theorem dX1_look_46 : decode cX1_look 46 = .ok (.if_icmp .ge 26, 3) := by decide +kernel
theorem dX1_look_49 : decode cX1_look 49 = .ok (.aload_n 0, 1) := by decide +kernel
theorem dX1_look_50 : decode cX1_look 50 = .ok (.getfield 18, 3) := by decide +kernel
theorem dX1_look_53 : decode cX1_look 53 = .ok (.iload 4, 2) := by decide +kernel
theorem dX1_look_55 : decode cX1_look 55 = .ok (.aload_n 0, 1) := by decide +kernel
theorem dX1_look_56 : decode cX1_look 56 = .ok (.getfield 33, 3) := by decide +kernel
theorem dX1_look_59 : decode cX1_look 59 = .ok (.getfield 98, 3) := by decide +kernel
theorem dX1_look_62 : decode cX1_look 62 = .ok (.iload 4, 2) := by decide +kernel
theorem dX1_look_64 : decode cX1_look 64 = .ok (.aaload, 1) := by decide +kernel
theorem dX1_look_65 : decode cX1_look 65 = .ok (.getfield 101, 3) := by decide +kernel
theorem dX1_look_68 : decode cX1_look 68 = .ok (.iastore, 1) := by decide +kernel
theorem dX1_look_69 : decode cX1_look 69 = .ok (.goto 57, 3) := by decide +kernel
theorem dX1_look_72 : decode cX1_look 72 = .ok (.iload 4, 2) := by decide +kernel
theorem dX1_look_74 : decode cX1_look 74 = .ok (.iload_n 1, 1) := by decide +kernel
theorem dX1_look_75 : decode cX1_look 75 = .ok (.if_icmp .le 17, 3) := by decide +kernel
theorem dX1_look_78 : decode cX1_look 78 = .ok (.aload_n 0, 1) := by decide +kernel
theorem dX1_look_79 : decode cX1_look 79 = .ok (.getfield 33, 3) := by decide +kernel
theorem dX1_look_82 : decode cX1_look 82 = .ok (.aload_n 0, 1) := by decide +kernel
theorem dX1_look_83 : decode cX1_look 83 = .ok (.getfield 12, 3) := by decide +kernel
theorem dX1_look_86 : decode cX1_look 86 = .ok (.iload 4, 2) := by decide +kernel
theorem dX1_look_88 : decode cX1_look 88 = .ok (.invokevirtual 104, 3) := by decide +kernel
theorem dX1_look_91 : decode cX1_look 91 = .ok (.pop, 1) := by decide +kernel
theorem dX1_look_92 : decode cX1_look 92 = .ok (.aload_n 0, 1) := by decide +kernel
theorem dX1_look_93 : decode cX1_look 93 = .ok (.getfield 33, 3) := by decide +kernel
theorem dX1_look_96 : decode cX1_look 96 = .ok (.aload_n 0, 1) := by decide +kernel
theorem dX1_look_97 : decode cX1_look 97 = .ok (.getfield 12, 3) := by decide +kernel
theorem dX1_look_100 : decode cX1_look 100 = .ok (.iload 4, 2) := by decide +kernel
theorem dX1_look_102 : decode cX1_look 102 = .ok (.aload_n 0, 1) := by decide +kernel
theorem dX1_look_103 : decode cX1_look 103 = .ok (.getfield 29, 3) := by decide +kernel
theorem dX1_look_106 : decode cX1_look 106 = .ok (.getfield 108, 3) := by decide +kernel
theorem dX1_look_109 : decode cX1_look 109 = .ok (.invokevirtual 111, 3) := by decide +kernel
theorem dX1_look_112 : decode cX1_look 112 = .ok (.aload_n 0, 1) := by decide +kernel
theorem dX1_look_113 : decode cX1_look 113 = .ok (.getfield 18, 3) := by decide +kernel
theorem dX1_look_116 : decode cX1_look 116 = .ok (.iload 4, 2) := by decide +kernel
theorem dX1_look_118 : decode cX1_look 118 = .ok (.aload_n 0, 1) := by decide +kernel
theorem dX1_look_119 : decode cX1_look 119 = .ok (.getfield 12, 3) := by decide +kernel
theorem dX1_look_122 : decode cX1_look 122 = .ok (.getfield 101, 3) := by decide +kernel
theorem dX1_look_125 : decode cX1_look 125 = .ok (.iastore, 1) := by decide +kernel
theorem dX1_look_126 : decode cX1_look 126 = .ok (.iinc 4 1, 3) := by decide +kernel
theorem dX1_look_129 : decode cX1_look 129 = .ok (.goto (-97), 3) := by decide +kernel
theorem dX1_look_132 : decode cX1_look 132 = .ok (.return_, 1) := by decide +kernel
theorem dX2_init_0 : decode cX2_init 0 = .ok (.aload_n 0, 1) := by decide +kernel
theorem dX2_init_1 : decode cX2_init 1 = .ok (.invokespecial 3, 3) := by decide +kernel
theorem dX2_init_4 : decode cX2_init 4 = .ok (.aload_n 0, 1) := by decide +kernel
theorem dX2_init_5 : decode cX2_init 5 = .ok (.new 9, 3) := by decide +kernel
theorem dX2_init_8 : decode cX2_init 8 = .ok (.dup, 1) := by decide +kernel
theorem dX2_init_9 : decode cX2_init 9 = .ok (.invokespecial 11, 3) := by decide +kernel
theorem dX2_init_12 : decode cX2_init 12 = .ok (.putfield 12, 3) := by decide +kernel
theorem dX2_init_15 : decode cX2_init 15 = .ok (.aload_n 0, 1) := by decide +kernel
theorem dX2_init_16 : decode cX2_init 16 = .ok (.bipush 24, 2) := by decide +kernel
theorem dX2_init_18 : decode cX2_init 18 = .ok (.anewarray 9, 3) := by decide +kernel
theorem dX2_init_21 : decode cX2_init 21 = .ok (.putfield 18, 3) := by decide +kernel
theorem dX2_init_24 : decode cX2_init 24 = .ok (.aload_n 0, 1) := by decide +kernel
theorem dX2_init_25 : decode cX2_init 25 = .ok (.bipush 24, 2) := by decide +kernel
theorem dX2_init_27 : decode cX2_init 27 = .ok (.anewarray 9, 3) := by decide +kernel
theorem dX2_init_30 : decode cX2_init 30 = .ok (.putfield 22, 3) := by decide +kernel
theorem dX2_init_33 : decode cX2_init 33 = .ok (.aload_n 0, 1) := by decide +kernel
theorem dX2_init_34 : decode cX2_init 34 = .ok (.new 9, 3) := by decide +kernel
theorem dX2_init_37 : decode cX2_init 37 = .ok (.dup, 1) := by decide +kernel
theorem dX2_init_38 : decode cX2_init 38 = .ok (.invokespecial 11, 3) := by decide +kernel
theorem dX2_init_41 : decode cX2_init 41 = .ok (.putfield 25, 3) := by decide +kernel
theorem dX2_init_44 : decode cX2_init 44 = .ok (.aload_n 0, 1) := by decide +kernel
theorem dX2_init_45 : decode cX2_init 45 = .ok (.aload_n 1, 1) := by decide +kernel
theorem dX2_init_46 : decode cX2_init 46 = .ok (.putfield 28, 3) := by decide +kernel
theorem dX2_init_49 : decode cX2_init 49 = .ok (.aload_n 0, 1) := by decide +kernel
theorem dX2_init_50 : decode cX2_init 50 = .ok (.aload_n 2, 1) := by decide +kernel
theorem dX2_init_51 : decode cX2_init 51 = .ok (.putfield 32, 3) := by decide +kernel
theorem dX2_init_54 : decode cX2_init 54 = .ok (.iconst 0, 1) := by decide +kernel
theorem dX2_init_55 : decode cX2_init 55 = .ok (.istore_n 3, 1) := by decide +kernel
theorem dX2_init_56 : decode cX2_init 56 = .ok (.iload_n 3, 1) := by decide +kernel
theorem dX2_init_57 : decode cX2_init 57 = .ok (.bipush 24, 2) := by decide +kernel
theorem dX2_init_59 : decode cX2_init 59 = .ok (.if_icmp .ge 35, 3) := by decide +kernel
theorem dX2_init_62 : decode cX2_init 62 = .ok (.aload_n 0, 1) := by decide +kernel
theorem dX2_init_63 : decode cX2_init 63 = .ok (.getfield 18, 3) := by decide +kernel
theorem dX2_init_66 : decode cX2_init 66 = .ok (.iload_n 3, 1) := by decide +kernel
theorem dX2_init_67 : decode cX2_init 67 = .ok (.new 9, 3) := by decide +kernel
theorem dX2_init_70 : decode cX2_init 70 = .ok (.dup, 1) := by decide +kernel
theorem dX2_init_71 : decode cX2_init 71 = .ok (.invokespecial 11, 3) := by decide +kernel
theorem dX2_init_74 : decode cX2_init 74 = .ok (.aastore, 1) := by decide +kernel
theorem dX2_init_75 : decode cX2_init 75 = .ok (.aload_n 0, 1) := by decide +kernel
theorem dX2_init_76 : decode cX2_init 76 = .ok (.getfield 22, 3) := by decide +kernel
theorem dX2_init_79 : decode cX2_init 79 = .ok (.iload_n 3, 1) := by decide +kernel
theorem dX2_init_80 : decode cX2_init 80 = .ok (.new 9, 3) := by decide +kernel
theorem dX2_init_83 : decode cX2_init 83 = .ok (.dup, 1) := by decide +kernel
theorem dX2_init_84 : decode cX2_init 84 = .ok (.invokespecial 11, 3) := by decide +kernel
theorem dX2_init_87 : decode cX2_init 87 = .ok (.aastore, 1) := by decide +kernel
theorem dX2_init_88 : decode cX2_init 88 = .ok (.iinc 3 1, 3) := by decide +kernel
theorem dX2_init_91 : decode cX2_init 91 = .ok (.goto (-35), 3) := by decide +kernel
theorem dX2_init_94 : decode cX2_init 94 = .ok (.return_, 1) := by decide +kernel
theorem dX2_replay_0 : decode cX2_replay 0 = .ok (.aload_n 0, 1) := by decide +kernel
theorem dX2_replay_1 : decode cX2_replay 1 = .ok (.invokevirtual 36, 3) := by decide +kernel
theorem dX2_replay_4 : decode cX2_replay 4 = .ok (.aload_n 0, 1) := by decide +kernel
theorem dX2_replay_5 : decode cX2_replay 5 = .ok (.getfield 25, 3) := by decide +kernel
theorem dX2_replay_8 : decode cX2_replay 8 = .ok (.aload_n 0, 1) := by decide +kernel
theorem dX2_replay_9 : decode cX2_replay 9 = .ok (.getfield 12, 3) := by decide +kernel
theorem dX2_replay_12 : decode cX2_replay 12 = .ok (.invokevirtual 39, 3) := by decide +kernel
theorem dX2_replay_15 : decode cX2_replay 15 = .ok (.aload_n 0, 1) := by decide +kernel
theorem dX2_replay_16 : decode cX2_replay 16 = .ok (.iconst 0, 1) := by decide +kernel
theorem dX2_replay_17 : decode cX2_replay 17 = .ok (.putfield 43, 3) := by decide +kernel
theorem dX2_replay_20 : decode cX2_replay 20 = .ok (.iconst 0, 1) := by decide +kernel
theorem dX2_replay_21 : decode cX2_replay 21 = .ok (.istore_n 1, 1) := by decide +kernel
theorem dX2_replay_22 : decode cX2_replay 22 = .ok (.iload_n 1, 1) := by decide +kernel
theorem dX2_replay_23 : decode cX2_replay 23 = .ok (.bipush 24, 2) := by decide +kernel
theorem dX2_replay_25 : decode cX2_replay 25 = .ok (.if_icmp .ge 69, 3) := by decide +kernel
theorem dX2_replay_28 : decode cX2_replay 28 = .ok (.aload_n 0, 1) := by decide +kernel
theorem dX2_replay_29 : decode cX2_replay 29 = .ok (.dup, 1) := by decide +kernel
theorem dX2_replay_30 : decode cX2_replay 30 = .ok (.getfield 43, 3) := by decide +kernel
theorem dX2_replay_33 : decode cX2_replay 33 = .ok (.aload_n 0, 1) := by decide +kernel
theorem dX2_replay_34 : decode cX2_replay 34 = .ok (.aload_n 0, 1) := by decide +kernel
theorem dX2_replay_35 : decode cX2_replay 35 = .ok (.getfield 25, 3) := by decide +kernel
theorem dX2_replay_38 : decode cX2_replay 38 = .ok (.iload_n 1, 1) := by decide +kernel
theorem dX2_replay_39 : decode cX2_replay 39 = .ok (.invokevirtual 47, 3) := by decide +kernel
theorem dX2_replay_42 : decode cX2_replay 42 = .ok (.ior, 1) := by decide +kernel
theorem dX2_replay_43 : decode cX2_replay 43 = .ok (.putfield 43, 3) := by decide +kernel
theorem dX2_replay_46 : decode cX2_replay 46 = .ok (.aload_n 0, 1) := by decide +kernel
theorem dX2_replay_47 : decode cX2_replay 47 = .ok (.getfield 18, 3) := by decide +kernel
theorem dX2_replay_50 : decode cX2_replay 50 = .ok (.iload_n 1, 1) := by decide +kernel
theorem dX2_replay_51 : decode cX2_replay 51 = .ok (.aaload, 1) := by decide +kernel
theorem dX2_replay_52 : decode cX2_replay 52 = .ok (.aload_n 0, 1) := by decide +kernel
theorem dX2_replay_53 : decode cX2_replay 53 = .ok (.getfield 25, 3) := by decide +kernel
theorem dX2_replay_56 : decode cX2_replay 56 = .ok (.invokevirtual 39, 3) := by decide +kernel
theorem dX2_replay_59 : decode cX2_replay 59 = .ok (.aload_n 0, 1) := by decide +kernel
theorem dX2_replay_60 : decode cX2_replay 60 = .ok (.aload_n 0, 1) := by decide +kernel
theorem dX2_replay_61 : decode cX2_replay 61 = .ok (.getfield 25, 3) := by decide +kernel
theorem dX2_replay_64 : decode cX2_replay 64 = .ok (.iload_n 1, 1) := by decide +kernel
theorem dX2_replay_65 : decode cX2_replay 65 = .ok (.aload_n 0, 1) := by decide +kernel
theorem dX2_replay_66 : decode cX2_replay 66 = .ok (.getfield 32, 3) := by decide +kernel
theorem dX2_replay_69 : decode cX2_replay 69 = .ok (.getfield 51, 3) := by decide +kernel
theorem dX2_replay_72 : decode cX2_replay 72 = .ok (.invokevirtual 56, 3) := by decide +kernel
theorem dX2_replay_75 : decode cX2_replay 75 = .ok (.aload_n 0, 1) := by decide +kernel
theorem dX2_replay_76 : decode cX2_replay 76 = .ok (.getfield 22, 3) := by decide +kernel
theorem dX2_replay_79 : decode cX2_replay 79 = .ok (.iload_n 1, 1) := by decide +kernel
theorem dX2_replay_80 : decode cX2_replay 80 = .ok (.aaload, 1) := by decide +kernel
theorem dX2_replay_81 : decode cX2_replay 81 = .ok (.aload_n 0, 1) := by decide +kernel
theorem dX2_replay_82 : decode cX2_replay 82 = .ok (.getfield 25, 3) := by decide +kernel
theorem dX2_replay_85 : decode cX2_replay 85 = .ok (.invokevirtual 39, 3) := by decide +kernel
theorem dX2_replay_88 : decode cX2_replay 88 = .ok (.iinc 1 1, 3) := by decide +kernel
theorem dX2_replay_91 : decode cX2_replay 91 = .ok (.goto (-69), 3) := by decide +kernel
theorem dX2_replay_94 : decode cX2_replay 94 = .ok (.return_, 1) := by decide +kernel
theorem dX2_begin_0 : decode cX2_begin 0 = .ok (.iconst 0, 1) := by decide +kernel
theorem dX2_begin_1 : decode cX2_begin 1 = .ok (.istore_n 1, 1) := by decide +kernel
theorem dX2_begin_2 : decode cX2_begin 2 = .ok (.iconst 0, 1) := by decide +kernel
theorem dX2_begin_3 : decode cX2_begin 3 = .ok (.istore_n 2, 1) := by decide +kernel
theorem dX2_begin_4 : decode cX2_begin 4 = .ok (.iload_n 2, 1) := by decide +kernel
theorem dX2_begin_5 : decode cX2_begin 5 = .ok (.aload_n 0, 1) := by decide +kernel
theorem dX2_begin_6 : decode cX2_begin 6 = .ok (.getfield 28, 3) := by decide +kernel
theorem dX2_begin_9 : decode cX2_begin 9 = .ok (.getfield 60, 3) := by decide +kernel
theorem dX2_begin_12 : decode cX2_begin 12 = .ok (.if_icmp .ge 43, 3) := by decide +kernel
theorem dX2_begin_15 : decode cX2_begin 15 = .ok (.aload_n 0, 1) := by decide +kernel
theorem dX2_begin_16 : decode cX2_begin 16 = .ok (.getfield 28, 3) := by decide +kernel
theorem dX2_begin_19 : decode cX2_begin 19 = .ok (.getfield 65, 3) := by decide +kernel
theorem dX2_begin_22 : decode cX2_begin 22 = .ok (.iload_n 2, 1) := by decide +kernel
theorem dX2_begin_23 : decode cX2_begin 23 = .ok (.iaload, 1) := by decide +kernel
theorem dX2_begin_24 : decode cX2_begin 24 = .ok (.istore_n 3, 1) := by decide +kernel
theorem dX2_begin_25 : decode cX2_begin 25 = .ok (.iload_n 1, 1) := by decide +kernel
theorem dX2_begin_26 : decode cX2_begin 26 = .ok (.iload_n 3, 1) := by decide +kernel
theorem dX2_begin_27 : decode cX2_begin 27 = .ok (.aload_n 0, 1) := by decide +kernel
theorem dX2_begin_28 : decode cX2_begin 28 = .ok (.getfield 28, 3) := by decide +kernel
theorem dX2_begin_31 : decode cX2_begin 31 = .ok (.getfield 69, 3) := by decide +kernel
theorem dX2_begin_34 : decode cX2_begin 34 = .ok (.if_icmp .ge 7, 3) := by decide +kernel
theorem dX2_begin_37 : decode cX2_begin 37 = .ok (.iload_n 3, 1) := by decide +kernel
theorem dX2_begin_38 : decode cX2_begin 38 = .ok (.goto 5, 3) := by decide +kernel
theorem dX2_begin_41 : decode cX2_begin 41 = .ok (.bipush 9, 2) := by decide +kernel
theorem dX2_begin_43 : decode cX2_begin 43 = .ok (.iconst 4, 1) := by decide +kernel
theorem dX2_begin_44 : decode cX2_begin 44 = .ok (.iload_n 2, 1) := by decide +kernel
theorem dX2_begin_45 : decode cX2_begin 45 = .ok (.imul, 1) := by decide +kernel
theorem dX2_begin_46 : decode cX2_begin 46 = .ok (.ishl, 1) := by decide +kernel
theorem dX2_begin_47 : decode cX2_begin 47 = .ok (.ior, 1) := by decide +kernel
theorem dX2_begin_48 : decode cX2_begin 48 = .ok (.istore_n 1, 1) := by decide +kernel
theorem dX2_begin_49 : decode cX2_begin 49 = .ok (.iinc 2 1, 3) := by decide +kernel
theorem dX2_begin_52 : decode cX2_begin 52 = .ok (.goto (-48), 3) := by decide +kernel
theorem dX2_begin_55 : decode cX2_begin 55 = .ok (.aload_n 0, 1) := by decide +kernel
theorem dX2_begin_56 : decode cX2_begin 56 = .ok (.getfield 12, 3) := by decide +kernel
theorem dX2_begin_59 : decode cX2_begin 59 = .ok (.iload_n 1, 1) := by decide +kernel
theorem dX2_begin_60 : decode cX2_begin 60 = .ok (.putfield 72, 3) := by decide +kernel
theorem dX2_begin_63 : decode cX2_begin 63 = .ok (.return_, 1) := by decide +kernel
theorem dX2_open_0 : decode cX2_open 0 = .ok (.aload_n 0, 1) := by decide +kernel
theorem dX2_open_1 : decode cX2_open 1 = .ok (.aload_n 1, 1) := by decide +kernel
theorem dX2_open_2 : decode cX2_open 2 = .ok (.invokevirtual 75, 3) := by decide +kernel
theorem dX2_open_5 : decode cX2_open 5 = .ok (.aload_n 0, 1) := by decide +kernel
theorem dX2_open_6 : decode cX2_open 6 = .ok (.aload_n 1, 1) := by decide +kernel
theorem dX2_open_7 : decode cX2_open 7 = .ok (.aload_n 0, 1) := by decide +kernel
theorem dX2_open_8 : decode cX2_open 8 = .ok (.getfield 32, 3) := by decide +kernel
theorem dX2_open_11 : decode cX2_open 11 = .ok (.getfield 78, 3) := by decide +kernel
theorem dX2_open_14 : decode cX2_open 14 = .ok (.iload_n 2, 1) := by decide +kernel
theorem dX2_open_15 : decode cX2_open 15 = .ok (.iaload, 1) := by decide +kernel
theorem dX2_open_16 : decode cX2_open 16 = .ok (.aload_n 0, 1) := by decide +kernel
theorem dX2_open_17 : decode cX2_open 17 = .ok (.getfield 32, 3) := by decide +kernel
theorem dX2_open_20 : decode cX2_open 20 = .ok (.getfield 78, 3) := by decide +kernel
theorem dX2_open_23 : decode cX2_open 23 = .ok (.iload_n 2, 1) := by decide +kernel
theorem dX2_open_24 : decode cX2_open 24 = .ok (.iconst 1, 1) := by decide +kernel
theorem dX2_open_25 : decode cX2_open 25 = .ok (.iadd, 1) := by decide +kernel
theorem dX2_open_26 : decode cX2_open 26 = .ok (.iaload, 1) := by decide +kernel
theorem dX2_open_27 : decode cX2_open 27 = .ok (.invokevirtual 81, 3) := by decide +kernel
theorem dX2_open_30 : decode cX2_open 30 = .ok (.ireturn, 1) := by decide +kernel
theorem dX2_putBack_0 : decode cX2_putBack 0 = .ok (.aload_n 1, 1) := by decide +kernel
theorem dX2_putBack_1 : decode cX2_putBack 1 = .ok (.getfield 85, 3) := by decide +kernel
theorem dX2_putBack_4 : decode cX2_putBack 4 = .ok (.istore_n 2, 1) := by decide +kernel
theorem dX2_putBack_5 : decode cX2_putBack 5 = .ok (.aload_n 1, 1) := by decide +kernel
theorem dX2_putBack_6 : decode cX2_putBack 6 = .ok (.iconst 0, 1) := by decide +kernel
theorem dX2_putBack_7 : decode cX2_putBack 7 = .ok (.putfield 85, 3) := by decide +kernel
theorem dX2_putBack_10 : decode cX2_putBack 10 = .ok (.iload_n 2, 1) := by decide +kernel
theorem dX2_putBack_11 : decode cX2_putBack 11 = .ok (.ifCond .eq 13, 3) := by decide +kernel
theorem dX2_putBack_14 : decode cX2_putBack 14 = .ok (.aload_n 0, 1) := by decide +kernel
theorem dX2_putBack_15 : decode cX2_putBack 15 = .ok (.getfield 28, 3) := by decide +kernel
theorem dX2_putBack_18 : decode cX2_putBack 18 = .ok (.getfield 88, 3) := by decide +kernel
theorem dX2_putBack_21 : decode cX2_putBack 21 = .ok (.ifCond .ne 4, 3) := by decide +kernel
theorem dX2_putBack_24 : decode cX2_putBack 24 = .ok (.return_, 1) := by decide +kernel
theorem dX2_putBack_25 : decode cX2_putBack 25 = .ok (.iconst 0, 1) := by decide +kernel
theorem dX2_putBack_26 : decode cX2_putBack 26 = .ok (.istore_n 3, 1) := by decide +kernel
theorem dX2_putBack_27 : decode cX2_putBack 27 = .ok (.iload_n 3, 1) := by decide +kernel
theorem dX2_putBack_28 : decode cX2_putBack 28 = .ok (.aload_n 0, 1) := by decide +kernel
theorem dX2_putBack_29 : decode cX2_putBack 29 = .ok (.getfield 28, 3) := by decide +kernel
theorem dX2_putBack_32 : decode cX2_putBack 32 = .ok (.getfield 69, 3) := by decide +kernel
theorem dX2_putBack_35 : decode cX2_putBack 35 = .ok (.if_icmp .ge 88, 3) := by decide +kernel
theorem dX2_putBack_38 : decode cX2_putBack 38 = .ok (.iconst 0, 1) := by decide +kernel
theorem dX2_putBack_39 : decode cX2_putBack 39 = .ok (.istore 4, 2) := by decide +kernel
theorem dX2_putBack_41 : decode cX2_putBack 41 = .ok (.iload 4, 2) := by decide +kernel
theorem dX2_putBack_43 : decode cX2_putBack 43 = .ok (.aload_n 0, 1) := by decide +kernel
theorem dX2_putBack_44 : decode cX2_putBack 44 = .ok (.getfield 28, 3) := by decide +kernel
theorem dX2_putBack_47 : decode cX2_putBack 47 = .ok (.getfield 60, 3) := by decide +kernel
theorem dX2_putBack_50 : decode cX2_putBack 50 = .ok (.if_icmp .ge 67, 3) := by decide +kernel
theorem dX2_putBack_53 : decode cX2_putBack 53 = .ok (.aload_n 0, 1) := by decide +kernel
theorem dX2_putBack_54 : decode cX2_putBack 54 = .ok (.getfield 28, 3) := by decide +kernel
theorem dX2_putBack_57 : decode cX2_putBack 57 = .ok (.getfield 88, 3) := by decide +kernel
theorem dX2_putBack_60 : decode cX2_putBack 60 = .ok (.iload_n 3, 1) := by decide +kernel
theorem dX2_putBack_61 : decode cX2_putBack 61 = .ok (.ishr, 1) := by decide +kernel
theorem dX2_putBack_62 : decode cX2_putBack 62 = .ok (.iload_n 2, 1) := by decide +kernel
theorem dX2_putBack_63 : decode cX2_putBack 63 = .ok (.iload 4, 2) := by decide +kernel
theorem dX2_putBack_65 : decode cX2_putBack 65 = .ok (.ishr, 1) := by decide +kernel
theorem dX2_putBack_66 : decode cX2_putBack 66 = .ok (.iand, 1) := by decide +kernel
theorem dX2_putBack_67 : decode cX2_putBack 67 = .ok (.iconst 1, 1) := by decide +kernel
theorem dX2_putBack_68 : decode cX2_putBack 68 = .ok (.iand, 1) := by decide +kernel
theorem dX2_putBack_69 : decode cX2_putBack 69 = .ok (.ifCond .eq 21, 3) := by decide +kernel
theorem dX2_putBack_72 : decode cX2_putBack 72 = .ok (.aload_n 0, 1) := by decide +kernel
theorem dX2_putBack_73 : decode cX2_putBack 73 = .ok (.getfield 28, 3) := by decide +kernel
theorem dX2_putBack_76 : decode cX2_putBack 76 = .ok (.getfield 65, 3) := by decide +kernel
theorem dX2_putBack_79 : decode cX2_putBack 79 = .ok (.iload 4, 2) := by decide +kernel
theorem dX2_putBack_81 : decode cX2_putBack 81 = .ok (.iaload, 1) := by decide +kernel
theorem dX2_putBack_82 : decode cX2_putBack 82 = .ok (.iload_n 3, 1) := by decide +kernel
theorem dX2_putBack_83 : decode cX2_putBack 83 = .ok (.if_icmp .eq 7, 3) := by decide +kernel
theorem dX2_putBack_86 : decode cX2_putBack 86 = .ok (.iconst 1, 1) := by decide +kernel
theorem dX2_putBack_87 : decode cX2_putBack 87 = .ok (.goto 4, 3) := by decide +kernel
theorem dX2_putBack_90 : decode cX2_putBack 90 = .ok (.iconst 0, 1) := by decide +kernel
theorem dX2_putBack_91 : decode cX2_putBack 91 = .ok (.istore 5, 2) := by decide +kernel
theorem dX2_putBack_93 : decode cX2_putBack 93 = .ok (.iload 5, 2) := by decide +kernel
theorem dX2_putBack_95 : decode cX2_putBack 95 = .ok (.ifCond .eq 16, 3) := by decide +kernel
theorem dX2_putBack_98 : decode cX2_putBack 98 = .ok (.aload_n 0, 1) := by decide +kernel
theorem dX2_putBack_99 : decode cX2_putBack 99 = .ok (.aload_n 1, 1) := by decide +kernel
theorem dX2_putBack_100 : decode cX2_putBack 100 = .ok (.bipush 8, 2) := by decide +kernel
theorem dX2_putBack_102 : decode cX2_putBack 102 = .ok (.iload_n 3, 1) := by decide +kernel
theorem dX2_putBack_103 : decode cX2_putBack 103 = .ok (.imul, 1) := by decide +kernel
theorem dX2_putBack_104 : decode cX2_putBack 104 = .ok (.iload 4, 2) := by decide +kernel
theorem dX2_putBack_106 : decode cX2_putBack 106 = .ok (.iadd, 1) := by decide +kernel
theorem dX2_putBack_107 : decode cX2_putBack 107 = .ok (.invokevirtual 91, 3) := by decide +kernel
theorem dX2_putBack_110 : decode cX2_putBack 110 = .ok (.pop, 1) := by decide +kernel
theorem dX2_putBack_111 : decode cX2_putBack 111 = .ok (.iinc 4 1, 3) := by decide +kernel
theorem dX2_putBack_114 : decode cX2_putBack 114 = .ok (.goto (-73), 3) := by decide +kernel
theorem dX2_putBack_117 : decode cX2_putBack 117 = .ok (.iinc 3 1, 3) := by decide +kernel
theorem dX2_putBack_120 : decode cX2_putBack 120 = .ok (.goto (-93), 3) := by decide +kernel
theorem dX2_putBack_123 : decode cX2_putBack 123 = .ok (.return_, 1) := by decide +kernel
theorem dX2_tell_0 : decode cX2_tell 0 = .ok (.iconst 0, 1) := by decide +kernel
theorem dX2_tell_1 : decode cX2_tell 1 = .ok (.istore 4, 2) := by decide +kernel
theorem dX2_tell_3 : decode cX2_tell 3 = .ok (.iload_n 2, 1) := by decide +kernel
theorem dX2_tell_4 : decode cX2_tell 4 = .ok (.istore 5, 2) := by decide +kernel
theorem dX2_tell_6 : decode cX2_tell 6 = .ok (.iload 5, 2) := by decide +kernel
theorem dX2_tell_8 : decode cX2_tell 8 = .ok (.iload_n 3, 1) := by decide +kernel
theorem dX2_tell_9 : decode cX2_tell 9 = .ok (.if_icmp .ge 48, 3) := by decide +kernel
theorem dX2_tell_12 : decode cX2_tell 12 = .ok (.aload_n 0, 1) := by decide +kernel
theorem dX2_tell_13 : decode cX2_tell 13 = .ok (.getfield 32, 3) := by decide +kernel
theorem dX2_tell_16 : decode cX2_tell 16 = .ok (.getfield 95, 3) := by decide +kernel
theorem dX2_tell_19 : decode cX2_tell 19 = .ok (.iload 5, 2) := by decide +kernel
theorem dX2_tell_21 : decode cX2_tell 21 = .ok (.iaload, 1) := by decide +kernel
theorem dX2_tell_22 : decode cX2_tell 22 = .ok (.istore 6, 2) := by decide +kernel
theorem dX2_tell_24 : decode cX2_tell 24 = .ok (.aload_n 0, 1) := by decide +kernel
theorem dX2_tell_25 : decode cX2_tell 25 = .ok (.aload_n 1, 1) := by decide +kernel
theorem dX2_tell_26 : decode cX2_tell 26 = .ok (.aload_n 0, 1) := by decide +kernel
theorem dX2_tell_27 : decode cX2_tell 27 = .ok (.getfield 32, 3) := by decide +kernel
theorem dX2_tell_30 : decode cX2_tell 30 = .ok (.getfield 98, 3) := by decide +kernel
theorem dX2_tell_33 : decode cX2_tell 33 = .ok (.iload 6, 2) := by decide +kernel
theorem dX2_tell_35 : decode cX2_tell 35 = .ok (.iaload, 1) := by decide +kernel
theorem dX2_tell_36 : decode cX2_tell 36 = .ok (.invokevirtual 91, 3) := by decide +kernel
theorem dX2_tell_39 : decode cX2_tell 39 = .ok (.ifCond .eq 12, 3) := by decide +kernel
theorem dX2_tell_42 : decode cX2_tell 42 = .ok (.iload 4, 2) := by decide +kernel
theorem dX2_tell_44 : decode cX2_tell 44 = .ok (.iconst 1, 1) := by decide +kernel
theorem dX2_tell_45 : decode cX2_tell 45 = .ok (.iload 6, 2) := by decide +kernel
theorem dX2_tell_47 : decode cX2_tell 47 = .ok (.ishl, 1) := by decide +kernel
theorem dX2_tell_48 : decode cX2_tell 48 = .ok (.ior, 1) := by decide +kernel
theorem dX2_tell_49 : decode cX2_tell 49 = .ok (.istore 4, 2) := by decide +kernel
theorem dX2_tell_51 : decode cX2_tell 51 = .ok (.iinc 5 1, 3) := by decide +kernel
theorem dX2_tell_54 : decode cX2_tell 54 = .ok (.goto (-48), 3) := by decide +kernel
theorem dX2_tell_57 : decode cX2_tell 57 = .ok (.iload 4, 2) := by decide +kernel
theorem dX2_tell_59 : decode cX2_tell 59 = .ok (.ireturn, 1) := by decide +kernel
theorem dX2_reach_0 : decode cX2_reach 0 = .ok (.iload_n 2, 1) := by decide +kernel
theorem dX2_reach_1 : decode cX2_reach 1 = .ok (.bipush 7, 2) := by decide +kernel
theorem dX2_reach_3 : decode cX2_reach 3 = .ok (.iand, 1) := by decide +kernel
theorem dX2_reach_4 : decode cX2_reach 4 = .ok (.istore_n 3, 1) := by decide +kernel
theorem dX2_reach_5 : decode cX2_reach 5 = .ok (.iload_n 2, 1) := by decide +kernel
theorem dX2_reach_6 : decode cX2_reach 6 = .ok (.iconst 3, 1) := by decide +kernel
theorem dX2_reach_7 : decode cX2_reach 7 = .ok (.ishr, 1) := by decide +kernel
theorem dX2_reach_8 : decode cX2_reach 8 = .ok (.bipush 7, 2) := by decide +kernel
theorem dX2_reach_10 : decode cX2_reach 10 = .ok (.iand, 1) := by decide +kernel
theorem dX2_reach_11 : decode cX2_reach 11 = .ok (.istore 4, 2) := by decide +kernel
theorem dX2_reach_13 : decode cX2_reach 13 = .ok (.iload_n 3, 1) := by decide +kernel
theorem dX2_reach_14 : decode cX2_reach 14 = .ok (.aload_n 0, 1) := by decide +kernel
theorem dX2_reach_15 : decode cX2_reach 15 = .ok (.getfield 28, 3) := by decide +kernel
theorem dX2_reach_18 : decode cX2_reach 18 = .ok (.getfield 60, 3) := by decide +kernel
theorem dX2_reach_21 : decode cX2_reach 21 = .ok (.if_icmp .ge 15, 3) := by decide +kernel
theorem dX2_reach_24 : decode cX2_reach 24 = .ok (.iload 4, 2) := by decide +kernel
theorem dX2_reach_26 : decode cX2_reach 26 = .ok (.aload_n 0, 1) := by decide +kernel
theorem dX2_reach_27 : decode cX2_reach 27 = .ok (.getfield 28, 3) := by decide +kernel
theorem dX2_reach_30 : decode cX2_reach 30 = .ok (.getfield 69, 3) := by decide +kernel
theorem dX2_reach_33 : decode cX2_reach 33 = .ok (.if_icmp .lt 5, 3) := by decide +kernel
theorem dX2_reach_36 : decode cX2_reach 36 = .ok (.iconst 0, 1) := by decide +kernel
theorem dX2_reach_37 : decode cX2_reach 37 = .ok (.ireturn, 1) := by decide +kernel
theorem dX2_reach_38 : decode cX2_reach 38 = .ok (.iconst 4, 1) := by decide +kernel
theorem dX2_reach_39 : decode cX2_reach 39 = .ok (.iload_n 3, 1) := by decide +kernel
theorem dX2_reach_40 : decode cX2_reach 40 = .ok (.imul, 1) := by decide +kernel
theorem dX2_reach_41 : decode cX2_reach 41 = .ok (.istore 5, 2) := by decide +kernel
theorem dX2_reach_43 : decode cX2_reach 43 = .ok (.aload_n 0, 1) := by decide +kernel
theorem dX2_reach_44 : decode cX2_reach 44 = .ok (.getfield 28, 3) := by decide +kernel
theorem dX2_reach_47 : decode cX2_reach 47 = .ok (.getfield 101, 3) := by decide +kernel
theorem dX2_reach_50 : decode cX2_reach 50 = .ok (.iload_n 3, 1) := by decide +kernel
theorem dX2_reach_51 : decode cX2_reach 51 = .ok (.iaload, 1) := by decide +kernel
theorem dX2_reach_52 : decode cX2_reach 52 = .ok (.istore 6, 2) := by decide +kernel
theorem dX2_reach_54 : decode cX2_reach 54 = .ok (.iload_n 2, 1) := by decide +kernel
theorem dX2_reach_55 : decode cX2_reach 55 = .ok (.bipush 64, 2) := by decide +kernel
theorem dX2_reach_57 : decode cX2_reach 57 = .ok (.if_icmp .lt 70, 3) := by decide +kernel
theorem dX2_reach_60 : decode cX2_reach 60 = .ok (.aload_n 1, 1) := by decide +kernel
theorem dX2_reach_61 : decode cX2_reach 61 = .ok (.getfield 104, 3) := by decide +kernel
theorem dX2_reach_64 : decode cX2_reach 64 = .ok (.iload_n 3, 1) := by decide +kernel
theorem dX2_reach_65 : decode cX2_reach 65 = .ok (.ishr, 1) := by decide +kernel
theorem dX2_reach_66 : decode cX2_reach 66 = .ok (.iconst 1, 1) := by decide +kernel
theorem dX2_reach_67 : decode cX2_reach 67 = .ok (.iand, 1) := by decide +kernel
theorem dX2_reach_68 : decode cX2_reach 68 = .ok (.ifCond .ne 5, 3) := by decide +kernel
theorem dX2_reach_71 : decode cX2_reach 71 = .ok (.iconst 0, 1) := by decide +kernel
theorem dX2_reach_72 : decode cX2_reach 72 = .ok (.ireturn, 1) := by decide +kernel
theorem dX2_reach_73 : decode cX2_reach 73 = .ok (.aload_n 1, 1) := by decide +kernel
theorem dX2_reach_74 : decode cX2_reach 74 = .ok (.dup, 1) := by decide +kernel
theorem dX2_reach_75 : decode cX2_reach 75 = .ok (.getfield 72, 3) := by decide +kernel
theorem dX2_reach_78 : decode cX2_reach 78 = .ok (.iload 4, 2) := by decide +kernel
theorem dX2_reach_80 : decode cX2_reach 80 = .ok (.bipush 8, 2) := by decide +kernel
theorem dX2_reach_82 : decode cX2_reach 82 = .ok (.isub, 1) := by decide +kernel
theorem dX2_reach_83 : decode cX2_reach 83 = .ok (.iload 5, 2) := by decide +kernel
theorem dX2_reach_85 : decode cX2_reach 85 = .ok (.ishl, 1) := by decide +kernel
theorem dX2_reach_86 : decode cX2_reach 86 = .ok (.iadd, 1) := by decide +kernel
theorem dX2_reach_87 : decode cX2_reach 87 = .ok (.putfield 72, 3) := by decide +kernel
theorem dX2_reach_90 : decode cX2_reach 90 = .ok (.aload_n 1, 1) := by decide +kernel
theorem dX2_reach_91 : decode cX2_reach 91 = .ok (.dup, 1) := by decide +kernel
theorem dX2_reach_92 : decode cX2_reach 92 = .ok (.getfield 104, 3) := by decide +kernel
theorem dX2_reach_95 : decode cX2_reach 95 = .ok (.iconst 1, 1) := by decide +kernel
theorem dX2_reach_96 : decode cX2_reach 96 = .ok (.iload_n 3, 1) := by decide +kernel
theorem dX2_reach_97 : decode cX2_reach 97 = .ok (.ishl, 1) := by decide +kernel
theorem dX2_reach_98 : decode cX2_reach 98 = .ok (.isub, 1) := by decide +kernel
theorem dX2_reach_99 : decode cX2_reach 99 = .ok (.putfield 104, 3) := by decide +kernel
theorem dX2_reach_102 : decode cX2_reach 102 = .ok (.aload_n 1, 1) := by decide +kernel
theorem dX2_reach_103 : decode cX2_reach 103 = .ok (.dup, 1) := by decide +kernel
theorem dX2_reach_104 : decode cX2_reach 104 = .ok (.getfield 107, 3) := by decide +kernel
theorem dX2_reach_107 : decode cX2_reach 107 = .ok (.iload 6, 2) := by decide +kernel
theorem dX2_reach_109 : decode cX2_reach 109 = .ok (.isub, 1) := by decide +kernel
theorem dX2_reach_110 : decode cX2_reach 110 = .ok (.putfield 107, 3) := by decide +kernel
theorem dX2_reach_113 : decode cX2_reach 113 = .ok (.aload_n 1, 1) := by decide +kernel
theorem dX2_reach_114 : decode cX2_reach 114 = .ok (.dup, 1) := by decide +kernel
theorem dX2_reach_115 : decode cX2_reach 115 = .ok (.getfield 85, 3) := by decide +kernel
theorem dX2_reach_118 : decode cX2_reach 118 = .ok (.iconst 1, 1) := by decide +kernel
theorem dX2_reach_119 : decode cX2_reach 119 = .ok (.iload_n 3, 1) := by decide +kernel
theorem dX2_reach_120 : decode cX2_reach 120 = .ok (.ishl, 1) := by decide +kernel
theorem dX2_reach_121 : decode cX2_reach 121 = .ok (.ior, 1) := by decide +kernel
theorem dX2_reach_122 : decode cX2_reach 122 = .ok (.putfield 85, 3) := by decide +kernel
theorem dX2_reach_125 : decode cX2_reach 125 = .ok (.iconst 1, 1) := by decide +kernel
theorem dX2_reach_126 : decode cX2_reach 126 = .ok (.ireturn, 1) := by decide +kernel
theorem dX2_reach_127 : decode cX2_reach 127 = .ok (.aload_n 1, 1) := by decide +kernel
theorem dX2_reach_128 : decode cX2_reach 128 = .ok (.getfield 72, 3) := by decide +kernel
theorem dX2_reach_131 : decode cX2_reach 131 = .ok (.iload 5, 2) := by decide +kernel
theorem dX2_reach_133 : decode cX2_reach 133 = .ok (.iushr, 1) := by decide +kernel
theorem dX2_reach_134 : decode cX2_reach 134 = .ok (.bipush 15, 2) := by decide +kernel
theorem dX2_reach_136 : decode cX2_reach 136 = .ok (.iand, 1) := by decide +kernel
theorem dX2_reach_137 : decode cX2_reach 137 = .ok (.iload 4, 2) := by decide +kernel
theorem dX2_reach_139 : decode cX2_reach 139 = .ok (.if_icmp .ne 20, 3) := by decide +kernel
theorem dX2_reach_142 : decode cX2_reach 142 = .ok (.aload_n 1, 1) := by decide +kernel
theorem dX2_reach_143 : decode cX2_reach 143 = .ok (.getfield 107, 3) := by decide +kernel
theorem dX2_reach_146 : decode cX2_reach 146 = .ok (.iload 6, 2) := by decide +kernel
theorem dX2_reach_148 : decode cX2_reach 148 = .ok (.iadd, 1) := by decide +kernel
theorem dX2_reach_149 : decode cX2_reach 149 = .ok (.aload_n 0, 1) := by decide +kernel
theorem dX2_reach_150 : decode cX2_reach 150 = .ok (.getfield 32, 3) := by decide +kernel
theorem dX2_reach_153 : decode cX2_reach 153 = .ok (.getfield 110, 3) := by decide +kernel
theorem dX2_reach_156 : decode cX2_reach 156 = .ok (.if_icmp .le 5, 3) := by decide +kernel
theorem dX2_reach_159 : decode cX2_reach 159 = .ok (.iconst 0, 1) := by decide +kernel
theorem dX2_reach_160 : decode cX2_reach 160 = .ok (.ireturn, 1) := by decide +kernel
theorem dX2_reach_161 : decode cX2_reach 161 = .ok (.aload_n 1, 1) := by decide +kernel
theorem dX2_reach_162 : decode cX2_reach 162 = .ok (.dup, 1) := by decide +kernel
theorem dX2_reach_163 : decode cX2_reach 163 = .ok (.getfield 72, 3) := by decide +kernel
theorem dX2_reach_166 : decode cX2_reach 166 = .ok (.bipush 8, 2) := by decide +kernel
theorem dX2_reach_168 : decode cX2_reach 168 = .ok (.iload 4, 2) := by decide +kernel
theorem dX2_reach_170 : decode cX2_reach 170 = .ok (.isub, 1) := by decide +kernel
theorem dX2_reach_171 : decode cX2_reach 171 = .ok (.iload 5, 2) := by decide +kernel
theorem dX2_reach_173 : decode cX2_reach 173 = .ok (.ishl, 1) := by decide +kernel
theorem dX2_reach_174 : decode cX2_reach 174 = .ok (.iadd, 1) := by decide +kernel
theorem dX2_reach_175 : decode cX2_reach 175 = .ok (.putfield 72, 3) := by decide +kernel
theorem dX2_reach_178 : decode cX2_reach 178 = .ok (.aload_n 1, 1) := by decide +kernel
theorem dX2_reach_179 : decode cX2_reach 179 = .ok (.dup, 1) := by decide +kernel
theorem dX2_reach_180 : decode cX2_reach 180 = .ok (.getfield 104, 3) := by decide +kernel
theorem dX2_reach_183 : decode cX2_reach 183 = .ok (.iconst 1, 1) := by decide +kernel
theorem dX2_reach_184 : decode cX2_reach 184 = .ok (.iload_n 3, 1) := by decide +kernel
theorem dX2_reach_185 : decode cX2_reach 185 = .ok (.ishl, 1) := by decide +kernel
theorem dX2_reach_186 : decode cX2_reach 186 = .ok (.iadd, 1) := by decide +kernel
theorem dX2_reach_187 : decode cX2_reach 187 = .ok (.putfield 104, 3) := by decide +kernel
theorem dX2_reach_190 : decode cX2_reach 190 = .ok (.aload_n 1, 1) := by decide +kernel
theorem dX2_reach_191 : decode cX2_reach 191 = .ok (.dup, 1) := by decide +kernel
theorem dX2_reach_192 : decode cX2_reach 192 = .ok (.getfield 107, 3) := by decide +kernel
theorem dX2_reach_195 : decode cX2_reach 195 = .ok (.iload 6, 2) := by decide +kernel
theorem dX2_reach_197 : decode cX2_reach 197 = .ok (.iadd, 1) := by decide +kernel
theorem dX2_reach_198 : decode cX2_reach 198 = .ok (.putfield 107, 3) := by decide +kernel
theorem dX2_reach_201 : decode cX2_reach 201 = .ok (.aload_n 1, 1) := by decide +kernel
theorem dX2_reach_202 : decode cX2_reach 202 = .ok (.dup, 1) := by decide +kernel
theorem dX2_reach_203 : decode cX2_reach 203 = .ok (.getfield 85, 3) := by decide +kernel
theorem dX2_reach_206 : decode cX2_reach 206 = .ok (.iconst 1, 1) := by decide +kernel
theorem dX2_reach_207 : decode cX2_reach 207 = .ok (.iload_n 3, 1) := by decide +kernel
theorem dX2_reach_208 : decode cX2_reach 208 = .ok (.ishl, 1) := by decide +kernel
theorem dX2_reach_209 : decode cX2_reach 209 = .ok (.iconst (-1), 1) := by decide +kernel
theorem dX2_reach_210 : decode cX2_reach 210 = .ok (.ixor, 1) := by decide +kernel
theorem dX2_reach_211 : decode cX2_reach 211 = .ok (.iand, 1) := by decide +kernel
theorem dX2_reach_212 : decode cX2_reach 212 = .ok (.putfield 85, 3) := by decide +kernel
theorem dX2_reach_215 : decode cX2_reach 215 = .ok (.iconst 1, 1) := by decide +kernel
theorem dX2_reach_216 : decode cX2_reach 216 = .ok (.ireturn, 1) := by decide +kernel
theorem dX2_close_0 : decode cX2_close 0 = .ok (.aload_n 0, 1) := by decide +kernel
theorem dX2_close_1 : decode cX2_close 1 = .ok (.aload_n 1, 1) := by decide +kernel
theorem dX2_close_2 : decode cX2_close 2 = .ok (.aload_n 1, 1) := by decide +kernel
theorem dX2_close_3 : decode cX2_close 3 = .ok (.getfield 104, 3) := by decide +kernel
theorem dX2_close_6 : decode cX2_close 6 = .ok (.aload_n 0, 1) := by decide +kernel
theorem dX2_close_7 : decode cX2_close 7 = .ok (.getfield 28, 3) := by decide +kernel
theorem dX2_close_10 : decode cX2_close 10 = .ok (.getfield 113, 3) := by decide +kernel
theorem dX2_close_13 : decode cX2_close 13 = .ok (.aload_n 0, 1) := by decide +kernel
theorem dX2_close_14 : decode cX2_close 14 = .ok (.getfield 32, 3) := by decide +kernel
theorem dX2_close_17 : decode cX2_close 17 = .ok (.getfield 116, 3) := by decide +kernel
theorem dX2_close_20 : decode cX2_close 20 = .ok (.iload_n 2, 1) := by decide +kernel
theorem dX2_close_21 : decode cX2_close 21 = .ok (.iaload, 1) := by decide +kernel
theorem dX2_close_22 : decode cX2_close 22 = .ok (.iaload, 1) := by decide +kernel
theorem dX2_close_23 : decode cX2_close 23 = .ok (.iand, 1) := by decide +kernel
theorem dX2_close_24 : decode cX2_close 24 = .ok (.invokevirtual 119, 3) := by decide +kernel
theorem dX2_close_27 : decode cX2_close 27 = .ok (.aload_n 1, 1) := by decide +kernel
theorem dX2_close_28 : decode cX2_close 28 = .ok (.getfield 104, 3) := by decide +kernel
theorem dX2_close_31 : decode cX2_close 31 = .ok (.istore 4, 2) := by decide +kernel
theorem dX2_close_33 : decode cX2_close 33 = .ok (.aload_n 0, 1) := by decide +kernel
theorem dX2_close_34 : decode cX2_close 34 = .ok (.aload_n 1, 1) := by decide +kernel
theorem dX2_close_35 : decode cX2_close 35 = .ok (.iload 4, 2) := by decide +kernel
theorem dX2_close_37 : decode cX2_close 37 = .ok (.aload_n 1, 1) := by decide +kernel
theorem dX2_close_38 : decode cX2_close 38 = .ok (.getfield 123, 3) := by decide +kernel
theorem dX2_close_41 : decode cX2_close 41 = .ok (.iand, 1) := by decide +kernel
theorem dX2_close_42 : decode cX2_close 42 = .ok (.aload_n 1, 1) := by decide +kernel
theorem dX2_close_43 : decode cX2_close 43 = .ok (.getfield 126, 3) := by decide +kernel
theorem dX2_close_46 : decode cX2_close 46 = .ok (.iand, 1) := by decide +kernel
theorem dX2_close_47 : decode cX2_close 47 = .ok (.aload_n 0, 1) := by decide +kernel
theorem dX2_close_48 : decode cX2_close 48 = .ok (.getfield 28, 3) := by decide +kernel
theorem dX2_close_51 : decode cX2_close 51 = .ok (.getfield 129, 3) := by decide +kernel
theorem dX2_close_54 : decode cX2_close 54 = .ok (.iand, 1) := by decide +kernel
theorem dX2_close_55 : decode cX2_close 55 = .ok (.invokevirtual 119, 3) := by decide +kernel
theorem dX2_close_58 : decode cX2_close 58 = .ok (.aload_n 1, 1) := by decide +kernel
theorem dX2_close_59 : decode cX2_close 59 = .ok (.aload_n 1, 1) := by decide +kernel
theorem dX2_close_60 : decode cX2_close 60 = .ok (.getfield 123, 3) := by decide +kernel
theorem dX2_close_63 : decode cX2_close 63 = .ok (.putfield 126, 3) := by decide +kernel
theorem dX2_close_66 : decode cX2_close 66 = .ok (.aload_n 1, 1) := by decide +kernel
theorem dX2_close_67 : decode cX2_close 67 = .ok (.iload 4, 2) := by decide +kernel
theorem dX2_close_69 : decode cX2_close 69 = .ok (.putfield 123, 3) := by decide +kernel
theorem dX2_close_72 : decode cX2_close 72 = .ok (.iload_n 3, 1) := by decide +kernel
theorem dX2_close_73 : decode cX2_close 73 = .ok (.iload_n 2, 1) := by decide +kernel
theorem dX2_close_74 : decode cX2_close 74 = .ok (.ishr, 1) := by decide +kernel
theorem dX2_close_75 : decode cX2_close 75 = .ok (.iconst 1, 1) := by decide +kernel
theorem dX2_close_76 : decode cX2_close 76 = .ok (.iand, 1) := by decide +kernel
theorem dX2_close_77 : decode cX2_close 77 = .ok (.ifCond .eq 8, 3) := by decide +kernel
theorem dX2_close_80 : decode cX2_close 80 = .ok (.aload_n 0, 1) := by decide +kernel
theorem dX2_close_81 : decode cX2_close 81 = .ok (.aload_n 1, 1) := by decide +kernel
theorem dX2_close_82 : decode cX2_close 82 = .ok (.invokevirtual 132, 3) := by decide +kernel
theorem dX2_close_85 : decode cX2_close 85 = .ok (.return_, 1) := by decide +kernel
theorem dX2_spill_0 : decode cX2_spill 0 = .ok (.iload_n 2, 1) := by decide +kernel
theorem dX2_spill_1 : decode cX2_spill 1 = .ok (.ifCond .ne 4, 3) := by decide +kernel
theorem dX2_spill_4 : decode cX2_spill 4 = .ok (.return_, 1) := by decide +kernel
theorem dX2_spill_5 : decode cX2_spill 5 = .ok (.iconst 0, 1) := by decide +kernel
theorem dX2_spill_6 : decode cX2_spill 6 = .ok (.istore_n 3, 1) := by decide +kernel
theorem dX2_spill_7 : decode cX2_spill 7 = .ok (.iload_n 3, 1) := by decide +kernel
theorem dX2_spill_8 : decode cX2_spill 8 = .ok (.aload_n 0, 1) := by decide +kernel
theorem dX2_spill_9 : decode cX2_spill 9 = .ok (.getfield 28, 3) := by decide +kernel
theorem dX2_spill_12 : decode cX2_spill 12 = .ok (.getfield 60, 3) := by decide +kernel
theorem dX2_spill_15 : decode cX2_spill 15 = .ok (.if_icmp .ge 61, 3) := by decide +kernel
theorem dX2_spill_18 : decode cX2_spill 18 = .ok (.iload_n 2, 1) := by decide +kernel
theorem dX2_spill_19 : decode cX2_spill 19 = .ok (.iload_n 3, 1) := by decide +kernel
theorem dX2_spill_20 : decode cX2_spill 20 = .ok (.ishr, 1) := by decide +kernel
theorem dX2_spill_21 : decode cX2_spill 21 = .ok (.iconst 1, 1) := by decide +kernel
theorem dX2_spill_22 : decode cX2_spill 22 = .ok (.iand, 1) := by decide +kernel
theorem dX2_spill_23 : decode cX2_spill 23 = .ok (.ifCond .eq 47, 3) := by decide +kernel
theorem dX2_spill_26 : decode cX2_spill 26 = .ok (.aload_n 1, 1) := by decide +kernel
theorem dX2_spill_27 : decode cX2_spill 27 = .ok (.dup, 1) := by decide +kernel
theorem dX2_spill_28 : decode cX2_spill 28 = .ok (.getfield 72, 3) := by decide +kernel
theorem dX2_spill_31 : decode cX2_spill 31 = .ok (.iconst 1, 1) := by decide +kernel
theorem dX2_spill_32 : decode cX2_spill 32 = .ok (.iconst 4, 1) := by decide +kernel
theorem dX2_spill_33 : decode cX2_spill 33 = .ok (.iload_n 3, 1) := by decide +kernel
theorem dX2_spill_34 : decode cX2_spill 34 = .ok (.imul, 1) := by decide +kernel
theorem dX2_spill_35 : decode cX2_spill 35 = .ok (.ishl, 1) := by decide +kernel
theorem dX2_spill_36 : decode cX2_spill 36 = .ok (.iadd, 1) := by decide +kernel
theorem dX2_spill_37 : decode cX2_spill 37 = .ok (.putfield 72, 3) := by decide +kernel
theorem dX2_spill_40 : decode cX2_spill 40 = .ok (.aload_n 1, 1) := by decide +kernel
theorem dX2_spill_41 : decode cX2_spill 41 = .ok (.dup, 1) := by decide +kernel
theorem dX2_spill_42 : decode cX2_spill 42 = .ok (.getfield 104, 3) := by decide +kernel
theorem dX2_spill_45 : decode cX2_spill 45 = .ok (.iconst 1, 1) := by decide +kernel
theorem dX2_spill_46 : decode cX2_spill 46 = .ok (.iload_n 3, 1) := by decide +kernel
theorem dX2_spill_47 : decode cX2_spill 47 = .ok (.ishl, 1) := by decide +kernel
theorem dX2_spill_48 : decode cX2_spill 48 = .ok (.isub, 1) := by decide +kernel
theorem dX2_spill_49 : decode cX2_spill 49 = .ok (.putfield 104, 3) := by decide +kernel
theorem dX2_spill_52 : decode cX2_spill 52 = .ok (.aload_n 1, 1) := by decide +kernel
theorem dX2_spill_53 : decode cX2_spill 53 = .ok (.dup, 1) := by decide +kernel
theorem dX2_spill_54 : decode cX2_spill 54 = .ok (.getfield 107, 3) := by decide +kernel
theorem dX2_spill_57 : decode cX2_spill 57 = .ok (.aload_n 0, 1) := by decide +kernel
theorem dX2_spill_58 : decode cX2_spill 58 = .ok (.getfield 28, 3) := by decide +kernel
theorem dX2_spill_61 : decode cX2_spill 61 = .ok (.getfield 101, 3) := by decide +kernel
theorem dX2_spill_64 : decode cX2_spill 64 = .ok (.iload_n 3, 1) := by decide +kernel
theorem dX2_spill_65 : decode cX2_spill 65 = .ok (.iaload, 1) := by decide +kernel
theorem dX2_spill_66 : decode cX2_spill 66 = .ok (.isub, 1) := by decide +kernel
theorem dX2_spill_67 : decode cX2_spill 67 = .ok (.putfield 107, 3) := by decide +kernel
theorem dX2_spill_70 : decode cX2_spill 70 = .ok (.iinc 3 1, 3) := by decide +kernel
theorem dX2_spill_73 : decode cX2_spill 73 = .ok (.goto (-66), 3) := by decide +kernel
theorem dX2_spill_76 : decode cX2_spill 76 = .ok (.return_, 1) := by decide +kernel
theorem dX2_sendHome_0 : decode cX2_sendHome 0 = .ok (.iconst 0, 1) := by decide +kernel
theorem dX2_sendHome_1 : decode cX2_sendHome 1 = .ok (.istore_n 2, 1) := by decide +kernel
theorem dX2_sendHome_2 : decode cX2_sendHome 2 = .ok (.iload_n 2, 1) := by decide +kernel
theorem dX2_sendHome_3 : decode cX2_sendHome 3 = .ok (.aload_n 0, 1) := by decide +kernel
theorem dX2_sendHome_4 : decode cX2_sendHome 4 = .ok (.getfield 28, 3) := by decide +kernel
theorem dX2_sendHome_7 : decode cX2_sendHome 7 = .ok (.getfield 60, 3) := by decide +kernel
theorem dX2_sendHome_10 : decode cX2_sendHome 10 = .ok (.if_icmp .ge 45, 3) := by decide +kernel
theorem dX2_sendHome_13 : decode cX2_sendHome 13 = .ok (.aload_n 1, 1) := by decide +kernel
theorem dX2_sendHome_14 : decode cX2_sendHome 14 = .ok (.getfield 104, 3) := by decide +kernel
theorem dX2_sendHome_17 : decode cX2_sendHome 17 = .ok (.iload_n 2, 1) := by decide +kernel
theorem dX2_sendHome_18 : decode cX2_sendHome 18 = .ok (.ishr, 1) := by decide +kernel
theorem dX2_sendHome_19 : decode cX2_sendHome 19 = .ok (.iconst 1, 1) := by decide +kernel
theorem dX2_sendHome_20 : decode cX2_sendHome 20 = .ok (.iand, 1) := by decide +kernel
theorem dX2_sendHome_21 : decode cX2_sendHome 21 = .ok (.ifCond .eq 28, 3) := by decide +kernel
theorem dX2_sendHome_24 : decode cX2_sendHome 24 = .ok (.aload_n 1, 1) := by decide +kernel
theorem dX2_sendHome_25 : decode cX2_sendHome 25 = .ok (.dup, 1) := by decide +kernel
theorem dX2_sendHome_26 : decode cX2_sendHome 26 = .ok (.getfield 72, 3) := by decide +kernel
theorem dX2_sendHome_29 : decode cX2_sendHome 29 = .ok (.aload_n 0, 1) := by decide +kernel
theorem dX2_sendHome_30 : decode cX2_sendHome 30 = .ok (.getfield 28, 3) := by decide +kernel
theorem dX2_sendHome_33 : decode cX2_sendHome 33 = .ok (.getfield 65, 3) := by decide +kernel
theorem dX2_sendHome_36 : decode cX2_sendHome 36 = .ok (.iload_n 2, 1) := by decide +kernel
theorem dX2_sendHome_37 : decode cX2_sendHome 37 = .ok (.iaload, 1) := by decide +kernel
theorem dX2_sendHome_38 : decode cX2_sendHome 38 = .ok (.bipush 8, 2) := by decide +kernel
theorem dX2_sendHome_40 : decode cX2_sendHome 40 = .ok (.isub, 1) := by decide +kernel
theorem dX2_sendHome_41 : decode cX2_sendHome 41 = .ok (.iconst 4, 1) := by decide +kernel
theorem dX2_sendHome_42 : decode cX2_sendHome 42 = .ok (.iload_n 2, 1) := by decide +kernel
theorem dX2_sendHome_43 : decode cX2_sendHome 43 = .ok (.imul, 1) := by decide +kernel
theorem dX2_sendHome_44 : decode cX2_sendHome 44 = .ok (.ishl, 1) := by decide +kernel
theorem dX2_sendHome_45 : decode cX2_sendHome 45 = .ok (.iadd, 1) := by decide +kernel
theorem dX2_sendHome_46 : decode cX2_sendHome 46 = .ok (.putfield 72, 3) := by decide +kernel
theorem dX2_sendHome_49 : decode cX2_sendHome 49 = .ok (.iinc 2 1, 3) := by decide +kernel
theorem dX2_sendHome_52 : decode cX2_sendHome 52 = .ok (.goto (-50), 3) := by decide +kernel
theorem dX2_sendHome_55 : decode cX2_sendHome 55 = .ok (.aload_n 1, 1) := by decide +kernel
theorem dX2_sendHome_56 : decode cX2_sendHome 56 = .ok (.iconst 0, 1) := by decide +kernel
theorem dX2_sendHome_57 : decode cX2_sendHome 57 = .ok (.putfield 104, 3) := by decide +kernel
theorem dX2_sendHome_60 : decode cX2_sendHome 60 = .ok (.aload_n 1, 1) := by decide +kernel
theorem dX2_sendHome_61 : decode cX2_sendHome 61 = .ok (.iconst 0, 1) := by decide +kernel
theorem dX2_sendHome_62 : decode cX2_sendHome 62 = .ok (.putfield 107, 3) := by decide +kernel
theorem dX2_sendHome_65 : decode cX2_sendHome 65 = .ok (.return_, 1) := by decide +kernel
theorem dX2_goOn_0 : decode cX2_goOn 0 = .ok (.aload_n 0, 1) := by decide +kernel
theorem dX2_goOn_1 : decode cX2_goOn 1 = .ok (.aload_n 1, 1) := by decide +kernel
theorem dX2_goOn_2 : decode cX2_goOn 2 = .ok (.iload_n 2, 1) := by decide +kernel
theorem dX2_goOn_3 : decode cX2_goOn 3 = .ok (.aload_n 0, 1) := by decide +kernel
theorem dX2_goOn_4 : decode cX2_goOn 4 = .ok (.getfield 32, 3) := by decide +kernel
theorem dX2_goOn_7 : decode cX2_goOn 7 = .ok (.getfield 51, 3) := by decide +kernel
theorem dX2_goOn_10 : decode cX2_goOn 10 = .ok (.invokevirtual 56, 3) := by decide +kernel
theorem dX2_goOn_13 : decode cX2_goOn 13 = .ok (.iload_n 2, 1) := by decide +kernel
theorem dX2_goOn_14 : decode cX2_goOn 14 = .ok (.iconst 1, 1) := by decide +kernel
theorem dX2_goOn_15 : decode cX2_goOn 15 = .ok (.iadd, 1) := by decide +kernel
theorem dX2_goOn_16 : decode cX2_goOn 16 = .ok (.istore 4, 2) := by decide +kernel
theorem dX2_goOn_18 : decode cX2_goOn 18 = .ok (.iload 4, 2) := by decide +kernel
theorem dX2_goOn_20 : decode cX2_goOn 20 = .ok (.iload_n 3, 1) := by decide +kernel
theorem dX2_goOn_21 : decode cX2_goOn 21 = .ok (.if_icmp .gt 31, 3) := by decide +kernel
theorem dX2_goOn_24 : decode cX2_goOn 24 = .ok (.aload_n 0, 1) := by decide +kernel
theorem dX2_goOn_25 : decode cX2_goOn 25 = .ok (.aload_n 1, 1) := by decide +kernel
theorem dX2_goOn_26 : decode cX2_goOn 26 = .ok (.iload 4, 2) := by decide +kernel
theorem dX2_goOn_28 : decode cX2_goOn 28 = .ok (.invokevirtual 47, 3) := by decide +kernel
theorem dX2_goOn_31 : decode cX2_goOn 31 = .ok (.pop, 1) := by decide +kernel
theorem dX2_goOn_32 : decode cX2_goOn 32 = .ok (.aload_n 0, 1) := by decide +kernel
theorem dX2_goOn_33 : decode cX2_goOn 33 = .ok (.aload_n 1, 1) := by decide +kernel
theorem dX2_goOn_34 : decode cX2_goOn 34 = .ok (.iload 4, 2) := by decide +kernel
theorem dX2_goOn_36 : decode cX2_goOn 36 = .ok (.aload_n 0, 1) := by decide +kernel
theorem dX2_goOn_37 : decode cX2_goOn 37 = .ok (.getfield 32, 3) := by decide +kernel
theorem dX2_goOn_40 : decode cX2_goOn 40 = .ok (.getfield 51, 3) := by decide +kernel
theorem dX2_goOn_43 : decode cX2_goOn 43 = .ok (.invokevirtual 56, 3) := by decide +kernel
theorem dX2_goOn_46 : decode cX2_goOn 46 = .ok (.iinc 4 1, 3) := by decide +kernel
theorem dX2_goOn_49 : decode cX2_goOn 49 = .ok (.goto (-31), 3) := by decide +kernel
theorem dX2_goOn_52 : decode cX2_goOn 52 = .ok (.return_, 1) := by decide +kernel
theorem dX2_heldBy_0 : decode cX2_heldBy 0 = .ok (.iconst 0, 1) := by decide +kernel
theorem dX2_heldBy_1 : decode cX2_heldBy 1 = .ok (.istore_n 3, 1) := by decide +kernel
theorem dX2_heldBy_2 : decode cX2_heldBy 2 = .ok (.iconst 0, 1) := by decide +kernel
theorem dX2_heldBy_3 : decode cX2_heldBy 3 = .ok (.istore 4, 2) := by decide +kernel
theorem dX2_heldBy_5 : decode cX2_heldBy 5 = .ok (.iload 4, 2) := by decide +kernel
theorem dX2_heldBy_7 : decode cX2_heldBy 7 = .ok (.aload_n 0, 1) := by decide +kernel
theorem dX2_heldBy_8 : decode cX2_heldBy 8 = .ok (.getfield 28, 3) := by decide +kernel
theorem dX2_heldBy_11 : decode cX2_heldBy 11 = .ok (.getfield 60, 3) := by decide +kernel
theorem dX2_heldBy_14 : decode cX2_heldBy 14 = .ok (.if_icmp .ge 31, 3) := by decide +kernel
theorem dX2_heldBy_17 : decode cX2_heldBy 17 = .ok (.aload_n 0, 1) := by decide +kernel
theorem dX2_heldBy_18 : decode cX2_heldBy 18 = .ok (.getfield 22, 3) := by decide +kernel
theorem dX2_heldBy_21 : decode cX2_heldBy 21 = .ok (.iload_n 1, 1) := by decide +kernel
theorem dX2_heldBy_22 : decode cX2_heldBy 22 = .ok (.aaload, 1) := by decide +kernel
theorem dX2_heldBy_23 : decode cX2_heldBy 23 = .ok (.iload 4, 2) := by decide +kernel
theorem dX2_heldBy_25 : decode cX2_heldBy 25 = .ok (.invokevirtual 135, 3) := by decide +kernel
theorem dX2_heldBy_28 : decode cX2_heldBy 28 = .ok (.iload_n 2, 1) := by decide +kernel
theorem dX2_heldBy_29 : decode cX2_heldBy 29 = .ok (.if_icmp .ne 10, 3) := by decide +kernel
theorem dX2_heldBy_32 : decode cX2_heldBy 32 = .ok (.iload_n 3, 1) := by decide +kernel
theorem dX2_heldBy_33 : decode cX2_heldBy 33 = .ok (.iconst 1, 1) := by decide +kernel
theorem dX2_heldBy_34 : decode cX2_heldBy 34 = .ok (.iload 4, 2) := by decide +kernel
theorem dX2_heldBy_36 : decode cX2_heldBy 36 = .ok (.ishl, 1) := by decide +kernel
theorem dX2_heldBy_37 : decode cX2_heldBy 37 = .ok (.ior, 1) := by decide +kernel
theorem dX2_heldBy_38 : decode cX2_heldBy 38 = .ok (.istore_n 3, 1) := by decide +kernel
theorem dX2_heldBy_39 : decode cX2_heldBy 39 = .ok (.iinc 4 1, 3) := by decide +kernel
theorem dX2_heldBy_42 : decode cX2_heldBy 42 = .ok (.goto (-37), 3) := by decide +kernel
theorem dX2_heldBy_45 : decode cX2_heldBy 45 = .ok (.iload_n 3, 1) := by decide +kernel
theorem dX2_heldBy_46 : decode cX2_heldBy 46 = .ok (.ireturn, 1) := by decide +kernel
theorem dX2_content_0 : decode cX2_content 0 = .ok (.iconst 0, 1) := by decide +kernel
theorem dX2_content_1 : decode cX2_content 1 = .ok (.istore_n 2, 1) := by decide +kernel
theorem dX2_content_2 : decode cX2_content 2 = .ok (.iconst 0, 1) := by decide +kernel
theorem dX2_content_3 : decode cX2_content 3 = .ok (.istore_n 3, 1) := by decide +kernel
theorem dX2_content_4 : decode cX2_content 4 = .ok (.iload_n 3, 1) := by decide +kernel
theorem dX2_content_5 : decode cX2_content 5 = .ok (.aload_n 0, 1) := by decide +kernel
theorem dX2_content_6 : decode cX2_content 6 = .ok (.getfield 28, 3) := by decide +kernel
theorem dX2_content_9 : decode cX2_content 9 = .ok (.getfield 69, 3) := by decide +kernel
theorem dX2_content_12 : decode cX2_content 12 = .ok (.if_icmp .ge 59, 3) := by decide +kernel
theorem dX2_content_15 : decode cX2_content 15 = .ok (.aload_n 0, 1) := by decide +kernel
theorem dX2_content_16 : decode cX2_content 16 = .ok (.getfield 28, 3) := by decide +kernel
theorem dX2_content_19 : decode cX2_content 19 = .ok (.getfield 139, 3) := by decide +kernel
theorem dX2_content_22 : decode cX2_content 22 = .ok (.iload_n 3, 1) := by decide +kernel
theorem dX2_content_23 : decode cX2_content 23 = .ok (.iaload, 1) := by decide +kernel
theorem dX2_content_24 : decode cX2_content 24 = .ok (.istore 4, 2) := by decide +kernel
theorem dX2_content_26 : decode cX2_content 26 = .ok (.iload 4, 2) := by decide +kernel
theorem dX2_content_28 : decode cX2_content 28 = .ok (.iconst (-1), 1) := by decide +kernel
theorem dX2_content_29 : decode cX2_content 29 = .ok (.if_icmp .eq 36, 3) := by decide +kernel
theorem dX2_content_32 : decode cX2_content 32 = .ok (.iload 4, 2) := by decide +kernel
theorem dX2_content_34 : decode cX2_content 34 = .ok (.aload_n 0, 1) := by decide +kernel
theorem dX2_content_35 : decode cX2_content 35 = .ok (.getfield 28, 3) := by decide +kernel
theorem dX2_content_38 : decode cX2_content 38 = .ok (.getfield 60, 3) := by decide +kernel
theorem dX2_content_41 : decode cX2_content 41 = .ok (.if_icmp .ge 24, 3) := by decide +kernel
theorem dX2_content_44 : decode cX2_content 44 = .ok (.aload_n 0, 1) := by decide +kernel
theorem dX2_content_45 : decode cX2_content 45 = .ok (.getfield 22, 3) := by decide +kernel
theorem dX2_content_48 : decode cX2_content 48 = .ok (.iload_n 1, 1) := by decide +kernel
theorem dX2_content_49 : decode cX2_content 49 = .ok (.aaload, 1) := by decide +kernel
theorem dX2_content_50 : decode cX2_content 50 = .ok (.iload 4, 2) := by decide +kernel
theorem dX2_content_52 : decode cX2_content 52 = .ok (.invokevirtual 135, 3) := by decide +kernel
theorem dX2_content_55 : decode cX2_content 55 = .ok (.iload_n 3, 1) := by decide +kernel
theorem dX2_content_56 : decode cX2_content 56 = .ok (.if_icmp .ne 9, 3) := by decide +kernel
theorem dX2_content_59 : decode cX2_content 59 = .ok (.iload_n 2, 1) := by decide +kernel
theorem dX2_content_60 : decode cX2_content 60 = .ok (.iconst 1, 1) := by decide +kernel
theorem dX2_content_61 : decode cX2_content 61 = .ok (.iload_n 3, 1) := by decide +kernel
theorem dX2_content_62 : decode cX2_content 62 = .ok (.ishl, 1) := by decide +kernel
theorem dX2_content_63 : decode cX2_content 63 = .ok (.ior, 1) := by decide +kernel
theorem dX2_content_64 : decode cX2_content 64 = .ok (.istore_n 2, 1) := by decide +kernel
theorem dX2_content_65 : decode cX2_content 65 = .ok (.iinc 3 1, 3) := by decide +kernel
theorem dX2_content_68 : decode cX2_content 68 = .ok (.goto (-64), 3) := by decide +kernel
theorem dX2_content_71 : decode cX2_content 71 = .ok (.iload_n 2, 1) := by decide +kernel
theorem dX2_content_72 : decode cX2_content 72 = .ok (.ireturn, 1) := by decide +kernel
theorem dX2_firstIdle_0 : decode cX2_firstIdle 0 = .ok (.iconst 0, 1) := by decide +kernel
theorem dX2_firstIdle_1 : decode cX2_firstIdle 1 = .ok (.istore_n 1, 1) := by decide +kernel
theorem dX2_firstIdle_2 : decode cX2_firstIdle 2 = .ok (.iload_n 1, 1) := by decide +kernel
theorem dX2_firstIdle_3 : decode cX2_firstIdle 3 = .ok (.aload_n 0, 1) := by decide +kernel
theorem dX2_firstIdle_4 : decode cX2_firstIdle 4 = .ok (.getfield 32, 3) := by decide +kernel
theorem dX2_firstIdle_7 : decode cX2_firstIdle 7 = .ok (.getfield 142, 3) := by decide +kernel
theorem dX2_firstIdle_10 : decode cX2_firstIdle 10 = .ok (.if_icmp .ge 32, 3) := by decide +kernel
theorem dX2_firstIdle_13 : decode cX2_firstIdle 13 = .ok (.aload_n 0, 1) := by decide +kernel
theorem dX2_firstIdle_14 : decode cX2_firstIdle 14 = .ok (.getfield 32, 3) := by decide +kernel
theorem dX2_firstIdle_17 : decode cX2_firstIdle 17 = .ok (.getfield 95, 3) := by decide +kernel
theorem dX2_firstIdle_20 : decode cX2_firstIdle 20 = .ok (.iload_n 1, 1) := by decide +kernel
theorem dX2_firstIdle_21 : decode cX2_firstIdle 21 = .ok (.iaload, 1) := by decide +kernel
theorem dX2_firstIdle_22 : decode cX2_firstIdle 22 = .ok (.istore_n 2, 1) := by decide +kernel
theorem dX2_firstIdle_23 : decode cX2_firstIdle 23 = .ok (.aload_n 0, 1) := by decide +kernel
theorem dX2_firstIdle_24 : decode cX2_firstIdle 24 = .ok (.getfield 43, 3) := by decide +kernel
theorem dX2_firstIdle_27 : decode cX2_firstIdle 27 = .ok (.iload_n 2, 1) := by decide +kernel
