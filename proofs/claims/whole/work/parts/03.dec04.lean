theorem dX10_readsText_75 : decode cX10_readsText 75 = .ok (.ifCond .ne 13, 3) := by decide +kernel
theorem dX10_readsText_78 : decode cX10_readsText 78 = .ok (.aload_n 0, 1) := by decide +kernel
theorem dX10_readsText_79 : decode cX10_readsText 79 = .ok (.iload_n 3, 1) := by decide +kernel
theorem dX10_readsText_80 : decode cX10_readsText 80 = .ok (.iload 4, 2) := by decide +kernel
theorem dX10_readsText_82 : decode cX10_readsText 82 = .ok (.invokevirtual 131, 3) := by decide +kernel
theorem dX10_readsText_85 : decode cX10_readsText 85 = .ok (.goto 10, 3) := by decide +kernel
theorem dX10_readsText_88 : decode cX10_readsText 88 = .ok (.aload_n 0, 1) := by decide +kernel
theorem dX10_readsText_89 : decode cX10_readsText 89 = .ok (.iload_n 3, 1) := by decide +kernel
theorem dX10_readsText_90 : decode cX10_readsText 90 = .ok (.iload 4, 2) := by decide +kernel
theorem dX10_readsText_92 : decode cX10_readsText 92 = .ok (.invokevirtual 134, 3) := by decide +kernel
theorem dX10_readsText_95 : decode cX10_readsText 95 = .ok (.istore 5, 2) := by decide +kernel
theorem dX10_readsText_97 : decode cX10_readsText 97 = .ok (.iload 5, 2) := by decide +kernel
theorem dX10_readsText_99 : decode cX10_readsText 99 = .ok (.iload_n 2, 1) := by decide +kernel
theorem dX10_readsText_100 : decode cX10_readsText 100 = .ok (.if_icmp .ge 9, 3) := by decide +kernel
theorem dX10_readsText_103 : decode cX10_readsText 103 = .ok (.iload 4, 2) := by decide +kernel
theorem dX10_readsText_105 : decode cX10_readsText 105 = .ok (.iload 5, 2) := by decide +kernel
theorem dX10_readsText_107 : decode cX10_readsText 107 = .ok (.iadd, 1) := by decide +kernel
theorem dX10_readsText_108 : decode cX10_readsText 108 = .ok (.ireturn, 1) := by decide +kernel
theorem dX10_readsText_109 : decode cX10_readsText 109 = .ok (.iinc 3 1, 3) := by decide +kernel
theorem dX10_readsText_112 : decode cX10_readsText 112 = .ok (.iload 4, 2) := by decide +kernel
theorem dX10_readsText_114 : decode cX10_readsText 114 = .ok (.iload_n 2, 1) := by decide +kernel
theorem dX10_readsText_115 : decode cX10_readsText 115 = .ok (.iadd, 1) := by decide +kernel
theorem dX10_readsText_116 : decode cX10_readsText 116 = .ok (.istore 4, 2) := by decide +kernel
theorem dX10_readsText_118 : decode cX10_readsText 118 = .ok (.iload 4, 2) := by decide +kernel
theorem dX10_readsText_120 : decode cX10_readsText 120 = .ok (.aload_n 0, 1) := by decide +kernel
theorem dX10_readsText_121 : decode cX10_readsText 121 = .ok (.getfield 7, 3) := by decide +kernel
theorem dX10_readsText_124 : decode cX10_readsText 124 = .ok (.iload_n 1, 1) := by decide +kernel
theorem dX10_readsText_125 : decode cX10_readsText 125 = .ok (.iaload, 1) := by decide +kernel
theorem dX10_readsText_126 : decode cX10_readsText 126 = .ok (.if_icmp .ne 38, 3) := by decide +kernel
theorem dX10_readsText_129 : decode cX10_readsText 129 = .ok (.aload_n 0, 1) := by decide +kernel
theorem dX10_readsText_130 : decode cX10_readsText 130 = .ok (.iload_n 1, 1) := by decide +kernel
theorem dX10_readsText_131 : decode cX10_readsText 131 = .ok (.ifCond .ne 7, 3) := by decide +kernel
theorem dX10_readsText_134 : decode cX10_readsText 134 = .ok (.iload_n 3, 1) := by decide +kernel
theorem dX10_readsText_135 : decode cX10_readsText 135 = .ok (.goto 7, 3) := by decide +kernel
theorem dX10_readsText_138 : decode cX10_readsText 138 = .ok (.aload_n 0, 1) := by decide +kernel
theorem dX10_readsText_139 : decode cX10_readsText 139 = .ok (.getfield 125, 3) := by decide +kernel
theorem dX10_readsText_142 : decode cX10_readsText 142 = .ok (.putfield 125, 3) := by decide +kernel
theorem dX10_readsText_145 : decode cX10_readsText 145 = .ok (.aload_n 0, 1) := by decide +kernel
theorem dX10_readsText_146 : decode cX10_readsText 146 = .ok (.iload_n 1, 1) := by decide +kernel
theorem dX10_readsText_147 : decode cX10_readsText 147 = .ok (.iconst 1, 1) := by decide +kernel
theorem dX10_readsText_148 : decode cX10_readsText 148 = .ok (.if_icmp .ne 7, 3) := by decide +kernel
theorem dX10_readsText_151 : decode cX10_readsText 151 = .ok (.iload_n 3, 1) := by decide +kernel
theorem dX10_readsText_152 : decode cX10_readsText 152 = .ok (.goto 7, 3) := by decide +kernel
theorem dX10_readsText_155 : decode cX10_readsText 155 = .ok (.aload_n 0, 1) := by decide +kernel
theorem dX10_readsText_156 : decode cX10_readsText 156 = .ok (.getfield 128, 3) := by decide +kernel
theorem dX10_readsText_159 : decode cX10_readsText 159 = .ok (.putfield 128, 3) := by decide +kernel
theorem dX10_readsText_162 : decode cX10_readsText 162 = .ok (.iconst (-1), 1) := by decide +kernel
theorem dX10_readsText_163 : decode cX10_readsText 163 = .ok (.ireturn, 1) := by decide +kernel
theorem dX10_readsText_164 : decode cX10_readsText 164 = .ok (.aload_n 0, 1) := by decide +kernel
theorem dX10_readsText_165 : decode cX10_readsText 165 = .ok (.iload_n 1, 1) := by decide +kernel
theorem dX10_readsText_166 : decode cX10_readsText 166 = .ok (.iload 4, 2) := by decide +kernel
theorem dX10_readsText_168 : decode cX10_readsText 168 = .ok (.invokevirtual 118, 3) := by decide +kernel
theorem dX10_readsText_171 : decode cX10_readsText 171 = .ok (.bipush 59, 2) := by decide +kernel
theorem dX10_readsText_173 : decode cX10_readsText 173 = .ok (.if_icmp .eq 6, 3) := by decide +kernel
theorem dX10_readsText_176 : decode cX10_readsText 176 = .ok (.iload 4, 2) := by decide +kernel
theorem dX10_readsText_178 : decode cX10_readsText 178 = .ok (.ireturn, 1) := by decide +kernel
theorem dX10_readsText_179 : decode cX10_readsText 179 = .ok (.iinc 4 1, 3) := by decide +kernel
theorem dX10_readsText_182 : decode cX10_readsText 182 = .ok (.goto (-134), 3) := by decide +kernel
theorem dX10_readsText_185 : decode cX10_readsText 185 = .ok (.iconst (-1), 1) := by decide +kernel
theorem dX10_readsText_186 : decode cX10_readsText 186 = .ok (.ireturn, 1) := by decide +kernel
theorem dX10_faultOf_0 : decode cX10_faultOf 0 = .ok (.aload_n 0, 1) := by decide +kernel
theorem dX10_faultOf_1 : decode cX10_faultOf 1 = .ok (.iconst 0, 1) := by decide +kernel
theorem dX10_faultOf_2 : decode cX10_faultOf 2 = .ok (.invokevirtual 137, 3) := by decide +kernel
theorem dX10_faultOf_5 : decode cX10_faultOf 5 = .ok (.istore_n 2, 1) := by decide +kernel
theorem dX10_faultOf_6 : decode cX10_faultOf 6 = .ok (.aload_n 0, 1) := by decide +kernel
theorem dX10_faultOf_7 : decode cX10_faultOf 7 = .ok (.iconst 1, 1) := by decide +kernel
theorem dX10_faultOf_8 : decode cX10_faultOf 8 = .ok (.invokevirtual 137, 3) := by decide +kernel
theorem dX10_faultOf_11 : decode cX10_faultOf 11 = .ok (.istore_n 3, 1) := by decide +kernel
theorem dX10_faultOf_12 : decode cX10_faultOf 12 = .ok (.iload_n 1, 1) := by decide +kernel
theorem dX10_faultOf_13 : decode cX10_faultOf 13 = .ok (.ifCond .ne 7, 3) := by decide +kernel
theorem dX10_faultOf_16 : decode cX10_faultOf 16 = .ok (.iload_n 2, 1) := by decide +kernel
theorem dX10_faultOf_17 : decode cX10_faultOf 17 = .ok (.goto 4, 3) := by decide +kernel
theorem dX10_faultOf_20 : decode cX10_faultOf 20 = .ok (.iload_n 3, 1) := by decide +kernel
theorem dX10_faultOf_21 : decode cX10_faultOf 21 = .ok (.ireturn, 1) := by decide +kernel
theorem dX10_reads_0 : decode cX10_reads 0 = .ok (.aload_n 0, 1) := by decide +kernel
theorem dX10_reads_1 : decode cX10_reads 1 = .ok (.iconst 0, 1) := by decide +kernel
theorem dX10_reads_2 : decode cX10_reads 2 = .ok (.invokevirtual 141, 3) := by decide +kernel
theorem dX10_reads_5 : decode cX10_reads 5 = .ok (.istore_n 1, 1) := by decide +kernel
theorem dX10_reads_6 : decode cX10_reads 6 = .ok (.return_, 1) := by decide +kernel
theorem dX10_fault_0 : decode cX10_fault 0 = .ok (.iload_n 1, 1) := by decide +kernel
theorem dX10_fault_1 : decode cX10_fault 1 = .ok (.invokestatic 114, 3) := by decide +kernel
theorem dX10_fault_4 : decode cX10_fault 4 = .ok (.ifCond .eq 11, 3) := by decide +kernel
theorem dX10_fault_7 : decode cX10_fault 7 = .ok (.aload_n 0, 1) := by decide +kernel
theorem dX10_fault_8 : decode cX10_fault 8 = .ok (.iload_n 1, 1) := by decide +kernel
theorem dX10_fault_9 : decode cX10_fault 9 = .ok (.invokevirtual 141, 3) := by decide +kernel
theorem dX10_fault_12 : decode cX10_fault 12 = .ok (.goto 5, 3) := by decide +kernel
theorem dX10_fault_15 : decode cX10_fault 15 = .ok (.bipush (-2), 2) := by decide +kernel
theorem dX10_fault_17 : decode cX10_fault 17 = .ok (.ireturn, 1) := by decide +kernel
theorem dX10_isThing_0 : decode cX10_isThing 0 = .ok (.aload_n 0, 1) := by decide +kernel
theorem dX10_isThing_1 : decode cX10_isThing 1 = .ok (.invokevirtual 144, 3) := by decide +kernel
theorem dX10_isThing_4 : decode cX10_isThing 4 = .ok (.iload_n 1, 1) := by decide +kernel
theorem dX10_isThing_5 : decode cX10_isThing 5 = .ok (.iconst 0, 1) := by decide +kernel
theorem dX10_isThing_6 : decode cX10_isThing 6 = .ok (.aload_n 0, 1) := by decide +kernel
theorem dX10_isThing_7 : decode cX10_isThing 7 = .ok (.getfield 125, 3) := by decide +kernel
theorem dX10_isThing_10 : decode cX10_isThing 10 = .ok (.iconst 1, 1) := by decide +kernel
theorem dX10_isThing_11 : decode cX10_isThing 11 = .ok (.isub, 1) := by decide +kernel
theorem dX10_isThing_12 : decode cX10_isThing 12 = .ok (.invokestatic 110, 3) := by decide +kernel
theorem dX10_isThing_15 : decode cX10_isThing 15 = .ok (.ireturn, 1) := by decide +kernel
theorem dX10_isCousin_0 : decode cX10_isCousin 0 = .ok (.aload_n 0, 1) := by decide +kernel
theorem dX10_isCousin_1 : decode cX10_isCousin 1 = .ok (.invokevirtual 144, 3) := by decide +kernel
theorem dX10_isCousin_4 : decode cX10_isCousin 4 = .ok (.iload_n 1, 1) := by decide +kernel
theorem dX10_isCousin_5 : decode cX10_isCousin 5 = .ok (.iconst 0, 1) := by decide +kernel
theorem dX10_isCousin_6 : decode cX10_isCousin 6 = .ok (.aload_n 0, 1) := by decide +kernel
theorem dX10_isCousin_7 : decode cX10_isCousin 7 = .ok (.getfield 128, 3) := by decide +kernel
theorem dX10_isCousin_10 : decode cX10_isCousin 10 = .ok (.iconst 1, 1) := by decide +kernel
theorem dX10_isCousin_11 : decode cX10_isCousin 11 = .ok (.isub, 1) := by decide +kernel
theorem dX10_isCousin_12 : decode cX10_isCousin 12 = .ok (.invokestatic 110, 3) := by decide +kernel
theorem dX10_isCousin_15 : decode cX10_isCousin 15 = .ok (.ireturn, 1) := by decide +kernel
theorem dX10_thingOf_0 : decode cX10_thingOf 0 = .ok (.iload_n 2, 1) := by decide +kernel
theorem dX10_thingOf_1 : decode cX10_thingOf 1 = .ok (.ifCond .ne 12, 3) := by decide +kernel
theorem dX10_thingOf_4 : decode cX10_thingOf 4 = .ok (.aload_n 0, 1) := by decide +kernel
theorem dX10_thingOf_5 : decode cX10_thingOf 5 = .ok (.getfield 16, 3) := by decide +kernel
theorem dX10_thingOf_8 : decode cX10_thingOf 8 = .ok (.iload_n 1, 1) := by decide +kernel
theorem dX10_thingOf_9 : decode cX10_thingOf 9 = .ok (.iaload, 1) := by decide +kernel
theorem dX10_thingOf_10 : decode cX10_thingOf 10 = .ok (.goto 23, 3) := by decide +kernel
theorem dX10_thingOf_13 : decode cX10_thingOf 13 = .ok (.iload_n 2, 1) := by decide +kernel
theorem dX10_thingOf_14 : decode cX10_thingOf 14 = .ok (.iconst 1, 1) := by decide +kernel
theorem dX10_thingOf_15 : decode cX10_thingOf 15 = .ok (.if_icmp .ne 12, 3) := by decide +kernel
theorem dX10_thingOf_18 : decode cX10_thingOf 18 = .ok (.aload_n 0, 1) := by decide +kernel
theorem dX10_thingOf_19 : decode cX10_thingOf 19 = .ok (.getfield 19, 3) := by decide +kernel
theorem dX10_thingOf_22 : decode cX10_thingOf 22 = .ok (.iload_n 1, 1) := by decide +kernel
theorem dX10_thingOf_23 : decode cX10_thingOf 23 = .ok (.iaload, 1) := by decide +kernel
theorem dX10_thingOf_24 : decode cX10_thingOf 24 = .ok (.goto 9, 3) := by decide +kernel
theorem dX10_thingOf_27 : decode cX10_thingOf 27 = .ok (.aload_n 0, 1) := by decide +kernel
theorem dX10_thingOf_28 : decode cX10_thingOf 28 = .ok (.getfield 22, 3) := by decide +kernel
theorem dX10_thingOf_31 : decode cX10_thingOf 31 = .ok (.iload_n 1, 1) := by decide +kernel
theorem dX10_thingOf_32 : decode cX10_thingOf 32 = .ok (.iaload, 1) := by decide +kernel
theorem dX10_thingOf_33 : decode cX10_thingOf 33 = .ok (.ireturn, 1) := by decide +kernel
theorem dX10_thing_0 : decode cX10_thing 0 = .ok (.aload_n 0, 1) := by decide +kernel
theorem dX10_thing_1 : decode cX10_thing 1 = .ok (.iload_n 1, 1) := by decide +kernel
theorem dX10_thing_2 : decode cX10_thing 2 = .ok (.invokevirtual 147, 3) := by decide +kernel
theorem dX10_thing_5 : decode cX10_thing 5 = .ok (.ifCond .eq 21, 3) := by decide +kernel
theorem dX10_thing_8 : decode cX10_thing 8 = .ok (.iload_n 2, 1) := by decide +kernel
theorem dX10_thing_9 : decode cX10_thing 9 = .ok (.iconst 0, 1) := by decide +kernel
theorem dX10_thing_10 : decode cX10_thing 10 = .ok (.iconst 2, 1) := by decide +kernel
theorem dX10_thing_11 : decode cX10_thing 11 = .ok (.invokestatic 110, 3) := by decide +kernel
theorem dX10_thing_14 : decode cX10_thing 14 = .ok (.ifCond .eq 12, 3) := by decide +kernel
theorem dX10_thing_17 : decode cX10_thing 17 = .ok (.aload_n 0, 1) := by decide +kernel
theorem dX10_thing_18 : decode cX10_thing 18 = .ok (.iload_n 1, 1) := by decide +kernel
theorem dX10_thing_19 : decode cX10_thing 19 = .ok (.iload_n 2, 1) := by decide +kernel
theorem dX10_thing_20 : decode cX10_thing 20 = .ok (.invokevirtual 150, 3) := by decide +kernel
theorem dX10_thing_23 : decode cX10_thing 23 = .ok (.goto 5, 3) := by decide +kernel
theorem dX10_thing_26 : decode cX10_thing 26 = .ok (.bipush (-2), 2) := by decide +kernel
theorem dX10_thing_28 : decode cX10_thing 28 = .ok (.ireturn, 1) := by decide +kernel
theorem dX10_cousin_0 : decode cX10_cousin 0 = .ok (.aload_n 0, 1) := by decide +kernel
theorem dX10_cousin_1 : decode cX10_cousin 1 = .ok (.iload_n 1, 1) := by decide +kernel
theorem dX10_cousin_2 : decode cX10_cousin 2 = .ok (.invokevirtual 153, 3) := by decide +kernel
theorem dX10_cousin_5 : decode cX10_cousin 5 = .ok (.ifCond .eq 34, 3) := by decide +kernel
theorem dX10_cousin_8 : decode cX10_cousin 8 = .ok (.iload_n 2, 1) := by decide +kernel
theorem dX10_cousin_9 : decode cX10_cousin 9 = .ok (.iconst 0, 1) := by decide +kernel
theorem dX10_cousin_10 : decode cX10_cousin 10 = .ok (.iconst 1, 1) := by decide +kernel
theorem dX10_cousin_11 : decode cX10_cousin 11 = .ok (.invokestatic 110, 3) := by decide +kernel
theorem dX10_cousin_14 : decode cX10_cousin 14 = .ok (.ifCond .eq 25, 3) := by decide +kernel
theorem dX10_cousin_17 : decode cX10_cousin 17 = .ok (.iload_n 2, 1) := by decide +kernel
theorem dX10_cousin_18 : decode cX10_cousin 18 = .ok (.ifCond .ne 12, 3) := by decide +kernel
theorem dX10_cousin_21 : decode cX10_cousin 21 = .ok (.aload_n 0, 1) := by decide +kernel
theorem dX10_cousin_22 : decode cX10_cousin 22 = .ok (.getfield 25, 3) := by decide +kernel
theorem dX10_cousin_25 : decode cX10_cousin 25 = .ok (.iload_n 1, 1) := by decide +kernel
theorem dX10_cousin_26 : decode cX10_cousin 26 = .ok (.iaload, 1) := by decide +kernel
theorem dX10_cousin_27 : decode cX10_cousin 27 = .ok (.goto 14, 3) := by decide +kernel
theorem dX10_cousin_30 : decode cX10_cousin 30 = .ok (.aload_n 0, 1) := by decide +kernel
theorem dX10_cousin_31 : decode cX10_cousin 31 = .ok (.getfield 28, 3) := by decide +kernel
theorem dX10_cousin_34 : decode cX10_cousin 34 = .ok (.iload_n 1, 1) := by decide +kernel
theorem dX10_cousin_35 : decode cX10_cousin 35 = .ok (.iaload, 1) := by decide +kernel
theorem dX10_cousin_36 : decode cX10_cousin 36 = .ok (.goto 5, 3) := by decide +kernel
theorem dX10_cousin_39 : decode cX10_cousin 39 = .ok (.bipush (-2), 2) := by decide +kernel
theorem dX10_cousin_41 : decode cX10_cousin 41 = .ok (.ireturn, 1) := by decide +kernel
theorem dX10_room_0 : decode cX10_room 0 = .ok (.iload_n 1, 1) := by decide +kernel
theorem dX10_room_1 : decode cX10_room 1 = .ok (.iconst 1, 1) := by decide +kernel
theorem dX10_room_2 : decode cX10_room 2 = .ok (.bipush 72, 2) := by decide +kernel
theorem dX10_room_4 : decode cX10_room 4 = .ok (.invokestatic 110, 3) := by decide +kernel
theorem dX10_room_7 : decode cX10_room 7 = .ok (.ifCond .ne 6, 3) := by decide +kernel
theorem dX10_room_10 : decode cX10_room 10 = .ok (.bipush (-2), 2) := by decide +kernel
theorem dX10_room_12 : decode cX10_room 12 = .ok (.ireturn, 1) := by decide +kernel
theorem dX10_room_13 : decode cX10_room 13 = .ok (.aload_n 0, 1) := by decide +kernel
theorem dX10_room_14 : decode cX10_room 14 = .ok (.getfield 104, 3) := by decide +kernel
theorem dX10_room_17 : decode cX10_room 17 = .ok (.istore_n 2, 1) := by decide +kernel
theorem dX10_room_18 : decode cX10_room 18 = .ok (.aload_n 0, 1) := by decide +kernel
theorem dX10_room_19 : decode cX10_room 19 = .ok (.iload_n 1, 1) := by decide +kernel
theorem dX10_room_20 : decode cX10_room 20 = .ok (.putfield 104, 3) := by decide +kernel
theorem dX10_room_23 : decode cX10_room 23 = .ok (.iload_n 2, 1) := by decide +kernel
theorem dX10_room_24 : decode cX10_room 24 = .ok (.ireturn, 1) := by decide +kernel
theorem dX10_aunt_0 : decode cX10_aunt 0 = .ok (.iload_n 1, 1) := by decide +kernel
theorem dX10_aunt_1 : decode cX10_aunt 1 = .ok (.iconst 0, 1) := by decide +kernel
theorem dX10_aunt_2 : decode cX10_aunt 2 = .ok (.ldc 156, 2) := by decide +kernel
theorem dX10_aunt_4 : decode cX10_aunt 4 = .ok (.invokestatic 110, 3) := by decide +kernel
theorem dX10_aunt_7 : decode cX10_aunt 7 = .ok (.ifCond .ne 6, 3) := by decide +kernel
theorem dX10_aunt_10 : decode cX10_aunt 10 = .ok (.bipush (-2), 2) := by decide +kernel
theorem dX10_aunt_12 : decode cX10_aunt 12 = .ok (.ireturn, 1) := by decide +kernel
theorem dX10_aunt_13 : decode cX10_aunt 13 = .ok (.aload_n 0, 1) := by decide +kernel
theorem dX10_aunt_14 : decode cX10_aunt 14 = .ok (.getfield 157, 3) := by decide +kernel
theorem dX10_aunt_17 : decode cX10_aunt 17 = .ok (.istore_n 2, 1) := by decide +kernel
theorem dX10_aunt_18 : decode cX10_aunt 18 = .ok (.aload_n 0, 1) := by decide +kernel
theorem dX10_aunt_19 : decode cX10_aunt 19 = .ok (.iload_n 1, 1) := by decide +kernel
theorem dX10_aunt_20 : decode cX10_aunt 20 = .ok (.putfield 157, 3) := by decide +kernel
theorem dX10_aunt_23 : decode cX10_aunt 23 = .ok (.iload_n 2, 1) := by decide +kernel
theorem dX10_aunt_24 : decode cX10_aunt 24 = .ok (.ireturn, 1) := by decide +kernel
theorem dX10_hand_0 : decode cX10_hand 0 = .ok (.iload_n 1, 1) := by decide +kernel
theorem dX10_hand_1 : decode cX10_hand 1 = .ok (.invokestatic 160, 3) := by decide +kernel
theorem dX10_hand_4 : decode cX10_hand 4 = .ok (.ifCond .eq 27, 3) := by decide +kernel
theorem dX10_hand_7 : decode cX10_hand 7 = .ok (.iload_n 2, 1) := by decide +kernel
theorem dX10_hand_8 : decode cX10_hand 8 = .ok (.invokestatic 122, 3) := by decide +kernel
theorem dX10_hand_11 : decode cX10_hand 11 = .ok (.ifCond .eq 20, 3) := by decide +kernel
theorem dX10_hand_14 : decode cX10_hand 14 = .ok (.iload_n 3, 1) := by decide +kernel
theorem dX10_hand_15 : decode cX10_hand 15 = .ok (.invokestatic 122, 3) := by decide +kernel
theorem dX10_hand_18 : decode cX10_hand 18 = .ok (.ifCond .eq 13, 3) := by decide +kernel
theorem dX10_hand_21 : decode cX10_hand 21 = .ok (.iload 4, 2) := by decide +kernel
theorem dX10_hand_23 : decode cX10_hand 23 = .ok (.iconst 0, 1) := by decide +kernel
theorem dX10_hand_24 : decode cX10_hand 24 = .ok (.iconst 1, 1) := by decide +kernel
theorem dX10_hand_25 : decode cX10_hand 25 = .ok (.invokestatic 110, 3) := by decide +kernel
theorem dX10_hand_28 : decode cX10_hand 28 = .ok (.ifCond .ne 6, 3) := by decide +kernel
theorem dX10_hand_31 : decode cX10_hand 31 = .ok (.bipush (-2), 2) := by decide +kernel
theorem dX10_hand_33 : decode cX10_hand 33 = .ok (.ireturn, 1) := by decide +kernel
theorem dX10_hand_34 : decode cX10_hand 34 = .ok (.aload_n 0, 1) := by decide +kernel
theorem dX10_hand_35 : decode cX10_hand 35 = .ok (.getfield 163, 3) := by decide +kernel
theorem dX10_hand_38 : decode cX10_hand 38 = .ok (.bipush 20, 2) := by decide +kernel
theorem dX10_hand_40 : decode cX10_hand 40 = .ok (.if_icmp .ne 6, 3) := by decide +kernel
theorem dX10_hand_43 : decode cX10_hand 43 = .ok (.bipush (-4), 2) := by decide +kernel
theorem dX10_hand_45 : decode cX10_hand 45 = .ok (.ireturn, 1) := by decide +kernel
theorem dX10_hand_46 : decode cX10_hand 46 = .ok (.aload_n 0, 1) := by decide +kernel
theorem dX10_hand_47 : decode cX10_hand 47 = .ok (.getfield 31, 3) := by decide +kernel
theorem dX10_hand_50 : decode cX10_hand 50 = .ok (.aload_n 0, 1) := by decide +kernel
theorem dX10_hand_51 : decode cX10_hand 51 = .ok (.getfield 163, 3) := by decide +kernel
theorem dX10_hand_54 : decode cX10_hand 54 = .ok (.iload_n 1, 1) := by decide +kernel
theorem dX10_hand_55 : decode cX10_hand 55 = .ok (.iastore, 1) := by decide +kernel
theorem dX10_hand_56 : decode cX10_hand 56 = .ok (.aload_n 0, 1) := by decide +kernel
theorem dX10_hand_57 : decode cX10_hand 57 = .ok (.getfield 34, 3) := by decide +kernel
theorem dX10_hand_60 : decode cX10_hand 60 = .ok (.aload_n 0, 1) := by decide +kernel
theorem dX10_hand_61 : decode cX10_hand 61 = .ok (.getfield 163, 3) := by decide +kernel
theorem dX10_hand_64 : decode cX10_hand 64 = .ok (.bipush 64, 2) := by decide +kernel
theorem dX10_hand_66 : decode cX10_hand 66 = .ok (.iload 4, 2) := by decide +kernel
theorem dX10_hand_68 : decode cX10_hand 68 = .ok (.imul, 1) := by decide +kernel
theorem dX10_hand_69 : decode cX10_hand 69 = .ok (.bipush 8, 2) := by decide +kernel
theorem dX10_hand_71 : decode cX10_hand 71 = .ok (.iload_n 2, 1) := by decide +kernel
theorem dX10_hand_72 : decode cX10_hand 72 = .ok (.imul, 1) := by decide +kernel
theorem dX10_hand_73 : decode cX10_hand 73 = .ok (.iadd, 1) := by decide +kernel
theorem dX10_hand_74 : decode cX10_hand 74 = .ok (.iload_n 3, 1) := by decide +kernel
theorem dX10_hand_75 : decode cX10_hand 75 = .ok (.iadd, 1) := by decide +kernel
theorem dX10_hand_76 : decode cX10_hand 76 = .ok (.iastore, 1) := by decide +kernel
theorem dX10_hand_77 : decode cX10_hand 77 = .ok (.aload_n 0, 1) := by decide +kernel
theorem dX10_hand_78 : decode cX10_hand 78 = .ok (.dup, 1) := by decide +kernel
theorem dX10_hand_79 : decode cX10_hand 79 = .ok (.getfield 163, 3) := by decide +kernel
theorem dX10_hand_82 : decode cX10_hand 82 = .ok (.iconst 1, 1) := by decide +kernel
theorem dX10_hand_83 : decode cX10_hand 83 = .ok (.iadd, 1) := by decide +kernel
theorem dX10_hand_84 : decode cX10_hand 84 = .ok (.putfield 163, 3) := by decide +kernel
theorem dX10_hand_87 : decode cX10_hand 87 = .ok (.aload_n 0, 1) := by decide +kernel
theorem dX10_hand_88 : decode cX10_hand 88 = .ok (.getfield 163, 3) := by decide +kernel
theorem dX10_hand_91 : decode cX10_hand 91 = .ok (.ireturn, 1) := by decide +kernel
theorem dX10_hole_0 : decode cX10_hole 0 = .ok (.iload_n 1, 1) := by decide +kernel
theorem dX10_hole_1 : decode cX10_hole 1 = .ok (.invokestatic 160, 3) := by decide +kernel
theorem dX10_hole_4 : decode cX10_hole 4 = .ok (.ifCond .eq 13, 3) := by decide +kernel
theorem dX10_hole_7 : decode cX10_hole 7 = .ok (.iload_n 2, 1) := by decide +kernel
theorem dX10_hole_8 : decode cX10_hole 8 = .ok (.iconst 1, 1) := by decide +kernel
theorem dX10_hole_9 : decode cX10_hole 9 = .ok (.bipush 9, 2) := by decide +kernel
theorem dX10_hole_11 : decode cX10_hole 11 = .ok (.invokestatic 110, 3) := by decide +kernel
theorem dX10_hole_14 : decode cX10_hole 14 = .ok (.ifCond .ne 6, 3) := by decide +kernel
theorem dX10_hole_17 : decode cX10_hole 17 = .ok (.bipush (-2), 2) := by decide +kernel
theorem dX10_hole_19 : decode cX10_hole 19 = .ok (.ireturn, 1) := by decide +kernel
theorem dX10_hole_20 : decode cX10_hole 20 = .ok (.aload_n 0, 1) := by decide +kernel
theorem dX10_hole_21 : decode cX10_hole 21 = .ok (.getfield 166, 3) := by decide +kernel
theorem dX10_hole_24 : decode cX10_hole 24 = .ok (.bipush 6, 2) := by decide +kernel
theorem dX10_hole_26 : decode cX10_hole 26 = .ok (.if_icmp .ne 6, 3) := by decide +kernel
theorem dX10_hole_29 : decode cX10_hole 29 = .ok (.bipush (-4), 2) := by decide +kernel
theorem dX10_hole_31 : decode cX10_hole 31 = .ok (.ireturn, 1) := by decide +kernel
theorem dX10_hole_32 : decode cX10_hole 32 = .ok (.aload_n 0, 1) := by decide +kernel
theorem dX10_hole_33 : decode cX10_hole 33 = .ok (.getfield 37, 3) := by decide +kernel
theorem dX10_hole_36 : decode cX10_hole 36 = .ok (.aload_n 0, 1) := by decide +kernel
theorem dX10_hole_37 : decode cX10_hole 37 = .ok (.getfield 166, 3) := by decide +kernel
theorem dX10_hole_40 : decode cX10_hole 40 = .ok (.iload_n 1, 1) := by decide +kernel
theorem dX10_hole_41 : decode cX10_hole 41 = .ok (.iastore, 1) := by decide +kernel
theorem dX10_hole_42 : decode cX10_hole 42 = .ok (.aload_n 0, 1) := by decide +kernel
theorem dX10_hole_43 : decode cX10_hole 43 = .ok (.getfield 40, 3) := by decide +kernel
theorem dX10_hole_46 : decode cX10_hole 46 = .ok (.aload_n 0, 1) := by decide +kernel
theorem dX10_hole_47 : decode cX10_hole 47 = .ok (.getfield 166, 3) := by decide +kernel
theorem dX10_hole_50 : decode cX10_hole 50 = .ok (.iload_n 2, 1) := by decide +kernel
theorem dX10_hole_51 : decode cX10_hole 51 = .ok (.iastore, 1) := by decide +kernel
theorem dX10_hole_52 : decode cX10_hole 52 = .ok (.aload_n 0, 1) := by decide +kernel
theorem dX10_hole_53 : decode cX10_hole 53 = .ok (.dup, 1) := by decide +kernel
theorem dX10_hole_54 : decode cX10_hole 54 = .ok (.getfield 166, 3) := by decide +kernel
theorem dX10_hole_57 : decode cX10_hole 57 = .ok (.iconst 1, 1) := by decide +kernel
theorem dX10_hole_58 : decode cX10_hole 58 = .ok (.iadd, 1) := by decide +kernel
theorem dX10_hole_59 : decode cX10_hole 59 = .ok (.putfield 166, 3) := by decide +kernel
theorem dX10_hole_62 : decode cX10_hole 62 = .ok (.aload_n 0, 1) := by decide +kernel
theorem dX10_hole_63 : decode cX10_hole 63 = .ok (.getfield 166, 3) := by decide +kernel
theorem dX10_hole_66 : decode cX10_hole 66 = .ok (.ireturn, 1) := by decide +kernel
theorem dX10_back_0 : decode cX10_back 0 = .ok (.iload_n 1, 1) := by decide +kernel
theorem dX10_back_1 : decode cX10_back 1 = .ok (.iconst 0, 1) := by decide +kernel
theorem dX10_back_2 : decode cX10_back 2 = .ok (.iconst 1, 1) := by decide +kernel
theorem dX10_back_3 : decode cX10_back 3 = .ok (.invokestatic 110, 3) := by decide +kernel
theorem dX10_back_6 : decode cX10_back 6 = .ok (.ifCond .ne 6, 3) := by decide +kernel
theorem dX10_back_9 : decode cX10_back 9 = .ok (.bipush (-2), 2) := by decide +kernel
theorem dX10_back_11 : decode cX10_back 11 = .ok (.ireturn, 1) := by decide +kernel
theorem dX10_back_12 : decode cX10_back 12 = .ok (.iload_n 1, 1) := by decide +kernel
theorem dX10_back_13 : decode cX10_back 13 = .ok (.ifCond .ne 10, 3) := by decide +kernel
theorem dX10_back_16 : decode cX10_back 16 = .ok (.aload_n 0, 1) := by decide +kernel
theorem dX10_back_17 : decode cX10_back 17 = .ok (.getfield 163, 3) := by decide +kernel
theorem dX10_back_20 : decode cX10_back 20 = .ok (.goto 7, 3) := by decide +kernel
theorem dX10_back_23 : decode cX10_back 23 = .ok (.aload_n 0, 1) := by decide +kernel
theorem dX10_back_24 : decode cX10_back 24 = .ok (.getfield 166, 3) := by decide +kernel
theorem dX10_back_27 : decode cX10_back 27 = .ok (.istore_n 2, 1) := by decide +kernel
theorem dX10_back_28 : decode cX10_back 28 = .ok (.iload_n 2, 1) := by decide +kernel
theorem dX10_back_29 : decode cX10_back 29 = .ok (.ifCond .ne 6, 3) := by decide +kernel
theorem dX10_back_32 : decode cX10_back 32 = .ok (.bipush (-3), 2) := by decide +kernel
theorem dX10_back_34 : decode cX10_back 34 = .ok (.ireturn, 1) := by decide +kernel
theorem dX10_back_35 : decode cX10_back 35 = .ok (.aload_n 0, 1) := by decide +kernel
theorem dX10_back_36 : decode cX10_back 36 = .ok (.dup, 1) := by decide +kernel
theorem dX10_back_37 : decode cX10_back 37 = .ok (.getfield 163, 3) := by decide +kernel
theorem dX10_back_40 : decode cX10_back 40 = .ok (.iload_n 1, 1) := by decide +kernel
theorem dX10_back_41 : decode cX10_back 41 = .ok (.ifCond .ne 7, 3) := by decide +kernel
theorem dX10_back_44 : decode cX10_back 44 = .ok (.iconst 1, 1) := by decide +kernel
theorem dX10_back_45 : decode cX10_back 45 = .ok (.goto 4, 3) := by decide +kernel
theorem dX10_back_48 : decode cX10_back 48 = .ok (.iconst 0, 1) := by decide +kernel
theorem dX10_back_49 : decode cX10_back 49 = .ok (.isub, 1) := by decide +kernel
theorem dX10_back_50 : decode cX10_back 50 = .ok (.putfield 163, 3) := by decide +kernel
theorem dX10_back_53 : decode cX10_back 53 = .ok (.aload_n 0, 1) := by decide +kernel
theorem dX10_back_54 : decode cX10_back 54 = .ok (.dup, 1) := by decide +kernel
theorem dX10_back_55 : decode cX10_back 55 = .ok (.getfield 166, 3) := by decide +kernel
theorem dX10_back_58 : decode cX10_back 58 = .ok (.iload_n 1, 1) := by decide +kernel
theorem dX10_back_59 : decode cX10_back 59 = .ok (.iconst 1, 1) := by decide +kernel
theorem dX10_back_60 : decode cX10_back 60 = .ok (.if_icmp .ne 7, 3) := by decide +kernel
theorem dX10_back_63 : decode cX10_back 63 = .ok (.iconst 1, 1) := by decide +kernel
theorem dX10_back_64 : decode cX10_back 64 = .ok (.goto 4, 3) := by decide +kernel
theorem dX10_back_67 : decode cX10_back 67 = .ok (.iconst 0, 1) := by decide +kernel
theorem dX10_back_68 : decode cX10_back 68 = .ok (.isub, 1) := by decide +kernel
theorem dX10_back_69 : decode cX10_back 69 = .ok (.putfield 166, 3) := by decide +kernel
theorem dX10_back_72 : decode cX10_back 72 = .ok (.iload_n 2, 1) := by decide +kernel
theorem dX10_back_73 : decode cX10_back 73 = .ok (.iconst 1, 1) := by decide +kernel
theorem dX10_back_74 : decode cX10_back 74 = .ok (.isub, 1) := by decide +kernel
theorem dX10_back_75 : decode cX10_back 75 = .ok (.ireturn, 1) := by decide +kernel
theorem dX10_read_0 : decode cX10_read 0 = .ok (.iload_n 1, 1) := by decide +kernel
theorem dX10_read_1 : decode cX10_read 1 = .ok (.invokestatic 169, 3) := by decide +kernel
theorem dX10_read_4 : decode cX10_read 4 = .ok (.ifCond .ne 6, 3) := by decide +kernel
theorem dX10_read_7 : decode cX10_read 7 = .ok (.bipush (-2), 2) := by decide +kernel
theorem dX10_read_9 : decode cX10_read 9 = .ok (.ireturn, 1) := by decide +kernel
theorem dX10_read_10 : decode cX10_read 10 = .ok (.aload_n 0, 1) := by decide +kernel
theorem dX10_read_11 : decode cX10_read 11 = .ok (.getfield 89, 3) := by decide +kernel
theorem dX10_read_14 : decode cX10_read 14 = .ok (.iload_n 1, 1) := by decide +kernel
theorem dX10_read_15 : decode cX10_read 15 = .ok (.baload, 1) := by decide +kernel
theorem dX10_read_16 : decode cX10_read 16 = .ok (.ifCond .ne 9, 3) := by decide +kernel
theorem dX10_read_19 : decode cX10_read 19 = .ok (.aload_n 0, 1) := by decide +kernel
theorem dX10_read_20 : decode cX10_read 20 = .ok (.iconst 1, 1) := by decide +kernel
theorem dX10_read_21 : decode cX10_read 21 = .ok (.invokevirtual 172, 3) := by decide +kernel
theorem dX10_read_24 : decode cX10_read 24 = .ok (.ireturn, 1) := by decide +kernel
theorem dX10_read_25 : decode cX10_read 25 = .ok (.iconst 0, 1) := by decide +kernel
theorem dX10_read_26 : decode cX10_read 26 = .ok (.istore_n 2, 1) := by decide +kernel
theorem dX10_read_27 : decode cX10_read 27 = .ok (.iconst 4, 1) := by decide +kernel
theorem dX10_read_28 : decode cX10_read 28 = .ok (.iload_n 2, 1) := by decide +kernel
theorem dX10_read_29 : decode cX10_read 29 = .ok (.imul, 1) := by decide +kernel
theorem dX10_read_30 : decode cX10_read 30 = .ok (.iconst 3, 1) := by decide +kernel
theorem dX10_read_31 : decode cX10_read 31 = .ok (.iadd, 1) := by decide +kernel
theorem dX10_read_32 : decode cX10_read 32 = .ok (.aload_n 0, 1) := by decide +kernel
theorem dX10_read_33 : decode cX10_read 33 = .ok (.getfield 95, 3) := by decide +kernel
theorem dX10_read_36 : decode cX10_read 36 = .ok (.iload_n 1, 1) := by decide +kernel
theorem dX10_read_37 : decode cX10_read 37 = .ok (.iaload, 1) := by decide +kernel
theorem dX10_read_38 : decode cX10_read 38 = .ok (.if_icmp .ge 74, 3) := by decide +kernel
theorem dX10_read_41 : decode cX10_read 41 = .ok (.aload_n 0, 1) := by decide +kernel
theorem dX10_read_42 : decode cX10_read 42 = .ok (.aload_n 0, 1) := by decide +kernel
theorem dX10_read_43 : decode cX10_read 43 = .ok (.getfield 98, 3) := by decide +kernel
theorem dX10_read_46 : decode cX10_read 46 = .ok (.bipush 60, 2) := by decide +kernel
theorem dX10_read_48 : decode cX10_read 48 = .ok (.iload_n 1, 1) := by decide +kernel
theorem dX10_read_49 : decode cX10_read 49 = .ok (.imul, 1) := by decide +kernel
theorem dX10_read_50 : decode cX10_read 50 = .ok (.iconst 4, 1) := by decide +kernel
theorem dX10_read_51 : decode cX10_read 51 = .ok (.iload_n 2, 1) := by decide +kernel
theorem dX10_read_52 : decode cX10_read 52 = .ok (.imul, 1) := by decide +kernel
theorem dX10_read_53 : decode cX10_read 53 = .ok (.iadd, 1) := by decide +kernel
theorem dX10_read_54 : decode cX10_read 54 = .ok (.iaload, 1) := by decide +kernel
theorem dX10_read_55 : decode cX10_read 55 = .ok (.aload_n 0, 1) := by decide +kernel
theorem dX10_read_56 : decode cX10_read 56 = .ok (.getfield 98, 3) := by decide +kernel
theorem dX10_read_59 : decode cX10_read 59 = .ok (.bipush 60, 2) := by decide +kernel
theorem dX10_read_61 : decode cX10_read 61 = .ok (.iload_n 1, 1) := by decide +kernel
theorem dX10_read_62 : decode cX10_read 62 = .ok (.imul, 1) := by decide +kernel
theorem dX10_read_63 : decode cX10_read 63 = .ok (.iconst 4, 1) := by decide +kernel
theorem dX10_read_64 : decode cX10_read 64 = .ok (.iload_n 2, 1) := by decide +kernel
theorem dX10_read_65 : decode cX10_read 65 = .ok (.imul, 1) := by decide +kernel
theorem dX10_read_66 : decode cX10_read 66 = .ok (.iadd, 1) := by decide +kernel
theorem dX10_read_67 : decode cX10_read 67 = .ok (.iconst 1, 1) := by decide +kernel
theorem dX10_read_68 : decode cX10_read 68 = .ok (.iadd, 1) := by decide +kernel
theorem dX10_read_69 : decode cX10_read 69 = .ok (.iaload, 1) := by decide +kernel
theorem dX10_read_70 : decode cX10_read 70 = .ok (.aload_n 0, 1) := by decide +kernel
theorem dX10_read_71 : decode cX10_read 71 = .ok (.getfield 98, 3) := by decide +kernel
theorem dX10_read_74 : decode cX10_read 74 = .ok (.bipush 60, 2) := by decide +kernel
theorem dX10_read_76 : decode cX10_read 76 = .ok (.iload_n 1, 1) := by decide +kernel
theorem dX10_read_77 : decode cX10_read 77 = .ok (.imul, 1) := by decide +kernel
theorem dX10_read_78 : decode cX10_read 78 = .ok (.iconst 4, 1) := by decide +kernel
theorem dX10_read_79 : decode cX10_read 79 = .ok (.iload_n 2, 1) := by decide +kernel
theorem dX10_read_80 : decode cX10_read 80 = .ok (.imul, 1) := by decide +kernel
theorem dX10_read_81 : decode cX10_read 81 = .ok (.iadd, 1) := by decide +kernel
theorem dX10_read_82 : decode cX10_read 82 = .ok (.iconst 2, 1) := by decide +kernel
theorem dX10_read_83 : decode cX10_read 83 = .ok (.iadd, 1) := by decide +kernel
theorem dX10_read_84 : decode cX10_read 84 = .ok (.iaload, 1) := by decide +kernel
theorem dX10_read_85 : decode cX10_read 85 = .ok (.aload_n 0, 1) := by decide +kernel
theorem dX10_read_86 : decode cX10_read 86 = .ok (.getfield 98, 3) := by decide +kernel
theorem dX10_read_89 : decode cX10_read 89 = .ok (.bipush 60, 2) := by decide +kernel
theorem dX10_read_91 : decode cX10_read 91 = .ok (.iload_n 1, 1) := by decide +kernel
theorem dX10_read_92 : decode cX10_read 92 = .ok (.imul, 1) := by decide +kernel
theorem dX10_read_93 : decode cX10_read 93 = .ok (.iconst 4, 1) := by decide +kernel
theorem dX10_read_94 : decode cX10_read 94 = .ok (.iload_n 2, 1) := by decide +kernel
theorem dX10_read_95 : decode cX10_read 95 = .ok (.imul, 1) := by decide +kernel
theorem dX10_read_96 : decode cX10_read 96 = .ok (.iadd, 1) := by decide +kernel
theorem dX10_read_97 : decode cX10_read 97 = .ok (.iconst 3, 1) := by decide +kernel
theorem dX10_read_98 : decode cX10_read 98 = .ok (.iadd, 1) := by decide +kernel
theorem dX10_read_99 : decode cX10_read 99 = .ok (.iaload, 1) := by decide +kernel
theorem dX10_read_100 : decode cX10_read 100 = .ok (.invokevirtual 175, 3) := by decide +kernel
theorem dX10_read_103 : decode cX10_read 103 = .ok (.ifCond .le 9, 3) := by decide +kernel
theorem dX10_read_106 : decode cX10_read 106 = .ok (.iinc 2 1, 3) := by decide +kernel
theorem dX10_read_109 : decode cX10_read 109 = .ok (.goto (-82), 3) := by decide +kernel
theorem dX10_read_112 : decode cX10_read 112 = .ok (.iload_n 2, 1) := by decide +kernel
theorem dX10_read_113 : decode cX10_read 113 = .ok (.ireturn, 1) := by decide +kernel
theorem dX10_asTold_0 : decode cX10_asTold 0 = .ok (.aload_n 0, 1) := by decide +kernel
theorem dX10_asTold_1 : decode cX10_asTold 1 = .ok (.aload_n 0, 1) := by decide +kernel
theorem dX10_asTold_2 : decode cX10_asTold 2 = .ok (.getfield 163, 3) := by decide +kernel
theorem dX10_asTold_5 : decode cX10_asTold 5 = .ok (.putfield 179, 3) := by decide +kernel
theorem dX10_asTold_8 : decode cX10_asTold 8 = .ok (.aload_n 0, 1) := by decide +kernel
theorem dX10_asTold_9 : decode cX10_asTold 9 = .ok (.aload_n 0, 1) := by decide +kernel
theorem dX10_asTold_10 : decode cX10_asTold 10 = .ok (.getfield 157, 3) := by decide +kernel
theorem dX10_asTold_13 : decode cX10_asTold 13 = .ok (.putfield 182, 3) := by decide +kernel
theorem dX10_asTold_16 : decode cX10_asTold 16 = .ok (.return_, 1) := by decide +kernel
theorem dX10_loadNow_0 : decode cX10_loadNow 0 = .ok (.iconst 0, 1) := by decide +kernel
theorem dX10_loadNow_1 : decode cX10_loadNow 1 = .ok (.istore_n 1, 1) := by decide +kernel
theorem dX10_loadNow_2 : decode cX10_loadNow 2 = .ok (.iconst 0, 1) := by decide +kernel
theorem dX10_loadNow_3 : decode cX10_loadNow 3 = .ok (.istore_n 2, 1) := by decide +kernel
theorem dX10_loadNow_4 : decode cX10_loadNow 4 = .ok (.iload_n 2, 1) := by decide +kernel
theorem dX10_loadNow_5 : decode cX10_loadNow 5 = .ok (.aload_n 0, 1) := by decide +kernel
theorem dX10_loadNow_6 : decode cX10_loadNow 6 = .ok (.getfield 125, 3) := by decide +kernel
theorem dX10_loadNow_9 : decode cX10_loadNow 9 = .ok (.if_icmp .ge 33, 3) := by decide +kernel
theorem dX10_loadNow_12 : decode cX10_loadNow 12 = .ok (.iload_n 1, 1) := by decide +kernel
theorem dX10_loadNow_13 : decode cX10_loadNow 13 = .ok (.aload_n 0, 1) := by decide +kernel
theorem dX10_loadNow_14 : decode cX10_loadNow 14 = .ok (.getfield 43, 3) := by decide +kernel
theorem dX10_loadNow_17 : decode cX10_loadNow 17 = .ok (.iload_n 2, 1) := by decide +kernel
theorem dX10_loadNow_18 : decode cX10_loadNow 18 = .ok (.iaload, 1) := by decide +kernel
theorem dX10_loadNow_19 : decode cX10_loadNow 19 = .ok (.bipush 8, 2) := by decide +kernel
theorem dX10_loadNow_21 : decode cX10_loadNow 21 = .ok (.if_icmp .ne 12, 3) := by decide +kernel
theorem dX10_loadNow_24 : decode cX10_loadNow 24 = .ok (.aload_n 0, 1) := by decide +kernel
theorem dX10_loadNow_25 : decode cX10_loadNow 25 = .ok (.getfield 16, 3) := by decide +kernel
theorem dX10_loadNow_28 : decode cX10_loadNow 28 = .ok (.iload_n 2, 1) := by decide +kernel
theorem dX10_loadNow_29 : decode cX10_loadNow 29 = .ok (.iaload, 1) := by decide +kernel
theorem dX10_loadNow_30 : decode cX10_loadNow 30 = .ok (.goto 4, 3) := by decide +kernel
theorem dX10_loadNow_33 : decode cX10_loadNow 33 = .ok (.iconst 0, 1) := by decide +kernel
theorem dX10_loadNow_34 : decode cX10_loadNow 34 = .ok (.iadd, 1) := by decide +kernel
theorem dX10_loadNow_35 : decode cX10_loadNow 35 = .ok (.istore_n 1, 1) := by decide +kernel
theorem dX10_loadNow_36 : decode cX10_loadNow 36 = .ok (.iinc 2 1, 3) := by decide +kernel
theorem dX10_loadNow_39 : decode cX10_loadNow 39 = .ok (.goto (-35), 3) := by decide +kernel
theorem dX10_loadNow_42 : decode cX10_loadNow 42 = .ok (.iload_n 1, 1) := by decide +kernel
theorem dX10_loadNow_43 : decode cX10_loadNow 43 = .ok (.ireturn, 1) := by decide +kernel
theorem dX10_putsIn_0 : decode cX10_putsIn 0 = .ok (.aload_n 0, 1) := by decide +kernel
theorem dX10_putsIn_1 : decode cX10_putsIn 1 = .ok (.invokevirtual 185, 3) := by decide +kernel
theorem dX10_putsIn_4 : decode cX10_putsIn 4 = .ok (.aload_n 0, 1) := by decide +kernel
theorem dX10_putsIn_5 : decode cX10_putsIn 5 = .ok (.getfield 16, 3) := by decide +kernel
theorem dX10_putsIn_8 : decode cX10_putsIn 8 = .ok (.iload_n 1, 1) := by decide +kernel
theorem dX10_putsIn_9 : decode cX10_putsIn 9 = .ok (.iaload, 1) := by decide +kernel
theorem dX10_putsIn_10 : decode cX10_putsIn 10 = .ok (.iadd, 1) := by decide +kernel
theorem dX10_putsIn_11 : decode cX10_putsIn 11 = .ok (.aload_n 0, 1) := by decide +kernel
theorem dX10_putsIn_12 : decode cX10_putsIn 12 = .ok (.getfield 104, 3) := by decide +kernel
theorem dX10_putsIn_15 : decode cX10_putsIn 15 = .ok (.if_icmp .gt 7, 3) := by decide +kernel
theorem dX10_putsIn_18 : decode cX10_putsIn 18 = .ok (.iconst 1, 1) := by decide +kernel
theorem dX10_putsIn_19 : decode cX10_putsIn 19 = .ok (.goto 4, 3) := by decide +kernel
theorem dX10_putsIn_22 : decode cX10_putsIn 22 = .ok (.iconst 0, 1) := by decide +kernel
theorem dX10_putsIn_23 : decode cX10_putsIn 23 = .ok (.istore_n 2, 1) := by decide +kernel
theorem dX10_putsIn_24 : decode cX10_putsIn 24 = .ok (.aload_n 0, 1) := by decide +kernel
theorem dX10_putsIn_25 : decode cX10_putsIn 25 = .ok (.getfield 43, 3) := by decide +kernel
theorem dX10_putsIn_28 : decode cX10_putsIn 28 = .ok (.iload_n 1, 1) := by decide +kernel
theorem dX10_putsIn_29 : decode cX10_putsIn 29 = .ok (.iload_n 2, 1) := by decide +kernel
theorem dX10_putsIn_30 : decode cX10_putsIn 30 = .ok (.ifCond .eq 8, 3) := by decide +kernel
theorem dX10_putsIn_33 : decode cX10_putsIn 33 = .ok (.bipush 8, 2) := by decide +kernel
theorem dX10_putsIn_35 : decode cX10_putsIn 35 = .ok (.goto 9, 3) := by decide +kernel
theorem dX10_putsIn_38 : decode cX10_putsIn 38 = .ok (.aload_n 0, 1) := by decide +kernel
theorem dX10_putsIn_39 : decode cX10_putsIn 39 = .ok (.getfield 43, 3) := by decide +kernel
theorem dX10_putsIn_42 : decode cX10_putsIn 42 = .ok (.iload_n 1, 1) := by decide +kernel
theorem dX10_putsIn_43 : decode cX10_putsIn 43 = .ok (.iaload, 1) := by decide +kernel
theorem dX10_putsIn_44 : decode cX10_putsIn 44 = .ok (.iastore, 1) := by decide +kernel
theorem dX10_putsIn_45 : decode cX10_putsIn 45 = .ok (.iload_n 2, 1) := by decide +kernel
theorem dX10_putsIn_46 : decode cX10_putsIn 46 = .ok (.ireturn, 1) := by decide +kernel
theorem dX10_begins_0 : decode cX10_begins 0 = .ok (.iconst 0, 1) := by decide +kernel
theorem dX10_begins_1 : decode cX10_begins 1 = .ok (.istore_n 1, 1) := by decide +kernel
theorem dX10_begins_2 : decode cX10_begins 2 = .ok (.iload_n 1, 1) := by decide +kernel
theorem dX10_begins_3 : decode cX10_begins 3 = .ok (.bipush 8, 2) := by decide +kernel
theorem dX10_begins_5 : decode cX10_begins 5 = .ok (.if_icmp .ge 61, 3) := by decide +kernel
theorem dX10_begins_8 : decode cX10_begins 8 = .ok (.aload_n 0, 1) := by decide +kernel
theorem dX10_begins_9 : decode cX10_begins 9 = .ok (.getfield 43, 3) := by decide +kernel
theorem dX10_begins_12 : decode cX10_begins 12 = .ok (.iload_n 1, 1) := by decide +kernel
theorem dX10_begins_13 : decode cX10_begins 13 = .ok (.iload_n 1, 1) := by decide +kernel
theorem dX10_begins_14 : decode cX10_begins 14 = .ok (.aload_n 0, 1) := by decide +kernel
theorem dX10_begins_15 : decode cX10_begins 15 = .ok (.getfield 125, 3) := by decide +kernel
theorem dX10_begins_18 : decode cX10_begins 18 = .ok (.if_icmp .ge 25, 3) := by decide +kernel
theorem dX10_begins_21 : decode cX10_begins 21 = .ok (.aload_n 0, 1) := by decide +kernel
theorem dX10_begins_22 : decode cX10_begins 22 = .ok (.getfield 19, 3) := by decide +kernel
theorem dX10_begins_25 : decode cX10_begins 25 = .ok (.iload_n 1, 1) := by decide +kernel
theorem dX10_begins_26 : decode cX10_begins 26 = .ok (.iaload, 1) := by decide +kernel
theorem dX10_begins_27 : decode cX10_begins 27 = .ok (.aload_n 0, 1) := by decide +kernel
theorem dX10_begins_28 : decode cX10_begins 28 = .ok (.getfield 128, 3) := by decide +kernel
theorem dX10_begins_31 : decode cX10_begins 31 = .ok (.if_icmp .ge 12, 3) := by decide +kernel
theorem dX10_begins_34 : decode cX10_begins 34 = .ok (.aload_n 0, 1) := by decide +kernel
theorem dX10_begins_35 : decode cX10_begins 35 = .ok (.getfield 19, 3) := by decide +kernel
theorem dX10_begins_38 : decode cX10_begins 38 = .ok (.iload_n 1, 1) := by decide +kernel
theorem dX10_begins_39 : decode cX10_begins 39 = .ok (.iaload, 1) := by decide +kernel
theorem dX10_begins_40 : decode cX10_begins 40 = .ok (.goto 5, 3) := by decide +kernel
theorem dX10_begins_43 : decode cX10_begins 43 = .ok (.bipush 9, 2) := by decide +kernel
theorem dX10_begins_45 : decode cX10_begins 45 = .ok (.iastore, 1) := by decide +kernel
theorem dX10_begins_46 : decode cX10_begins 46 = .ok (.aload_n 0, 1) := by decide +kernel
theorem dX10_begins_47 : decode cX10_begins 47 = .ok (.getfield 46, 3) := by decide +kernel
theorem dX10_begins_50 : decode cX10_begins 50 = .ok (.iload_n 1, 1) := by decide +kernel
theorem dX10_begins_51 : decode cX10_begins 51 = .ok (.iconst 0, 1) := by decide +kernel
theorem dX10_begins_52 : decode cX10_begins 52 = .ok (.iastore, 1) := by decide +kernel
theorem dX10_begins_53 : decode cX10_begins 53 = .ok (.aload_n 0, 1) := by decide +kernel
theorem dX10_begins_54 : decode cX10_begins 54 = .ok (.getfield 49, 3) := by decide +kernel
theorem dX10_begins_57 : decode cX10_begins 57 = .ok (.iload_n 1, 1) := by decide +kernel
theorem dX10_begins_58 : decode cX10_begins 58 = .ok (.iconst 0, 1) := by decide +kernel
theorem dX10_begins_59 : decode cX10_begins 59 = .ok (.iastore, 1) := by decide +kernel
theorem dX10_begins_60 : decode cX10_begins 60 = .ok (.iinc 1 1, 3) := by decide +kernel
theorem dX10_begins_63 : decode cX10_begins 63 = .ok (.goto (-61), 3) := by decide +kernel
theorem dX10_begins_66 : decode cX10_begins 66 = .ok (.iconst 0, 1) := by decide +kernel
theorem dX10_begins_67 : decode cX10_begins 67 = .ok (.istore_n 1, 1) := by decide +kernel
theorem dX10_begins_68 : decode cX10_begins 68 = .ok (.iload_n 1, 1) := by decide +kernel
theorem dX10_begins_69 : decode cX10_begins 69 = .ok (.bipush 44, 2) := by decide +kernel
theorem dX10_begins_71 : decode cX10_begins 71 = .ok (.if_icmp .ge 16, 3) := by decide +kernel
theorem dX10_begins_74 : decode cX10_begins 74 = .ok (.aload_n 0, 1) := by decide +kernel
theorem dX10_begins_75 : decode cX10_begins 75 = .ok (.getfield 55, 3) := by decide +kernel
theorem dX10_begins_78 : decode cX10_begins 78 = .ok (.iload_n 1, 1) := by decide +kernel
theorem dX10_begins_79 : decode cX10_begins 79 = .ok (.iconst 0, 1) := by decide +kernel
theorem dX10_begins_80 : decode cX10_begins 80 = .ok (.bastore, 1) := by decide +kernel
theorem dX10_begins_81 : decode cX10_begins 81 = .ok (.iinc 1 1, 3) := by decide +kernel
theorem dX10_begins_84 : decode cX10_begins 84 = .ok (.goto (-16), 3) := by decide +kernel
theorem dX10_begins_87 : decode cX10_begins 87 = .ok (.return_, 1) := by decide +kernel
theorem dX10_putsBack_0 : decode cX10_putsBack 0 = .ok (.iconst 0, 1) := by decide +kernel
theorem dX10_putsBack_1 : decode cX10_putsBack 1 = .ok (.istore_n 1, 1) := by decide +kernel
theorem dX10_putsBack_2 : decode cX10_putsBack 2 = .ok (.iload_n 1, 1) := by decide +kernel
theorem dX10_putsBack_3 : decode cX10_putsBack 3 = .ok (.bipush 8, 2) := by decide +kernel
theorem dX10_putsBack_5 : decode cX10_putsBack 5 = .ok (.if_icmp .ge 28, 3) := by decide +kernel
theorem dX10_putsBack_8 : decode cX10_putsBack 8 = .ok (.aload_n 0, 1) := by decide +kernel
theorem dX10_putsBack_9 : decode cX10_putsBack 9 = .ok (.getfield 52, 3) := by decide +kernel
theorem dX10_putsBack_12 : decode cX10_putsBack 12 = .ok (.iload_n 1, 1) := by decide +kernel
theorem dX10_putsBack_13 : decode cX10_putsBack 13 = .ok (.aload_n 0, 1) := by decide +kernel
theorem dX10_putsBack_14 : decode cX10_putsBack 14 = .ok (.getfield 49, 3) := by decide +kernel
theorem dX10_putsBack_17 : decode cX10_putsBack 17 = .ok (.iload_n 1, 1) := by decide +kernel
theorem dX10_putsBack_18 : decode cX10_putsBack 18 = .ok (.iaload, 1) := by decide +kernel
theorem dX10_putsBack_19 : decode cX10_putsBack 19 = .ok (.iastore, 1) := by decide +kernel
theorem dX10_putsBack_20 : decode cX10_putsBack 20 = .ok (.aload_n 0, 1) := by decide +kernel
theorem dX10_putsBack_21 : decode cX10_putsBack 21 = .ok (.getfield 49, 3) := by decide +kernel
theorem dX10_putsBack_24 : decode cX10_putsBack 24 = .ok (.iload_n 1, 1) := by decide +kernel
theorem dX10_putsBack_25 : decode cX10_putsBack 25 = .ok (.iconst 0, 1) := by decide +kernel
theorem dX10_putsBack_26 : decode cX10_putsBack 26 = .ok (.iastore, 1) := by decide +kernel
theorem dX10_putsBack_27 : decode cX10_putsBack 27 = .ok (.iinc 1 1, 3) := by decide +kernel
theorem dX10_putsBack_30 : decode cX10_putsBack 30 = .ok (.goto (-28), 3) := by decide +kernel
theorem dX10_putsBack_33 : decode cX10_putsBack 33 = .ok (.iconst 0, 1) := by decide +kernel
theorem dX10_putsBack_34 : decode cX10_putsBack 34 = .ok (.istore_n 1, 1) := by decide +kernel
theorem dX10_putsBack_35 : decode cX10_putsBack 35 = .ok (.iload_n 1, 1) := by decide +kernel
theorem dX10_putsBack_36 : decode cX10_putsBack 36 = .ok (.aload_n 0, 1) := by decide +kernel
theorem dX10_putsBack_37 : decode cX10_putsBack 37 = .ok (.getfield 128, 3) := by decide +kernel
theorem dX10_putsBack_40 : decode cX10_putsBack 40 = .ok (.if_icmp .ge 74, 3) := by decide +kernel
theorem dX10_putsBack_43 : decode cX10_putsBack 43 = .ok (.iconst 0, 1) := by decide +kernel
theorem dX10_putsBack_44 : decode cX10_putsBack 44 = .ok (.istore_n 2, 1) := by decide +kernel
theorem dX10_putsBack_45 : decode cX10_putsBack 45 = .ok (.iload_n 2, 1) := by decide +kernel
theorem dX10_putsBack_46 : decode cX10_putsBack 46 = .ok (.aload_n 0, 1) := by decide +kernel
theorem dX10_putsBack_47 : decode cX10_putsBack 47 = .ok (.getfield 125, 3) := by decide +kernel
theorem dX10_putsBack_50 : decode cX10_putsBack 50 = .ok (.if_icmp .ge 58, 3) := by decide +kernel
theorem dX10_putsBack_53 : decode cX10_putsBack 53 = .ok (.aload_n 0, 1) := by decide +kernel
theorem dX10_putsBack_54 : decode cX10_putsBack 54 = .ok (.getfield 25, 3) := by decide +kernel
theorem dX10_putsBack_57 : decode cX10_putsBack 57 = .ok (.iload_n 1, 1) := by decide +kernel
theorem dX10_putsBack_58 : decode cX10_putsBack 58 = .ok (.iaload, 1) := by decide +kernel
theorem dX10_putsBack_59 : decode cX10_putsBack 59 = .ok (.iconst 1, 1) := by decide +kernel
theorem dX10_putsBack_60 : decode cX10_putsBack 60 = .ok (.if_icmp .ne 42, 3) := by decide +kernel
theorem dX10_putsBack_63 : decode cX10_putsBack 63 = .ok (.aload_n 0, 1) := by decide +kernel
theorem dX10_putsBack_64 : decode cX10_putsBack 64 = .ok (.getfield 52, 3) := by decide +kernel
theorem dX10_putsBack_67 : decode cX10_putsBack 67 = .ok (.iload_n 1, 1) := by decide +kernel
theorem dX10_putsBack_68 : decode cX10_putsBack 68 = .ok (.iaload, 1) := by decide +kernel
theorem dX10_putsBack_69 : decode cX10_putsBack 69 = .ok (.iload_n 2, 1) := by decide +kernel
theorem dX10_putsBack_70 : decode cX10_putsBack 70 = .ok (.invokestatic 189, 3) := by decide +kernel
theorem dX10_putsBack_73 : decode cX10_putsBack 73 = .ok (.ifCond .eq 29, 3) := by decide +kernel
theorem dX10_putsBack_76 : decode cX10_putsBack 76 = .ok (.aload_n 0, 1) := by decide +kernel
theorem dX10_putsBack_77 : decode cX10_putsBack 77 = .ok (.getfield 19, 3) := by decide +kernel
theorem dX10_putsBack_80 : decode cX10_putsBack 80 = .ok (.iload_n 2, 1) := by decide +kernel
theorem dX10_putsBack_81 : decode cX10_putsBack 81 = .ok (.iaload, 1) := by decide +kernel
theorem dX10_putsBack_82 : decode cX10_putsBack 82 = .ok (.iload_n 1, 1) := by decide +kernel
theorem dX10_putsBack_83 : decode cX10_putsBack 83 = .ok (.if_icmp .eq 19, 3) := by decide +kernel
theorem dX10_putsBack_86 : decode cX10_putsBack 86 = .ok (.aload_n 0, 1) := by decide +kernel
theorem dX10_putsBack_87 : decode cX10_putsBack 87 = .ok (.getfield 43, 3) := by decide +kernel
theorem dX10_putsBack_90 : decode cX10_putsBack 90 = .ok (.iload_n 2, 1) := by decide +kernel
theorem dX10_putsBack_91 : decode cX10_putsBack 91 = .ok (.iaload, 1) := by decide +kernel
theorem dX10_putsBack_92 : decode cX10_putsBack 92 = .ok (.iload_n 1, 1) := by decide +kernel
theorem dX10_putsBack_93 : decode cX10_putsBack 93 = .ok (.if_icmp .ne 9, 3) := by decide +kernel
theorem dX10_putsBack_96 : decode cX10_putsBack 96 = .ok (.aload_n 0, 1) := by decide +kernel
theorem dX10_putsBack_97 : decode cX10_putsBack 97 = .ok (.iload_n 2, 1) := by decide +kernel
theorem dX10_putsBack_98 : decode cX10_putsBack 98 = .ok (.invokevirtual 193, 3) := by decide +kernel
theorem dX10_putsBack_101 : decode cX10_putsBack 101 = .ok (.istore_n 3, 1) := by decide +kernel
theorem dX10_putsBack_102 : decode cX10_putsBack 102 = .ok (.iinc 2 1, 3) := by decide +kernel
theorem dX10_putsBack_105 : decode cX10_putsBack 105 = .ok (.goto (-60), 3) := by decide +kernel
theorem dX10_putsBack_108 : decode cX10_putsBack 108 = .ok (.iinc 1 1, 3) := by decide +kernel
theorem dX10_putsBack_111 : decode cX10_putsBack 111 = .ok (.goto (-76), 3) := by decide +kernel
theorem dX10_putsBack_114 : decode cX10_putsBack 114 = .ok (.return_, 1) := by decide +kernel
theorem dX10_acts_0 : decode cX10_acts 0 = .ok (.iload_n 1, 1) := by decide +kernel
theorem dX10_acts_1 : decode cX10_acts 1 = .ok (.bipush 8, 2) := by decide +kernel
theorem dX10_acts_3 : decode cX10_acts 3 = .ok (.idiv, 1) := by decide +kernel
theorem dX10_acts_4 : decode cX10_acts 4 = .ok (.bipush 8, 2) := by decide +kernel
theorem dX10_acts_6 : decode cX10_acts 6 = .ok (.irem, 1) := by decide +kernel
theorem dX10_acts_7 : decode cX10_acts 7 = .ok (.istore_n 2, 1) := by decide +kernel
theorem dX10_acts_8 : decode cX10_acts 8 = .ok (.iload_n 1, 1) := by decide +kernel
theorem dX10_acts_9 : decode cX10_acts 9 = .ok (.bipush 8, 2) := by decide +kernel
theorem dX10_acts_11 : decode cX10_acts 11 = .ok (.irem, 1) := by decide +kernel
theorem dX10_acts_12 : decode cX10_acts 12 = .ok (.istore_n 3, 1) := by decide +kernel
theorem dX10_acts_13 : decode cX10_acts 13 = .ok (.iload_n 2, 1) := by decide +kernel
theorem dX10_acts_14 : decode cX10_acts 14 = .ok (.aload_n 0, 1) := by decide +kernel
theorem dX10_acts_15 : decode cX10_acts 15 = .ok (.getfield 128, 3) := by decide +kernel
theorem dX10_acts_18 : decode cX10_acts 18 = .ok (.if_icmp .ge 11, 3) := by decide +kernel
theorem dX10_acts_21 : decode cX10_acts 21 = .ok (.iload_n 3, 1) := by decide +kernel
theorem dX10_acts_22 : decode cX10_acts 22 = .ok (.aload_n 0, 1) := by decide +kernel
theorem dX10_acts_23 : decode cX10_acts 23 = .ok (.getfield 125, 3) := by decide +kernel
theorem dX10_acts_26 : decode cX10_acts 26 = .ok (.if_icmp .lt 5, 3) := by decide +kernel
theorem dX10_acts_29 : decode cX10_acts 29 = .ok (.iconst 0, 1) := by decide +kernel
theorem dX10_acts_30 : decode cX10_acts 30 = .ok (.ireturn, 1) := by decide +kernel
theorem dX10_acts_31 : decode cX10_acts 31 = .ok (.iload_n 1, 1) := by decide +kernel
theorem dX10_acts_32 : decode cX10_acts 32 = .ok (.bipush 64, 2) := by decide +kernel
theorem dX10_acts_34 : decode cX10_acts 34 = .ok (.if_icmp .ge 27, 3) := by decide +kernel
theorem dX10_acts_37 : decode cX10_acts 37 = .ok (.aload_n 0, 1) := by decide +kernel
theorem dX10_acts_38 : decode cX10_acts 38 = .ok (.getfield 43, 3) := by decide +kernel
theorem dX10_acts_41 : decode cX10_acts 41 = .ok (.iload_n 3, 1) := by decide +kernel
theorem dX10_acts_42 : decode cX10_acts 42 = .ok (.iaload, 1) := by decide +kernel
theorem dX10_acts_43 : decode cX10_acts 43 = .ok (.iload_n 2, 1) := by decide +kernel
theorem dX10_acts_44 : decode cX10_acts 44 = .ok (.if_icmp .ne 15, 3) := by decide +kernel
theorem dX10_acts_47 : decode cX10_acts 47 = .ok (.aload_n 0, 1) := by decide +kernel
theorem dX10_acts_48 : decode cX10_acts 48 = .ok (.iload_n 3, 1) := by decide +kernel
theorem dX10_acts_49 : decode cX10_acts 49 = .ok (.invokevirtual 193, 3) := by decide +kernel
theorem dX10_acts_52 : decode cX10_acts 52 = .ok (.ifCond .eq 7, 3) := by decide +kernel
theorem dX10_acts_55 : decode cX10_acts 55 = .ok (.iconst 1, 1) := by decide +kernel
theorem dX10_acts_56 : decode cX10_acts 56 = .ok (.goto 4, 3) := by decide +kernel
theorem dX10_acts_59 : decode cX10_acts 59 = .ok (.iconst 0, 1) := by decide +kernel
theorem dX10_acts_60 : decode cX10_acts 60 = .ok (.ireturn, 1) := by decide +kernel
theorem dX10_acts_61 : decode cX10_acts 61 = .ok (.aload_n 0, 1) := by decide +kernel
theorem dX10_acts_62 : decode cX10_acts 62 = .ok (.getfield 43, 3) := by decide +kernel
theorem dX10_acts_65 : decode cX10_acts 65 = .ok (.iload_n 3, 1) := by decide +kernel
theorem dX10_acts_66 : decode cX10_acts 66 = .ok (.iaload, 1) := by decide +kernel
theorem dX10_acts_67 : decode cX10_acts 67 = .ok (.bipush 8, 2) := by decide +kernel
theorem dX10_acts_69 : decode cX10_acts 69 = .ok (.if_icmp .eq 5, 3) := by decide +kernel
theorem dX10_acts_72 : decode cX10_acts 72 = .ok (.iconst 0, 1) := by decide +kernel
theorem dX10_acts_73 : decode cX10_acts 73 = .ok (.ireturn, 1) := by decide +kernel
theorem dX10_acts_74 : decode cX10_acts 74 = .ok (.aload_n 0, 1) := by decide +kernel
theorem dX10_acts_75 : decode cX10_acts 75 = .ok (.getfield 43, 3) := by decide +kernel
theorem dX10_acts_78 : decode cX10_acts 78 = .ok (.iload_n 3, 1) := by decide +kernel
theorem dX10_acts_79 : decode cX10_acts 79 = .ok (.iload_n 2, 1) := by decide +kernel
theorem dX10_acts_80 : decode cX10_acts 80 = .ok (.iastore, 1) := by decide +kernel
theorem dX10_acts_81 : decode cX10_acts 81 = .ok (.aload_n 0, 1) := by decide +kernel
theorem dX10_acts_82 : decode cX10_acts 82 = .ok (.getfield 49, 3) := by decide +kernel
theorem dX10_acts_85 : decode cX10_acts 85 = .ok (.iload_n 2, 1) := by decide +kernel
theorem dX10_acts_86 : decode cX10_acts 86 = .ok (.dup2, 1) := by decide +kernel
theorem dX10_acts_87 : decode cX10_acts 87 = .ok (.iaload, 1) := by decide +kernel
theorem dX10_acts_88 : decode cX10_acts 88 = .ok (.iconst 1, 1) := by decide +kernel
theorem dX10_acts_89 : decode cX10_acts 89 = .ok (.iload_n 3, 1) := by decide +kernel
theorem dX10_acts_90 : decode cX10_acts 90 = .ok (.ishl, 1) := by decide +kernel
theorem dX10_acts_91 : decode cX10_acts 91 = .ok (.ior, 1) := by decide +kernel
theorem dX10_acts_92 : decode cX10_acts 92 = .ok (.iastore, 1) := by decide +kernel
theorem dX10_acts_93 : decode cX10_acts 93 = .ok (.iconst 1, 1) := by decide +kernel
theorem dX10_acts_94 : decode cX10_acts 94 = .ok (.ireturn, 1) := by decide +kernel
theorem dX10_handsOf_0 : decode cX10_handsOf 0 = .ok (.iconst 0, 1) := by decide +kernel
theorem dX10_handsOf_1 : decode cX10_handsOf 1 = .ok (.istore_n 2, 1) := by decide +kernel
theorem dX10_handsOf_2 : decode cX10_handsOf 2 = .ok (.iload_n 2, 1) := by decide +kernel
theorem dX10_handsOf_3 : decode cX10_handsOf 3 = .ok (.aload_n 0, 1) := by decide +kernel
theorem dX10_handsOf_4 : decode cX10_handsOf 4 = .ok (.getfield 179, 3) := by decide +kernel
theorem dX10_handsOf_7 : decode cX10_handsOf 7 = .ok (.if_icmp .ge 35, 3) := by decide +kernel
theorem dX10_handsOf_10 : decode cX10_handsOf 10 = .ok (.aload_n 0, 1) := by decide +kernel
theorem dX10_handsOf_11 : decode cX10_handsOf 11 = .ok (.getfield 31, 3) := by decide +kernel
theorem dX10_handsOf_14 : decode cX10_handsOf 14 = .ok (.iload_n 2, 1) := by decide +kernel
theorem dX10_handsOf_15 : decode cX10_handsOf 15 = .ok (.iaload, 1) := by decide +kernel
theorem dX10_handsOf_16 : decode cX10_handsOf 16 = .ok (.iload_n 1, 1) := by decide +kernel
theorem dX10_handsOf_17 : decode cX10_handsOf 17 = .ok (.if_icmp .ne 19, 3) := by decide +kernel
theorem dX10_handsOf_20 : decode cX10_handsOf 20 = .ok (.aload_n 0, 1) := by decide +kernel
theorem dX10_handsOf_21 : decode cX10_handsOf 21 = .ok (.getfield 55, 3) := by decide +kernel
theorem dX10_handsOf_24 : decode cX10_handsOf 24 = .ok (.iload_n 2, 1) := by decide +kernel
theorem dX10_handsOf_25 : decode cX10_handsOf 25 = .ok (.aload_n 0, 1) := by decide +kernel
theorem dX10_handsOf_26 : decode cX10_handsOf 26 = .ok (.aload_n 0, 1) := by decide +kernel
theorem dX10_handsOf_27 : decode cX10_handsOf 27 = .ok (.getfield 34, 3) := by decide +kernel
theorem dX10_handsOf_30 : decode cX10_handsOf 30 = .ok (.iload_n 2, 1) := by decide +kernel
theorem dX10_handsOf_31 : decode cX10_handsOf 31 = .ok (.iaload, 1) := by decide +kernel
theorem dX10_handsOf_32 : decode cX10_handsOf 32 = .ok (.invokevirtual 196, 3) := by decide +kernel
theorem dX10_handsOf_35 : decode cX10_handsOf 35 = .ok (.bastore, 1) := by decide +kernel
theorem dX10_handsOf_36 : decode cX10_handsOf 36 = .ok (.iinc 2 1, 3) := by decide +kernel
theorem dX10_handsOf_39 : decode cX10_handsOf 39 = .ok (.goto (-37), 3) := by decide +kernel
theorem dX10_handsOf_42 : decode cX10_handsOf 42 = .ok (.return_, 1) := by decide +kernel
theorem dX10_ends_0 : decode cX10_ends 0 = .ok (.iconst 0, 1) := by decide +kernel
theorem dX10_ends_1 : decode cX10_ends 1 = .ok (.istore_n 2, 1) := by decide +kernel
theorem dX10_ends_2 : decode cX10_ends 2 = .ok (.iload_n 2, 1) := by decide +kernel
theorem dX10_ends_3 : decode cX10_ends 3 = .ok (.aload_n 0, 1) := by decide +kernel
theorem dX10_ends_4 : decode cX10_ends 4 = .ok (.getfield 166, 3) := by decide +kernel
theorem dX10_ends_7 : decode cX10_ends 7 = .ok (.if_icmp .ge 90, 3) := by decide +kernel
theorem dX10_ends_10 : decode cX10_ends 10 = .ok (.iconst 0, 1) := by decide +kernel
theorem dX10_ends_11 : decode cX10_ends 11 = .ok (.istore_n 3, 1) := by decide +kernel
theorem dX10_ends_12 : decode cX10_ends 12 = .ok (.iload_n 3, 1) := by decide +kernel
theorem dX10_ends_13 : decode cX10_ends 13 = .ok (.aload_n 0, 1) := by decide +kernel
theorem dX10_ends_14 : decode cX10_ends 14 = .ok (.getfield 125, 3) := by decide +kernel
theorem dX10_ends_17 : decode cX10_ends 17 = .ok (.if_icmp .ge 74, 3) := by decide +kernel
theorem dX10_ends_20 : decode cX10_ends 20 = .ok (.aload_n 0, 1) := by decide +kernel
theorem dX10_ends_21 : decode cX10_ends 21 = .ok (.getfield 37, 3) := by decide +kernel
theorem dX10_ends_24 : decode cX10_ends 24 = .ok (.iload_n 2, 1) := by decide +kernel
theorem dX10_ends_25 : decode cX10_ends 25 = .ok (.iaload, 1) := by decide +kernel
theorem dX10_ends_26 : decode cX10_ends 26 = .ok (.iload_n 1, 1) := by decide +kernel
theorem dX10_ends_27 : decode cX10_ends 27 = .ok (.if_icmp .ne 33, 3) := by decide +kernel
theorem dX10_ends_30 : decode cX10_ends 30 = .ok (.aload_n 0, 1) := by decide +kernel
theorem dX10_ends_31 : decode cX10_ends 31 = .ok (.getfield 43, 3) := by decide +kernel
theorem dX10_ends_34 : decode cX10_ends 34 = .ok (.iload_n 3, 1) := by decide +kernel
theorem dX10_ends_35 : decode cX10_ends 35 = .ok (.iaload, 1) := by decide +kernel
theorem dX10_ends_36 : decode cX10_ends 36 = .ok (.bipush 8, 2) := by decide +kernel
theorem dX10_ends_38 : decode cX10_ends 38 = .ok (.if_icmp .ne 22, 3) := by decide +kernel
theorem dX10_ends_41 : decode cX10_ends 41 = .ok (.aload_n 0, 1) := by decide +kernel
theorem dX10_ends_42 : decode cX10_ends 42 = .ok (.getfield 16, 3) := by decide +kernel
theorem dX10_ends_45 : decode cX10_ends 45 = .ok (.iload_n 3, 1) := by decide +kernel
theorem dX10_ends_46 : decode cX10_ends 46 = .ok (.iaload, 1) := by decide +kernel
theorem dX10_ends_47 : decode cX10_ends 47 = .ok (.aload_n 0, 1) := by decide +kernel
theorem dX10_ends_48 : decode cX10_ends 48 = .ok (.getfield 40, 3) := by decide +kernel
theorem dX10_ends_51 : decode cX10_ends 51 = .ok (.iload_n 2, 1) := by decide +kernel
theorem dX10_ends_52 : decode cX10_ends 52 = .ok (.iaload, 1) := by decide +kernel
theorem dX10_ends_53 : decode cX10_ends 53 = .ok (.if_icmp .gt 7, 3) := by decide +kernel
theorem dX10_ends_56 : decode cX10_ends 56 = .ok (.iconst 1, 1) := by decide +kernel
theorem dX10_ends_57 : decode cX10_ends 57 = .ok (.goto 4, 3) := by decide +kernel
theorem dX10_ends_60 : decode cX10_ends 60 = .ok (.iconst 0, 1) := by decide +kernel
theorem dX10_ends_61 : decode cX10_ends 61 = .ok (.istore 4, 2) := by decide +kernel
theorem dX10_ends_63 : decode cX10_ends 63 = .ok (.aload_n 0, 1) := by decide +kernel
theorem dX10_ends_64 : decode cX10_ends 64 = .ok (.getfield 43, 3) := by decide +kernel
theorem dX10_ends_67 : decode cX10_ends 67 = .ok (.iload_n 3, 1) := by decide +kernel
theorem dX10_ends_68 : decode cX10_ends 68 = .ok (.iload 4, 2) := by decide +kernel
theorem dX10_ends_70 : decode cX10_ends 70 = .ok (.ifCond .eq 8, 3) := by decide +kernel
theorem dX10_ends_73 : decode cX10_ends 73 = .ok (.bipush 9, 2) := by decide +kernel
theorem dX10_ends_75 : decode cX10_ends 75 = .ok (.goto 9, 3) := by decide +kernel
theorem dX10_ends_78 : decode cX10_ends 78 = .ok (.aload_n 0, 1) := by decide +kernel
theorem dX10_ends_79 : decode cX10_ends 79 = .ok (.getfield 43, 3) := by decide +kernel
theorem dX10_ends_82 : decode cX10_ends 82 = .ok (.iload_n 3, 1) := by decide +kernel
theorem dX10_ends_83 : decode cX10_ends 83 = .ok (.iaload, 1) := by decide +kernel
theorem dX10_ends_84 : decode cX10_ends 84 = .ok (.iastore, 1) := by decide +kernel
theorem dX10_ends_85 : decode cX10_ends 85 = .ok (.iinc 3 1, 3) := by decide +kernel
theorem dX10_ends_88 : decode cX10_ends 88 = .ok (.goto (-76), 3) := by decide +kernel
theorem dX10_ends_91 : decode cX10_ends 91 = .ok (.iinc 2 1, 3) := by decide +kernel
theorem dX10_ends_94 : decode cX10_ends 94 = .ok (.goto (-92), 3) := by decide +kernel
theorem dX10_ends_97 : decode cX10_ends 97 = .ok (.iconst 0, 1) := by decide +kernel
theorem dX10_ends_98 : decode cX10_ends 98 = .ok (.istore_n 2, 1) := by decide +kernel
theorem dX10_ends_99 : decode cX10_ends 99 = .ok (.iload_n 2, 1) := by decide +kernel
theorem dX10_ends_100 : decode cX10_ends 100 = .ok (.aload_n 0, 1) := by decide +kernel
theorem dX10_ends_101 : decode cX10_ends 101 = .ok (.getfield 125, 3) := by decide +kernel
theorem dX10_ends_104 : decode cX10_ends 104 = .ok (.if_icmp .ge 122, 3) := by decide +kernel
theorem dX10_ends_107 : decode cX10_ends 107 = .ok (.aload_n 0, 1) := by decide +kernel
theorem dX10_ends_108 : decode cX10_ends 108 = .ok (.getfield 46, 3) := by decide +kernel
theorem dX10_ends_111 : decode cX10_ends 111 = .ok (.iload_n 2, 1) := by decide +kernel
theorem dX10_ends_112 : decode cX10_ends 112 = .ok (.aload_n 0, 1) := by decide +kernel
theorem dX10_ends_113 : decode cX10_ends 113 = .ok (.getfield 22, 3) := by decide +kernel
theorem dX10_ends_116 : decode cX10_ends 116 = .ok (.iload_n 2, 1) := by decide +kernel
theorem dX10_ends_117 : decode cX10_ends 117 = .ok (.iaload, 1) := by decide +kernel
theorem dX10_ends_118 : decode cX10_ends 118 = .ok (.iconst 1, 1) := by decide +kernel
theorem dX10_ends_119 : decode cX10_ends 119 = .ok (.if_icmp .ne 25, 3) := by decide +kernel
theorem dX10_ends_122 : decode cX10_ends 122 = .ok (.aload_n 0, 1) := by decide +kernel
theorem dX10_ends_123 : decode cX10_ends 123 = .ok (.getfield 43, 3) := by decide +kernel
theorem dX10_ends_126 : decode cX10_ends 126 = .ok (.iload_n 2, 1) := by decide +kernel
theorem dX10_ends_127 : decode cX10_ends 127 = .ok (.iaload, 1) := by decide +kernel
theorem dX10_ends_128 : decode cX10_ends 128 = .ok (.bipush 8, 2) := by decide +kernel
theorem dX10_ends_130 : decode cX10_ends 130 = .ok (.if_icmp .ne 14, 3) := by decide +kernel
theorem dX10_ends_133 : decode cX10_ends 133 = .ok (.aload_n 0, 1) := by decide +kernel
theorem dX10_ends_134 : decode cX10_ends 134 = .ok (.getfield 46, 3) := by decide +kernel
theorem dX10_ends_137 : decode cX10_ends 137 = .ok (.iload_n 2, 1) := by decide +kernel
theorem dX10_ends_138 : decode cX10_ends 138 = .ok (.iaload, 1) := by decide +kernel
theorem dX10_ends_139 : decode cX10_ends 139 = .ok (.iconst 1, 1) := by decide +kernel
theorem dX10_ends_140 : decode cX10_ends 140 = .ok (.iadd, 1) := by decide +kernel
theorem dX10_ends_141 : decode cX10_ends 141 = .ok (.goto 4, 3) := by decide +kernel
theorem dX10_ends_144 : decode cX10_ends 144 = .ok (.iconst 0, 1) := by decide +kernel
theorem dX10_ends_145 : decode cX10_ends 145 = .ok (.iastore, 1) := by decide +kernel
theorem dX10_ends_146 : decode cX10_ends 146 = .ok (.aload_n 0, 1) := by decide +kernel
theorem dX10_ends_147 : decode cX10_ends 147 = .ok (.getfield 43, 3) := by decide +kernel
theorem dX10_ends_150 : decode cX10_ends 150 = .ok (.iload_n 2, 1) := by decide +kernel
theorem dX10_ends_151 : decode cX10_ends 151 = .ok (.aload_n 0, 1) := by decide +kernel
theorem dX10_ends_152 : decode cX10_ends 152 = .ok (.getfield 46, 3) := by decide +kernel
theorem dX10_ends_155 : decode cX10_ends 155 = .ok (.iload_n 2, 1) := by decide +kernel
theorem dX10_ends_156 : decode cX10_ends 156 = .ok (.iaload, 1) := by decide +kernel
theorem dX10_ends_157 : decode cX10_ends 157 = .ok (.iconst 3, 1) := by decide +kernel
theorem dX10_ends_158 : decode cX10_ends 158 = .ok (.if_icmp .ne 8, 3) := by decide +kernel
theorem dX10_ends_161 : decode cX10_ends 161 = .ok (.bipush 9, 2) := by decide +kernel
theorem dX10_ends_163 : decode cX10_ends 163 = .ok (.goto 9, 3) := by decide +kernel
theorem dX10_ends_166 : decode cX10_ends 166 = .ok (.aload_n 0, 1) := by decide +kernel
theorem dX10_ends_167 : decode cX10_ends 167 = .ok (.getfield 43, 3) := by decide +kernel
theorem dX10_ends_170 : decode cX10_ends 170 = .ok (.iload_n 2, 1) := by decide +kernel
theorem dX10_ends_171 : decode cX10_ends 171 = .ok (.iaload, 1) := by decide +kernel
theorem dX10_ends_172 : decode cX10_ends 172 = .ok (.iastore, 1) := by decide +kernel
theorem dX10_ends_173 : decode cX10_ends 173 = .ok (.aload_n 0, 1) := by decide +kernel
theorem dX10_ends_174 : decode cX10_ends 174 = .ok (.getfield 182, 3) := by decide +kernel
theorem dX10_ends_177 : decode cX10_ends 177 = .ok (.iload_n 1, 1) := by decide +kernel
theorem dX10_ends_178 : decode cX10_ends 178 = .ok (.invokestatic 189, 3) := by decide +kernel
theorem dX10_ends_181 : decode cX10_ends 181 = .ok (.ifCond .eq 39, 3) := by decide +kernel
theorem dX10_ends_184 : decode cX10_ends 184 = .ok (.aload_n 0, 1) := by decide +kernel
theorem dX10_ends_185 : decode cX10_ends 185 = .ok (.getfield 43, 3) := by decide +kernel
theorem dX10_ends_188 : decode cX10_ends 188 = .ok (.iload_n 2, 1) := by decide +kernel
theorem dX10_ends_189 : decode cX10_ends 189 = .ok (.iaload, 1) := by decide +kernel
theorem dX10_ends_190 : decode cX10_ends 190 = .ok (.bipush 8, 2) := by decide +kernel
theorem dX10_ends_192 : decode cX10_ends 192 = .ok (.if_icmp .ne 28, 3) := by decide +kernel
theorem dX10_ends_195 : decode cX10_ends 195 = .ok (.aload_n 0, 1) := by decide +kernel
theorem dX10_ends_196 : decode cX10_ends 196 = .ok (.getfield 19, 3) := by decide +kernel
theorem dX10_ends_199 : decode cX10_ends 199 = .ok (.iload_n 2, 1) := by decide +kernel
theorem dX10_ends_200 : decode cX10_ends 200 = .ok (.iaload, 1) := by decide +kernel
theorem dX10_ends_201 : decode cX10_ends 201 = .ok (.aload_n 0, 1) := by decide +kernel
theorem dX10_ends_202 : decode cX10_ends 202 = .ok (.getfield 128, 3) := by decide +kernel
theorem dX10_ends_205 : decode cX10_ends 205 = .ok (.if_icmp .ge 15, 3) := by decide +kernel
theorem dX10_ends_208 : decode cX10_ends 208 = .ok (.aload_n 0, 1) := by decide +kernel
theorem dX10_ends_209 : decode cX10_ends 209 = .ok (.getfield 43, 3) := by decide +kernel
theorem dX10_ends_212 : decode cX10_ends 212 = .ok (.iload_n 2, 1) := by decide +kernel
theorem dX10_ends_213 : decode cX10_ends 213 = .ok (.aload_n 0, 1) := by decide +kernel
theorem dX10_ends_214 : decode cX10_ends 214 = .ok (.getfield 19, 3) := by decide +kernel
theorem dX10_ends_217 : decode cX10_ends 217 = .ok (.iload_n 2, 1) := by decide +kernel
theorem dX10_ends_218 : decode cX10_ends 218 = .ok (.iaload, 1) := by decide +kernel
theorem dX10_ends_219 : decode cX10_ends 219 = .ok (.iastore, 1) := by decide +kernel
theorem dX10_ends_220 : decode cX10_ends 220 = .ok (.iinc 2 1, 3) := by decide +kernel
theorem dX10_ends_223 : decode cX10_ends 223 = .ok (.goto (-124), 3) := by decide +kernel
theorem dX10_ends_226 : decode cX10_ends 226 = .ok (.return_, 1) := by decide +kernel
theorem dX10_goesBy_0 : decode cX10_goesBy 0 = .ok (.aload_n 0, 1) := by decide +kernel
theorem dX10_goesBy_1 : decode cX10_goesBy 1 = .ok (.invokevirtual 199, 3) := by decide +kernel
theorem dX10_goesBy_4 : decode cX10_goesBy 4 = .ok (.aload_n 0, 1) := by decide +kernel
theorem dX10_goesBy_5 : decode cX10_goesBy 5 = .ok (.iload_n 1, 1) := by decide +kernel
theorem dX10_goesBy_6 : decode cX10_goesBy 6 = .ok (.invokevirtual 202, 3) := by decide +kernel
theorem dX10_goesBy_9 : decode cX10_goesBy 9 = .ok (.aload_n 0, 1) := by decide +kernel
theorem dX10_goesBy_10 : decode cX10_goesBy 10 = .ok (.iload_n 1, 1) := by decide +kernel
theorem dX10_goesBy_11 : decode cX10_goesBy 11 = .ok (.invokevirtual 206, 3) := by decide +kernel
theorem dX10_goesBy_14 : decode cX10_goesBy 14 = .ok (.return_, 1) := by decide +kernel
theorem dX10_runs_0 : decode cX10_runs 0 = .ok (.aload_n 0, 1) := by decide +kernel
theorem dX10_runs_1 : decode cX10_runs 1 = .ok (.invokevirtual 209, 3) := by decide +kernel
theorem dX10_runs_4 : decode cX10_runs 4 = .ok (.iconst 0, 1) := by decide +kernel
theorem dX10_runs_5 : decode cX10_runs 5 = .ok (.istore_n 2, 1) := by decide +kernel
theorem dX10_runs_6 : decode cX10_runs 6 = .ok (.iload_n 2, 1) := by decide +kernel
theorem dX10_runs_7 : decode cX10_runs 7 = .ok (.iload_n 1, 1) := by decide +kernel
theorem dX10_runs_8 : decode cX10_runs 8 = .ok (.if_icmp .gt 14, 3) := by decide +kernel
theorem dX10_runs_11 : decode cX10_runs 11 = .ok (.aload_n 0, 1) := by decide +kernel
theorem dX10_runs_12 : decode cX10_runs 12 = .ok (.iload_n 2, 1) := by decide +kernel
theorem dX10_runs_13 : decode cX10_runs 13 = .ok (.invokevirtual 212, 3) := by decide +kernel
theorem dX10_runs_16 : decode cX10_runs 16 = .ok (.iinc 2 1, 3) := by decide +kernel
theorem dX10_runs_19 : decode cX10_runs 19 = .ok (.goto (-13), 3) := by decide +kernel
theorem dX10_runs_22 : decode cX10_runs 22 = .ok (.return_, 1) := by decide +kernel
theorem dX10_runsTold_0 : decode cX10_runsTold 0 = .ok (.aload_n 0, 1) := by decide +kernel
theorem dX10_runsTold_1 : decode cX10_runsTold 1 = .ok (.invokevirtual 144, 3) := by decide +kernel
theorem dX10_runsTold_4 : decode cX10_runsTold 4 = .ok (.aload_n 0, 1) := by decide +kernel
theorem dX10_runsTold_5 : decode cX10_runsTold 5 = .ok (.invokevirtual 215, 3) := by decide +kernel
theorem dX10_runsTold_8 : decode cX10_runsTold 8 = .ok (.aload_n 0, 1) := by decide +kernel
theorem dX10_runsTold_9 : decode cX10_runsTold 9 = .ok (.iload_n 1, 1) := by decide +kernel
theorem dX10_runsTold_10 : decode cX10_runsTold 10 = .ok (.invokevirtual 218, 3) := by decide +kernel
theorem dX10_runsTold_13 : decode cX10_runsTold 13 = .ok (.return_, 1) := by decide +kernel
theorem dX10_whereOf_0 : decode cX10_whereOf 0 = .ok (.aload_n 0, 1) := by decide +kernel
theorem dX10_whereOf_1 : decode cX10_whereOf 1 = .ok (.iload_n 1, 1) := by decide +kernel
theorem dX10_whereOf_2 : decode cX10_whereOf 2 = .ok (.invokevirtual 221, 3) := by decide +kernel
theorem dX10_whereOf_5 : decode cX10_whereOf 5 = .ok (.aload_n 0, 1) := by decide +kernel
theorem dX10_whereOf_6 : decode cX10_whereOf 6 = .ok (.getfield 43, 3) := by decide +kernel
theorem dX10_whereOf_9 : decode cX10_whereOf 9 = .ok (.iload_n 2, 1) := by decide +kernel
theorem dX10_whereOf_10 : decode cX10_whereOf 10 = .ok (.iaload, 1) := by decide +kernel
theorem dX10_whereOf_11 : decode cX10_whereOf 11 = .ok (.ireturn, 1) := by decide +kernel
theorem dX10_where_0 : decode cX10_where 0 = .ok (.iload_n 1, 1) := by decide +kernel
theorem dX10_where_1 : decode cX10_where 1 = .ok (.invokestatic 160, 3) := by decide +kernel
theorem dX10_where_4 : decode cX10_where 4 = .ok (.ifCond .eq 20, 3) := by decide +kernel
theorem dX10_where_7 : decode cX10_where 7 = .ok (.aload_n 0, 1) := by decide +kernel
theorem dX10_where_8 : decode cX10_where 8 = .ok (.iload_n 2, 1) := by decide +kernel
theorem dX10_where_9 : decode cX10_where 9 = .ok (.invokevirtual 147, 3) := by decide +kernel
theorem dX10_where_12 : decode cX10_where 12 = .ok (.ifCond .eq 12, 3) := by decide +kernel
theorem dX10_where_15 : decode cX10_where 15 = .ok (.aload_n 0, 1) := by decide +kernel
theorem dX10_where_16 : decode cX10_where 16 = .ok (.iload_n 1, 1) := by decide +kernel
theorem dX10_where_17 : decode cX10_where 17 = .ok (.iload_n 2, 1) := by decide +kernel
theorem dX10_where_18 : decode cX10_where 18 = .ok (.invokevirtual 224, 3) := by decide +kernel
theorem dX10_where_21 : decode cX10_where 21 = .ok (.goto 5, 3) := by decide +kernel
theorem dX10_where_24 : decode cX10_where 24 = .ok (.bipush (-2), 2) := by decide +kernel
theorem dX10_where_26 : decode cX10_where 26 = .ok (.ireturn, 1) := by decide +kernel
theorem dX10_hasOf_0 : decode cX10_hasOf 0 = .ok (.aload_n 0, 1) := by decide +kernel
theorem dX10_hasOf_1 : decode cX10_hasOf 1 = .ok (.iload_n 1, 1) := by decide +kernel
theorem dX10_hasOf_2 : decode cX10_hasOf 2 = .ok (.invokevirtual 221, 3) := by decide +kernel
theorem dX10_hasOf_5 : decode cX10_hasOf 5 = .ok (.iconst 0, 1) := by decide +kernel
theorem dX10_hasOf_6 : decode cX10_hasOf 6 = .ok (.istore_n 3, 1) := by decide +kernel
theorem dX10_hasOf_7 : decode cX10_hasOf 7 = .ok (.iconst 0, 1) := by decide +kernel
theorem dX10_hasOf_8 : decode cX10_hasOf 8 = .ok (.istore 4, 2) := by decide +kernel
theorem dX10_hasOf_10 : decode cX10_hasOf 10 = .ok (.iload 4, 2) := by decide +kernel
theorem dX10_hasOf_12 : decode cX10_hasOf 12 = .ok (.aload_n 0, 1) := by decide +kernel
theorem dX10_hasOf_13 : decode cX10_hasOf 13 = .ok (.getfield 125, 3) := by decide +kernel
theorem dX10_hasOf_16 : decode cX10_hasOf 16 = .ok (.if_icmp .ge 31, 3) := by decide +kernel
theorem dX10_hasOf_19 : decode cX10_hasOf 19 = .ok (.iload_n 3, 1) := by decide +kernel
theorem dX10_hasOf_20 : decode cX10_hasOf 20 = .ok (.aload_n 0, 1) := by decide +kernel
theorem dX10_hasOf_21 : decode cX10_hasOf 21 = .ok (.getfield 43, 3) := by decide +kernel
theorem dX10_hasOf_24 : decode cX10_hasOf 24 = .ok (.iload 4, 2) := by decide +kernel
theorem dX10_hasOf_26 : decode cX10_hasOf 26 = .ok (.iaload, 1) := by decide +kernel
theorem dX10_hasOf_27 : decode cX10_hasOf 27 = .ok (.iload_n 2, 1) := by decide +kernel
theorem dX10_hasOf_28 : decode cX10_hasOf 28 = .ok (.if_icmp .ne 10, 3) := by decide +kernel
theorem dX10_hasOf_31 : decode cX10_hasOf 31 = .ok (.iconst 1, 1) := by decide +kernel
theorem dX10_hasOf_32 : decode cX10_hasOf 32 = .ok (.iload 4, 2) := by decide +kernel
theorem dX10_hasOf_34 : decode cX10_hasOf 34 = .ok (.ishl, 1) := by decide +kernel
theorem dX10_hasOf_35 : decode cX10_hasOf 35 = .ok (.goto 4, 3) := by decide +kernel
theorem dX10_hasOf_38 : decode cX10_hasOf 38 = .ok (.iconst 0, 1) := by decide +kernel
theorem dX10_hasOf_39 : decode cX10_hasOf 39 = .ok (.ior, 1) := by decide +kernel
theorem dX10_hasOf_40 : decode cX10_hasOf 40 = .ok (.istore_n 3, 1) := by decide +kernel
theorem dX10_hasOf_41 : decode cX10_hasOf 41 = .ok (.iinc 4 1, 3) := by decide +kernel
theorem dX10_hasOf_44 : decode cX10_hasOf 44 = .ok (.goto (-34), 3) := by decide +kernel
theorem dX10_hasOf_47 : decode cX10_hasOf 47 = .ok (.iload_n 3, 1) := by decide +kernel
theorem dX10_hasOf_48 : decode cX10_hasOf 48 = .ok (.ireturn, 1) := by decide +kernel
theorem dX10_has_0 : decode cX10_has 0 = .ok (.iload_n 1, 1) := by decide +kernel
theorem dX10_has_1 : decode cX10_has 1 = .ok (.invokestatic 160, 3) := by decide +kernel
theorem dX10_has_4 : decode cX10_has 4 = .ok (.ifCond .eq 20, 3) := by decide +kernel
theorem dX10_has_7 : decode cX10_has 7 = .ok (.aload_n 0, 1) := by decide +kernel
theorem dX10_has_8 : decode cX10_has 8 = .ok (.iload_n 2, 1) := by decide +kernel
theorem dX10_has_9 : decode cX10_has 9 = .ok (.invokevirtual 153, 3) := by decide +kernel
theorem dX10_has_12 : decode cX10_has 12 = .ok (.ifCond .eq 12, 3) := by decide +kernel
theorem dX10_has_15 : decode cX10_has 15 = .ok (.aload_n 0, 1) := by decide +kernel
theorem dX10_has_16 : decode cX10_has 16 = .ok (.iload_n 1, 1) := by decide +kernel
theorem dX10_has_17 : decode cX10_has 17 = .ok (.iload_n 2, 1) := by decide +kernel
theorem dX10_has_18 : decode cX10_has 18 = .ok (.invokevirtual 227, 3) := by decide +kernel
theorem dX10_has_21 : decode cX10_has 21 = .ok (.goto 5, 3) := by decide +kernel
theorem dX10_has_24 : decode cX10_has 24 = .ok (.bipush (-2), 2) := by decide +kernel
theorem dX10_has_26 : decode cX10_has 26 = .ok (.ireturn, 1) := by decide +kernel
theorem dX10_loadOf_0 : decode cX10_loadOf 0 = .ok (.aload_n 0, 1) := by decide +kernel
theorem dX10_loadOf_1 : decode cX10_loadOf 1 = .ok (.iload_n 1, 1) := by decide +kernel
theorem dX10_loadOf_2 : decode cX10_loadOf 2 = .ok (.invokevirtual 221, 3) := by decide +kernel
theorem dX10_loadOf_5 : decode cX10_loadOf 5 = .ok (.aload_n 0, 1) := by decide +kernel
theorem dX10_loadOf_6 : decode cX10_loadOf 6 = .ok (.invokevirtual 185, 3) := by decide +kernel
theorem dX10_loadOf_9 : decode cX10_loadOf 9 = .ok (.ireturn, 1) := by decide +kernel
theorem dX10_load_0 : decode cX10_load 0 = .ok (.iload_n 1, 1) := by decide +kernel
theorem dX10_load_1 : decode cX10_load 1 = .ok (.invokestatic 160, 3) := by decide +kernel
theorem dX10_load_4 : decode cX10_load 4 = .ok (.ifCond .eq 11, 3) := by decide +kernel
theorem dX10_load_7 : decode cX10_load 7 = .ok (.aload_n 0, 1) := by decide +kernel
theorem dX10_load_8 : decode cX10_load 8 = .ok (.iload_n 1, 1) := by decide +kernel
theorem dX10_load_9 : decode cX10_load 9 = .ok (.invokevirtual 230, 3) := by decide +kernel
theorem dX10_load_12 : decode cX10_load 12 = .ok (.goto 5, 3) := by decide +kernel
theorem dX10_load_15 : decode cX10_load 15 = .ok (.bipush (-2), 2) := by decide +kernel
theorem dX10_load_17 : decode cX10_load 17 = .ok (.ireturn, 1) := by decide +kernel
theorem dX10_happyOf_0 : decode cX10_happyOf 0 = .ok (.aload_n 0, 1) := by decide +kernel
theorem dX10_happyOf_1 : decode cX10_happyOf 1 = .ok (.iload_n 1, 1) := by decide +kernel
theorem dX10_happyOf_2 : decode cX10_happyOf 2 = .ok (.invokevirtual 221, 3) := by decide +kernel
theorem dX10_happyOf_5 : decode cX10_happyOf 5 = .ok (.iconst 0, 1) := by decide +kernel
theorem dX10_happyOf_6 : decode cX10_happyOf 6 = .ok (.istore_n 2, 1) := by decide +kernel
theorem dX10_happyOf_7 : decode cX10_happyOf 7 = .ok (.iconst 0, 1) := by decide +kernel
theorem dX10_happyOf_8 : decode cX10_happyOf 8 = .ok (.istore_n 3, 1) := by decide +kernel
theorem dX10_happyOf_9 : decode cX10_happyOf 9 = .ok (.iload_n 3, 1) := by decide +kernel
theorem dX10_happyOf_10 : decode cX10_happyOf 10 = .ok (.aload_n 0, 1) := by decide +kernel
theorem dX10_happyOf_11 : decode cX10_happyOf 11 = .ok (.getfield 128, 3) := by decide +kernel
theorem dX10_happyOf_14 : decode cX10_happyOf 14 = .ok (.if_icmp .ge 53, 3) := by decide +kernel
theorem dX10_happyOf_17 : decode cX10_happyOf 17 = .ok (.iload_n 2, 1) := by decide +kernel
theorem dX10_happyOf_18 : decode cX10_happyOf 18 = .ok (.aload_n 0, 1) := by decide +kernel
theorem dX10_happyOf_19 : decode cX10_happyOf 19 = .ok (.getfield 28, 3) := by decide +kernel
theorem dX10_happyOf_22 : decode cX10_happyOf 22 = .ok (.iload_n 3, 1) := by decide +kernel
theorem dX10_happyOf_23 : decode cX10_happyOf 23 = .ok (.iaload, 1) := by decide +kernel
theorem dX10_happyOf_24 : decode cX10_happyOf 24 = .ok (.iconst 0, 1) := by decide +kernel
theorem dX10_happyOf_25 : decode cX10_happyOf 25 = .ok (.aload_n 0, 1) := by decide +kernel
theorem dX10_happyOf_26 : decode cX10_happyOf 26 = .ok (.getfield 125, 3) := by decide +kernel
theorem dX10_happyOf_29 : decode cX10_happyOf 29 = .ok (.iconst 1, 1) := by decide +kernel
theorem dX10_happyOf_30 : decode cX10_happyOf 30 = .ok (.isub, 1) := by decide +kernel
theorem dX10_happyOf_31 : decode cX10_happyOf 31 = .ok (.invokestatic 110, 3) := by decide +kernel
theorem dX10_happyOf_34 : decode cX10_happyOf 34 = .ok (.ifCond .eq 24, 3) := by decide +kernel
theorem dX10_happyOf_37 : decode cX10_happyOf 37 = .ok (.aload_n 0, 1) := by decide +kernel
theorem dX10_happyOf_38 : decode cX10_happyOf 38 = .ok (.getfield 43, 3) := by decide +kernel
theorem dX10_happyOf_41 : decode cX10_happyOf 41 = .ok (.aload_n 0, 1) := by decide +kernel
theorem dX10_happyOf_42 : decode cX10_happyOf 42 = .ok (.getfield 28, 3) := by decide +kernel
theorem dX10_happyOf_45 : decode cX10_happyOf 45 = .ok (.iload_n 3, 1) := by decide +kernel
theorem dX10_happyOf_46 : decode cX10_happyOf 46 = .ok (.iaload, 1) := by decide +kernel
theorem dX10_happyOf_47 : decode cX10_happyOf 47 = .ok (.iaload, 1) := by decide +kernel
theorem dX10_happyOf_48 : decode cX10_happyOf 48 = .ok (.iload_n 3, 1) := by decide +kernel
theorem dX10_happyOf_49 : decode cX10_happyOf 49 = .ok (.if_icmp .ne 9, 3) := by decide +kernel
theorem dX10_happyOf_52 : decode cX10_happyOf 52 = .ok (.iconst 1, 1) := by decide +kernel
theorem dX10_happyOf_53 : decode cX10_happyOf 53 = .ok (.iload_n 3, 1) := by decide +kernel
theorem dX10_happyOf_54 : decode cX10_happyOf 54 = .ok (.ishl, 1) := by decide +kernel
theorem dX10_happyOf_55 : decode cX10_happyOf 55 = .ok (.goto 4, 3) := by decide +kernel
theorem dX10_happyOf_58 : decode cX10_happyOf 58 = .ok (.iconst 0, 1) := by decide +kernel
theorem dX10_happyOf_59 : decode cX10_happyOf 59 = .ok (.ior, 1) := by decide +kernel
theorem dX10_happyOf_60 : decode cX10_happyOf 60 = .ok (.istore_n 2, 1) := by decide +kernel
theorem dX10_happyOf_61 : decode cX10_happyOf 61 = .ok (.iinc 3 1, 3) := by decide +kernel
theorem dX10_happyOf_64 : decode cX10_happyOf 64 = .ok (.goto (-55), 3) := by decide +kernel
theorem dX10_happyOf_67 : decode cX10_happyOf 67 = .ok (.iload_n 2, 1) := by decide +kernel
theorem dX10_happyOf_68 : decode cX10_happyOf 68 = .ok (.ireturn, 1) := by decide +kernel
theorem dX10_happy_0 : decode cX10_happy 0 = .ok (.iload_n 1, 1) := by decide +kernel
theorem dX10_happy_1 : decode cX10_happy 1 = .ok (.invokestatic 160, 3) := by decide +kernel
theorem dX10_happy_4 : decode cX10_happy 4 = .ok (.ifCond .eq 11, 3) := by decide +kernel
theorem dX10_happy_7 : decode cX10_happy 7 = .ok (.aload_n 0, 1) := by decide +kernel
theorem dX10_happy_8 : decode cX10_happy 8 = .ok (.iload_n 1, 1) := by decide +kernel
theorem dX10_happy_9 : decode cX10_happy 9 = .ok (.invokevirtual 233, 3) := by decide +kernel
theorem dX10_happy_12 : decode cX10_happy 12 = .ok (.goto 5, 3) := by decide +kernel
theorem dX10_happy_15 : decode cX10_happy 15 = .ok (.bipush (-2), 2) := by decide +kernel
theorem dX10_happy_17 : decode cX10_happy 17 = .ok (.ireturn, 1) := by decide +kernel
theorem dX10_worksOf_0 : decode cX10_worksOf 0 = .ok (.aload_n 0, 1) := by decide +kernel
theorem dX10_worksOf_1 : decode cX10_worksOf 1 = .ok (.bipush 23, 2) := by decide +kernel
theorem dX10_worksOf_3 : decode cX10_worksOf 3 = .ok (.invokevirtual 221, 3) := by decide +kernel
theorem dX10_worksOf_6 : decode cX10_worksOf 6 = .ok (.aload_n 0, 1) := by decide +kernel
theorem dX10_worksOf_7 : decode cX10_worksOf 7 = .ok (.getfield 55, 3) := by decide +kernel
theorem dX10_worksOf_10 : decode cX10_worksOf 10 = .ok (.iload_n 1, 1) := by decide +kernel
theorem dX10_worksOf_11 : decode cX10_worksOf 11 = .ok (.baload, 1) := by decide +kernel
theorem dX10_worksOf_12 : decode cX10_worksOf 12 = .ok (.ifCond .eq 7, 3) := by decide +kernel
theorem dX10_worksOf_15 : decode cX10_worksOf 15 = .ok (.iconst 1, 1) := by decide +kernel
theorem dX10_worksOf_16 : decode cX10_worksOf 16 = .ok (.goto 4, 3) := by decide +kernel
theorem dX10_worksOf_19 : decode cX10_worksOf 19 = .ok (.iconst 0, 1) := by decide +kernel
theorem dX10_worksOf_20 : decode cX10_worksOf 20 = .ok (.ireturn, 1) := by decide +kernel
theorem dX10_works_0 : decode cX10_works 0 = .ok (.iload_n 1, 1) := by decide +kernel
theorem dX10_works_1 : decode cX10_works 1 = .ok (.iconst 0, 1) := by decide +kernel
theorem dX10_works_2 : decode cX10_works 2 = .ok (.aload_n 0, 1) := by decide +kernel
theorem dX10_works_3 : decode cX10_works 3 = .ok (.getfield 163, 3) := by decide +kernel
theorem dX10_works_6 : decode cX10_works 6 = .ok (.iconst 1, 1) := by decide +kernel
theorem dX10_works_7 : decode cX10_works 7 = .ok (.isub, 1) := by decide +kernel
theorem dX10_works_8 : decode cX10_works 8 = .ok (.invokestatic 110, 3) := by decide +kernel
theorem dX10_works_11 : decode cX10_works 11 = .ok (.ifCond .eq 11, 3) := by decide +kernel
theorem dX10_works_14 : decode cX10_works 14 = .ok (.aload_n 0, 1) := by decide +kernel
theorem dX10_works_15 : decode cX10_works 15 = .ok (.iload_n 1, 1) := by decide +kernel
theorem dX10_works_16 : decode cX10_works 16 = .ok (.invokevirtual 236, 3) := by decide +kernel
theorem dX10_works_19 : decode cX10_works 19 = .ok (.goto 5, 3) := by decide +kernel
theorem dX10_works_22 : decode cX10_works 22 = .ok (.bipush (-2), 2) := by decide +kernel
theorem dX10_works_24 : decode cX10_works 24 = .ok (.ireturn, 1) := by decide +kernel
theorem dX10_failsNow_0 : decode cX10_failsNow 0 = .ok (.aload_n 0, 1) := by decide +kernel
theorem dX10_failsNow_1 : decode cX10_failsNow 1 = .ok (.bipush 23, 2) := by decide +kernel
theorem dX10_failsNow_3 : decode cX10_failsNow 3 = .ok (.invokevirtual 221, 3) := by decide +kernel
theorem dX10_failsNow_6 : decode cX10_failsNow 6 = .ok (.iconst (-1), 1) := by decide +kernel
theorem dX10_failsNow_7 : decode cX10_failsNow 7 = .ok (.istore_n 1, 1) := by decide +kernel
theorem dX10_failsNow_8 : decode cX10_failsNow 8 = .ok (.iconst 0, 1) := by decide +kernel
theorem dX10_failsNow_9 : decode cX10_failsNow 9 = .ok (.istore_n 2, 1) := by decide +kernel
theorem dX10_failsNow_10 : decode cX10_failsNow 10 = .ok (.iload_n 2, 1) := by decide +kernel
theorem dX10_failsNow_11 : decode cX10_failsNow 11 = .ok (.aload_n 0, 1) := by decide +kernel
theorem dX10_failsNow_12 : decode cX10_failsNow 12 = .ok (.getfield 163, 3) := by decide +kernel
theorem dX10_failsNow_15 : decode cX10_failsNow 15 = .ok (.if_icmp .ge 44, 3) := by decide +kernel
theorem dX10_failsNow_18 : decode cX10_failsNow 18 = .ok (.aload_n 0, 1) := by decide +kernel
theorem dX10_failsNow_19 : decode cX10_failsNow 19 = .ok (.getfield 55, 3) := by decide +kernel
theorem dX10_failsNow_22 : decode cX10_failsNow 22 = .ok (.iload_n 2, 1) := by decide +kernel
theorem dX10_failsNow_23 : decode cX10_failsNow 23 = .ok (.baload, 1) := by decide +kernel
theorem dX10_failsNow_24 : decode cX10_failsNow 24 = .ok (.ifCond .ne 27, 3) := by decide +kernel
theorem dX10_failsNow_27 : decode cX10_failsNow 27 = .ok (.iload_n 1, 1) := by decide +kernel
theorem dX10_failsNow_28 : decode cX10_failsNow 28 = .ok (.iconst (-1), 1) := by decide +kernel
theorem dX10_failsNow_29 : decode cX10_failsNow 29 = .ok (.if_icmp .eq 18, 3) := by decide +kernel
theorem dX10_failsNow_32 : decode cX10_failsNow 32 = .ok (.aload_n 0, 1) := by decide +kernel
theorem dX10_failsNow_33 : decode cX10_failsNow 33 = .ok (.getfield 31, 3) := by decide +kernel
theorem dX10_failsNow_36 : decode cX10_failsNow 36 = .ok (.iload_n 2, 1) := by decide +kernel
theorem dX10_failsNow_37 : decode cX10_failsNow 37 = .ok (.iaload, 1) := by decide +kernel
theorem dX10_failsNow_38 : decode cX10_failsNow 38 = .ok (.aload_n 0, 1) := by decide +kernel
theorem dX10_failsNow_39 : decode cX10_failsNow 39 = .ok (.getfield 31, 3) := by decide +kernel
theorem dX10_failsNow_42 : decode cX10_failsNow 42 = .ok (.iload_n 1, 1) := by decide +kernel
theorem dX10_failsNow_43 : decode cX10_failsNow 43 = .ok (.iaload, 1) := by decide +kernel
theorem dX10_failsNow_44 : decode cX10_failsNow 44 = .ok (.if_icmp .ge 7, 3) := by decide +kernel
theorem dX10_failsNow_47 : decode cX10_failsNow 47 = .ok (.iload_n 2, 1) := by decide +kernel
theorem dX10_failsNow_48 : decode cX10_failsNow 48 = .ok (.goto 4, 3) := by decide +kernel
theorem dX10_failsNow_51 : decode cX10_failsNow 51 = .ok (.iload_n 1, 1) := by decide +kernel
theorem dX10_failsNow_52 : decode cX10_failsNow 52 = .ok (.istore_n 1, 1) := by decide +kernel
theorem dX10_failsNow_53 : decode cX10_failsNow 53 = .ok (.iinc 2 1, 3) := by decide +kernel
theorem dX10_failsNow_56 : decode cX10_failsNow 56 = .ok (.goto (-46), 3) := by decide +kernel
theorem dX10_failsNow_59 : decode cX10_failsNow 59 = .ok (.iload_n 1, 1) := by decide +kernel
theorem dX10_failsNow_60 : decode cX10_failsNow 60 = .ok (.ireturn, 1) := by decide +kernel
theorem dX10_fails_0 : decode cX10_fails 0 = .ok (.aload_n 0, 1) := by decide +kernel
theorem dX10_fails_1 : decode cX10_fails 1 = .ok (.invokevirtual 239, 3) := by decide +kernel
theorem dX10_fails_4 : decode cX10_fails 4 = .ok (.ireturn, 1) := by decide +kernel
theorem dX10_wentOf_0 : decode cX10_wentOf 0 = .ok (.aload_n 0, 1) := by decide +kernel
theorem dX10_wentOf_1 : decode cX10_wentOf 1 = .ok (.invokevirtual 144, 3) := by decide +kernel
theorem dX10_wentOf_4 : decode cX10_wentOf 4 = .ok (.aload_n 0, 1) := by decide +kernel
theorem dX10_wentOf_5 : decode cX10_wentOf 5 = .ok (.invokevirtual 215, 3) := by decide +kernel
theorem dX10_wentOf_8 : decode cX10_wentOf 8 = .ok (.aload_n 0, 1) := by decide +kernel
theorem dX10_wentOf_9 : decode cX10_wentOf 9 = .ok (.invokevirtual 209, 3) := by decide +kernel
theorem dX10_wentOf_12 : decode cX10_wentOf 12 = .ok (.aload_n 0, 1) := by decide +kernel
theorem dX10_wentOf_13 : decode cX10_wentOf 13 = .ok (.getfield 43, 3) := by decide +kernel
theorem dX10_wentOf_16 : decode cX10_wentOf 16 = .ok (.iload_n 1, 1) := by decide +kernel
theorem dX10_wentOf_17 : decode cX10_wentOf 17 = .ok (.iaload, 1) := by decide +kernel
theorem dX10_wentOf_18 : decode cX10_wentOf 18 = .ok (.bipush 9, 2) := by decide +kernel
theorem dX10_wentOf_20 : decode cX10_wentOf 20 = .ok (.if_icmp .ne 5, 3) := by decide +kernel
theorem dX10_wentOf_23 : decode cX10_wentOf 23 = .ok (.iconst (-1), 1) := by decide +kernel
theorem dX10_wentOf_24 : decode cX10_wentOf 24 = .ok (.ireturn, 1) := by decide +kernel
theorem dX10_wentOf_25 : decode cX10_wentOf 25 = .ok (.iconst 0, 1) := by decide +kernel
theorem dX10_wentOf_26 : decode cX10_wentOf 26 = .ok (.istore_n 2, 1) := by decide +kernel
theorem dX10_wentOf_27 : decode cX10_wentOf 27 = .ok (.iload_n 2, 1) := by decide +kernel
theorem dX10_wentOf_28 : decode cX10_wentOf 28 = .ok (.bipush 24, 2) := by decide +kernel
theorem dX10_wentOf_30 : decode cX10_wentOf 30 = .ok (.if_icmp .ge 27, 3) := by decide +kernel
theorem dX10_wentOf_33 : decode cX10_wentOf 33 = .ok (.aload_n 0, 1) := by decide +kernel
theorem dX10_wentOf_34 : decode cX10_wentOf 34 = .ok (.iload_n 2, 1) := by decide +kernel
theorem dX10_wentOf_35 : decode cX10_wentOf 35 = .ok (.invokevirtual 212, 3) := by decide +kernel
theorem dX10_wentOf_38 : decode cX10_wentOf 38 = .ok (.aload_n 0, 1) := by decide +kernel
theorem dX10_wentOf_39 : decode cX10_wentOf 39 = .ok (.getfield 43, 3) := by decide +kernel
theorem dX10_wentOf_42 : decode cX10_wentOf 42 = .ok (.iload_n 1, 1) := by decide +kernel
theorem dX10_wentOf_43 : decode cX10_wentOf 43 = .ok (.iaload, 1) := by decide +kernel
theorem dX10_wentOf_44 : decode cX10_wentOf 44 = .ok (.bipush 9, 2) := by decide +kernel
theorem dX10_wentOf_46 : decode cX10_wentOf 46 = .ok (.if_icmp .ne 5, 3) := by decide +kernel
theorem dX10_wentOf_49 : decode cX10_wentOf 49 = .ok (.iload_n 2, 1) := by decide +kernel
theorem dX10_wentOf_50 : decode cX10_wentOf 50 = .ok (.ireturn, 1) := by decide +kernel
theorem dX10_wentOf_51 : decode cX10_wentOf 51 = .ok (.iinc 2 1, 3) := by decide +kernel
theorem dX10_wentOf_54 : decode cX10_wentOf 54 = .ok (.goto (-27), 3) := by decide +kernel
theorem dX10_wentOf_57 : decode cX10_wentOf 57 = .ok (.iconst (-1), 1) := by decide +kernel
theorem dX10_wentOf_58 : decode cX10_wentOf 58 = .ok (.ireturn, 1) := by decide +kernel
theorem dX10_went_0 : decode cX10_went 0 = .ok (.aload_n 0, 1) := by decide +kernel
theorem dX10_went_1 : decode cX10_went 1 = .ok (.iload_n 1, 1) := by decide +kernel
theorem dX10_went_2 : decode cX10_went 2 = .ok (.invokevirtual 147, 3) := by decide +kernel
theorem dX10_went_5 : decode cX10_went 5 = .ok (.ifCond .eq 11, 3) := by decide +kernel
theorem dX10_went_8 : decode cX10_went 8 = .ok (.aload_n 0, 1) := by decide +kernel
theorem dX10_went_9 : decode cX10_went 9 = .ok (.iload_n 1, 1) := by decide +kernel
theorem dX10_went_10 : decode cX10_went 10 = .ok (.invokevirtual 242, 3) := by decide +kernel
theorem dX10_went_13 : decode cX10_went 13 = .ok (.goto 5, 3) := by decide +kernel
theorem dX10_went_16 : decode cX10_went 16 = .ok (.bipush (-2), 2) := by decide +kernel
theorem dX10_went_18 : decode cX10_went 18 = .ok (.ireturn, 1) := by decide +kernel
theorem dX10_keeps_0 : decode cX10_keeps 0 = .ok (.iconst 0, 1) := by decide +kernel
theorem dX10_keeps_1 : decode cX10_keeps 1 = .ok (.istore_n 1, 1) := by decide +kernel
theorem dX10_keeps_2 : decode cX10_keeps 2 = .ok (.iload_n 1, 1) := by decide +kernel
theorem dX10_keeps_3 : decode cX10_keeps 3 = .ok (.bipush 8, 2) := by decide +kernel
theorem dX10_keeps_5 : decode cX10_keeps 5 = .ok (.if_icmp .ge 45, 3) := by decide +kernel
theorem dX10_keeps_8 : decode cX10_keeps 8 = .ok (.aload_n 0, 1) := by decide +kernel
theorem dX10_keeps_9 : decode cX10_keeps 9 = .ok (.getfield 59, 3) := by decide +kernel
theorem dX10_keeps_12 : decode cX10_keeps 12 = .ok (.iload_n 1, 1) := by decide +kernel
theorem dX10_keeps_13 : decode cX10_keeps 13 = .ok (.aload_n 0, 1) := by decide +kernel
theorem dX10_keeps_14 : decode cX10_keeps 14 = .ok (.getfield 43, 3) := by decide +kernel
theorem dX10_keeps_17 : decode cX10_keeps 17 = .ok (.iload_n 1, 1) := by decide +kernel
theorem dX10_keeps_18 : decode cX10_keeps 18 = .ok (.iaload, 1) := by decide +kernel
theorem dX10_keeps_19 : decode cX10_keeps 19 = .ok (.iastore, 1) := by decide +kernel
theorem dX10_keeps_20 : decode cX10_keeps 20 = .ok (.aload_n 0, 1) := by decide +kernel
theorem dX10_keeps_21 : decode cX10_keeps 21 = .ok (.getfield 62, 3) := by decide +kernel
theorem dX10_keeps_24 : decode cX10_keeps 24 = .ok (.iload_n 1, 1) := by decide +kernel
theorem dX10_keeps_25 : decode cX10_keeps 25 = .ok (.aload_n 0, 1) := by decide +kernel
theorem dX10_keeps_26 : decode cX10_keeps 26 = .ok (.getfield 46, 3) := by decide +kernel
theorem dX10_keeps_29 : decode cX10_keeps 29 = .ok (.iload_n 1, 1) := by decide +kernel
theorem dX10_keeps_30 : decode cX10_keeps 30 = .ok (.iaload, 1) := by decide +kernel
theorem dX10_keeps_31 : decode cX10_keeps 31 = .ok (.iastore, 1) := by decide +kernel
theorem dX10_keeps_32 : decode cX10_keeps 32 = .ok (.aload_n 0, 1) := by decide +kernel
theorem dX10_keeps_33 : decode cX10_keeps 33 = .ok (.getfield 65, 3) := by decide +kernel
theorem dX10_keeps_36 : decode cX10_keeps 36 = .ok (.iload_n 1, 1) := by decide +kernel
theorem dX10_keeps_37 : decode cX10_keeps 37 = .ok (.aload_n 0, 1) := by decide +kernel
