theorem dX7_fits_39 : decode cX7_fits 39 = .ok (.iconst 0, 1) := by decide +kernel
theorem dX7_fits_40 : decode cX7_fits 40 = .ok (.ireturn, 1) := by decide +kernel
theorem dX7_signs_0 : decode cX7_signs 0 = .ok (.iload_n 1, 1) := by decide +kernel
theorem dX7_signs_1 : decode cX7_signs 1 = .ok (.ifCond .ne 8, 3) := by decide +kernel
theorem dX7_signs_4 : decode cX7_signs 4 = .ok (.aload_n 0, 1) := by decide +kernel
theorem dX7_signs_5 : decode cX7_signs 5 = .ok (.getfield 15, 3) := by decide +kernel
theorem dX7_signs_8 : decode cX7_signs 8 = .ok (.areturn, 1) := by decide +kernel
theorem dX7_signs_9 : decode cX7_signs 9 = .ok (.iload_n 1, 1) := by decide +kernel
theorem dX7_signs_10 : decode cX7_signs 10 = .ok (.iconst 1, 1) := by decide +kernel
theorem dX7_signs_11 : decode cX7_signs 11 = .ok (.if_icmp .ne 10, 3) := by decide +kernel
theorem dX7_signs_14 : decode cX7_signs 14 = .ok (.aload_n 0, 1) := by decide +kernel
theorem dX7_signs_15 : decode cX7_signs 15 = .ok (.getfield 19, 3) := by decide +kernel
theorem dX7_signs_18 : decode cX7_signs 18 = .ok (.goto 7, 3) := by decide +kernel
theorem dX7_signs_21 : decode cX7_signs 21 = .ok (.aload_n 0, 1) := by decide +kernel
theorem dX7_signs_22 : decode cX7_signs 22 = .ok (.getfield 22, 3) := by decide +kernel
theorem dX7_signs_25 : decode cX7_signs 25 = .ok (.areturn, 1) := by decide +kernel
theorem dX8_init_0 : decode cX8_init 0 = .ok (.aload_n 0, 1) := by decide +kernel
theorem dX8_init_1 : decode cX8_init 1 = .ok (.invokespecial 3, 3) := by decide +kernel
theorem dX8_init_4 : decode cX8_init 4 = .ok (.aload_n 0, 1) := by decide +kernel
theorem dX8_init_5 : decode cX8_init 5 = .ok (.bipush 20, 2) := by decide +kernel
theorem dX8_init_7 : decode cX8_init 7 = .ok (.putfield 9, 3) := by decide +kernel
theorem dX8_init_10 : decode cX8_init 10 = .ok (.aload_n 0, 1) := by decide +kernel
theorem dX8_init_11 : decode cX8_init 11 = .ok (.bipush 20, 2) := by decide +kernel
theorem dX8_init_13 : decode cX8_init 13 = .ok (.newarray .int, 2) := by decide +kernel
theorem dX8_init_15 : decode cX8_init 15 = .ok (.putfield 15, 3) := by decide +kernel
theorem dX8_init_18 : decode cX8_init 18 = .ok (.aload_n 0, 1) := by decide +kernel
theorem dX8_init_19 : decode cX8_init 19 = .ok (.bipush 20, 2) := by decide +kernel
theorem dX8_init_21 : decode cX8_init 21 = .ok (.newarray .int, 2) := by decide +kernel
theorem dX8_init_23 : decode cX8_init 23 = .ok (.putfield 19, 3) := by decide +kernel
theorem dX8_init_26 : decode cX8_init 26 = .ok (.aload_n 0, 1) := by decide +kernel
theorem dX8_init_27 : decode cX8_init 27 = .ok (.bipush 6, 2) := by decide +kernel
theorem dX8_init_29 : decode cX8_init 29 = .ok (.newarray .int, 2) := by decide +kernel
theorem dX8_init_31 : decode cX8_init 31 = .ok (.putfield 22, 3) := by decide +kernel
theorem dX8_init_34 : decode cX8_init 34 = .ok (.aload_n 0, 1) := by decide +kernel
theorem dX8_init_35 : decode cX8_init 35 = .ok (.bipush 6, 2) := by decide +kernel
theorem dX8_init_37 : decode cX8_init 37 = .ok (.newarray .int, 2) := by decide +kernel
theorem dX8_init_39 : decode cX8_init 39 = .ok (.putfield 25, 3) := by decide +kernel
theorem dX8_init_42 : decode cX8_init 42 = .ok (.aload_n 0, 1) := by decide +kernel
theorem dX8_init_43 : decode cX8_init 43 = .ok (.bipush 8, 2) := by decide +kernel
theorem dX8_init_45 : decode cX8_init 45 = .ok (.newarray .int, 2) := by decide +kernel
theorem dX8_init_47 : decode cX8_init 47 = .ok (.putfield 28, 3) := by decide +kernel
theorem dX8_init_50 : decode cX8_init 50 = .ok (.aload_n 0, 1) := by decide +kernel
theorem dX8_init_51 : decode cX8_init 51 = .ok (.bipush 8, 2) := by decide +kernel
theorem dX8_init_53 : decode cX8_init 53 = .ok (.newarray .int, 2) := by decide +kernel
theorem dX8_init_55 : decode cX8_init 55 = .ok (.putfield 31, 3) := by decide +kernel
theorem dX8_init_58 : decode cX8_init 58 = .ok (.aload_n 0, 1) := by decide +kernel
theorem dX8_init_59 : decode cX8_init 59 = .ok (.bipush 8, 2) := by decide +kernel
theorem dX8_init_61 : decode cX8_init 61 = .ok (.newarray .int, 2) := by decide +kernel
theorem dX8_init_63 : decode cX8_init 63 = .ok (.putfield 34, 3) := by decide +kernel
theorem dX8_init_66 : decode cX8_init 66 = .ok (.aload_n 0, 1) := by decide +kernel
theorem dX8_init_67 : decode cX8_init 67 = .ok (.bipush 20, 2) := by decide +kernel
theorem dX8_init_69 : decode cX8_init 69 = .ok (.newarray .int, 2) := by decide +kernel
theorem dX8_init_71 : decode cX8_init 71 = .ok (.putfield 37, 3) := by decide +kernel
theorem dX8_init_74 : decode cX8_init 74 = .ok (.aload_n 0, 1) := by decide +kernel
theorem dX8_init_75 : decode cX8_init 75 = .ok (.bipush 25, 2) := by decide +kernel
theorem dX8_init_77 : decode cX8_init 77 = .ok (.newarray .int, 2) := by decide +kernel
theorem dX8_init_79 : decode cX8_init 79 = .ok (.putfield 40, 3) := by decide +kernel
theorem dX8_init_82 : decode cX8_init 82 = .ok (.aload_n 0, 1) := by decide +kernel
theorem dX8_init_83 : decode cX8_init 83 = .ok (.bipush 24, 2) := by decide +kernel
theorem dX8_init_85 : decode cX8_init 85 = .ok (.newarray .int, 2) := by decide +kernel
theorem dX8_init_87 : decode cX8_init 87 = .ok (.putfield 43, 3) := by decide +kernel
theorem dX8_init_90 : decode cX8_init 90 = .ok (.return_, 1) := by decide +kernel
theorem dX8_addHand_0 : decode cX8_addHand 0 = .ok (.iload_n 1, 1) := by decide +kernel
theorem dX8_addHand_1 : decode cX8_addHand 1 = .ok (.invokestatic 46, 3) := by decide +kernel
theorem dX8_addHand_4 : decode cX8_addHand 4 = .ok (.ifCond .eq 25, 3) := by decide +kernel
theorem dX8_addHand_7 : decode cX8_addHand 7 = .ok (.iload_n 2, 1) := by decide +kernel
theorem dX8_addHand_8 : decode cX8_addHand 8 = .ok (.invokestatic 50, 3) := by decide +kernel
theorem dX8_addHand_11 : decode cX8_addHand 11 = .ok (.ifCond .eq 18, 3) := by decide +kernel
theorem dX8_addHand_14 : decode cX8_addHand 14 = .ok (.iload_n 3, 1) := by decide +kernel
theorem dX8_addHand_15 : decode cX8_addHand 15 = .ok (.invokestatic 50, 3) := by decide +kernel
theorem dX8_addHand_18 : decode cX8_addHand 18 = .ok (.ifCond .eq 11, 3) := by decide +kernel
theorem dX8_addHand_21 : decode cX8_addHand 21 = .ok (.iload 4, 2) := by decide +kernel
theorem dX8_addHand_23 : decode cX8_addHand 23 = .ok (.invokestatic 53, 3) := by decide +kernel
theorem dX8_addHand_26 : decode cX8_addHand 26 = .ok (.ifCond .ne 6, 3) := by decide +kernel
theorem dX8_addHand_29 : decode cX8_addHand 29 = .ok (.bipush (-2), 2) := by decide +kernel
theorem dX8_addHand_31 : decode cX8_addHand 31 = .ok (.ireturn, 1) := by decide +kernel
theorem dX8_addHand_32 : decode cX8_addHand 32 = .ok (.aload_n 0, 1) := by decide +kernel
theorem dX8_addHand_33 : decode cX8_addHand 33 = .ok (.getfield 56, 3) := by decide +kernel
theorem dX8_addHand_36 : decode cX8_addHand 36 = .ok (.aload_n 0, 1) := by decide +kernel
theorem dX8_addHand_37 : decode cX8_addHand 37 = .ok (.getfield 15, 3) := by decide +kernel
theorem dX8_addHand_40 : decode cX8_addHand 40 = .ok (.arraylength, 1) := by decide +kernel
theorem dX8_addHand_41 : decode cX8_addHand 41 = .ok (.if_icmp .lt 6, 3) := by decide +kernel
theorem dX8_addHand_44 : decode cX8_addHand 44 = .ok (.bipush (-4), 2) := by decide +kernel
theorem dX8_addHand_46 : decode cX8_addHand 46 = .ok (.ireturn, 1) := by decide +kernel
theorem dX8_addHand_47 : decode cX8_addHand 47 = .ok (.aload_n 0, 1) := by decide +kernel
theorem dX8_addHand_48 : decode cX8_addHand 48 = .ok (.getfield 15, 3) := by decide +kernel
theorem dX8_addHand_51 : decode cX8_addHand 51 = .ok (.aload_n 0, 1) := by decide +kernel
theorem dX8_addHand_52 : decode cX8_addHand 52 = .ok (.getfield 56, 3) := by decide +kernel
theorem dX8_addHand_55 : decode cX8_addHand 55 = .ok (.iload_n 1, 1) := by decide +kernel
theorem dX8_addHand_56 : decode cX8_addHand 56 = .ok (.iastore, 1) := by decide +kernel
theorem dX8_addHand_57 : decode cX8_addHand 57 = .ok (.aload_n 0, 1) := by decide +kernel
theorem dX8_addHand_58 : decode cX8_addHand 58 = .ok (.getfield 19, 3) := by decide +kernel
theorem dX8_addHand_61 : decode cX8_addHand 61 = .ok (.aload_n 0, 1) := by decide +kernel
theorem dX8_addHand_62 : decode cX8_addHand 62 = .ok (.getfield 56, 3) := by decide +kernel
theorem dX8_addHand_65 : decode cX8_addHand 65 = .ok (.bipush 64, 2) := by decide +kernel
theorem dX8_addHand_67 : decode cX8_addHand 67 = .ok (.iload 4, 2) := by decide +kernel
theorem dX8_addHand_69 : decode cX8_addHand 69 = .ok (.imul, 1) := by decide +kernel
theorem dX8_addHand_70 : decode cX8_addHand 70 = .ok (.bipush 8, 2) := by decide +kernel
theorem dX8_addHand_72 : decode cX8_addHand 72 = .ok (.iload_n 2, 1) := by decide +kernel
theorem dX8_addHand_73 : decode cX8_addHand 73 = .ok (.imul, 1) := by decide +kernel
theorem dX8_addHand_74 : decode cX8_addHand 74 = .ok (.iadd, 1) := by decide +kernel
theorem dX8_addHand_75 : decode cX8_addHand 75 = .ok (.iload_n 3, 1) := by decide +kernel
theorem dX8_addHand_76 : decode cX8_addHand 76 = .ok (.iadd, 1) := by decide +kernel
theorem dX8_addHand_77 : decode cX8_addHand 77 = .ok (.iastore, 1) := by decide +kernel
theorem dX8_addHand_78 : decode cX8_addHand 78 = .ok (.aload_n 0, 1) := by decide +kernel
theorem dX8_addHand_79 : decode cX8_addHand 79 = .ok (.dup, 1) := by decide +kernel
theorem dX8_addHand_80 : decode cX8_addHand 80 = .ok (.getfield 56, 3) := by decide +kernel
theorem dX8_addHand_83 : decode cX8_addHand 83 = .ok (.iconst 1, 1) := by decide +kernel
theorem dX8_addHand_84 : decode cX8_addHand 84 = .ok (.iadd, 1) := by decide +kernel
theorem dX8_addHand_85 : decode cX8_addHand 85 = .ok (.putfield 56, 3) := by decide +kernel
theorem dX8_addHand_88 : decode cX8_addHand 88 = .ok (.aload_n 0, 1) := by decide +kernel
theorem dX8_addHand_89 : decode cX8_addHand 89 = .ok (.getfield 56, 3) := by decide +kernel
theorem dX8_addHand_92 : decode cX8_addHand 92 = .ok (.ireturn, 1) := by decide +kernel
theorem dX8_addHole_0 : decode cX8_addHole 0 = .ok (.iload_n 1, 1) := by decide +kernel
theorem dX8_addHole_1 : decode cX8_addHole 1 = .ok (.invokestatic 46, 3) := by decide +kernel
theorem dX8_addHole_4 : decode cX8_addHole 4 = .ok (.ifCond .eq 14, 3) := by decide +kernel
theorem dX8_addHole_7 : decode cX8_addHole 7 = .ok (.iload_n 2, 1) := by decide +kernel
theorem dX8_addHole_8 : decode cX8_addHole 8 = .ok (.iconst 1, 1) := by decide +kernel
theorem dX8_addHole_9 : decode cX8_addHole 9 = .ok (.if_icmp .lt 9, 3) := by decide +kernel
theorem dX8_addHole_12 : decode cX8_addHole 12 = .ok (.iload_n 2, 1) := by decide +kernel
theorem dX8_addHole_13 : decode cX8_addHole 13 = .ok (.bipush 9, 2) := by decide +kernel
theorem dX8_addHole_15 : decode cX8_addHole 15 = .ok (.if_icmp .le 6, 3) := by decide +kernel
theorem dX8_addHole_18 : decode cX8_addHole 18 = .ok (.bipush (-2), 2) := by decide +kernel
theorem dX8_addHole_20 : decode cX8_addHole 20 = .ok (.ireturn, 1) := by decide +kernel
theorem dX8_addHole_21 : decode cX8_addHole 21 = .ok (.aload_n 0, 1) := by decide +kernel
theorem dX8_addHole_22 : decode cX8_addHole 22 = .ok (.getfield 59, 3) := by decide +kernel
theorem dX8_addHole_25 : decode cX8_addHole 25 = .ok (.aload_n 0, 1) := by decide +kernel
theorem dX8_addHole_26 : decode cX8_addHole 26 = .ok (.getfield 22, 3) := by decide +kernel
theorem dX8_addHole_29 : decode cX8_addHole 29 = .ok (.arraylength, 1) := by decide +kernel
theorem dX8_addHole_30 : decode cX8_addHole 30 = .ok (.if_icmp .lt 6, 3) := by decide +kernel
theorem dX8_addHole_33 : decode cX8_addHole 33 = .ok (.bipush (-4), 2) := by decide +kernel
theorem dX8_addHole_35 : decode cX8_addHole 35 = .ok (.ireturn, 1) := by decide +kernel
theorem dX8_addHole_36 : decode cX8_addHole 36 = .ok (.aload_n 0, 1) := by decide +kernel
theorem dX8_addHole_37 : decode cX8_addHole 37 = .ok (.getfield 22, 3) := by decide +kernel
theorem dX8_addHole_40 : decode cX8_addHole 40 = .ok (.aload_n 0, 1) := by decide +kernel
theorem dX8_addHole_41 : decode cX8_addHole 41 = .ok (.getfield 59, 3) := by decide +kernel
theorem dX8_addHole_44 : decode cX8_addHole 44 = .ok (.iload_n 1, 1) := by decide +kernel
theorem dX8_addHole_45 : decode cX8_addHole 45 = .ok (.iastore, 1) := by decide +kernel
theorem dX8_addHole_46 : decode cX8_addHole 46 = .ok (.aload_n 0, 1) := by decide +kernel
theorem dX8_addHole_47 : decode cX8_addHole 47 = .ok (.getfield 25, 3) := by decide +kernel
theorem dX8_addHole_50 : decode cX8_addHole 50 = .ok (.aload_n 0, 1) := by decide +kernel
theorem dX8_addHole_51 : decode cX8_addHole 51 = .ok (.getfield 59, 3) := by decide +kernel
theorem dX8_addHole_54 : decode cX8_addHole 54 = .ok (.iload_n 2, 1) := by decide +kernel
theorem dX8_addHole_55 : decode cX8_addHole 55 = .ok (.iastore, 1) := by decide +kernel
theorem dX8_addHole_56 : decode cX8_addHole 56 = .ok (.aload_n 0, 1) := by decide +kernel
theorem dX8_addHole_57 : decode cX8_addHole 57 = .ok (.dup, 1) := by decide +kernel
theorem dX8_addHole_58 : decode cX8_addHole 58 = .ok (.getfield 59, 3) := by decide +kernel
theorem dX8_addHole_61 : decode cX8_addHole 61 = .ok (.iconst 1, 1) := by decide +kernel
theorem dX8_addHole_62 : decode cX8_addHole 62 = .ok (.iadd, 1) := by decide +kernel
theorem dX8_addHole_63 : decode cX8_addHole 63 = .ok (.putfield 59, 3) := by decide +kernel
theorem dX8_addHole_66 : decode cX8_addHole 66 = .ok (.aload_n 0, 1) := by decide +kernel
theorem dX8_addHole_67 : decode cX8_addHole 67 = .ok (.getfield 59, 3) := by decide +kernel
theorem dX8_addHole_70 : decode cX8_addHole 70 = .ok (.ireturn, 1) := by decide +kernel
theorem dX8_addFelt_0 : decode cX8_addFelt 0 = .ok (.iload_n 1, 1) := by decide +kernel
theorem dX8_addFelt_1 : decode cX8_addFelt 1 = .ok (.invokestatic 46, 3) := by decide +kernel
theorem dX8_addFelt_4 : decode cX8_addFelt 4 = .ok (.ifCond .eq 17, 3) := by decide +kernel
theorem dX8_addFelt_7 : decode cX8_addFelt 7 = .ok (.iload_n 2, 1) := by decide +kernel
theorem dX8_addFelt_8 : decode cX8_addFelt 8 = .ok (.invokestatic 50, 3) := by decide +kernel
theorem dX8_addFelt_11 : decode cX8_addFelt 11 = .ok (.ifCond .eq 10, 3) := by decide +kernel
theorem dX8_addFelt_14 : decode cX8_addFelt 14 = .ok (.iload_n 3, 1) := by decide +kernel
theorem dX8_addFelt_15 : decode cX8_addFelt 15 = .ok (.invokestatic 53, 3) := by decide +kernel
theorem dX8_addFelt_18 : decode cX8_addFelt 18 = .ok (.ifCond .ne 6, 3) := by decide +kernel
theorem dX8_addFelt_21 : decode cX8_addFelt 21 = .ok (.bipush (-2), 2) := by decide +kernel
theorem dX8_addFelt_23 : decode cX8_addFelt 23 = .ok (.ireturn, 1) := by decide +kernel
theorem dX8_addFelt_24 : decode cX8_addFelt 24 = .ok (.aload_n 0, 1) := by decide +kernel
theorem dX8_addFelt_25 : decode cX8_addFelt 25 = .ok (.getfield 62, 3) := by decide +kernel
theorem dX8_addFelt_28 : decode cX8_addFelt 28 = .ok (.aload_n 0, 1) := by decide +kernel
theorem dX8_addFelt_29 : decode cX8_addFelt 29 = .ok (.getfield 28, 3) := by decide +kernel
theorem dX8_addFelt_32 : decode cX8_addFelt 32 = .ok (.arraylength, 1) := by decide +kernel
theorem dX8_addFelt_33 : decode cX8_addFelt 33 = .ok (.if_icmp .lt 6, 3) := by decide +kernel
theorem dX8_addFelt_36 : decode cX8_addFelt 36 = .ok (.bipush (-4), 2) := by decide +kernel
theorem dX8_addFelt_38 : decode cX8_addFelt 38 = .ok (.ireturn, 1) := by decide +kernel
theorem dX8_addFelt_39 : decode cX8_addFelt 39 = .ok (.aload_n 0, 1) := by decide +kernel
theorem dX8_addFelt_40 : decode cX8_addFelt 40 = .ok (.getfield 28, 3) := by decide +kernel
theorem dX8_addFelt_43 : decode cX8_addFelt 43 = .ok (.aload_n 0, 1) := by decide +kernel
theorem dX8_addFelt_44 : decode cX8_addFelt 44 = .ok (.getfield 62, 3) := by decide +kernel
theorem dX8_addFelt_47 : decode cX8_addFelt 47 = .ok (.iload_n 1, 1) := by decide +kernel
theorem dX8_addFelt_48 : decode cX8_addFelt 48 = .ok (.iastore, 1) := by decide +kernel
theorem dX8_addFelt_49 : decode cX8_addFelt 49 = .ok (.aload_n 0, 1) := by decide +kernel
theorem dX8_addFelt_50 : decode cX8_addFelt 50 = .ok (.getfield 31, 3) := by decide +kernel
theorem dX8_addFelt_53 : decode cX8_addFelt 53 = .ok (.aload_n 0, 1) := by decide +kernel
theorem dX8_addFelt_54 : decode cX8_addFelt 54 = .ok (.getfield 62, 3) := by decide +kernel
theorem dX8_addFelt_57 : decode cX8_addFelt 57 = .ok (.iload_n 2, 1) := by decide +kernel
theorem dX8_addFelt_58 : decode cX8_addFelt 58 = .ok (.iastore, 1) := by decide +kernel
theorem dX8_addFelt_59 : decode cX8_addFelt 59 = .ok (.aload_n 0, 1) := by decide +kernel
theorem dX8_addFelt_60 : decode cX8_addFelt 60 = .ok (.getfield 34, 3) := by decide +kernel
theorem dX8_addFelt_63 : decode cX8_addFelt 63 = .ok (.aload_n 0, 1) := by decide +kernel
theorem dX8_addFelt_64 : decode cX8_addFelt 64 = .ok (.getfield 62, 3) := by decide +kernel
theorem dX8_addFelt_67 : decode cX8_addFelt 67 = .ok (.iload_n 3, 1) := by decide +kernel
theorem dX8_addFelt_68 : decode cX8_addFelt 68 = .ok (.iastore, 1) := by decide +kernel
theorem dX8_addFelt_69 : decode cX8_addFelt 69 = .ok (.aload_n 0, 1) := by decide +kernel
theorem dX8_addFelt_70 : decode cX8_addFelt 70 = .ok (.dup, 1) := by decide +kernel
theorem dX8_addFelt_71 : decode cX8_addFelt 71 = .ok (.getfield 62, 3) := by decide +kernel
theorem dX8_addFelt_74 : decode cX8_addFelt 74 = .ok (.iconst 1, 1) := by decide +kernel
theorem dX8_addFelt_75 : decode cX8_addFelt 75 = .ok (.iadd, 1) := by decide +kernel
theorem dX8_addFelt_76 : decode cX8_addFelt 76 = .ok (.putfield 62, 3) := by decide +kernel
theorem dX8_addFelt_79 : decode cX8_addFelt 79 = .ok (.aload_n 0, 1) := by decide +kernel
theorem dX8_addFelt_80 : decode cX8_addFelt 80 = .ok (.getfield 62, 3) := by decide +kernel
theorem dX8_addFelt_83 : decode cX8_addFelt 83 = .ok (.ireturn, 1) := by decide +kernel
theorem dX8_arrange_0 : decode cX8_arrange 0 = .ok (.iconst 0, 1) := by decide +kernel
theorem dX8_arrange_1 : decode cX8_arrange 1 = .ok (.istore_n 1, 1) := by decide +kernel
theorem dX8_arrange_2 : decode cX8_arrange 2 = .ok (.iconst 0, 1) := by decide +kernel
theorem dX8_arrange_3 : decode cX8_arrange 3 = .ok (.istore_n 2, 1) := by decide +kernel
theorem dX8_arrange_4 : decode cX8_arrange 4 = .ok (.iload_n 2, 1) := by decide +kernel
theorem dX8_arrange_5 : decode cX8_arrange 5 = .ok (.bipush 24, 2) := by decide +kernel
theorem dX8_arrange_7 : decode cX8_arrange 7 = .ok (.if_icmp .ge 52, 3) := by decide +kernel
theorem dX8_arrange_10 : decode cX8_arrange 10 = .ok (.aload_n 0, 1) := by decide +kernel
theorem dX8_arrange_11 : decode cX8_arrange 11 = .ok (.getfield 40, 3) := by decide +kernel
theorem dX8_arrange_14 : decode cX8_arrange 14 = .ok (.iload_n 2, 1) := by decide +kernel
theorem dX8_arrange_15 : decode cX8_arrange 15 = .ok (.iload_n 1, 1) := by decide +kernel
theorem dX8_arrange_16 : decode cX8_arrange 16 = .ok (.iastore, 1) := by decide +kernel
theorem dX8_arrange_17 : decode cX8_arrange 17 = .ok (.iconst 0, 1) := by decide +kernel
theorem dX8_arrange_18 : decode cX8_arrange 18 = .ok (.istore_n 3, 1) := by decide +kernel
theorem dX8_arrange_19 : decode cX8_arrange 19 = .ok (.iload_n 3, 1) := by decide +kernel
theorem dX8_arrange_20 : decode cX8_arrange 20 = .ok (.aload_n 0, 1) := by decide +kernel
theorem dX8_arrange_21 : decode cX8_arrange 21 = .ok (.getfield 56, 3) := by decide +kernel
theorem dX8_arrange_24 : decode cX8_arrange 24 = .ok (.if_icmp .ge 29, 3) := by decide +kernel
theorem dX8_arrange_27 : decode cX8_arrange 27 = .ok (.aload_n 0, 1) := by decide +kernel
theorem dX8_arrange_28 : decode cX8_arrange 28 = .ok (.getfield 15, 3) := by decide +kernel
theorem dX8_arrange_31 : decode cX8_arrange 31 = .ok (.iload_n 3, 1) := by decide +kernel
theorem dX8_arrange_32 : decode cX8_arrange 32 = .ok (.iaload, 1) := by decide +kernel
theorem dX8_arrange_33 : decode cX8_arrange 33 = .ok (.iload_n 2, 1) := by decide +kernel
theorem dX8_arrange_34 : decode cX8_arrange 34 = .ok (.if_icmp .ne 13, 3) := by decide +kernel
theorem dX8_arrange_37 : decode cX8_arrange 37 = .ok (.aload_n 0, 1) := by decide +kernel
theorem dX8_arrange_38 : decode cX8_arrange 38 = .ok (.getfield 37, 3) := by decide +kernel
theorem dX8_arrange_41 : decode cX8_arrange 41 = .ok (.iload_n 1, 1) := by decide +kernel
theorem dX8_arrange_42 : decode cX8_arrange 42 = .ok (.iload_n 3, 1) := by decide +kernel
theorem dX8_arrange_43 : decode cX8_arrange 43 = .ok (.iastore, 1) := by decide +kernel
theorem dX8_arrange_44 : decode cX8_arrange 44 = .ok (.iinc 1 1, 3) := by decide +kernel
theorem dX8_arrange_47 : decode cX8_arrange 47 = .ok (.iinc 3 1, 3) := by decide +kernel
theorem dX8_arrange_50 : decode cX8_arrange 50 = .ok (.goto (-31), 3) := by decide +kernel
theorem dX8_arrange_53 : decode cX8_arrange 53 = .ok (.iinc 2 1, 3) := by decide +kernel
theorem dX8_arrange_56 : decode cX8_arrange 56 = .ok (.goto (-52), 3) := by decide +kernel
theorem dX8_arrange_59 : decode cX8_arrange 59 = .ok (.aload_n 0, 1) := by decide +kernel
theorem dX8_arrange_60 : decode cX8_arrange 60 = .ok (.getfield 40, 3) := by decide +kernel
theorem dX8_arrange_63 : decode cX8_arrange 63 = .ok (.bipush 24, 2) := by decide +kernel
theorem dX8_arrange_65 : decode cX8_arrange 65 = .ok (.iload_n 1, 1) := by decide +kernel
theorem dX8_arrange_66 : decode cX8_arrange 66 = .ok (.iastore, 1) := by decide +kernel
theorem dX8_arrange_67 : decode cX8_arrange 67 = .ok (.aload_n 0, 1) := by decide +kernel
theorem dX8_arrange_68 : decode cX8_arrange 68 = .ok (.getfield 43, 3) := by decide +kernel
theorem dX8_arrange_71 : decode cX8_arrange 71 = .ok (.iconst 0, 1) := by decide +kernel
theorem dX8_arrange_72 : decode cX8_arrange 72 = .ok (.invokestatic 65, 3) := by decide +kernel
theorem dX8_arrange_75 : decode cX8_arrange 75 = .ok (.iconst 0, 1) := by decide +kernel
theorem dX8_arrange_76 : decode cX8_arrange 76 = .ok (.istore_n 2, 1) := by decide +kernel
theorem dX8_arrange_77 : decode cX8_arrange 77 = .ok (.iload_n 2, 1) := by decide +kernel
theorem dX8_arrange_78 : decode cX8_arrange 78 = .ok (.aload_n 0, 1) := by decide +kernel
theorem dX8_arrange_79 : decode cX8_arrange 79 = .ok (.getfield 59, 3) := by decide +kernel
theorem dX8_arrange_82 : decode cX8_arrange 82 = .ok (.if_icmp .ge 37, 3) := by decide +kernel
theorem dX8_arrange_85 : decode cX8_arrange 85 = .ok (.aload_n 0, 1) := by decide +kernel
theorem dX8_arrange_86 : decode cX8_arrange 86 = .ok (.getfield 22, 3) := by decide +kernel
theorem dX8_arrange_89 : decode cX8_arrange 89 = .ok (.iload_n 2, 1) := by decide +kernel
theorem dX8_arrange_90 : decode cX8_arrange 90 = .ok (.iaload, 1) := by decide +kernel
theorem dX8_arrange_91 : decode cX8_arrange 91 = .ok (.istore_n 3, 1) := by decide +kernel
theorem dX8_arrange_92 : decode cX8_arrange 92 = .ok (.aload_n 0, 1) := by decide +kernel
theorem dX8_arrange_93 : decode cX8_arrange 93 = .ok (.getfield 43, 3) := by decide +kernel
theorem dX8_arrange_96 : decode cX8_arrange 96 = .ok (.iload_n 3, 1) := by decide +kernel
theorem dX8_arrange_97 : decode cX8_arrange 97 = .ok (.aload_n 0, 1) := by decide +kernel
theorem dX8_arrange_98 : decode cX8_arrange 98 = .ok (.getfield 43, 3) := by decide +kernel
theorem dX8_arrange_101 : decode cX8_arrange 101 = .ok (.iload_n 3, 1) := by decide +kernel
theorem dX8_arrange_102 : decode cX8_arrange 102 = .ok (.iaload, 1) := by decide +kernel
theorem dX8_arrange_103 : decode cX8_arrange 103 = .ok (.aload_n 0, 1) := by decide +kernel
theorem dX8_arrange_104 : decode cX8_arrange 104 = .ok (.getfield 25, 3) := by decide +kernel
theorem dX8_arrange_107 : decode cX8_arrange 107 = .ok (.iload_n 2, 1) := by decide +kernel
theorem dX8_arrange_108 : decode cX8_arrange 108 = .ok (.iaload, 1) := by decide +kernel
theorem dX8_arrange_109 : decode cX8_arrange 109 = .ok (.invokestatic 71, 3) := by decide +kernel
theorem dX8_arrange_112 : decode cX8_arrange 112 = .ok (.iastore, 1) := by decide +kernel
theorem dX8_arrange_113 : decode cX8_arrange 113 = .ok (.iinc 2 1, 3) := by decide +kernel
theorem dX8_arrange_116 : decode cX8_arrange 116 = .ok (.goto (-39), 3) := by decide +kernel
theorem dX8_arrange_119 : decode cX8_arrange 119 = .ok (.return_, 1) := by decide +kernel
theorem dX9_init_0 : decode cX9_init 0 = .ok (.aload_n 0, 1) := by decide +kernel
theorem dX9_init_1 : decode cX9_init 1 = .ok (.invokespecial 1, 3) := by decide +kernel
theorem dX9_init_4 : decode cX9_init 4 = .ok (.aload_n 0, 1) := by decide +kernel
theorem dX9_init_5 : decode cX9_init 5 = .ok (.new 7, 3) := by decide +kernel
theorem dX9_init_8 : decode cX9_init 8 = .ok (.dup, 1) := by decide +kernel
theorem dX9_init_9 : decode cX9_init 9 = .ok (.bipush 31, 2) := by decide +kernel
theorem dX9_init_11 : decode cX9_init 11 = .ok (.ldc 9, 2) := by decide +kernel
theorem dX9_init_13 : decode cX9_init 13 = .ok (.ldc 11, 2) := by decide +kernel
theorem dX9_init_15 : decode cX9_init 15 = .ok (.ldc 13, 2) := by decide +kernel
theorem dX9_init_17 : decode cX9_init 17 = .ok (.invokespecial 15, 3) := by decide +kernel
theorem dX9_init_20 : decode cX9_init 20 = .ok (.putfield 18, 3) := by decide +kernel
theorem dX9_init_23 : decode cX9_init 23 = .ok (.aload_n 0, 1) := by decide +kernel
theorem dX9_init_24 : decode cX9_init 24 = .ok (.new 7, 3) := by decide +kernel
theorem dX9_init_27 : decode cX9_init 27 = .ok (.dup, 1) := by decide +kernel
theorem dX9_init_28 : decode cX9_init 28 = .ok (.bipush 23, 2) := by decide +kernel
theorem dX9_init_30 : decode cX9_init 30 = .ok (.ldc 24, 2) := by decide +kernel
theorem dX9_init_32 : decode cX9_init 32 = .ok (.ldc 26, 2) := by decide +kernel
theorem dX9_init_34 : decode cX9_init 34 = .ok (.ldc 28, 2) := by decide +kernel
theorem dX9_init_36 : decode cX9_init 36 = .ok (.invokespecial 15, 3) := by decide +kernel
theorem dX9_init_39 : decode cX9_init 39 = .ok (.putfield 30, 3) := by decide +kernel
theorem dX9_init_42 : decode cX9_init 42 = .ok (.aload_n 0, 1) := by decide +kernel
theorem dX9_init_43 : decode cX9_init 43 = .ok (.new 33, 3) := by decide +kernel
theorem dX9_init_46 : decode cX9_init 46 = .ok (.dup, 1) := by decide +kernel
theorem dX9_init_47 : decode cX9_init 47 = .ok (.invokespecial 35, 3) := by decide +kernel
theorem dX9_init_50 : decode cX9_init 50 = .ok (.putfield 36, 3) := by decide +kernel
theorem dX9_init_53 : decode cX9_init 53 = .ok (.aload_n 0, 1) := by decide +kernel
theorem dX9_init_54 : decode cX9_init 54 = .ok (.new 40, 3) := by decide +kernel
theorem dX9_init_57 : decode cX9_init 57 = .ok (.dup, 1) := by decide +kernel
theorem dX9_init_58 : decode cX9_init 58 = .ok (.invokespecial 42, 3) := by decide +kernel
theorem dX9_init_61 : decode cX9_init 61 = .ok (.putfield 43, 3) := by decide +kernel
theorem dX9_init_64 : decode cX9_init 64 = .ok (.aload_n 0, 1) := by decide +kernel
theorem dX9_init_65 : decode cX9_init 65 = .ok (.new 47, 3) := by decide +kernel
theorem dX9_init_68 : decode cX9_init 68 = .ok (.dup, 1) := by decide +kernel
theorem dX9_init_69 : decode cX9_init 69 = .ok (.aload_n 0, 1) := by decide +kernel
theorem dX9_init_70 : decode cX9_init 70 = .ok (.getfield 36, 3) := by decide +kernel
theorem dX9_init_73 : decode cX9_init 73 = .ok (.aload_n 0, 1) := by decide +kernel
theorem dX9_init_74 : decode cX9_init 74 = .ok (.getfield 43, 3) := by decide +kernel
theorem dX9_init_77 : decode cX9_init 77 = .ok (.invokespecial 49, 3) := by decide +kernel
theorem dX9_init_80 : decode cX9_init 80 = .ok (.putfield 52, 3) := by decide +kernel
theorem dX9_init_83 : decode cX9_init 83 = .ok (.aload_n 0, 1) := by decide +kernel
theorem dX9_init_84 : decode cX9_init 84 = .ok (.new 56, 3) := by decide +kernel
theorem dX9_init_87 : decode cX9_init 87 = .ok (.dup, 1) := by decide +kernel
theorem dX9_init_88 : decode cX9_init 88 = .ok (.aload_n 0, 1) := by decide +kernel
theorem dX9_init_89 : decode cX9_init 89 = .ok (.getfield 36, 3) := by decide +kernel
theorem dX9_init_92 : decode cX9_init 92 = .ok (.aload_n 0, 1) := by decide +kernel
theorem dX9_init_93 : decode cX9_init 93 = .ok (.getfield 43, 3) := by decide +kernel
theorem dX9_init_96 : decode cX9_init 96 = .ok (.aload_n 0, 1) := by decide +kernel
theorem dX9_init_97 : decode cX9_init 97 = .ok (.getfield 52, 3) := by decide +kernel
theorem dX9_init_100 : decode cX9_init 100 = .ok (.invokespecial 58, 3) := by decide +kernel
theorem dX9_init_103 : decode cX9_init 103 = .ok (.putfield 61, 3) := by decide +kernel
theorem dX9_init_106 : decode cX9_init 106 = .ok (.aload_n 0, 1) := by decide +kernel
theorem dX9_init_107 : decode cX9_init 107 = .ok (.new 65, 3) := by decide +kernel
theorem dX9_init_110 : decode cX9_init 110 = .ok (.dup, 1) := by decide +kernel
theorem dX9_init_111 : decode cX9_init 111 = .ok (.aload_n 0, 1) := by decide +kernel
theorem dX9_init_112 : decode cX9_init 112 = .ok (.getfield 36, 3) := by decide +kernel
theorem dX9_init_115 : decode cX9_init 115 = .ok (.aload_n 0, 1) := by decide +kernel
theorem dX9_init_116 : decode cX9_init 116 = .ok (.getfield 43, 3) := by decide +kernel
theorem dX9_init_119 : decode cX9_init 119 = .ok (.aload_n 0, 1) := by decide +kernel
theorem dX9_init_120 : decode cX9_init 120 = .ok (.getfield 52, 3) := by decide +kernel
theorem dX9_init_123 : decode cX9_init 123 = .ok (.invokespecial 67, 3) := by decide +kernel
theorem dX9_init_126 : decode cX9_init 126 = .ok (.putfield 68, 3) := by decide +kernel
theorem dX9_init_129 : decode cX9_init 129 = .ok (.aload_n 0, 1) := by decide +kernel
theorem dX9_init_130 : decode cX9_init 130 = .ok (.iconst 4, 1) := by decide +kernel
theorem dX9_init_131 : decode cX9_init 131 = .ok (.anewarray 72, 3) := by decide +kernel
theorem dX9_init_134 : decode cX9_init 134 = .ok (.putfield 74, 3) := by decide +kernel
theorem dX9_init_137 : decode cX9_init 137 = .ok (.iconst 0, 1) := by decide +kernel
theorem dX9_init_138 : decode cX9_init 138 = .ok (.istore_n 1, 1) := by decide +kernel
theorem dX9_init_139 : decode cX9_init 139 = .ok (.iload_n 1, 1) := by decide +kernel
theorem dX9_init_140 : decode cX9_init 140 = .ok (.aload_n 0, 1) := by decide +kernel
theorem dX9_init_141 : decode cX9_init 141 = .ok (.getfield 74, 3) := by decide +kernel
theorem dX9_init_144 : decode cX9_init 144 = .ok (.arraylength, 1) := by decide +kernel
theorem dX9_init_145 : decode cX9_init 145 = .ok (.if_icmp .ge 22, 3) := by decide +kernel
theorem dX9_init_148 : decode cX9_init 148 = .ok (.aload_n 0, 1) := by decide +kernel
theorem dX9_init_149 : decode cX9_init 149 = .ok (.getfield 74, 3) := by decide +kernel
theorem dX9_init_152 : decode cX9_init 152 = .ok (.iload_n 1, 1) := by decide +kernel
theorem dX9_init_153 : decode cX9_init 153 = .ok (.new 72, 3) := by decide +kernel
theorem dX9_init_156 : decode cX9_init 156 = .ok (.dup, 1) := by decide +kernel
theorem dX9_init_157 : decode cX9_init 157 = .ok (.invokespecial 78, 3) := by decide +kernel
theorem dX9_init_160 : decode cX9_init 160 = .ok (.aastore, 1) := by decide +kernel
theorem dX9_init_161 : decode cX9_init 161 = .ok (.iinc 1 1, 3) := by decide +kernel
theorem dX9_init_164 : decode cX9_init 164 = .ok (.goto (-25), 3) := by decide +kernel
theorem dX9_init_167 : decode cX9_init 167 = .ok (.aload_n 0, 1) := by decide +kernel
theorem dX9_init_168 : decode cX9_init 168 = .ok (.iconst 1, 1) := by decide +kernel
theorem dX9_init_169 : decode cX9_init 169 = .ok (.putfield 79, 3) := by decide +kernel
theorem dX9_init_172 : decode cX9_init 172 = .ok (.return_, 1) := by decide +kernel
theorem dX9_type_0 : decode cX9_type 0 = .ok (.iload_n 1, 1) := by decide +kernel
theorem dX9_type_1 : decode cX9_type 1 = .ok (.invokestatic 83, 3) := by decide +kernel
theorem dX9_type_4 : decode cX9_type 4 = .ok (.ifCond .eq 14, 3) := by decide +kernel
theorem dX9_type_7 : decode cX9_type 7 = .ok (.iload_n 2, 1) := by decide +kernel
theorem dX9_type_8 : decode cX9_type 8 = .ok (.ifCond .lt 10, 3) := by decide +kernel
theorem dX9_type_11 : decode cX9_type 11 = .ok (.iload_n 2, 1) := by decide +kernel
theorem dX9_type_12 : decode cX9_type 12 = .ok (.sipush 255, 3) := by decide +kernel
theorem dX9_type_15 : decode cX9_type 15 = .ok (.if_icmp .le 6, 3) := by decide +kernel
theorem dX9_type_18 : decode cX9_type 18 = .ok (.bipush (-2), 2) := by decide +kernel
theorem dX9_type_20 : decode cX9_type 20 = .ok (.ireturn, 1) := by decide +kernel
theorem dX9_type_21 : decode cX9_type 21 = .ok (.aload_n 0, 1) := by decide +kernel
theorem dX9_type_22 : decode cX9_type 22 = .ok (.iconst 1, 1) := by decide +kernel
theorem dX9_type_23 : decode cX9_type 23 = .ok (.putfield 79, 3) := by decide +kernel
theorem dX9_type_26 : decode cX9_type 26 = .ok (.aload_n 0, 1) := by decide +kernel
theorem dX9_type_27 : decode cX9_type 27 = .ok (.iload_n 1, 1) := by decide +kernel
theorem dX9_type_28 : decode cX9_type 28 = .ok (.invokevirtual 87, 3) := by decide +kernel
theorem dX9_type_31 : decode cX9_type 31 = .ok (.iload_n 2, 1) := by decide +kernel
theorem dX9_type_32 : decode cX9_type 32 = .ok (.invokevirtual 91, 3) := by decide +kernel
theorem dX9_type_35 : decode cX9_type 35 = .ok (.ireturn, 1) := by decide +kernel
theorem dX9_wipe_0 : decode cX9_wipe 0 = .ok (.iload_n 1, 1) := by decide +kernel
theorem dX9_wipe_1 : decode cX9_wipe 1 = .ok (.invokestatic 83, 3) := by decide +kernel
theorem dX9_wipe_4 : decode cX9_wipe 4 = .ok (.ifCond .ne 6, 3) := by decide +kernel
theorem dX9_wipe_7 : decode cX9_wipe 7 = .ok (.bipush (-2), 2) := by decide +kernel
theorem dX9_wipe_9 : decode cX9_wipe 9 = .ok (.ireturn, 1) := by decide +kernel
theorem dX9_wipe_10 : decode cX9_wipe 10 = .ok (.aload_n 0, 1) := by decide +kernel
theorem dX9_wipe_11 : decode cX9_wipe 11 = .ok (.iconst 1, 1) := by decide +kernel
theorem dX9_wipe_12 : decode cX9_wipe 12 = .ok (.putfield 79, 3) := by decide +kernel
theorem dX9_wipe_15 : decode cX9_wipe 15 = .ok (.aload_n 0, 1) := by decide +kernel
theorem dX9_wipe_16 : decode cX9_wipe 16 = .ok (.iload_n 1, 1) := by decide +kernel
theorem dX9_wipe_17 : decode cX9_wipe 17 = .ok (.invokevirtual 87, 3) := by decide +kernel
theorem dX9_wipe_20 : decode cX9_wipe 20 = .ok (.astore_n 2, 1) := by decide +kernel
theorem dX9_wipe_21 : decode cX9_wipe 21 = .ok (.aload_n 2, 1) := by decide +kernel
theorem dX9_wipe_22 : decode cX9_wipe 22 = .ok (.getfield 95, 3) := by decide +kernel
theorem dX9_wipe_25 : decode cX9_wipe 25 = .ok (.istore_n 3, 1) := by decide +kernel
theorem dX9_wipe_26 : decode cX9_wipe 26 = .ok (.aload_n 2, 1) := by decide +kernel
theorem dX9_wipe_27 : decode cX9_wipe 27 = .ok (.iconst 0, 1) := by decide +kernel
theorem dX9_wipe_28 : decode cX9_wipe 28 = .ok (.putfield 95, 3) := by decide +kernel
theorem dX9_wipe_31 : decode cX9_wipe 31 = .ok (.iload_n 3, 1) := by decide +kernel
theorem dX9_wipe_32 : decode cX9_wipe 32 = .ok (.ireturn, 1) := by decide +kernel
theorem dX9_undo_0 : decode cX9_undo 0 = .ok (.iload_n 1, 1) := by decide +kernel
theorem dX9_undo_1 : decode cX9_undo 1 = .ok (.invokestatic 83, 3) := by decide +kernel
theorem dX9_undo_4 : decode cX9_undo 4 = .ok (.ifCond .ne 6, 3) := by decide +kernel
theorem dX9_undo_7 : decode cX9_undo 7 = .ok (.bipush (-2), 2) := by decide +kernel
theorem dX9_undo_9 : decode cX9_undo 9 = .ok (.ireturn, 1) := by decide +kernel
theorem dX9_undo_10 : decode cX9_undo 10 = .ok (.aload_n 0, 1) := by decide +kernel
theorem dX9_undo_11 : decode cX9_undo 11 = .ok (.iload_n 1, 1) := by decide +kernel
theorem dX9_undo_12 : decode cX9_undo 12 = .ok (.invokevirtual 87, 3) := by decide +kernel
theorem dX9_undo_15 : decode cX9_undo 15 = .ok (.astore_n 2, 1) := by decide +kernel
theorem dX9_undo_16 : decode cX9_undo 16 = .ok (.aload_n 2, 1) := by decide +kernel
theorem dX9_undo_17 : decode cX9_undo 17 = .ok (.getfield 95, 3) := by decide +kernel
theorem dX9_undo_20 : decode cX9_undo 20 = .ok (.ifCond .ne 6, 3) := by decide +kernel
theorem dX9_undo_23 : decode cX9_undo 23 = .ok (.bipush (-3), 2) := by decide +kernel
theorem dX9_undo_25 : decode cX9_undo 25 = .ok (.ireturn, 1) := by decide +kernel
theorem dX9_undo_26 : decode cX9_undo 26 = .ok (.aload_n 0, 1) := by decide +kernel
theorem dX9_undo_27 : decode cX9_undo 27 = .ok (.iconst 1, 1) := by decide +kernel
theorem dX9_undo_28 : decode cX9_undo 28 = .ok (.putfield 79, 3) := by decide +kernel
theorem dX9_undo_31 : decode cX9_undo 31 = .ok (.aload_n 2, 1) := by decide +kernel
theorem dX9_undo_32 : decode cX9_undo 32 = .ok (.dup, 1) := by decide +kernel
theorem dX9_undo_33 : decode cX9_undo 33 = .ok (.getfield 95, 3) := by decide +kernel
theorem dX9_undo_36 : decode cX9_undo 36 = .ok (.iconst 1, 1) := by decide +kernel
theorem dX9_undo_37 : decode cX9_undo 37 = .ok (.isub, 1) := by decide +kernel
theorem dX9_undo_38 : decode cX9_undo 38 = .ok (.putfield 95, 3) := by decide +kernel
theorem dX9_undo_41 : decode cX9_undo 41 = .ok (.aload_n 2, 1) := by decide +kernel
theorem dX9_undo_42 : decode cX9_undo 42 = .ok (.getfield 95, 3) := by decide +kernel
theorem dX9_undo_45 : decode cX9_undo 45 = .ok (.ireturn, 1) := by decide +kernel
theorem dX9_fault_0 : decode cX9_fault 0 = .ok (.iload_n 1, 1) := by decide +kernel
theorem dX9_fault_1 : decode cX9_fault 1 = .ok (.invokestatic 83, 3) := by decide +kernel
theorem dX9_fault_4 : decode cX9_fault 4 = .ok (.ifCond .eq 14, 3) := by decide +kernel
theorem dX9_fault_7 : decode cX9_fault 7 = .ok (.aload_n 0, 1) := by decide +kernel
theorem dX9_fault_8 : decode cX9_fault 8 = .ok (.iload_n 1, 1) := by decide +kernel
theorem dX9_fault_9 : decode cX9_fault 9 = .ok (.invokevirtual 87, 3) := by decide +kernel
theorem dX9_fault_12 : decode cX9_fault 12 = .ok (.invokevirtual 99, 3) := by decide +kernel
theorem dX9_fault_15 : decode cX9_fault 15 = .ok (.goto 5, 3) := by decide +kernel
theorem dX9_fault_18 : decode cX9_fault 18 = .ok (.bipush (-2), 2) := by decide +kernel
theorem dX9_fault_20 : decode cX9_fault 20 = .ok (.ireturn, 1) := by decide +kernel
theorem dX9_thing_0 : decode cX9_thing 0 = .ok (.aload_n 0, 1) := by decide +kernel
theorem dX9_thing_1 : decode cX9_thing 1 = .ok (.invokevirtual 103, 3) := by decide +kernel
theorem dX9_thing_4 : decode cX9_thing 4 = .ok (.aload_n 0, 1) := by decide +kernel
theorem dX9_thing_5 : decode cX9_thing 5 = .ok (.iload_n 1, 1) := by decide +kernel
theorem dX9_thing_6 : decode cX9_thing 6 = .ok (.invokevirtual 106, 3) := by decide +kernel
theorem dX9_thing_9 : decode cX9_thing 9 = .ok (.ifCond .eq 12, 3) := by decide +kernel
theorem dX9_thing_12 : decode cX9_thing 12 = .ok (.iload_n 2, 1) := by decide +kernel
theorem dX9_thing_13 : decode cX9_thing 13 = .ok (.ifCond .lt 8, 3) := by decide +kernel
theorem dX9_thing_16 : decode cX9_thing 16 = .ok (.iload_n 2, 1) := by decide +kernel
theorem dX9_thing_17 : decode cX9_thing 17 = .ok (.iconst 2, 1) := by decide +kernel
theorem dX9_thing_18 : decode cX9_thing 18 = .ok (.if_icmp .le 6, 3) := by decide +kernel
theorem dX9_thing_21 : decode cX9_thing 21 = .ok (.bipush (-2), 2) := by decide +kernel
theorem dX9_thing_23 : decode cX9_thing 23 = .ok (.ireturn, 1) := by decide +kernel
theorem dX9_thing_24 : decode cX9_thing 24 = .ok (.aload_n 0, 1) := by decide +kernel
theorem dX9_thing_25 : decode cX9_thing 25 = .ok (.getfield 36, 3) := by decide +kernel
theorem dX9_thing_28 : decode cX9_thing 28 = .ok (.iload_n 1, 1) := by decide +kernel
theorem dX9_thing_29 : decode cX9_thing 29 = .ok (.iload_n 2, 1) := by decide +kernel
theorem dX9_thing_30 : decode cX9_thing 30 = .ok (.invokevirtual 109, 3) := by decide +kernel
theorem dX9_thing_33 : decode cX9_thing 33 = .ok (.ireturn, 1) := by decide +kernel
theorem dX9_cousin_0 : decode cX9_cousin 0 = .ok (.aload_n 0, 1) := by decide +kernel
theorem dX9_cousin_1 : decode cX9_cousin 1 = .ok (.invokevirtual 103, 3) := by decide +kernel
theorem dX9_cousin_4 : decode cX9_cousin 4 = .ok (.aload_n 0, 1) := by decide +kernel
theorem dX9_cousin_5 : decode cX9_cousin 5 = .ok (.iload_n 1, 1) := by decide +kernel
theorem dX9_cousin_6 : decode cX9_cousin 6 = .ok (.invokevirtual 113, 3) := by decide +kernel
theorem dX9_cousin_9 : decode cX9_cousin 9 = .ok (.ifCond .eq 10, 3) := by decide +kernel
theorem dX9_cousin_12 : decode cX9_cousin 12 = .ok (.iload_n 2, 1) := by decide +kernel
theorem dX9_cousin_13 : decode cX9_cousin 13 = .ok (.invokestatic 116, 3) := by decide +kernel
theorem dX9_cousin_16 : decode cX9_cousin 16 = .ok (.ifCond .ne 6, 3) := by decide +kernel
theorem dX9_cousin_19 : decode cX9_cousin 19 = .ok (.bipush (-2), 2) := by decide +kernel
theorem dX9_cousin_21 : decode cX9_cousin 21 = .ok (.ireturn, 1) := by decide +kernel
theorem dX9_cousin_22 : decode cX9_cousin 22 = .ok (.aload_n 0, 1) := by decide +kernel
theorem dX9_cousin_23 : decode cX9_cousin 23 = .ok (.getfield 36, 3) := by decide +kernel
theorem dX9_cousin_26 : decode cX9_cousin 26 = .ok (.iload_n 1, 1) := by decide +kernel
theorem dX9_cousin_27 : decode cX9_cousin 27 = .ok (.iload_n 2, 1) := by decide +kernel
theorem dX9_cousin_28 : decode cX9_cousin 28 = .ok (.invokevirtual 119, 3) := by decide +kernel
theorem dX9_cousin_31 : decode cX9_cousin 31 = .ok (.ireturn, 1) := by decide +kernel
theorem dX9_room_0 : decode cX9_room 0 = .ok (.iload_n 1, 1) := by decide +kernel
theorem dX9_room_1 : decode cX9_room 1 = .ok (.iconst 1, 1) := by decide +kernel
theorem dX9_room_2 : decode cX9_room 2 = .ok (.if_icmp .lt 9, 3) := by decide +kernel
theorem dX9_room_5 : decode cX9_room 5 = .ok (.iload_n 1, 1) := by decide +kernel
theorem dX9_room_6 : decode cX9_room 6 = .ok (.bipush 72, 2) := by decide +kernel
theorem dX9_room_8 : decode cX9_room 8 = .ok (.if_icmp .le 6, 3) := by decide +kernel
theorem dX9_room_11 : decode cX9_room 11 = .ok (.bipush (-2), 2) := by decide +kernel
theorem dX9_room_13 : decode cX9_room 13 = .ok (.ireturn, 1) := by decide +kernel
theorem dX9_room_14 : decode cX9_room 14 = .ok (.aload_n 0, 1) := by decide +kernel
theorem dX9_room_15 : decode cX9_room 15 = .ok (.iconst 1, 1) := by decide +kernel
theorem dX9_room_16 : decode cX9_room 16 = .ok (.putfield 79, 3) := by decide +kernel
theorem dX9_room_19 : decode cX9_room 19 = .ok (.aload_n 0, 1) := by decide +kernel
theorem dX9_room_20 : decode cX9_room 20 = .ok (.getfield 43, 3) := by decide +kernel
theorem dX9_room_23 : decode cX9_room 23 = .ok (.getfield 122, 3) := by decide +kernel
theorem dX9_room_26 : decode cX9_room 26 = .ok (.istore_n 2, 1) := by decide +kernel
theorem dX9_room_27 : decode cX9_room 27 = .ok (.aload_n 0, 1) := by decide +kernel
theorem dX9_room_28 : decode cX9_room 28 = .ok (.getfield 43, 3) := by decide +kernel
theorem dX9_room_31 : decode cX9_room 31 = .ok (.iload_n 1, 1) := by decide +kernel
theorem dX9_room_32 : decode cX9_room 32 = .ok (.putfield 122, 3) := by decide +kernel
theorem dX9_room_35 : decode cX9_room 35 = .ok (.iload_n 2, 1) := by decide +kernel
theorem dX9_room_36 : decode cX9_room 36 = .ok (.ireturn, 1) := by decide +kernel
theorem dX9_aunt_0 : decode cX9_aunt 0 = .ok (.iload_n 1, 1) := by decide +kernel
theorem dX9_aunt_1 : decode cX9_aunt 1 = .ok (.ifCond .lt 9, 3) := by decide +kernel
theorem dX9_aunt_4 : decode cX9_aunt 4 = .ok (.iload_n 1, 1) := by decide +kernel
theorem dX9_aunt_5 : decode cX9_aunt 5 = .ok (.ldc 125, 2) := by decide +kernel
theorem dX9_aunt_7 : decode cX9_aunt 7 = .ok (.if_icmp .lt 6, 3) := by decide +kernel
theorem dX9_aunt_10 : decode cX9_aunt 10 = .ok (.bipush (-2), 2) := by decide +kernel
theorem dX9_aunt_12 : decode cX9_aunt 12 = .ok (.ireturn, 1) := by decide +kernel
theorem dX9_aunt_13 : decode cX9_aunt 13 = .ok (.aload_n 0, 1) := by decide +kernel
theorem dX9_aunt_14 : decode cX9_aunt 14 = .ok (.iconst 1, 1) := by decide +kernel
theorem dX9_aunt_15 : decode cX9_aunt 15 = .ok (.putfield 79, 3) := by decide +kernel
theorem dX9_aunt_18 : decode cX9_aunt 18 = .ok (.aload_n 0, 1) := by decide +kernel
theorem dX9_aunt_19 : decode cX9_aunt 19 = .ok (.getfield 43, 3) := by decide +kernel
theorem dX9_aunt_22 : decode cX9_aunt 22 = .ok (.getfield 126, 3) := by decide +kernel
theorem dX9_aunt_25 : decode cX9_aunt 25 = .ok (.istore_n 2, 1) := by decide +kernel
theorem dX9_aunt_26 : decode cX9_aunt 26 = .ok (.aload_n 0, 1) := by decide +kernel
theorem dX9_aunt_27 : decode cX9_aunt 27 = .ok (.getfield 43, 3) := by decide +kernel
theorem dX9_aunt_30 : decode cX9_aunt 30 = .ok (.iload_n 1, 1) := by decide +kernel
theorem dX9_aunt_31 : decode cX9_aunt 31 = .ok (.putfield 126, 3) := by decide +kernel
theorem dX9_aunt_34 : decode cX9_aunt 34 = .ok (.iload_n 2, 1) := by decide +kernel
theorem dX9_aunt_35 : decode cX9_aunt 35 = .ok (.ireturn, 1) := by decide +kernel
theorem dX9_hand_0 : decode cX9_hand 0 = .ok (.aload_n 0, 1) := by decide +kernel
theorem dX9_hand_1 : decode cX9_hand 1 = .ok (.iconst 1, 1) := by decide +kernel
theorem dX9_hand_2 : decode cX9_hand 2 = .ok (.putfield 79, 3) := by decide +kernel
theorem dX9_hand_5 : decode cX9_hand 5 = .ok (.aload_n 0, 1) := by decide +kernel
theorem dX9_hand_6 : decode cX9_hand 6 = .ok (.getfield 43, 3) := by decide +kernel
theorem dX9_hand_9 : decode cX9_hand 9 = .ok (.iload_n 1, 1) := by decide +kernel
theorem dX9_hand_10 : decode cX9_hand 10 = .ok (.iload_n 2, 1) := by decide +kernel
theorem dX9_hand_11 : decode cX9_hand 11 = .ok (.iload_n 3, 1) := by decide +kernel
theorem dX9_hand_12 : decode cX9_hand 12 = .ok (.iload 4, 2) := by decide +kernel
theorem dX9_hand_14 : decode cX9_hand 14 = .ok (.invokevirtual 129, 3) := by decide +kernel
theorem dX9_hand_17 : decode cX9_hand 17 = .ok (.ireturn, 1) := by decide +kernel
theorem dX9_hole_0 : decode cX9_hole 0 = .ok (.aload_n 0, 1) := by decide +kernel
theorem dX9_hole_1 : decode cX9_hole 1 = .ok (.iconst 1, 1) := by decide +kernel
theorem dX9_hole_2 : decode cX9_hole 2 = .ok (.putfield 79, 3) := by decide +kernel
theorem dX9_hole_5 : decode cX9_hole 5 = .ok (.aload_n 0, 1) := by decide +kernel
theorem dX9_hole_6 : decode cX9_hole 6 = .ok (.getfield 43, 3) := by decide +kernel
theorem dX9_hole_9 : decode cX9_hole 9 = .ok (.iload_n 1, 1) := by decide +kernel
theorem dX9_hole_10 : decode cX9_hole 10 = .ok (.iload_n 2, 1) := by decide +kernel
theorem dX9_hole_11 : decode cX9_hole 11 = .ok (.invokevirtual 133, 3) := by decide +kernel
theorem dX9_hole_14 : decode cX9_hole 14 = .ok (.ireturn, 1) := by decide +kernel
theorem dX9_back_0 : decode cX9_back 0 = .ok (.iload_n 1, 1) := by decide +kernel
theorem dX9_back_1 : decode cX9_back 1 = .ok (.invokestatic 116, 3) := by decide +kernel
theorem dX9_back_4 : decode cX9_back 4 = .ok (.ifCond .ne 6, 3) := by decide +kernel
theorem dX9_back_7 : decode cX9_back 7 = .ok (.bipush (-2), 2) := by decide +kernel
theorem dX9_back_9 : decode cX9_back 9 = .ok (.ireturn, 1) := by decide +kernel
theorem dX9_back_10 : decode cX9_back 10 = .ok (.iload_n 1, 1) := by decide +kernel
theorem dX9_back_11 : decode cX9_back 11 = .ok (.ifCond .ne 13, 3) := by decide +kernel
theorem dX9_back_14 : decode cX9_back 14 = .ok (.aload_n 0, 1) := by decide +kernel
theorem dX9_back_15 : decode cX9_back 15 = .ok (.getfield 43, 3) := by decide +kernel
theorem dX9_back_18 : decode cX9_back 18 = .ok (.getfield 136, 3) := by decide +kernel
theorem dX9_back_21 : decode cX9_back 21 = .ok (.goto 10, 3) := by decide +kernel
theorem dX9_back_24 : decode cX9_back 24 = .ok (.aload_n 0, 1) := by decide +kernel
theorem dX9_back_25 : decode cX9_back 25 = .ok (.getfield 43, 3) := by decide +kernel
theorem dX9_back_28 : decode cX9_back 28 = .ok (.getfield 139, 3) := by decide +kernel
theorem dX9_back_31 : decode cX9_back 31 = .ok (.istore_n 2, 1) := by decide +kernel
theorem dX9_back_32 : decode cX9_back 32 = .ok (.iload_n 2, 1) := by decide +kernel
theorem dX9_back_33 : decode cX9_back 33 = .ok (.ifCond .ne 6, 3) := by decide +kernel
theorem dX9_back_36 : decode cX9_back 36 = .ok (.bipush (-3), 2) := by decide +kernel
theorem dX9_back_38 : decode cX9_back 38 = .ok (.ireturn, 1) := by decide +kernel
theorem dX9_back_39 : decode cX9_back 39 = .ok (.aload_n 0, 1) := by decide +kernel
theorem dX9_back_40 : decode cX9_back 40 = .ok (.iconst 1, 1) := by decide +kernel
theorem dX9_back_41 : decode cX9_back 41 = .ok (.putfield 79, 3) := by decide +kernel
theorem dX9_back_44 : decode cX9_back 44 = .ok (.iload_n 1, 1) := by decide +kernel
theorem dX9_back_45 : decode cX9_back 45 = .ok (.ifCond .ne 16, 3) := by decide +kernel
theorem dX9_back_48 : decode cX9_back 48 = .ok (.aload_n 0, 1) := by decide +kernel
theorem dX9_back_49 : decode cX9_back 49 = .ok (.getfield 43, 3) := by decide +kernel
theorem dX9_back_52 : decode cX9_back 52 = .ok (.iload_n 2, 1) := by decide +kernel
theorem dX9_back_53 : decode cX9_back 53 = .ok (.iconst 1, 1) := by decide +kernel
theorem dX9_back_54 : decode cX9_back 54 = .ok (.isub, 1) := by decide +kernel
theorem dX9_back_55 : decode cX9_back 55 = .ok (.putfield 136, 3) := by decide +kernel
theorem dX9_back_58 : decode cX9_back 58 = .ok (.goto 13, 3) := by decide +kernel
theorem dX9_back_61 : decode cX9_back 61 = .ok (.aload_n 0, 1) := by decide +kernel
theorem dX9_back_62 : decode cX9_back 62 = .ok (.getfield 43, 3) := by decide +kernel
theorem dX9_back_65 : decode cX9_back 65 = .ok (.iload_n 2, 1) := by decide +kernel
theorem dX9_back_66 : decode cX9_back 66 = .ok (.iconst 1, 1) := by decide +kernel
theorem dX9_back_67 : decode cX9_back 67 = .ok (.isub, 1) := by decide +kernel
theorem dX9_back_68 : decode cX9_back 68 = .ok (.putfield 139, 3) := by decide +kernel
theorem dX9_back_71 : decode cX9_back 71 = .ok (.iload_n 2, 1) := by decide +kernel
theorem dX9_back_72 : decode cX9_back 72 = .ok (.iconst 1, 1) := by decide +kernel
theorem dX9_back_73 : decode cX9_back 73 = .ok (.isub, 1) := by decide +kernel
theorem dX9_back_74 : decode cX9_back 74 = .ok (.ireturn, 1) := by decide +kernel
theorem dX9_read_0 : decode cX9_read 0 = .ok (.iload_n 1, 1) := by decide +kernel
theorem dX9_read_1 : decode cX9_read 1 = .ok (.invokestatic 142, 3) := by decide +kernel
theorem dX9_read_4 : decode cX9_read 4 = .ok (.ifCond .ne 6, 3) := by decide +kernel
theorem dX9_read_7 : decode cX9_read 7 = .ok (.bipush (-2), 2) := by decide +kernel
theorem dX9_read_9 : decode cX9_read 9 = .ok (.ireturn, 1) := by decide +kernel
theorem dX9_read_10 : decode cX9_read 10 = .ok (.aload_n 0, 1) := by decide +kernel
theorem dX9_read_11 : decode cX9_read 11 = .ok (.getfield 74, 3) := by decide +kernel
theorem dX9_read_14 : decode cX9_read 14 = .ok (.iload_n 1, 1) := by decide +kernel
theorem dX9_read_15 : decode cX9_read 15 = .ok (.aaload, 1) := by decide +kernel
theorem dX9_read_16 : decode cX9_read 16 = .ok (.astore_n 2, 1) := by decide +kernel
theorem dX9_read_17 : decode cX9_read 17 = .ok (.aload_n 2, 1) := by decide +kernel
theorem dX9_read_18 : decode cX9_read 18 = .ok (.getfield 145, 3) := by decide +kernel
theorem dX9_read_21 : decode cX9_read 21 = .ok (.ifCond .ge 9, 3) := by decide +kernel
theorem dX9_read_24 : decode cX9_read 24 = .ok (.aload_n 0, 1) := by decide +kernel
theorem dX9_read_25 : decode cX9_read 25 = .ok (.iconst 1, 1) := by decide +kernel
theorem dX9_read_26 : decode cX9_read 26 = .ok (.invokevirtual 146, 3) := by decide +kernel
theorem dX9_read_29 : decode cX9_read 29 = .ok (.ireturn, 1) := by decide +kernel
theorem dX9_read_30 : decode cX9_read 30 = .ok (.aload_n 0, 1) := by decide +kernel
theorem dX9_read_31 : decode cX9_read 31 = .ok (.iconst 1, 1) := by decide +kernel
theorem dX9_read_32 : decode cX9_read 32 = .ok (.putfield 79, 3) := by decide +kernel
theorem dX9_read_35 : decode cX9_read 35 = .ok (.iconst 0, 1) := by decide +kernel
theorem dX9_read_36 : decode cX9_read 36 = .ok (.istore_n 3, 1) := by decide +kernel
theorem dX9_read_37 : decode cX9_read 37 = .ok (.iconst 0, 1) := by decide +kernel
theorem dX9_read_38 : decode cX9_read 38 = .ok (.istore 4, 2) := by decide +kernel
theorem dX9_read_40 : decode cX9_read 40 = .ok (.iload 4, 2) := by decide +kernel
theorem dX9_read_42 : decode cX9_read 42 = .ok (.iconst 3, 1) := by decide +kernel
theorem dX9_read_43 : decode cX9_read 43 = .ok (.iadd, 1) := by decide +kernel
theorem dX9_read_44 : decode cX9_read 44 = .ok (.aload_n 2, 1) := by decide +kernel
theorem dX9_read_45 : decode cX9_read 45 = .ok (.getfield 145, 3) := by decide +kernel
theorem dX9_read_48 : decode cX9_read 48 = .ok (.if_icmp .ge 57, 3) := by decide +kernel
theorem dX9_read_51 : decode cX9_read 51 = .ok (.aload_n 2, 1) := by decide +kernel
theorem dX9_read_52 : decode cX9_read 52 = .ok (.getfield 149, 3) := by decide +kernel
theorem dX9_read_55 : decode cX9_read 55 = .ok (.astore 5, 2) := by decide +kernel
theorem dX9_read_57 : decode cX9_read 57 = .ok (.aload_n 0, 1) := by decide +kernel
theorem dX9_read_58 : decode cX9_read 58 = .ok (.getfield 43, 3) := by decide +kernel
theorem dX9_read_61 : decode cX9_read 61 = .ok (.aload 5, 2) := by decide +kernel
theorem dX9_read_63 : decode cX9_read 63 = .ok (.iload 4, 2) := by decide +kernel
theorem dX9_read_65 : decode cX9_read 65 = .ok (.iaload, 1) := by decide +kernel
theorem dX9_read_66 : decode cX9_read 66 = .ok (.aload 5, 2) := by decide +kernel
theorem dX9_read_68 : decode cX9_read 68 = .ok (.iload 4, 2) := by decide +kernel
theorem dX9_read_70 : decode cX9_read 70 = .ok (.iconst 1, 1) := by decide +kernel
theorem dX9_read_71 : decode cX9_read 71 = .ok (.iadd, 1) := by decide +kernel
theorem dX9_read_72 : decode cX9_read 72 = .ok (.iaload, 1) := by decide +kernel
theorem dX9_read_73 : decode cX9_read 73 = .ok (.aload 5, 2) := by decide +kernel
theorem dX9_read_75 : decode cX9_read 75 = .ok (.iload 4, 2) := by decide +kernel
theorem dX9_read_77 : decode cX9_read 77 = .ok (.iconst 2, 1) := by decide +kernel
theorem dX9_read_78 : decode cX9_read 78 = .ok (.iadd, 1) := by decide +kernel
theorem dX9_read_79 : decode cX9_read 79 = .ok (.iaload, 1) := by decide +kernel
theorem dX9_read_80 : decode cX9_read 80 = .ok (.aload 5, 2) := by decide +kernel
theorem dX9_read_82 : decode cX9_read 82 = .ok (.iload 4, 2) := by decide +kernel
theorem dX9_read_84 : decode cX9_read 84 = .ok (.iconst 3, 1) := by decide +kernel
theorem dX9_read_85 : decode cX9_read 85 = .ok (.iadd, 1) := by decide +kernel
theorem dX9_read_86 : decode cX9_read 86 = .ok (.iaload, 1) := by decide +kernel
theorem dX9_read_87 : decode cX9_read 87 = .ok (.invokevirtual 129, 3) := by decide +kernel
theorem dX9_read_90 : decode cX9_read 90 = .ok (.ifCond .ge 6, 3) := by decide +kernel
theorem dX9_read_93 : decode cX9_read 93 = .ok (.goto 12, 3) := by decide +kernel
theorem dX9_read_96 : decode cX9_read 96 = .ok (.iinc 3 1, 3) := by decide +kernel
theorem dX9_read_99 : decode cX9_read 99 = .ok (.iinc 4 4, 3) := by decide +kernel
theorem dX9_read_102 : decode cX9_read 102 = .ok (.goto (-62), 3) := by decide +kernel
theorem dX9_read_105 : decode cX9_read 105 = .ok (.iload_n 3, 1) := by decide +kernel
theorem dX9_read_106 : decode cX9_read 106 = .ok (.ireturn, 1) := by decide +kernel
theorem dX9_where_0 : decode cX9_where 0 = .ok (.aload_n 0, 1) := by decide +kernel
theorem dX9_where_1 : decode cX9_where 1 = .ok (.invokevirtual 103, 3) := by decide +kernel
theorem dX9_where_4 : decode cX9_where 4 = .ok (.iload_n 1, 1) := by decide +kernel
theorem dX9_where_5 : decode cX9_where 5 = .ok (.invokestatic 153, 3) := by decide +kernel
theorem dX9_where_8 : decode cX9_where 8 = .ok (.ifCond .eq 11, 3) := by decide +kernel
theorem dX9_where_11 : decode cX9_where 11 = .ok (.aload_n 0, 1) := by decide +kernel
theorem dX9_where_12 : decode cX9_where 12 = .ok (.iload_n 2, 1) := by decide +kernel
theorem dX9_where_13 : decode cX9_where 13 = .ok (.invokevirtual 106, 3) := by decide +kernel
theorem dX9_where_16 : decode cX9_where 16 = .ok (.ifCond .ne 6, 3) := by decide +kernel
theorem dX9_where_19 : decode cX9_where 19 = .ok (.bipush (-2), 2) := by decide +kernel
theorem dX9_where_21 : decode cX9_where 21 = .ok (.ireturn, 1) := by decide +kernel
theorem dX9_where_22 : decode cX9_where 22 = .ok (.aload_n 0, 1) := by decide +kernel
theorem dX9_where_23 : decode cX9_where 23 = .ok (.getfield 52, 3) := by decide +kernel
theorem dX9_where_26 : decode cX9_where 26 = .ok (.getfield 156, 3) := by decide +kernel
theorem dX9_where_29 : decode cX9_where 29 = .ok (.iload_n 1, 1) := by decide +kernel
theorem dX9_where_30 : decode cX9_where 30 = .ok (.aaload, 1) := by decide +kernel
theorem dX9_where_31 : decode cX9_where 31 = .ok (.iload_n 2, 1) := by decide +kernel
theorem dX9_where_32 : decode cX9_where 32 = .ok (.invokevirtual 160, 3) := by decide +kernel
theorem dX9_where_35 : decode cX9_where 35 = .ok (.ireturn, 1) := by decide +kernel
theorem dX9_has_0 : decode cX9_has 0 = .ok (.aload_n 0, 1) := by decide +kernel
theorem dX9_has_1 : decode cX9_has 1 = .ok (.invokevirtual 103, 3) := by decide +kernel
theorem dX9_has_4 : decode cX9_has 4 = .ok (.iload_n 1, 1) := by decide +kernel
theorem dX9_has_5 : decode cX9_has 5 = .ok (.invokestatic 153, 3) := by decide +kernel
theorem dX9_has_8 : decode cX9_has 8 = .ok (.ifCond .eq 11, 3) := by decide +kernel
theorem dX9_has_11 : decode cX9_has 11 = .ok (.aload_n 0, 1) := by decide +kernel
theorem dX9_has_12 : decode cX9_has 12 = .ok (.iload_n 2, 1) := by decide +kernel
theorem dX9_has_13 : decode cX9_has 13 = .ok (.invokevirtual 113, 3) := by decide +kernel
theorem dX9_has_16 : decode cX9_has 16 = .ok (.ifCond .ne 6, 3) := by decide +kernel
theorem dX9_has_19 : decode cX9_has 19 = .ok (.bipush (-2), 2) := by decide +kernel
theorem dX9_has_21 : decode cX9_has 21 = .ok (.ireturn, 1) := by decide +kernel
theorem dX9_has_22 : decode cX9_has 22 = .ok (.aload_n 0, 1) := by decide +kernel
theorem dX9_has_23 : decode cX9_has 23 = .ok (.getfield 52, 3) := by decide +kernel
theorem dX9_has_26 : decode cX9_has 26 = .ok (.iload_n 1, 1) := by decide +kernel
theorem dX9_has_27 : decode cX9_has 27 = .ok (.iload_n 2, 1) := by decide +kernel
theorem dX9_has_28 : decode cX9_has 28 = .ok (.invokevirtual 165, 3) := by decide +kernel
theorem dX9_has_31 : decode cX9_has 31 = .ok (.ireturn, 1) := by decide +kernel
theorem dX9_load_0 : decode cX9_load 0 = .ok (.aload_n 0, 1) := by decide +kernel
theorem dX9_load_1 : decode cX9_load 1 = .ok (.invokevirtual 103, 3) := by decide +kernel
theorem dX9_load_4 : decode cX9_load 4 = .ok (.iload_n 1, 1) := by decide +kernel
theorem dX9_load_5 : decode cX9_load 5 = .ok (.invokestatic 153, 3) := by decide +kernel
theorem dX9_load_8 : decode cX9_load 8 = .ok (.ifCond .eq 18, 3) := by decide +kernel
theorem dX9_load_11 : decode cX9_load 11 = .ok (.aload_n 0, 1) := by decide +kernel
theorem dX9_load_12 : decode cX9_load 12 = .ok (.getfield 52, 3) := by decide +kernel
theorem dX9_load_15 : decode cX9_load 15 = .ok (.getfield 156, 3) := by decide +kernel
theorem dX9_load_18 : decode cX9_load 18 = .ok (.iload_n 1, 1) := by decide +kernel
theorem dX9_load_19 : decode cX9_load 19 = .ok (.aaload, 1) := by decide +kernel
theorem dX9_load_20 : decode cX9_load 20 = .ok (.getfield 168, 3) := by decide +kernel
theorem dX9_load_23 : decode cX9_load 23 = .ok (.goto 5, 3) := by decide +kernel
theorem dX9_load_26 : decode cX9_load 26 = .ok (.bipush (-2), 2) := by decide +kernel
theorem dX9_load_28 : decode cX9_load 28 = .ok (.ireturn, 1) := by decide +kernel
theorem dX9_happy_0 : decode cX9_happy 0 = .ok (.aload_n 0, 1) := by decide +kernel
theorem dX9_happy_1 : decode cX9_happy 1 = .ok (.invokevirtual 103, 3) := by decide +kernel
theorem dX9_happy_4 : decode cX9_happy 4 = .ok (.iload_n 1, 1) := by decide +kernel
theorem dX9_happy_5 : decode cX9_happy 5 = .ok (.invokestatic 153, 3) := by decide +kernel
theorem dX9_happy_8 : decode cX9_happy 8 = .ok (.ifCond .eq 14, 3) := by decide +kernel
theorem dX9_happy_11 : decode cX9_happy 11 = .ok (.aload_n 0, 1) := by decide +kernel
theorem dX9_happy_12 : decode cX9_happy 12 = .ok (.getfield 52, 3) := by decide +kernel
theorem dX9_happy_15 : decode cX9_happy 15 = .ok (.iload_n 1, 1) := by decide +kernel
theorem dX9_happy_16 : decode cX9_happy 16 = .ok (.invokevirtual 171, 3) := by decide +kernel
theorem dX9_happy_19 : decode cX9_happy 19 = .ok (.goto 5, 3) := by decide +kernel
theorem dX9_happy_22 : decode cX9_happy 22 = .ok (.bipush (-2), 2) := by decide +kernel
theorem dX9_happy_24 : decode cX9_happy 24 = .ok (.ireturn, 1) := by decide +kernel
theorem dX9_works_0 : decode cX9_works 0 = .ok (.aload_n 0, 1) := by decide +kernel
theorem dX9_works_1 : decode cX9_works 1 = .ok (.invokevirtual 103, 3) := by decide +kernel
theorem dX9_works_4 : decode cX9_works 4 = .ok (.iload_n 1, 1) := by decide +kernel
theorem dX9_works_5 : decode cX9_works 5 = .ok (.ifCond .lt 14, 3) := by decide +kernel
theorem dX9_works_8 : decode cX9_works 8 = .ok (.iload_n 1, 1) := by decide +kernel
theorem dX9_works_9 : decode cX9_works 9 = .ok (.aload_n 0, 1) := by decide +kernel
theorem dX9_works_10 : decode cX9_works 10 = .ok (.getfield 43, 3) := by decide +kernel
theorem dX9_works_13 : decode cX9_works 13 = .ok (.getfield 136, 3) := by decide +kernel
theorem dX9_works_16 : decode cX9_works 16 = .ok (.if_icmp .lt 6, 3) := by decide +kernel
theorem dX9_works_19 : decode cX9_works 19 = .ok (.bipush (-2), 2) := by decide +kernel
theorem dX9_works_21 : decode cX9_works 21 = .ok (.ireturn, 1) := by decide +kernel
theorem dX9_works_22 : decode cX9_works 22 = .ok (.aload_n 0, 1) := by decide +kernel
theorem dX9_works_23 : decode cX9_works 23 = .ok (.getfield 52, 3) := by decide +kernel
theorem dX9_works_26 : decode cX9_works 26 = .ok (.getfield 174, 3) := by decide +kernel
theorem dX9_works_29 : decode cX9_works 29 = .ok (.iload_n 1, 1) := by decide +kernel
theorem dX9_works_30 : decode cX9_works 30 = .ok (.ishr, 1) := by decide +kernel
theorem dX9_works_31 : decode cX9_works 31 = .ok (.iconst 1, 1) := by decide +kernel
theorem dX9_works_32 : decode cX9_works 32 = .ok (.iand, 1) := by decide +kernel
theorem dX9_works_33 : decode cX9_works 33 = .ok (.ireturn, 1) := by decide +kernel
theorem dX9_fails_0 : decode cX9_fails 0 = .ok (.aload_n 0, 1) := by decide +kernel
theorem dX9_fails_1 : decode cX9_fails 1 = .ok (.invokevirtual 103, 3) := by decide +kernel
theorem dX9_fails_4 : decode cX9_fails 4 = .ok (.aload_n 0, 1) := by decide +kernel
theorem dX9_fails_5 : decode cX9_fails 5 = .ok (.getfield 52, 3) := by decide +kernel
theorem dX9_fails_8 : decode cX9_fails 8 = .ok (.invokevirtual 177, 3) := by decide +kernel
theorem dX9_fails_11 : decode cX9_fails 11 = .ok (.ireturn, 1) := by decide +kernel
theorem dX9_went_0 : decode cX9_went 0 = .ok (.aload_n 0, 1) := by decide +kernel
theorem dX9_went_1 : decode cX9_went 1 = .ok (.invokevirtual 103, 3) := by decide +kernel
theorem dX9_went_4 : decode cX9_went 4 = .ok (.aload_n 0, 1) := by decide +kernel
theorem dX9_went_5 : decode cX9_went 5 = .ok (.iload_n 1, 1) := by decide +kernel
theorem dX9_went_6 : decode cX9_went 6 = .ok (.invokevirtual 106, 3) := by decide +kernel
theorem dX9_went_9 : decode cX9_went 9 = .ok (.ifCond .eq 14, 3) := by decide +kernel
theorem dX9_went_12 : decode cX9_went 12 = .ok (.aload_n 0, 1) := by decide +kernel
theorem dX9_went_13 : decode cX9_went 13 = .ok (.getfield 52, 3) := by decide +kernel
theorem dX9_went_16 : decode cX9_went 16 = .ok (.iload_n 1, 1) := by decide +kernel
theorem dX9_went_17 : decode cX9_went 17 = .ok (.invokevirtual 180, 3) := by decide +kernel
theorem dX9_went_20 : decode cX9_went 20 = .ok (.goto 5, 3) := by decide +kernel
theorem dX9_went_23 : decode cX9_went 23 = .ok (.bipush (-2), 2) := by decide +kernel
theorem dX9_went_25 : decode cX9_went 25 = .ok (.ireturn, 1) := by decide +kernel
theorem dX9_lend_0 : decode cX9_lend 0 = .ok (.aload_n 0, 1) := by decide +kernel
theorem dX9_lend_1 : decode cX9_lend 1 = .ok (.invokevirtual 103, 3) := by decide +kernel
theorem dX9_lend_4 : decode cX9_lend 4 = .ok (.aload_n 0, 1) := by decide +kernel
theorem dX9_lend_5 : decode cX9_lend 5 = .ok (.iload_n 1, 1) := by decide +kernel
theorem dX9_lend_6 : decode cX9_lend 6 = .ok (.invokevirtual 113, 3) := by decide +kernel
theorem dX9_lend_9 : decode cX9_lend 9 = .ok (.ifCond .eq 34, 3) := by decide +kernel
theorem dX9_lend_12 : decode cX9_lend 12 = .ok (.aload_n 0, 1) := by decide +kernel
theorem dX9_lend_13 : decode cX9_lend 13 = .ok (.iload_n 2, 1) := by decide +kernel
theorem dX9_lend_14 : decode cX9_lend 14 = .ok (.invokevirtual 106, 3) := by decide +kernel
theorem dX9_lend_17 : decode cX9_lend 17 = .ok (.ifCond .eq 26, 3) := by decide +kernel
theorem dX9_lend_20 : decode cX9_lend 20 = .ok (.iload_n 3, 1) := by decide +kernel
theorem dX9_lend_21 : decode cX9_lend 21 = .ok (.invokestatic 153, 3) := by decide +kernel
theorem dX9_lend_24 : decode cX9_lend 24 = .ok (.ifCond .eq 19, 3) := by decide +kernel
theorem dX9_lend_27 : decode cX9_lend 27 = .ok (.iload 4, 2) := by decide +kernel
theorem dX9_lend_29 : decode cX9_lend 29 = .ok (.invokestatic 153, 3) := by decide +kernel
theorem dX9_lend_32 : decode cX9_lend 32 = .ok (.ifCond .eq 11, 3) := by decide +kernel
theorem dX9_lend_35 : decode cX9_lend 35 = .ok (.iload 5, 2) := by decide +kernel
theorem dX9_lend_37 : decode cX9_lend 37 = .ok (.invokestatic 183, 3) := by decide +kernel
theorem dX9_lend_40 : decode cX9_lend 40 = .ok (.ifCond .ne 6, 3) := by decide +kernel
theorem dX9_lend_43 : decode cX9_lend 43 = .ok (.bipush (-2), 2) := by decide +kernel
theorem dX9_lend_45 : decode cX9_lend 45 = .ok (.ireturn, 1) := by decide +kernel
theorem dX9_lend_46 : decode cX9_lend 46 = .ok (.aload_n 0, 1) := by decide +kernel
theorem dX9_lend_47 : decode cX9_lend 47 = .ok (.getfield 61, 3) := by decide +kernel
theorem dX9_lend_50 : decode cX9_lend 50 = .ok (.iload_n 1, 1) := by decide +kernel
theorem dX9_lend_51 : decode cX9_lend 51 = .ok (.iload_n 2, 1) := by decide +kernel
theorem dX9_lend_52 : decode cX9_lend 52 = .ok (.iload_n 3, 1) := by decide +kernel
theorem dX9_lend_53 : decode cX9_lend 53 = .ok (.iload 4, 2) := by decide +kernel
theorem dX9_lend_55 : decode cX9_lend 55 = .ok (.invokevirtual 186, 3) := by decide +kernel
theorem dX9_lend_58 : decode cX9_lend 58 = .ok (.aload_n 0, 1) := by decide +kernel
theorem dX9_lend_59 : decode cX9_lend 59 = .ok (.getfield 61, 3) := by decide +kernel
theorem dX9_lend_62 : decode cX9_lend 62 = .ok (.getfield 190, 3) := by decide +kernel
theorem dX9_lend_65 : decode cX9_lend 65 = .ok (.iload 5, 2) := by decide +kernel
theorem dX9_lend_67 : decode cX9_lend 67 = .ok (.invokevirtual 194, 3) := by decide +kernel
theorem dX9_lend_70 : decode cX9_lend 70 = .ok (.ireturn, 1) := by decide +kernel
theorem dX9_hangs_0 : decode cX9_hangs 0 = .ok (.aload_n 0, 1) := by decide +kernel
theorem dX9_hangs_1 : decode cX9_hangs 1 = .ok (.invokevirtual 103, 3) := by decide +kernel
theorem dX9_hangs_4 : decode cX9_hangs 4 = .ok (.iload_n 1, 1) := by decide +kernel
theorem dX9_hangs_5 : decode cX9_hangs 5 = .ok (.invokestatic 153, 3) := by decide +kernel
theorem dX9_hangs_8 : decode cX9_hangs 8 = .ok (.ifCond .eq 14, 3) := by decide +kernel
theorem dX9_hangs_11 : decode cX9_hangs 11 = .ok (.aload_n 0, 1) := by decide +kernel
theorem dX9_hangs_12 : decode cX9_hangs 12 = .ok (.getfield 61, 3) := by decide +kernel
theorem dX9_hangs_15 : decode cX9_hangs 15 = .ok (.iload_n 1, 1) := by decide +kernel
theorem dX9_hangs_16 : decode cX9_hangs 16 = .ok (.invokevirtual 198, 3) := by decide +kernel
theorem dX9_hangs_19 : decode cX9_hangs 19 = .ok (.goto 5, 3) := by decide +kernel
theorem dX9_hangs_22 : decode cX9_hangs 22 = .ok (.bipush (-2), 2) := by decide +kernel
theorem dX9_hangs_24 : decode cX9_hangs 24 = .ok (.ireturn, 1) := by decide +kernel
theorem dX9_sort_0 : decode cX9_sort 0 = .ok (.aload_n 0, 1) := by decide +kernel
theorem dX9_sort_1 : decode cX9_sort 1 = .ok (.invokevirtual 103, 3) := by decide +kernel
theorem dX9_sort_4 : decode cX9_sort 4 = .ok (.iload_n 1, 1) := by decide +kernel
theorem dX9_sort_5 : decode cX9_sort 5 = .ok (.ifCond .lt 16, 3) := by decide +kernel
theorem dX9_sort_8 : decode cX9_sort 8 = .ok (.iload_n 1, 1) := by decide +kernel
theorem dX9_sort_9 : decode cX9_sort 9 = .ok (.bipush 72, 2) := by decide +kernel
theorem dX9_sort_11 : decode cX9_sort 11 = .ok (.if_icmp .gt 10, 3) := by decide +kernel
theorem dX9_sort_14 : decode cX9_sort 14 = .ok (.iload_n 2, 1) := by decide +kernel
theorem dX9_sort_15 : decode cX9_sort 15 = .ok (.invokestatic 183, 3) := by decide +kernel
theorem dX9_sort_18 : decode cX9_sort 18 = .ok (.ifCond .ne 6, 3) := by decide +kernel
theorem dX9_sort_21 : decode cX9_sort 21 = .ok (.bipush (-2), 2) := by decide +kernel
theorem dX9_sort_23 : decode cX9_sort 23 = .ok (.ireturn, 1) := by decide +kernel
theorem dX9_sort_24 : decode cX9_sort 24 = .ok (.aload_n 0, 1) := by decide +kernel
theorem dX9_sort_25 : decode cX9_sort 25 = .ok (.getfield 61, 3) := by decide +kernel
theorem dX9_sort_28 : decode cX9_sort 28 = .ok (.iload_n 1, 1) := by decide +kernel
theorem dX9_sort_29 : decode cX9_sort 29 = .ok (.invokevirtual 201, 3) := by decide +kernel
theorem dX9_sort_32 : decode cX9_sort 32 = .ok (.aload_n 0, 1) := by decide +kernel
theorem dX9_sort_33 : decode cX9_sort 33 = .ok (.getfield 61, 3) := by decide +kernel
theorem dX9_sort_36 : decode cX9_sort 36 = .ok (.getfield 205, 3) := by decide +kernel
theorem dX9_sort_39 : decode cX9_sort 39 = .ok (.iload_n 2, 1) := by decide +kernel
theorem dX9_sort_40 : decode cX9_sort 40 = .ok (.invokevirtual 194, 3) := by decide +kernel
theorem dX9_sort_43 : decode cX9_sort 43 = .ok (.ireturn, 1) := by decide +kernel
theorem dX9_felt_0 : decode cX9_felt 0 = .ok (.aload_n 0, 1) := by decide +kernel
theorem dX9_felt_1 : decode cX9_felt 1 = .ok (.getfield 43, 3) := by decide +kernel
theorem dX9_felt_4 : decode cX9_felt 4 = .ok (.iload_n 1, 1) := by decide +kernel
theorem dX9_felt_5 : decode cX9_felt 5 = .ok (.iload_n 2, 1) := by decide +kernel
theorem dX9_felt_6 : decode cX9_felt 6 = .ok (.iload_n 3, 1) := by decide +kernel
theorem dX9_felt_7 : decode cX9_felt 7 = .ok (.invokevirtual 208, 3) := by decide +kernel
theorem dX9_felt_10 : decode cX9_felt 10 = .ok (.ireturn, 1) := by decide +kernel
theorem dX9_forget_0 : decode cX9_forget 0 = .ok (.aload_n 0, 1) := by decide +kernel
theorem dX9_forget_1 : decode cX9_forget 1 = .ok (.getfield 43, 3) := by decide +kernel
theorem dX9_forget_4 : decode cX9_forget 4 = .ok (.getfield 212, 3) := by decide +kernel
theorem dX9_forget_7 : decode cX9_forget 7 = .ok (.istore_n 1, 1) := by decide +kernel
theorem dX9_forget_8 : decode cX9_forget 8 = .ok (.aload_n 0, 1) := by decide +kernel
theorem dX9_forget_9 : decode cX9_forget 9 = .ok (.getfield 43, 3) := by decide +kernel
theorem dX9_forget_12 : decode cX9_forget 12 = .ok (.iconst 0, 1) := by decide +kernel
theorem dX9_forget_13 : decode cX9_forget 13 = .ok (.putfield 212, 3) := by decide +kernel
theorem dX9_forget_16 : decode cX9_forget 16 = .ok (.iload_n 1, 1) := by decide +kernel
theorem dX9_forget_17 : decode cX9_forget 17 = .ok (.ireturn, 1) := by decide +kernel
theorem dX9_when_0 : decode cX9_when 0 = .ok (.aload_n 0, 1) := by decide +kernel
theorem dX9_when_1 : decode cX9_when 1 = .ok (.invokevirtual 103, 3) := by decide +kernel
theorem dX9_when_4 : decode cX9_when 4 = .ok (.aload_n 0, 1) := by decide +kernel
theorem dX9_when_5 : decode cX9_when 5 = .ok (.iload_n 1, 1) := by decide +kernel
theorem dX9_when_6 : decode cX9_when 6 = .ok (.invokevirtual 113, 3) := by decide +kernel
theorem dX9_when_9 : decode cX9_when 9 = .ok (.ifCond .eq 23, 3) := by decide +kernel
theorem dX9_when_12 : decode cX9_when 12 = .ok (.aload_n 0, 1) := by decide +kernel
theorem dX9_when_13 : decode cX9_when 13 = .ok (.iload_n 2, 1) := by decide +kernel
theorem dX9_when_14 : decode cX9_when 14 = .ok (.invokevirtual 106, 3) := by decide +kernel
theorem dX9_when_17 : decode cX9_when 17 = .ok (.ifCond .eq 15, 3) := by decide +kernel
theorem dX9_when_20 : decode cX9_when 20 = .ok (.aload_n 0, 1) := by decide +kernel
theorem dX9_when_21 : decode cX9_when 21 = .ok (.getfield 68, 3) := by decide +kernel
theorem dX9_when_24 : decode cX9_when 24 = .ok (.iload_n 1, 1) := by decide +kernel
theorem dX9_when_25 : decode cX9_when 25 = .ok (.iload_n 2, 1) := by decide +kernel
theorem dX9_when_26 : decode cX9_when 26 = .ok (.invokevirtual 215, 3) := by decide +kernel
theorem dX9_when_29 : decode cX9_when 29 = .ok (.goto 5, 3) := by decide +kernel
theorem dX9_when_32 : decode cX9_when 32 = .ok (.bipush (-2), 2) := by decide +kernel
theorem dX9_when_34 : decode cX9_when 34 = .ok (.ireturn, 1) := by decide +kernel
theorem dX9_thief_0 : decode cX9_thief 0 = .ok (.aload_n 0, 1) := by decide +kernel
theorem dX9_thief_1 : decode cX9_thief 1 = .ok (.invokevirtual 103, 3) := by decide +kernel
theorem dX9_thief_4 : decode cX9_thief 4 = .ok (.aload_n 0, 1) := by decide +kernel
theorem dX9_thief_5 : decode cX9_thief 5 = .ok (.iload_n 1, 1) := by decide +kernel
theorem dX9_thief_6 : decode cX9_thief 6 = .ok (.invokevirtual 106, 3) := by decide +kernel
theorem dX9_thief_9 : decode cX9_thief 9 = .ok (.ifCond .eq 14, 3) := by decide +kernel
theorem dX9_thief_12 : decode cX9_thief 12 = .ok (.aload_n 0, 1) := by decide +kernel
theorem dX9_thief_13 : decode cX9_thief 13 = .ok (.getfield 68, 3) := by decide +kernel
theorem dX9_thief_16 : decode cX9_thief 16 = .ok (.iload_n 1, 1) := by decide +kernel
theorem dX9_thief_17 : decode cX9_thief 17 = .ok (.invokevirtual 218, 3) := by decide +kernel
theorem dX9_thief_20 : decode cX9_thief 20 = .ok (.goto 5, 3) := by decide +kernel
theorem dX9_thief_23 : decode cX9_thief 23 = .ok (.bipush (-2), 2) := by decide +kernel
theorem dX9_thief_25 : decode cX9_thief 25 = .ok (.ireturn, 1) := by decide +kernel
theorem dX9_feel_0 : decode cX9_feel 0 = .ok (.aload_n 0, 1) := by decide +kernel
theorem dX9_feel_1 : decode cX9_feel 1 = .ok (.invokevirtual 103, 3) := by decide +kernel
theorem dX9_feel_4 : decode cX9_feel 4 = .ok (.aload_n 0, 1) := by decide +kernel
theorem dX9_feel_5 : decode cX9_feel 5 = .ok (.iload_n 1, 1) := by decide +kernel
theorem dX9_feel_6 : decode cX9_feel 6 = .ok (.invokevirtual 113, 3) := by decide +kernel
theorem dX9_feel_9 : decode cX9_feel 9 = .ok (.ifCond .eq 23, 3) := by decide +kernel
theorem dX9_feel_12 : decode cX9_feel 12 = .ok (.aload_n 0, 1) := by decide +kernel
theorem dX9_feel_13 : decode cX9_feel 13 = .ok (.iload_n 2, 1) := by decide +kernel
theorem dX9_feel_14 : decode cX9_feel 14 = .ok (.invokevirtual 106, 3) := by decide +kernel
theorem dX9_feel_17 : decode cX9_feel 17 = .ok (.ifCond .eq 15, 3) := by decide +kernel
theorem dX9_feel_20 : decode cX9_feel 20 = .ok (.aload_n 0, 1) := by decide +kernel
theorem dX9_feel_21 : decode cX9_feel 21 = .ok (.getfield 68, 3) := by decide +kernel
theorem dX9_feel_24 : decode cX9_feel 24 = .ok (.iload_n 1, 1) := by decide +kernel
theorem dX9_feel_25 : decode cX9_feel 25 = .ok (.iload_n 2, 1) := by decide +kernel
theorem dX9_feel_26 : decode cX9_feel 26 = .ok (.invokevirtual 221, 3) := by decide +kernel
theorem dX9_feel_29 : decode cX9_feel 29 = .ok (.goto 5, 3) := by decide +kernel
theorem dX9_feel_32 : decode cX9_feel 32 = .ok (.bipush (-2), 2) := by decide +kernel
theorem dX9_feel_34 : decode cX9_feel 34 = .ok (.ireturn, 1) := by decide +kernel
theorem dX9_jumps_0 : decode cX9_jumps 0 = .ok (.aload_n 0, 1) := by decide +kernel
theorem dX9_jumps_1 : decode cX9_jumps 1 = .ok (.invokevirtual 103, 3) := by decide +kernel
theorem dX9_jumps_4 : decode cX9_jumps 4 = .ok (.iload_n 1, 1) := by decide +kernel
theorem dX9_jumps_5 : decode cX9_jumps 5 = .ok (.ifCond .lt 35, 3) := by decide +kernel
theorem dX9_jumps_8 : decode cX9_jumps 8 = .ok (.iload_n 1, 1) := by decide +kernel
theorem dX9_jumps_9 : decode cX9_jumps 9 = .ok (.bipush 16, 2) := by decide +kernel
theorem dX9_jumps_11 : decode cX9_jumps 11 = .ok (.if_icmp .gt 29, 3) := by decide +kernel
theorem dX9_jumps_14 : decode cX9_jumps 14 = .ok (.aload_n 0, 1) := by decide +kernel
theorem dX9_jumps_15 : decode cX9_jumps 15 = .ok (.iload_n 2, 1) := by decide +kernel
theorem dX9_jumps_16 : decode cX9_jumps 16 = .ok (.invokevirtual 106, 3) := by decide +kernel
theorem dX9_jumps_19 : decode cX9_jumps 19 = .ok (.ifCond .eq 21, 3) := by decide +kernel
theorem dX9_jumps_22 : decode cX9_jumps 22 = .ok (.iload_n 3, 1) := by decide +kernel
theorem dX9_jumps_23 : decode cX9_jumps 23 = .ok (.ifCond .lt 17, 3) := by decide +kernel
theorem dX9_jumps_26 : decode cX9_jumps 26 = .ok (.iload_n 3, 1) := by decide +kernel
theorem dX9_jumps_27 : decode cX9_jumps 27 = .ok (.bipush 12, 2) := by decide +kernel
theorem dX9_jumps_29 : decode cX9_jumps 29 = .ok (.if_icmp .gt 11, 3) := by decide +kernel
theorem dX9_jumps_32 : decode cX9_jumps 32 = .ok (.iload 4, 2) := by decide +kernel
theorem dX9_jumps_34 : decode cX9_jumps 34 = .ok (.invokestatic 116, 3) := by decide +kernel
theorem dX9_jumps_37 : decode cX9_jumps 37 = .ok (.ifCond .ne 7, 3) := by decide +kernel
theorem dX9_jumps_40 : decode cX9_jumps 40 = .ok (.ldc2_w 224, 3) := by decide +kernel
theorem dX9_jumps_43 : decode cX9_jumps 43 = .ok (.lreturn, 1) := by decide +kernel
theorem dX9_jumps_44 : decode cX9_jumps 44 = .ok (.aload_n 0, 1) := by decide +kernel
theorem dX9_jumps_45 : decode cX9_jumps 45 = .ok (.getfield 52, 3) := by decide +kernel
theorem dX9_jumps_48 : decode cX9_jumps 48 = .ok (.iload_n 1, 1) := by decide +kernel
theorem dX9_jumps_49 : decode cX9_jumps 49 = .ok (.iload_n 2, 1) := by decide +kernel
theorem dX9_jumps_50 : decode cX9_jumps 50 = .ok (.iload_n 3, 1) := by decide +kernel
theorem dX9_jumps_51 : decode cX9_jumps 51 = .ok (.iload 4, 2) := by decide +kernel
theorem dX9_jumps_53 : decode cX9_jumps 53 = .ok (.invokevirtual 226, 3) := by decide +kernel
theorem dX9_jumps_56 : decode cX9_jumps 56 = .ok (.lreturn, 1) := by decide +kernel
theorem dX9_day_0 : decode cX9_day 0 = .ok (.aload_n 0, 1) := by decide +kernel
theorem dX9_day_1 : decode cX9_day 1 = .ok (.invokevirtual 103, 3) := by decide +kernel
theorem dX9_day_4 : decode cX9_day 4 = .ok (.iload_n 2, 1) := by decide +kernel
theorem dX9_day_5 : decode cX9_day 5 = .ok (.invokestatic 153, 3) := by decide +kernel
theorem dX9_day_8 : decode cX9_day 8 = .ok (.ifCond .eq 16, 3) := by decide +kernel
theorem dX9_day_11 : decode cX9_day 11 = .ok (.iload_n 3, 1) := by decide +kernel
theorem dX9_day_12 : decode cX9_day 12 = .ok (.iconst (-1), 1) := by decide +kernel
theorem dX9_day_13 : decode cX9_day 13 = .ok (.if_icmp .eq 14, 3) := by decide +kernel
theorem dX9_day_16 : decode cX9_day 16 = .ok (.aload_n 0, 1) := by decide +kernel
theorem dX9_day_17 : decode cX9_day 17 = .ok (.iload_n 3, 1) := by decide +kernel
theorem dX9_day_18 : decode cX9_day 18 = .ok (.invokevirtual 106, 3) := by decide +kernel
theorem dX9_day_21 : decode cX9_day 21 = .ok (.ifCond .ne 6, 3) := by decide +kernel
theorem dX9_day_24 : decode cX9_day 24 = .ok (.bipush (-2), 2) := by decide +kernel
theorem dX9_day_26 : decode cX9_day 26 = .ok (.ireturn, 1) := by decide +kernel
theorem dX9_day_27 : decode cX9_day 27 = .ok (.aload_n 0, 1) := by decide +kernel
theorem dX9_day_28 : decode cX9_day 28 = .ok (.getfield 52, 3) := by decide +kernel
theorem dX9_day_31 : decode cX9_day 31 = .ok (.iload_n 1, 1) := by decide +kernel
theorem dX9_day_32 : decode cX9_day 32 = .ok (.iload_n 2, 1) := by decide +kernel
theorem dX9_day_33 : decode cX9_day 33 = .ok (.iload_n 3, 1) := by decide +kernel
theorem dX9_day_34 : decode cX9_day 34 = .ok (.invokevirtual 230, 3) := by decide +kernel
theorem dX9_day_37 : decode cX9_day 37 = .ok (.ireturn, 1) := by decide +kernel
theorem dX9_sheet_0 : decode cX9_sheet 0 = .ok (.iload_n 1, 1) := by decide +kernel
theorem dX9_sheet_1 : decode cX9_sheet 1 = .ok (.invokestatic 142, 3) := by decide +kernel
theorem dX9_sheet_4 : decode cX9_sheet 4 = .ok (.ifCond .eq 16, 3) := by decide +kernel
theorem dX9_sheet_7 : decode cX9_sheet 7 = .ok (.iload_n 2, 1) := by decide +kernel
theorem dX9_sheet_8 : decode cX9_sheet 8 = .ok (.invokestatic 233, 3) := by decide +kernel
theorem dX9_sheet_11 : decode cX9_sheet 11 = .ok (.ifCond .eq 9, 3) := by decide +kernel
theorem dX9_sheet_14 : decode cX9_sheet 14 = .ok (.iload_n 3, 1) := by decide +kernel
theorem dX9_sheet_15 : decode cX9_sheet 15 = .ok (.bipush 60, 2) := by decide +kernel
theorem dX9_sheet_17 : decode cX9_sheet 17 = .ok (.if_icmp .le 6, 3) := by decide +kernel
theorem dX9_sheet_20 : decode cX9_sheet 20 = .ok (.bipush (-2), 2) := by decide +kernel
theorem dX9_sheet_22 : decode cX9_sheet 22 = .ok (.ireturn, 1) := by decide +kernel
theorem dX9_sheet_23 : decode cX9_sheet 23 = .ok (.iload_n 3, 1) := by decide +kernel
theorem dX9_sheet_24 : decode cX9_sheet 24 = .ok (.ifCond .ge 9, 3) := by decide +kernel
theorem dX9_sheet_27 : decode cX9_sheet 27 = .ok (.aload_n 0, 1) := by decide +kernel
theorem dX9_sheet_28 : decode cX9_sheet 28 = .ok (.iconst 5, 1) := by decide +kernel
theorem dX9_sheet_29 : decode cX9_sheet 29 = .ok (.invokevirtual 146, 3) := by decide +kernel
theorem dX9_sheet_32 : decode cX9_sheet 32 = .ok (.ireturn, 1) := by decide +kernel
theorem dX9_sheet_33 : decode cX9_sheet 33 = .ok (.aload_n 0, 1) := by decide +kernel
theorem dX9_sheet_34 : decode cX9_sheet 34 = .ok (.getfield 74, 3) := by decide +kernel
theorem dX9_sheet_37 : decode cX9_sheet 37 = .ok (.iload_n 1, 1) := by decide +kernel
theorem dX9_sheet_38 : decode cX9_sheet 38 = .ok (.aaload, 1) := by decide +kernel
theorem dX9_sheet_39 : decode cX9_sheet 39 = .ok (.astore 4, 2) := by decide +kernel
theorem dX9_sheet_41 : decode cX9_sheet 41 = .ok (.aload 4, 2) := by decide +kernel
theorem dX9_sheet_43 : decode cX9_sheet 43 = .ok (.iload_n 2, 1) := by decide +kernel
theorem dX9_sheet_44 : decode cX9_sheet 44 = .ok (.putfield 236, 3) := by decide +kernel
theorem dX9_sheet_47 : decode cX9_sheet 47 = .ok (.aload 4, 2) := by decide +kernel
theorem dX9_sheet_49 : decode cX9_sheet 49 = .ok (.iload_n 3, 1) := by decide +kernel
theorem dX9_sheet_50 : decode cX9_sheet 50 = .ok (.putfield 145, 3) := by decide +kernel
theorem dX9_sheet_53 : decode cX9_sheet 53 = .ok (.aload 4, 2) := by decide +kernel
theorem dX9_sheet_55 : decode cX9_sheet 55 = .ok (.getfield 149, 3) := by decide +kernel
theorem dX9_sheet_58 : decode cX9_sheet 58 = .ok (.iconst 0, 1) := by decide +kernel
theorem dX9_sheet_59 : decode cX9_sheet 59 = .ok (.invokestatic 239, 3) := by decide +kernel
theorem dX9_sheet_62 : decode cX9_sheet 62 = .ok (.iload_n 3, 1) := by decide +kernel
theorem dX9_sheet_63 : decode cX9_sheet 63 = .ok (.ireturn, 1) := by decide +kernel
theorem dX9_lose_0 : decode cX9_lose 0 = .ok (.iload_n 1, 1) := by decide +kernel
theorem dX9_lose_1 : decode cX9_lose 1 = .ok (.invokestatic 142, 3) := by decide +kernel
theorem dX9_lose_4 : decode cX9_lose 4 = .ok (.ifCond .ne 6, 3) := by decide +kernel
theorem dX9_lose_7 : decode cX9_lose 7 = .ok (.bipush (-2), 2) := by decide +kernel
theorem dX9_lose_9 : decode cX9_lose 9 = .ok (.ireturn, 1) := by decide +kernel
theorem dX9_lose_10 : decode cX9_lose 10 = .ok (.aload_n 0, 1) := by decide +kernel
theorem dX9_lose_11 : decode cX9_lose 11 = .ok (.getfield 74, 3) := by decide +kernel
theorem dX9_lose_14 : decode cX9_lose 14 = .ok (.iload_n 1, 1) := by decide +kernel
theorem dX9_lose_15 : decode cX9_lose 15 = .ok (.aaload, 1) := by decide +kernel
theorem dX9_lose_16 : decode cX9_lose 16 = .ok (.getfield 145, 3) := by decide +kernel
theorem dX9_lose_19 : decode cX9_lose 19 = .ok (.istore_n 2, 1) := by decide +kernel
theorem dX9_lose_20 : decode cX9_lose 20 = .ok (.iload_n 2, 1) := by decide +kernel
theorem dX9_lose_21 : decode cX9_lose 21 = .ok (.ifCond .ge 9, 3) := by decide +kernel
theorem dX9_lose_24 : decode cX9_lose 24 = .ok (.aload_n 0, 1) := by decide +kernel
theorem dX9_lose_25 : decode cX9_lose 25 = .ok (.iconst 1, 1) := by decide +kernel
theorem dX9_lose_26 : decode cX9_lose 26 = .ok (.invokevirtual 146, 3) := by decide +kernel
theorem dX9_lose_29 : decode cX9_lose 29 = .ok (.ireturn, 1) := by decide +kernel
theorem dX9_lose_30 : decode cX9_lose 30 = .ok (.aload_n 0, 1) := by decide +kernel
theorem dX9_lose_31 : decode cX9_lose 31 = .ok (.getfield 74, 3) := by decide +kernel
theorem dX9_lose_34 : decode cX9_lose 34 = .ok (.iload_n 1, 1) := by decide +kernel
theorem dX9_lose_35 : decode cX9_lose 35 = .ok (.aaload, 1) := by decide +kernel
theorem dX9_lose_36 : decode cX9_lose 36 = .ok (.iconst (-1), 1) := by decide +kernel
theorem dX9_lose_37 : decode cX9_lose 37 = .ok (.putfield 145, 3) := by decide +kernel
theorem dX9_lose_40 : decode cX9_lose 40 = .ok (.iload_n 2, 1) := by decide +kernel
theorem dX9_lose_41 : decode cX9_lose 41 = .ok (.ireturn, 1) := by decide +kernel
theorem dX9_put_0 : decode cX9_put 0 = .ok (.iload_n 1, 1) := by decide +kernel
theorem dX9_put_1 : decode cX9_put 1 = .ok (.invokestatic 142, 3) := by decide +kernel
theorem dX9_put_4 : decode cX9_put 4 = .ok (.ifCond .eq 10, 3) := by decide +kernel
theorem dX9_put_7 : decode cX9_put 7 = .ok (.iload_n 2, 1) := by decide +kernel
theorem dX9_put_8 : decode cX9_put 8 = .ok (.invokestatic 233, 3) := by decide +kernel
theorem dX9_put_11 : decode cX9_put 11 = .ok (.ifCond .ne 6, 3) := by decide +kernel
theorem dX9_put_14 : decode cX9_put 14 = .ok (.bipush (-2), 2) := by decide +kernel
theorem dX9_put_16 : decode cX9_put 16 = .ok (.ireturn, 1) := by decide +kernel
theorem dX9_put_17 : decode cX9_put 17 = .ok (.aload_n 0, 1) := by decide +kernel
theorem dX9_put_18 : decode cX9_put 18 = .ok (.getfield 74, 3) := by decide +kernel
theorem dX9_put_21 : decode cX9_put 21 = .ok (.iload_n 1, 1) := by decide +kernel
theorem dX9_put_22 : decode cX9_put 22 = .ok (.aaload, 1) := by decide +kernel
theorem dX9_put_23 : decode cX9_put 23 = .ok (.astore 5, 2) := by decide +kernel
theorem dX9_put_25 : decode cX9_put 25 = .ok (.aload 5, 2) := by decide +kernel
theorem dX9_put_27 : decode cX9_put 27 = .ok (.iload_n 2, 1) := by decide +kernel
theorem dX9_put_28 : decode cX9_put 28 = .ok (.iload_n 3, 1) := by decide +kernel
theorem dX9_put_29 : decode cX9_put 29 = .ok (.invokevirtual 245, 3) := by decide +kernel
theorem dX9_put_32 : decode cX9_put 32 = .ok (.istore 6, 2) := by decide +kernel
theorem dX9_put_34 : decode cX9_put 34 = .ok (.iload 6, 2) := by decide +kernel
theorem dX9_put_36 : decode cX9_put 36 = .ok (.ifCond .eq 10, 3) := by decide +kernel
theorem dX9_put_39 : decode cX9_put 39 = .ok (.aload_n 0, 1) := by decide +kernel
theorem dX9_put_40 : decode cX9_put 40 = .ok (.iload 6, 2) := by decide +kernel
theorem dX9_put_42 : decode cX9_put 42 = .ok (.invokevirtual 146, 3) := by decide +kernel
theorem dX9_put_45 : decode cX9_put 45 = .ok (.ireturn, 1) := by decide +kernel
theorem dX9_put_46 : decode cX9_put 46 = .ok (.aload 5, 2) := by decide +kernel
theorem dX9_put_48 : decode cX9_put 48 = .ok (.iload_n 3, 1) := by decide +kernel
theorem dX9_put_49 : decode cX9_put 49 = .ok (.iload 4, 2) := by decide +kernel
theorem dX9_put_51 : decode cX9_put 51 = .ok (.invokevirtual 248, 3) := by decide +kernel
theorem dX9_put_54 : decode cX9_put 54 = .ok (.iconst 1, 1) := by decide +kernel
theorem dX9_put_55 : decode cX9_put 55 = .ok (.ireturn, 1) := by decide +kernel
theorem dX9_get_0 : decode cX9_get 0 = .ok (.iload_n 1, 1) := by decide +kernel
theorem dX9_get_1 : decode cX9_get 1 = .ok (.invokestatic 142, 3) := by decide +kernel
theorem dX9_get_4 : decode cX9_get 4 = .ok (.ifCond .eq 10, 3) := by decide +kernel
theorem dX9_get_7 : decode cX9_get 7 = .ok (.iload_n 2, 1) := by decide +kernel
theorem dX9_get_8 : decode cX9_get 8 = .ok (.invokestatic 233, 3) := by decide +kernel
theorem dX9_get_11 : decode cX9_get 11 = .ok (.ifCond .ne 6, 3) := by decide +kernel
theorem dX9_get_14 : decode cX9_get 14 = .ok (.ldc 252, 2) := by decide +kernel
theorem dX9_get_16 : decode cX9_get 16 = .ok (.ireturn, 1) := by decide +kernel
theorem dX9_get_17 : decode cX9_get 17 = .ok (.aload_n 0, 1) := by decide +kernel
theorem dX9_get_18 : decode cX9_get 18 = .ok (.getfield 74, 3) := by decide +kernel
theorem dX9_get_21 : decode cX9_get 21 = .ok (.iload_n 1, 1) := by decide +kernel
theorem dX9_get_22 : decode cX9_get 22 = .ok (.aaload, 1) := by decide +kernel
theorem dX9_get_23 : decode cX9_get 23 = .ok (.astore 4, 2) := by decide +kernel
theorem dX9_get_25 : decode cX9_get 25 = .ok (.aload 4, 2) := by decide +kernel
theorem dX9_get_27 : decode cX9_get 27 = .ok (.iload_n 2, 1) := by decide +kernel
theorem dX9_get_28 : decode cX9_get 28 = .ok (.iload_n 3, 1) := by decide +kernel
theorem dX9_get_29 : decode cX9_get 29 = .ok (.invokevirtual 245, 3) := by decide +kernel
theorem dX9_get_32 : decode cX9_get 32 = .ok (.istore 5, 2) := by decide +kernel
theorem dX9_get_34 : decode cX9_get 34 = .ok (.iload 5, 2) := by decide +kernel
theorem dX9_get_36 : decode cX9_get 36 = .ok (.ifCond .eq 12, 3) := by decide +kernel
theorem dX9_get_39 : decode cX9_get 39 = .ok (.aload_n 0, 1) := by decide +kernel
theorem dX9_get_40 : decode cX9_get 40 = .ok (.iload 5, 2) := by decide +kernel
theorem dX9_get_42 : decode cX9_get 42 = .ok (.putfield 253, 3) := by decide +kernel
theorem dX9_get_45 : decode cX9_get 45 = .ok (.ldc 252, 2) := by decide +kernel
theorem dX9_get_47 : decode cX9_get 47 = .ok (.ireturn, 1) := by decide +kernel
theorem dX9_get_48 : decode cX9_get 48 = .ok (.aload 4, 2) := by decide +kernel
theorem dX9_get_50 : decode cX9_get 50 = .ok (.getfield 149, 3) := by decide +kernel
theorem dX9_get_53 : decode cX9_get 53 = .ok (.iload_n 3, 1) := by decide +kernel
theorem dX9_get_54 : decode cX9_get 54 = .ok (.iaload, 1) := by decide +kernel
theorem dX9_get_55 : decode cX9_get 55 = .ok (.ireturn, 1) := by decide +kernel
theorem dX9_copy_0 : decode cX9_copy 0 = .ok (.iload_n 1, 1) := by decide +kernel
theorem dX9_copy_1 : decode cX9_copy 1 = .ok (.invokestatic 142, 3) := by decide +kernel
theorem dX9_copy_4 : decode cX9_copy 4 = .ok (.ifCond .eq 10, 3) := by decide +kernel
theorem dX9_copy_7 : decode cX9_copy 7 = .ok (.iload_n 3, 1) := by decide +kernel
theorem dX9_copy_8 : decode cX9_copy 8 = .ok (.invokestatic 142, 3) := by decide +kernel
theorem dX9_copy_11 : decode cX9_copy 11 = .ok (.ifCond .ne 6, 3) := by decide +kernel
theorem dX9_copy_14 : decode cX9_copy 14 = .ok (.bipush (-2), 2) := by decide +kernel
theorem dX9_copy_16 : decode cX9_copy 16 = .ok (.ireturn, 1) := by decide +kernel
theorem dX9_copy_17 : decode cX9_copy 17 = .ok (.aload_n 0, 1) := by decide +kernel
theorem dX9_copy_18 : decode cX9_copy 18 = .ok (.getfield 74, 3) := by decide +kernel
theorem dX9_copy_21 : decode cX9_copy 21 = .ok (.iload_n 1, 1) := by decide +kernel
theorem dX9_copy_22 : decode cX9_copy 22 = .ok (.aaload, 1) := by decide +kernel
theorem dX9_copy_23 : decode cX9_copy 23 = .ok (.astore 6, 2) := by decide +kernel
theorem dX9_copy_25 : decode cX9_copy 25 = .ok (.aload_n 0, 1) := by decide +kernel
theorem dX9_copy_26 : decode cX9_copy 26 = .ok (.getfield 74, 3) := by decide +kernel
theorem dX9_copy_29 : decode cX9_copy 29 = .ok (.iload_n 3, 1) := by decide +kernel
theorem dX9_copy_30 : decode cX9_copy 30 = .ok (.aaload, 1) := by decide +kernel
theorem dX9_copy_31 : decode cX9_copy 31 = .ok (.astore 7, 2) := by decide +kernel
theorem dX9_copy_33 : decode cX9_copy 33 = .ok (.aload 6, 2) := by decide +kernel
theorem dX9_copy_35 : decode cX9_copy 35 = .ok (.getfield 145, 3) := by decide +kernel
theorem dX9_copy_38 : decode cX9_copy 38 = .ok (.ifCond .lt 11, 3) := by decide +kernel
theorem dX9_copy_41 : decode cX9_copy 41 = .ok (.aload 7, 2) := by decide +kernel
theorem dX9_copy_43 : decode cX9_copy 43 = .ok (.getfield 145, 3) := by decide +kernel
theorem dX9_copy_46 : decode cX9_copy 46 = .ok (.ifCond .ge 9, 3) := by decide +kernel
theorem dX9_copy_49 : decode cX9_copy 49 = .ok (.aload_n 0, 1) := by decide +kernel
theorem dX9_copy_50 : decode cX9_copy 50 = .ok (.iconst 1, 1) := by decide +kernel
theorem dX9_copy_51 : decode cX9_copy 51 = .ok (.invokevirtual 146, 3) := by decide +kernel
theorem dX9_copy_54 : decode cX9_copy 54 = .ok (.ireturn, 1) := by decide +kernel
theorem dX9_copy_55 : decode cX9_copy 55 = .ok (.aload 6, 2) := by decide +kernel
theorem dX9_copy_57 : decode cX9_copy 57 = .ok (.getfield 236, 3) := by decide +kernel
theorem dX9_copy_60 : decode cX9_copy 60 = .ok (.aload 7, 2) := by decide +kernel
theorem dX9_copy_62 : decode cX9_copy 62 = .ok (.getfield 236, 3) := by decide +kernel
theorem dX9_copy_65 : decode cX9_copy 65 = .ok (.if_icmp .eq 9, 3) := by decide +kernel
theorem dX9_copy_68 : decode cX9_copy 68 = .ok (.aload_n 0, 1) := by decide +kernel
theorem dX9_copy_69 : decode cX9_copy 69 = .ok (.iconst 4, 1) := by decide +kernel
theorem dX9_copy_70 : decode cX9_copy 70 = .ok (.invokevirtual 146, 3) := by decide +kernel
theorem dX9_copy_73 : decode cX9_copy 73 = .ok (.ireturn, 1) := by decide +kernel
theorem dX9_copy_74 : decode cX9_copy 74 = .ok (.aload 6, 2) := by decide +kernel
theorem dX9_copy_76 : decode cX9_copy 76 = .ok (.iload_n 2, 1) := by decide +kernel
theorem dX9_copy_77 : decode cX9_copy 77 = .ok (.iload 5, 2) := by decide +kernel
theorem dX9_copy_79 : decode cX9_copy 79 = .ok (.invokevirtual 256, 3) := by decide +kernel
theorem dX9_copy_82 : decode cX9_copy 82 = .ok (.ifCond .eq 15, 3) := by decide +kernel
theorem dX9_copy_85 : decode cX9_copy 85 = .ok (.aload 7, 2) := by decide +kernel
theorem dX9_copy_87 : decode cX9_copy 87 = .ok (.iload 4, 2) := by decide +kernel
theorem dX9_copy_89 : decode cX9_copy 89 = .ok (.iload 5, 2) := by decide +kernel
theorem dX9_copy_91 : decode cX9_copy 91 = .ok (.invokevirtual 256, 3) := by decide +kernel
theorem dX9_copy_94 : decode cX9_copy 94 = .ok (.ifCond .ne 9, 3) := by decide +kernel
theorem dX9_copy_97 : decode cX9_copy 97 = .ok (.aload_n 0, 1) := by decide +kernel
theorem dX9_copy_98 : decode cX9_copy 98 = .ok (.iconst 2, 1) := by decide +kernel
theorem dX9_copy_99 : decode cX9_copy 99 = .ok (.invokevirtual 146, 3) := by decide +kernel
theorem dX9_copy_102 : decode cX9_copy 102 = .ok (.ireturn, 1) := by decide +kernel
theorem dX9_copy_103 : decode cX9_copy 103 = .ok (.aload 6, 2) := by decide +kernel
theorem dX9_copy_105 : decode cX9_copy 105 = .ok (.getfield 149, 3) := by decide +kernel
theorem dX9_copy_108 : decode cX9_copy 108 = .ok (.iload_n 2, 1) := by decide +kernel
theorem dX9_copy_109 : decode cX9_copy 109 = .ok (.aload 7, 2) := by decide +kernel
theorem dX9_copy_111 : decode cX9_copy 111 = .ok (.getfield 149, 3) := by decide +kernel
theorem dX9_copy_114 : decode cX9_copy 114 = .ok (.iload 4, 2) := by decide +kernel
theorem dX9_copy_116 : decode cX9_copy 116 = .ok (.iload 5, 2) := by decide +kernel
theorem dX9_copy_118 : decode cX9_copy 118 = .ok (.invokestatic 260, 3) := by decide +kernel
theorem dX9_copy_121 : decode cX9_copy 121 = .ok (.iconst 1, 1) := by decide +kernel
theorem dX9_copy_122 : decode cX9_copy 122 = .ok (.ireturn, 1) := by decide +kernel
theorem dX9_write_0 : decode cX9_write 0 = .ok (.iload_n 1, 1) := by decide +kernel
theorem dX9_write_1 : decode cX9_write 1 = .ok (.invokestatic 116, 3) := by decide +kernel
theorem dX9_write_4 : decode cX9_write 4 = .ok (.ifCond .eq 10, 3) := by decide +kernel
theorem dX9_write_7 : decode cX9_write 7 = .ok (.iload_n 2, 1) := by decide +kernel
theorem dX9_write_8 : decode cX9_write 8 = .ok (.invokestatic 142, 3) := by decide +kernel
theorem dX9_write_11 : decode cX9_write 11 = .ok (.ifCond .ne 6, 3) := by decide +kernel
theorem dX9_write_14 : decode cX9_write 14 = .ok (.bipush (-2), 2) := by decide +kernel
theorem dX9_write_16 : decode cX9_write 16 = .ok (.ireturn, 1) := by decide +kernel
