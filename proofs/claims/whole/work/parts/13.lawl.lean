set_option maxHeartbeats 8000000 in
set_option maxRecDepth 20000 in
theorem sgL_18 {E : En} {mc ms u v : Nat} {Z : List Frame → Array Value → State → State → Prop} {H : Hi} {zx3 : Int32} (hm : u ≤ mc ∧ v ≤ ms) (hX : (eX E).2.1 < 2 ^ 31)
    (hF : (((Int32.ofNat (eX E).2.1) - (6 : Int32)) < zx3 → (Rn E mL_law mc ms Z u v 1376 [none, none, none, none] [.int (1 : Int32)] nN (lay E H))) ∧ (¬ ((Int32.ofNat (eX E).2.1) - (6 : Int32)) < zx3 → (∃ zj_2 : Nat, (zj_2 < (eX E).2.1 ∧ zx3 = nI zj_2) ∧ ((((((eX E).2.2 zj_2) &&& (63 : Int32)).toInt < 0 ∨ 36 < (((eX E).2.2 zj_2) &&& (63 : Int32)).toInt) → (∀ zx3_4 : Int32, zx3_4 = zx3 + (6 : Int32) → (Rn E mL_law mc ms Z u v 18 [some (rs E), some (rf E 0), some (rf E 99), some (.int zx3_4)] [] nN (lay E H)))) ∧ ((((eX E).2.2 zj_2) &&& (63 : Int32)).toInt = 0 → (∃ zj_6 : Nat, (zj_6 < (eX E).2.1 ∧ zx3 + (1 : Int32) = nI zj_6) ∧ (∃ zj_7 : Nat, (zj_7 < (eX E).2.1 ∧ zx3 + (2 : Int32) = nI zj_7) ∧ (Cm E mX9_type [rf E 0, .int ((eX E).2.2 zj_6), .int ((eX E).2.2 zj_7)] H (fun w zH_8 => ∃ zr_9 : Int32, w = some (.int zr_9) ∧ (∃ zj_10 : Nat, (zj_10 < (eX E).2.1 ∧ zx3 + (1 : Int32) = nI zj_10) ∧ (∃ zj_11 : Nat, (zj_11 < (eX E).2.1 ∧ zx3 + (2 : Int32) = nI zj_11) ∧ (Cm E mX10_type [rf E 99, .int ((eX E).2.2 zj_10), .int ((eX E).2.2 zj_11)] zH_8 (fun w zH_12 => ∃ zr_13 : Int32, w = some (.int zr_13) ∧ ((zr_9 = zr_13 → (∀ zx3_15 : Int32, zx3_15 = zx3 + (6 : Int32) → (Rn E mL_law mc ms Z u v 18 [some (rs E), some (rf E 0), some (rf E 99), some (.int zx3_15)] [] nN (lay E zH_12)))) ∧ (¬ zr_9 = zr_13 → (Rn E mL_law mc ms Z u v 228 [none, none, none, none] [.int (0 : Int32)] nN (lay E zH_12))))))))))))) ∧ ((((eX E).2.2 zj_2) &&& (63 : Int32)).toInt = 1 → (∃ zj_17 : Nat, (zj_17 < (eX E).2.1 ∧ zx3 + (1 : Int32) = nI zj_17) ∧ (Cm E mX9_wipe [rf E 0, .int ((eX E).2.2 zj_17)] H (fun w zH_18 => ∃ zr_19 : Int32, w = some (.int zr_19) ∧ (∃ zj_20 : Nat, (zj_20 < (eX E).2.1 ∧ zx3 + (1 : Int32) = nI zj_20) ∧ (Cm E mX10_wipe [rf E 99, .int ((eX E).2.2 zj_20)] zH_18 (fun w zH_21 => ∃ zr_22 : Int32, w = some (.int zr_22) ∧ ((zr_19 = zr_22 → (∀ zx3_24 : Int32, zx3_24 = zx3 + (6 : Int32) → (Rn E mL_law mc ms Z u v 18 [some (rs E), some (rf E 0), some (rf E 99), some (.int zx3_24)] [] nN (lay E zH_21)))) ∧ (¬ zr_19 = zr_22 → (Rn E mL_law mc ms Z u v 251 [none, none, none, none] [.int (0 : Int32)] nN (lay E zH_21))))))))))) ∧ ((((eX E).2.2 zj_2) &&& (63 : Int32)).toInt = 2 → (∃ zj_26 : Nat, (zj_26 < (eX E).2.1 ∧ zx3 + (1 : Int32) = nI zj_26) ∧ (Cm E mX9_undo [rf E 0, .int ((eX E).2.2 zj_26)] H (fun w zH_27 => ∃ zr_28 : Int32, w = some (.int zr_28) ∧ (∃ zj_29 : Nat, (zj_29 < (eX E).2.1 ∧ zx3 + (1 : Int32) = nI zj_29) ∧ (Cm E mX10_undo [rf E 99, .int ((eX E).2.2 zj_29)] zH_27 (fun w zH_30 => ∃ zr_31 : Int32, w = some (.int zr_31) ∧ ((zr_28 = zr_31 → (∀ zx3_33 : Int32, zx3_33 = zx3 + (6 : Int32) → (Rn E mL_law mc ms Z u v 18 [some (rs E), some (rf E 0), some (rf E 99), some (.int zx3_33)] [] nN (lay E zH_30)))) ∧ (¬ zr_28 = zr_31 → (Rn E mL_law mc ms Z u v 274 [none, none, none, none] [.int (0 : Int32)] nN (lay E zH_30))))))))))) ∧ ((((eX E).2.2 zj_2) &&& (63 : Int32)).toInt = 3 → (∃ zj_35 : Nat, (zj_35 < (eX E).2.1 ∧ zx3 + (1 : Int32) = nI zj_35) ∧ (Cm E mX9_fault [rf E 0, .int ((eX E).2.2 zj_35)] H (fun w zH_36 => ∃ zr_37 : Int32, w = some (.int zr_37) ∧ (∃ zj_38 : Nat, (zj_38 < (eX E).2.1 ∧ zx3 + (1 : Int32) = nI zj_38) ∧ (Cm E mX10_fault [rf E 99, .int ((eX E).2.2 zj_38)] zH_36 (fun w zH_39 => ∃ zr_40 : Int32, w = some (.int zr_40) ∧ ((zr_37 = zr_40 → (∀ zx3_42 : Int32, zx3_42 = zx3 + (6 : Int32) → (Rn E mL_law mc ms Z u v 18 [some (rs E), some (rf E 0), some (rf E 99), some (.int zx3_42)] [] nN (lay E zH_39)))) ∧ (¬ zr_37 = zr_40 → (Rn E mL_law mc ms Z u v 297 [none, none, none, none] [.int (0 : Int32)] nN (lay E zH_39))))))))))) ∧ ((((eX E).2.2 zj_2) &&& (63 : Int32)).toInt = 4 → (∃ zj_44 : Nat, (zj_44 < (eX E).2.1 ∧ zx3 + (1 : Int32) = nI zj_44) ∧ (∃ zj_45 : Nat, (zj_45 < (eX E).2.1 ∧ zx3 + (2 : Int32) = nI zj_45) ∧ (Cm E mX9_thing [rf E 0, .int ((eX E).2.2 zj_44), .int ((eX E).2.2 zj_45)] H (fun w zH_46 => ∃ zr_47 : Int32, w = some (.int zr_47) ∧ (∃ zj_48 : Nat, (zj_48 < (eX E).2.1 ∧ zx3 + (1 : Int32) = nI zj_48) ∧ (∃ zj_49 : Nat, (zj_49 < (eX E).2.1 ∧ zx3 + (2 : Int32) = nI zj_49) ∧ (Cm E mX10_thing [rf E 99, .int ((eX E).2.2 zj_48), .int ((eX E).2.2 zj_49)] zH_46 (fun w zH_50 => ∃ zr_51 : Int32, w = some (.int zr_51) ∧ ((zr_47 = zr_51 → (∀ zx3_53 : Int32, zx3_53 = zx3 + (6 : Int32) → (Rn E mL_law mc ms Z u v 18 [some (rs E), some (rf E 0), some (rf E 99), some (.int zx3_53)] [] nN (lay E zH_50)))) ∧ (¬ zr_47 = zr_51 → (Rn E mL_law mc ms Z u v 330 [none, none, none, none] [.int (0 : Int32)] nN (lay E zH_50))))))))))))) ∧ ((((eX E).2.2 zj_2) &&& (63 : Int32)).toInt = 5 → (∃ zj_55 : Nat, (zj_55 < (eX E).2.1 ∧ zx3 + (1 : Int32) = nI zj_55) ∧ (∃ zj_56 : Nat, (zj_56 < (eX E).2.1 ∧ zx3 + (2 : Int32) = nI zj_56) ∧ (Cm E mX9_cousin [rf E 0, .int ((eX E).2.2 zj_55), .int ((eX E).2.2 zj_56)] H (fun w zH_57 => ∃ zr_58 : Int32, w = some (.int zr_58) ∧ (∃ zj_59 : Nat, (zj_59 < (eX E).2.1 ∧ zx3 + (1 : Int32) = nI zj_59) ∧ (∃ zj_60 : Nat, (zj_60 < (eX E).2.1 ∧ zx3 + (2 : Int32) = nI zj_60) ∧ (Cm E mX10_cousin [rf E 99, .int ((eX E).2.2 zj_59), .int ((eX E).2.2 zj_60)] zH_57 (fun w zH_61 => ∃ zr_62 : Int32, w = some (.int zr_62) ∧ ((zr_58 = zr_62 → (∀ zx3_64 : Int32, zx3_64 = zx3 + (6 : Int32) → (Rn E mL_law mc ms Z u v 18 [some (rs E), some (rf E 0), some (rf E 99), some (.int zx3_64)] [] nN (lay E zH_61)))) ∧ (¬ zr_58 = zr_62 → (Rn E mL_law mc ms Z u v 363 [none, none, none, none] [.int (0 : Int32)] nN (lay E zH_61))))))))))))) ∧ ((((eX E).2.2 zj_2) &&& (63 : Int32)).toInt = 6 → (∃ zj_66 : Nat, (zj_66 < (eX E).2.1 ∧ zx3 + (1 : Int32) = nI zj_66) ∧ (Cm E mX9_room [rf E 0, .int ((eX E).2.2 zj_66)] H (fun w zH_67 => ∃ zr_68 : Int32, w = some (.int zr_68) ∧ (∃ zj_69 : Nat, (zj_69 < (eX E).2.1 ∧ zx3 + (1 : Int32) = nI zj_69) ∧ (Cm E mX10_room [rf E 99, .int ((eX E).2.2 zj_69)] zH_67 (fun w zH_70 => ∃ zr_71 : Int32, w = some (.int zr_71) ∧ ((zr_68 = zr_71 → (∀ zx3_73 : Int32, zx3_73 = zx3 + (6 : Int32) → (Rn E mL_law mc ms Z u v 18 [some (rs E), some (rf E 0), some (rf E 99), some (.int zx3_73)] [] nN (lay E zH_70)))) ∧ (¬ zr_68 = zr_71 → (Rn E mL_law mc ms Z u v 386 [none, none, none, none] [.int (0 : Int32)] nN (lay E zH_70))))))))))) ∧ ((((eX E).2.2 zj_2) &&& (63 : Int32)).toInt = 7 → (∃ zj_75 : Nat, (zj_75 < (eX E).2.1 ∧ zx3 + (1 : Int32) = nI zj_75) ∧ (Cm E mX9_aunt [rf E 0, .int ((eX E).2.2 zj_75)] H (fun w zH_76 => ∃ zr_77 : Int32, w = some (.int zr_77) ∧ (∃ zj_78 : Nat, (zj_78 < (eX E).2.1 ∧ zx3 + (1 : Int32) = nI zj_78) ∧ (Cm E mX10_aunt [rf E 99, .int ((eX E).2.2 zj_78)] zH_76 (fun w zH_79 => ∃ zr_80 : Int32, w = some (.int zr_80) ∧ ((zr_77 = zr_80 → (∀ zx3_82 : Int32, zx3_82 = zx3 + (6 : Int32) → (Rn E mL_law mc ms Z u v 18 [some (rs E), some (rf E 0), some (rf E 99), some (.int zx3_82)] [] nN (lay E zH_79)))) ∧ (¬ zr_77 = zr_80 → (Rn E mL_law mc ms Z u v 409 [none, none, none, none] [.int (0 : Int32)] nN (lay E zH_79))))))))))) ∧ ((((eX E).2.2 zj_2) &&& (63 : Int32)).toInt = 8 → (∃ zj_84 : Nat, (zj_84 < (eX E).2.1 ∧ zx3 + (1 : Int32) = nI zj_84) ∧ (∃ zj_85 : Nat, (zj_85 < (eX E).2.1 ∧ zx3 + (2 : Int32) = nI zj_85) ∧ (∃ zj_86 : Nat, (zj_86 < (eX E).2.1 ∧ zx3 + (3 : Int32) = nI zj_86) ∧ (∃ zj_87 : Nat, (zj_87 < (eX E).2.1 ∧ zx3 + (4 : Int32) = nI zj_87) ∧ (Cm E mX9_hand [rf E 0, .int ((eX E).2.2 zj_84), .int ((eX E).2.2 zj_85), .int ((eX E).2.2 zj_86), .int ((eX E).2.2 zj_87)] H (fun w zH_88 => ∃ zr_89 : Int32, w = some (.int zr_89) ∧ (∃ zj_90 : Nat, (zj_90 < (eX E).2.1 ∧ zx3 + (1 : Int32) = nI zj_90) ∧ (∃ zj_91 : Nat, (zj_91 < (eX E).2.1 ∧ zx3 + (2 : Int32) = nI zj_91) ∧ (∃ zj_92 : Nat, (zj_92 < (eX E).2.1 ∧ zx3 + (3 : Int32) = nI zj_92) ∧ (∃ zj_93 : Nat, (zj_93 < (eX E).2.1 ∧ zx3 + (4 : Int32) = nI zj_93) ∧ (Cm E mX10_hand [rf E 99, .int ((eX E).2.2 zj_90), .int ((eX E).2.2 zj_91), .int ((eX E).2.2 zj_92), .int ((eX E).2.2 zj_93)] zH_88 (fun w zH_94 => ∃ zr_95 : Int32, w = some (.int zr_95) ∧ ((zr_89 = zr_95 → (∀ zx3_97 : Int32, zx3_97 = zx3 + (6 : Int32) → (Rn E mL_law mc ms Z u v 18 [some (rs E), some (rf E 0), some (rf E 99), some (.int zx3_97)] [] nN (lay E zH_94)))) ∧ (¬ zr_89 = zr_95 → (Rn E mL_law mc ms Z u v 462 [none, none, none, none] [.int (0 : Int32)] nN (lay E zH_94))))))))))))))))) ∧ ((((eX E).2.2 zj_2) &&& (63 : Int32)).toInt = 9 → (∃ zj_99 : Nat, (zj_99 < (eX E).2.1 ∧ zx3 + (1 : Int32) = nI zj_99) ∧ (∃ zj_100 : Nat, (zj_100 < (eX E).2.1 ∧ zx3 + (2 : Int32) = nI zj_100) ∧ (Cm E mX9_hole [rf E 0, .int ((eX E).2.2 zj_99), .int ((eX E).2.2 zj_100)] H (fun w zH_101 => ∃ zr_102 : Int32, w = some (.int zr_102) ∧ (∃ zj_103 : Nat, (zj_103 < (eX E).2.1 ∧ zx3 + (1 : Int32) = nI zj_103) ∧ (∃ zj_104 : Nat, (zj_104 < (eX E).2.1 ∧ zx3 + (2 : Int32) = nI zj_104) ∧ (Cm E mX10_hole [rf E 99, .int ((eX E).2.2 zj_103), .int ((eX E).2.2 zj_104)] zH_101 (fun w zH_105 => ∃ zr_106 : Int32, w = some (.int zr_106) ∧ ((zr_102 = zr_106 → (∀ zx3_108 : Int32, zx3_108 = zx3 + (6 : Int32) → (Rn E mL_law mc ms Z u v 18 [some (rs E), some (rf E 0), some (rf E 99), some (.int zx3_108)] [] nN (lay E zH_105)))) ∧ (¬ zr_102 = zr_106 → (Rn E mL_law mc ms Z u v 495 [none, none, none, none] [.int (0 : Int32)] nN (lay E zH_105))))))))))))) ∧ ((((eX E).2.2 zj_2) &&& (63 : Int32)).toInt = 10 → (∃ zj_110 : Nat, (zj_110 < (eX E).2.1 ∧ zx3 + (1 : Int32) = nI zj_110) ∧ (Cm E mX9_back [rf E 0, .int ((eX E).2.2 zj_110)] H (fun w zH_111 => ∃ zr_112 : Int32, w = some (.int zr_112) ∧ (∃ zj_113 : Nat, (zj_113 < (eX E).2.1 ∧ zx3 + (1 : Int32) = nI zj_113) ∧ (Cm E mX10_back [rf E 99, .int ((eX E).2.2 zj_113)] zH_111 (fun w zH_114 => ∃ zr_115 : Int32, w = some (.int zr_115) ∧ ((zr_112 = zr_115 → (∀ zx3_117 : Int32, zx3_117 = zx3 + (6 : Int32) → (Rn E mL_law mc ms Z u v 18 [some (rs E), some (rf E 0), some (rf E 99), some (.int zx3_117)] [] nN (lay E zH_114)))) ∧ (¬ zr_112 = zr_115 → (Rn E mL_law mc ms Z u v 518 [none, none, none, none] [.int (0 : Int32)] nN (lay E zH_114))))))))))) ∧ ((((eX E).2.2 zj_2) &&& (63 : Int32)).toInt = 11 → (∃ zj_119 : Nat, (zj_119 < (eX E).2.1 ∧ zx3 + (1 : Int32) = nI zj_119) ∧ (Cm E mX9_read [rf E 0, .int ((eX E).2.2 zj_119)] H (fun w zH_120 => ∃ zr_121 : Int32, w = some (.int zr_121) ∧ (∃ zj_122 : Nat, (zj_122 < (eX E).2.1 ∧ zx3 + (1 : Int32) = nI zj_122) ∧ (Cm E mX10_read [rf E 99, .int ((eX E).2.2 zj_122)] zH_120 (fun w zH_123 => ∃ zr_124 : Int32, w = some (.int zr_124) ∧ ((zr_121 = zr_124 → (∀ zx3_126 : Int32, zx3_126 = zx3 + (6 : Int32) → (Rn E mL_law mc ms Z u v 18 [some (rs E), some (rf E 0), some (rf E 99), some (.int zx3_126)] [] nN (lay E zH_123)))) ∧ (¬ zr_121 = zr_124 → (Rn E mL_law mc ms Z u v 541 [none, none, none, none] [.int (0 : Int32)] nN (lay E zH_123))))))))))) ∧ ((((eX E).2.2 zj_2) &&& (63 : Int32)).toInt = 12 → (∃ zj_128 : Nat, (zj_128 < (eX E).2.1 ∧ zx3 + (1 : Int32) = nI zj_128) ∧ (∃ zj_129 : Nat, (zj_129 < (eX E).2.1 ∧ zx3 + (2 : Int32) = nI zj_129) ∧ (Cm E mX9_where [rf E 0, .int ((eX E).2.2 zj_128), .int ((eX E).2.2 zj_129)] H (fun w zH_130 => ∃ zr_131 : Int32, w = some (.int zr_131) ∧ (∃ zj_132 : Nat, (zj_132 < (eX E).2.1 ∧ zx3 + (1 : Int32) = nI zj_132) ∧ (∃ zj_133 : Nat, (zj_133 < (eX E).2.1 ∧ zx3 + (2 : Int32) = nI zj_133) ∧ (Cm E mX10_where [rf E 99, .int ((eX E).2.2 zj_132), .int ((eX E).2.2 zj_133)] zH_130 (fun w zH_134 => ∃ zr_135 : Int32, w = some (.int zr_135) ∧ ((zr_131 = zr_135 → (∀ zx3_137 : Int32, zx3_137 = zx3 + (6 : Int32) → (Rn E mL_law mc ms Z u v 18 [some (rs E), some (rf E 0), some (rf E 99), some (.int zx3_137)] [] nN (lay E zH_134)))) ∧ (¬ zr_131 = zr_135 → (Rn E mL_law mc ms Z u v 574 [none, none, none, none] [.int (0 : Int32)] nN (lay E zH_134))))))))))))) ∧ ((((eX E).2.2 zj_2) &&& (63 : Int32)).toInt = 13 → (∃ zj_139 : Nat, (zj_139 < (eX E).2.1 ∧ zx3 + (1 : Int32) = nI zj_139) ∧ (∃ zj_140 : Nat, (zj_140 < (eX E).2.1 ∧ zx3 + (2 : Int32) = nI zj_140) ∧ (Cm E mX9_has [rf E 0, .int ((eX E).2.2 zj_139), .int ((eX E).2.2 zj_140)] H (fun w zH_141 => ∃ zr_142 : Int32, w = some (.int zr_142) ∧ (∃ zj_143 : Nat, (zj_143 < (eX E).2.1 ∧ zx3 + (1 : Int32) = nI zj_143) ∧ (∃ zj_144 : Nat, (zj_144 < (eX E).2.1 ∧ zx3 + (2 : Int32) = nI zj_144) ∧ (Cm E mX10_has [rf E 99, .int ((eX E).2.2 zj_143), .int ((eX E).2.2 zj_144)] zH_141 (fun w zH_145 => ∃ zr_146 : Int32, w = some (.int zr_146) ∧ ((zr_142 = zr_146 → (∀ zx3_148 : Int32, zx3_148 = zx3 + (6 : Int32) → (Rn E mL_law mc ms Z u v 18 [some (rs E), some (rf E 0), some (rf E 99), some (.int zx3_148)] [] nN (lay E zH_145)))) ∧ (¬ zr_142 = zr_146 → (Rn E mL_law mc ms Z u v 607 [none, none, none, none] [.int (0 : Int32)] nN (lay E zH_145))))))))))))) ∧ ((((eX E).2.2 zj_2) &&& (63 : Int32)).toInt = 14 → (∃ zj_150 : Nat, (zj_150 < (eX E).2.1 ∧ zx3 + (1 : Int32) = nI zj_150) ∧ (Cm E mX9_load [rf E 0, .int ((eX E).2.2 zj_150)] H (fun w zH_151 => ∃ zr_152 : Int32, w = some (.int zr_152) ∧ (∃ zj_153 : Nat, (zj_153 < (eX E).2.1 ∧ zx3 + (1 : Int32) = nI zj_153) ∧ (Cm E mX10_load [rf E 99, .int ((eX E).2.2 zj_153)] zH_151 (fun w zH_154 => ∃ zr_155 : Int32, w = some (.int zr_155) ∧ ((zr_152 = zr_155 → (∀ zx3_157 : Int32, zx3_157 = zx3 + (6 : Int32) → (Rn E mL_law mc ms Z u v 18 [some (rs E), some (rf E 0), some (rf E 99), some (.int zx3_157)] [] nN (lay E zH_154)))) ∧ (¬ zr_152 = zr_155 → (Rn E mL_law mc ms Z u v 630 [none, none, none, none] [.int (0 : Int32)] nN (lay E zH_154))))))))))) ∧ ((((eX E).2.2 zj_2) &&& (63 : Int32)).toInt = 15 → (∃ zj_159 : Nat, (zj_159 < (eX E).2.1 ∧ zx3 + (1 : Int32) = nI zj_159) ∧ (Cm E mX9_happy [rf E 0, .int ((eX E).2.2 zj_159)] H (fun w zH_160 => ∃ zr_161 : Int32, w = some (.int zr_161) ∧ (∃ zj_162 : Nat, (zj_162 < (eX E).2.1 ∧ zx3 + (1 : Int32) = nI zj_162) ∧ (Cm E mX10_happy [rf E 99, .int ((eX E).2.2 zj_162)] zH_160 (fun w zH_163 => ∃ zr_164 : Int32, w = some (.int zr_164) ∧ ((zr_161 = zr_164 → (∀ zx3_166 : Int32, zx3_166 = zx3 + (6 : Int32) → (Rn E mL_law mc ms Z u v 18 [some (rs E), some (rf E 0), some (rf E 99), some (.int zx3_166)] [] nN (lay E zH_163)))) ∧ (¬ zr_161 = zr_164 → (Rn E mL_law mc ms Z u v 653 [none, none, none, none] [.int (0 : Int32)] nN (lay E zH_163))))))))))) ∧ ((((eX E).2.2 zj_2) &&& (63 : Int32)).toInt = 16 → (∃ zj_168 : Nat, (zj_168 < (eX E).2.1 ∧ zx3 + (1 : Int32) = nI zj_168) ∧ (Cm E mX9_works [rf E 0, .int ((eX E).2.2 zj_168)] H (fun w zH_169 => ∃ zr_170 : Int32, w = some (.int zr_170) ∧ (∃ zj_171 : Nat, (zj_171 < (eX E).2.1 ∧ zx3 + (1 : Int32) = nI zj_171) ∧ (Cm E mX10_works [rf E 99, .int ((eX E).2.2 zj_171)] zH_169 (fun w zH_172 => ∃ zr_173 : Int32, w = some (.int zr_173) ∧ ((zr_170 = zr_173 → (∀ zx3_175 : Int32, zx3_175 = zx3 + (6 : Int32) → (Rn E mL_law mc ms Z u v 18 [some (rs E), some (rf E 0), some (rf E 99), some (.int zx3_175)] [] nN (lay E zH_172)))) ∧ (¬ zr_170 = zr_173 → (Rn E mL_law mc ms Z u v 676 [none, none, none, none] [.int (0 : Int32)] nN (lay E zH_172))))))))))) ∧ ((((eX E).2.2 zj_2) &&& (63 : Int32)).toInt = 17 → (Cm E mX9_fails [rf E 0] H (fun w zH_177 => ∃ zr_178 : Int32, w = some (.int zr_178) ∧ (Cm E mX10_fails [rf E 99] zH_177 (fun w zH_179 => ∃ zr_180 : Int32, w = some (.int zr_180) ∧ ((zr_178 = zr_180 → (∀ zx3_182 : Int32, zx3_182 = zx3 + (6 : Int32) → (Rn E mL_law mc ms Z u v 18 [some (rs E), some (rf E 0), some (rf E 99), some (.int zx3_182)] [] nN (lay E zH_179)))) ∧ (¬ zr_178 = zr_180 → (Rn E mL_law mc ms Z u v 689 [none, none, none, none] [.int (0 : Int32)] nN (lay E zH_179))))))))) ∧ ((((eX E).2.2 zj_2) &&& (63 : Int32)).toInt = 18 → (∃ zj_184 : Nat, (zj_184 < (eX E).2.1 ∧ zx3 + (1 : Int32) = nI zj_184) ∧ (Cm E mX9_went [rf E 0, .int ((eX E).2.2 zj_184)] H (fun w zH_185 => ∃ zr_186 : Int32, w = some (.int zr_186) ∧ (∃ zj_187 : Nat, (zj_187 < (eX E).2.1 ∧ zx3 + (1 : Int32) = nI zj_187) ∧ (Cm E mX10_went [rf E 99, .int ((eX E).2.2 zj_187)] zH_185 (fun w zH_188 => ∃ zr_189 : Int32, w = some (.int zr_189) ∧ ((zr_186 = zr_189 → (∀ zx3_191 : Int32, zx3_191 = zx3 + (6 : Int32) → (Rn E mL_law mc ms Z u v 18 [some (rs E), some (rf E 0), some (rf E 99), some (.int zx3_191)] [] nN (lay E zH_188)))) ∧ (¬ zr_186 = zr_189 → (Rn E mL_law mc ms Z u v 712 [none, none, none, none] [.int (0 : Int32)] nN (lay E zH_188))))))))))) ∧ ((((eX E).2.2 zj_2) &&& (63 : Int32)).toInt = 19 → (∃ zj_193 : Nat, (zj_193 < (eX E).2.1 ∧ zx3 + (1 : Int32) = nI zj_193) ∧ (∃ zj_194 : Nat, (zj_194 < (eX E).2.1 ∧ zx3 + (2 : Int32) = nI zj_194) ∧ (∃ zj_195 : Nat, (zj_195 < (eX E).2.1 ∧ zx3 + (3 : Int32) = nI zj_195) ∧ (∃ zj_196 : Nat, (zj_196 < (eX E).2.1 ∧ zx3 + (4 : Int32) = nI zj_196) ∧ (∃ zj_197 : Nat, (zj_197 < (eX E).2.1 ∧ zx3 + (5 : Int32) = nI zj_197) ∧ (Cm E mX9_lend [rf E 0, .int ((eX E).2.2 zj_193), .int ((eX E).2.2 zj_194), .int ((eX E).2.2 zj_195), .int ((eX E).2.2 zj_196), .int ((eX E).2.2 zj_197)] H (fun w zH_198 => ∃ zr_199 : Int32, w = some (.int zr_199) ∧ (∃ zj_200 : Nat, (zj_200 < (eX E).2.1 ∧ zx3 + (1 : Int32) = nI zj_200) ∧ (∃ zj_201 : Nat, (zj_201 < (eX E).2.1 ∧ zx3 + (2 : Int32) = nI zj_201) ∧ (∃ zj_202 : Nat, (zj_202 < (eX E).2.1 ∧ zx3 + (3 : Int32) = nI zj_202) ∧ (∃ zj_203 : Nat, (zj_203 < (eX E).2.1 ∧ zx3 + (4 : Int32) = nI zj_203) ∧ (∃ zj_204 : Nat, (zj_204 < (eX E).2.1 ∧ zx3 + (5 : Int32) = nI zj_204) ∧ (Cm E mX10_lend [rf E 99, .int ((eX E).2.2 zj_200), .int ((eX E).2.2 zj_201), .int ((eX E).2.2 zj_202), .int ((eX E).2.2 zj_203), .int ((eX E).2.2 zj_204)] zH_198 (fun w zH_205 => ∃ zr_206 : Int32, w = some (.int zr_206) ∧ ((zr_199 = zr_206 → (∀ zx3_208 : Int32, zx3_208 = zx3 + (6 : Int32) → (Rn E mL_law mc ms Z u v 18 [some (rs E), some (rf E 0), some (rf E 99), some (.int zx3_208)] [] nN (lay E zH_205)))) ∧ (¬ zr_199 = zr_206 → (Rn E mL_law mc ms Z u v 775 [none, none, none, none] [.int (0 : Int32)] nN (lay E zH_205))))))))))))))))))) ∧ ((((eX E).2.2 zj_2) &&& (63 : Int32)).toInt = 20 → (∃ zj_210 : Nat, (zj_210 < (eX E).2.1 ∧ zx3 + (1 : Int32) = nI zj_210) ∧ (Cm E mX9_hangs [rf E 0, .int ((eX E).2.2 zj_210)] H (fun w zH_211 => ∃ zr_212 : Int32, w = some (.int zr_212) ∧ (∃ zj_213 : Nat, (zj_213 < (eX E).2.1 ∧ zx3 + (1 : Int32) = nI zj_213) ∧ (Cm E mX10_hangs [rf E 99, .int ((eX E).2.2 zj_213)] zH_211 (fun w zH_214 => ∃ zr_215 : Int32, w = some (.int zr_215) ∧ ((zr_212 = zr_215 → (∀ zx3_217 : Int32, zx3_217 = zx3 + (6 : Int32) → (Rn E mL_law mc ms Z u v 18 [some (rs E), some (rf E 0), some (rf E 99), some (.int zx3_217)] [] nN (lay E zH_214)))) ∧ (¬ zr_212 = zr_215 → (Rn E mL_law mc ms Z u v 798 [none, none, none, none] [.int (0 : Int32)] nN (lay E zH_214))))))))))) ∧ ((((eX E).2.2 zj_2) &&& (63 : Int32)).toInt = 21 → (∃ zj_219 : Nat, (zj_219 < (eX E).2.1 ∧ zx3 + (1 : Int32) = nI zj_219) ∧ (∃ zj_220 : Nat, (zj_220 < (eX E).2.1 ∧ zx3 + (2 : Int32) = nI zj_220) ∧ (Cm E mX9_sort [rf E 0, .int ((eX E).2.2 zj_219), .int ((eX E).2.2 zj_220)] H (fun w zH_221 => ∃ zr_222 : Int32, w = some (.int zr_222) ∧ (∃ zj_223 : Nat, (zj_223 < (eX E).2.1 ∧ zx3 + (1 : Int32) = nI zj_223) ∧ (∃ zj_224 : Nat, (zj_224 < (eX E).2.1 ∧ zx3 + (2 : Int32) = nI zj_224) ∧ (Cm E mX10_sort [rf E 99, .int ((eX E).2.2 zj_223), .int ((eX E).2.2 zj_224)] zH_221 (fun w zH_225 => ∃ zr_226 : Int32, w = some (.int zr_226) ∧ ((zr_222 = zr_226 → (∀ zx3_228 : Int32, zx3_228 = zx3 + (6 : Int32) → (Rn E mL_law mc ms Z u v 18 [some (rs E), some (rf E 0), some (rf E 99), some (.int zx3_228)] [] nN (lay E zH_225)))) ∧ (¬ zr_222 = zr_226 → (Rn E mL_law mc ms Z u v 831 [none, none, none, none] [.int (0 : Int32)] nN (lay E zH_225))))))))))))) ∧ ((((eX E).2.2 zj_2) &&& (63 : Int32)).toInt = 22 → (∃ zj_230 : Nat, (zj_230 < (eX E).2.1 ∧ zx3 + (1 : Int32) = nI zj_230) ∧ (∃ zj_231 : Nat, (zj_231 < (eX E).2.1 ∧ zx3 + (2 : Int32) = nI zj_231) ∧ (∃ zj_232 : Nat, (zj_232 < (eX E).2.1 ∧ zx3 + (3 : Int32) = nI zj_232) ∧ (Cm E mX9_felt [rf E 0, .int ((eX E).2.2 zj_230), .int ((eX E).2.2 zj_231), .int ((eX E).2.2 zj_232)] H (fun w zH_233 => ∃ zr_234 : Int32, w = some (.int zr_234) ∧ (∃ zj_235 : Nat, (zj_235 < (eX E).2.1 ∧ zx3 + (1 : Int32) = nI zj_235) ∧ (∃ zj_236 : Nat, (zj_236 < (eX E).2.1 ∧ zx3 + (2 : Int32) = nI zj_236) ∧ (∃ zj_237 : Nat, (zj_237 < (eX E).2.1 ∧ zx3 + (3 : Int32) = nI zj_237) ∧ (Cm E mX10_felt [rf E 99, .int ((eX E).2.2 zj_235), .int ((eX E).2.2 zj_236), .int ((eX E).2.2 zj_237)] zH_233 (fun w zH_238 => ∃ zr_239 : Int32, w = some (.int zr_239) ∧ ((zr_234 = zr_239 → (∀ zx3_241 : Int32, zx3_241 = zx3 + (6 : Int32) → (Rn E mL_law mc ms Z u v 18 [some (rs E), some (rf E 0), some (rf E 99), some (.int zx3_241)] [] nN (lay E zH_238)))) ∧ (¬ zr_234 = zr_239 → (Rn E mL_law mc ms Z u v 874 [none, none, none, none] [.int (0 : Int32)] nN (lay E zH_238))))))))))))))) ∧ ((((eX E).2.2 zj_2) &&& (63 : Int32)).toInt = 23 → (Cm E mX9_forget [rf E 0] H (fun w zH_243 => ∃ zr_244 : Int32, w = some (.int zr_244) ∧ (Cm E mX10_forget [rf E 99] zH_243 (fun w zH_245 => ∃ zr_246 : Int32, w = some (.int zr_246) ∧ ((zr_244 = zr_246 → (∀ zx3_248 : Int32, zx3_248 = zx3 + (6 : Int32) → (Rn E mL_law mc ms Z u v 18 [some (rs E), some (rf E 0), some (rf E 99), some (.int zx3_248)] [] nN (lay E zH_245)))) ∧ (¬ zr_244 = zr_246 → (Rn E mL_law mc ms Z u v 887 [none, none, none, none] [.int (0 : Int32)] nN (lay E zH_245))))))))) ∧ ((((eX E).2.2 zj_2) &&& (63 : Int32)).toInt = 24 → (∃ zj_250 : Nat, (zj_250 < (eX E).2.1 ∧ zx3 + (1 : Int32) = nI zj_250) ∧ (∃ zj_251 : Nat, (zj_251 < (eX E).2.1 ∧ zx3 + (2 : Int32) = nI zj_251) ∧ (Cm E mX9_when [rf E 0, .int ((eX E).2.2 zj_250), .int ((eX E).2.2 zj_251)] H (fun w zH_252 => ∃ zr_253 : Int32, w = some (.int zr_253) ∧ (∃ zj_254 : Nat, (zj_254 < (eX E).2.1 ∧ zx3 + (1 : Int32) = nI zj_254) ∧ (∃ zj_255 : Nat, (zj_255 < (eX E).2.1 ∧ zx3 + (2 : Int32) = nI zj_255) ∧ (Cm E mX10_when [rf E 99, .int ((eX E).2.2 zj_254), .int ((eX E).2.2 zj_255)] zH_252 (fun w zH_256 => ∃ zr_257 : Int32, w = some (.int zr_257) ∧ ((zr_253 = zr_257 → (∀ zx3_259 : Int32, zx3_259 = zx3 + (6 : Int32) → (Rn E mL_law mc ms Z u v 18 [some (rs E), some (rf E 0), some (rf E 99), some (.int zx3_259)] [] nN (lay E zH_256)))) ∧ (¬ zr_253 = zr_257 → (Rn E mL_law mc ms Z u v 920 [none, none, none, none] [.int (0 : Int32)] nN (lay E zH_256))))))))))))) ∧ ((((eX E).2.2 zj_2) &&& (63 : Int32)).toInt = 25 → (∃ zj_261 : Nat, (zj_261 < (eX E).2.1 ∧ zx3 + (1 : Int32) = nI zj_261) ∧ (Cm E mX9_thief [rf E 0, .int ((eX E).2.2 zj_261)] H (fun w zH_262 => ∃ zr_263 : Int32, w = some (.int zr_263) ∧ (∃ zj_264 : Nat, (zj_264 < (eX E).2.1 ∧ zx3 + (1 : Int32) = nI zj_264) ∧ (Cm E mX10_thief [rf E 99, .int ((eX E).2.2 zj_264)] zH_262 (fun w zH_265 => ∃ zr_266 : Int32, w = some (.int zr_266) ∧ ((zr_263 = zr_266 → (∀ zx3_268 : Int32, zx3_268 = zx3 + (6 : Int32) → (Rn E mL_law mc ms Z u v 18 [some (rs E), some (rf E 0), some (rf E 99), some (.int zx3_268)] [] nN (lay E zH_265)))) ∧ (¬ zr_263 = zr_266 → (Rn E mL_law mc ms Z u v 943 [none, none, none, none] [.int (0 : Int32)] nN (lay E zH_265))))))))))) ∧ ((((eX E).2.2 zj_2) &&& (63 : Int32)).toInt = 26 → (∃ zj_270 : Nat, (zj_270 < (eX E).2.1 ∧ zx3 + (1 : Int32) = nI zj_270) ∧ (∃ zj_271 : Nat, (zj_271 < (eX E).2.1 ∧ zx3 + (2 : Int32) = nI zj_271) ∧ (Cm E mX9_feel [rf E 0, .int ((eX E).2.2 zj_270), .int ((eX E).2.2 zj_271)] H (fun w zH_272 => ∃ zr_273 : Int32, w = some (.int zr_273) ∧ (∃ zj_274 : Nat, (zj_274 < (eX E).2.1 ∧ zx3 + (1 : Int32) = nI zj_274) ∧ (∃ zj_275 : Nat, (zj_275 < (eX E).2.1 ∧ zx3 + (2 : Int32) = nI zj_275) ∧ (Cm E mX10_feel [rf E 99, .int ((eX E).2.2 zj_274), .int ((eX E).2.2 zj_275)] zH_272 (fun w zH_276 => ∃ zr_277 : Int32, w = some (.int zr_277) ∧ ((zr_273 = zr_277 → (∀ zx3_279 : Int32, zx3_279 = zx3 + (6 : Int32) → (Rn E mL_law mc ms Z u v 18 [some (rs E), some (rf E 0), some (rf E 99), some (.int zx3_279)] [] nN (lay E zH_276)))) ∧ (¬ zr_273 = zr_277 → (Rn E mL_law mc ms Z u v 976 [none, none, none, none] [.int (0 : Int32)] nN (lay E zH_276))))))))))))) ∧ ((((eX E).2.2 zj_2) &&& (63 : Int32)).toInt = 27 → (∃ zj_281 : Nat, (zj_281 < (eX E).2.1 ∧ zx3 + (1 : Int32) = nI zj_281) ∧ (∃ zj_282 : Nat, (zj_282 < (eX E).2.1 ∧ zx3 + (2 : Int32) = nI zj_282) ∧ (∃ zj_283 : Nat, (zj_283 < (eX E).2.1 ∧ zx3 + (3 : Int32) = nI zj_283) ∧ (∃ zj_284 : Nat, (zj_284 < (eX E).2.1 ∧ zx3 + (4 : Int32) = nI zj_284) ∧ (Cm E mX9_jumps [rf E 0, .int ((eX E).2.2 zj_281), .int ((eX E).2.2 zj_282), .int ((eX E).2.2 zj_283), .int ((eX E).2.2 zj_284)] H (fun w zH_285 => ∃ zr_286 : Int64, w = some (.long zr_286) ∧ (∃ zj_287 : Nat, (zj_287 < (eX E).2.1 ∧ zx3 + (1 : Int32) = nI zj_287) ∧ (∃ zj_288 : Nat, (zj_288 < (eX E).2.1 ∧ zx3 + (2 : Int32) = nI zj_288) ∧ (∃ zj_289 : Nat, (zj_289 < (eX E).2.1 ∧ zx3 + (3 : Int32) = nI zj_289) ∧ (∃ zj_290 : Nat, (zj_290 < (eX E).2.1 ∧ zx3 + (4 : Int32) = nI zj_290) ∧ (Cm E mX10_jumps [rf E 99, .int ((eX E).2.2 zj_287), .int ((eX E).2.2 zj_288), .int ((eX E).2.2 zj_289), .int ((eX E).2.2 zj_290)] zH_285 (fun w zH_291 => ∃ zr_292 : Int64, w = some (.long zr_292) ∧ (((lg_cmp zr_286 zr_292) = 0 → (∀ zx3_294 : Int32, zx3_294 = zx3 + (6 : Int32) → (Rn E mL_law mc ms Z u v 18 [some (rs E), some (rf E 0), some (rf E 99), some (.int zx3_294)] [] nN (lay E zH_291)))) ∧ (¬ (lg_cmp zr_286 zr_292) = 0 → (Rn E mL_law mc ms Z u v 1030 [none, none, none, none] [.int (0 : Int32)] nN (lay E zH_291))))))))))))))))) ∧ ((((eX E).2.2 zj_2) &&& (63 : Int32)).toInt = 28 → (∃ zj_296 : Nat, (zj_296 < (eX E).2.1 ∧ zx3 + (1 : Int32) = nI zj_296) ∧ (∃ zj_297 : Nat, (zj_297 < (eX E).2.1 ∧ zx3 + (2 : Int32) = nI zj_297) ∧ (∃ zj_298 : Nat, (zj_298 < (eX E).2.1 ∧ zx3 + (3 : Int32) = nI zj_298) ∧ (Cm E mX9_day [rf E 0, .int ((eX E).2.2 zj_296), .int ((eX E).2.2 zj_297), .int ((eX E).2.2 zj_298)] H (fun w zH_299 => ∃ zr_300 : Int32, w = some (.int zr_300) ∧ (∃ zj_301 : Nat, (zj_301 < (eX E).2.1 ∧ zx3 + (1 : Int32) = nI zj_301) ∧ (∃ zj_302 : Nat, (zj_302 < (eX E).2.1 ∧ zx3 + (2 : Int32) = nI zj_302) ∧ (∃ zj_303 : Nat, (zj_303 < (eX E).2.1 ∧ zx3 + (3 : Int32) = nI zj_303) ∧ (Cm E mX10_day [rf E 99, .int ((eX E).2.2 zj_301), .int ((eX E).2.2 zj_302), .int ((eX E).2.2 zj_303)] zH_299 (fun w zH_304 => ∃ zr_305 : Int32, w = some (.int zr_305) ∧ ((zr_300 = zr_305 → (∀ zx3_307 : Int32, zx3_307 = zx3 + (6 : Int32) → (Rn E mL_law mc ms Z u v 18 [some (rs E), some (rf E 0), some (rf E 99), some (.int zx3_307)] [] nN (lay E zH_304)))) ∧ (¬ zr_300 = zr_305 → (Rn E mL_law mc ms Z u v 1073 [none, none, none, none] [.int (0 : Int32)] nN (lay E zH_304))))))))))))))) ∧ ((((eX E).2.2 zj_2) &&& (63 : Int32)).toInt = 29 → (∃ zj_309 : Nat, (zj_309 < (eX E).2.1 ∧ zx3 + (1 : Int32) = nI zj_309) ∧ (∃ zj_310 : Nat, (zj_310 < (eX E).2.1 ∧ zx3 + (2 : Int32) = nI zj_310) ∧ (∃ zj_311 : Nat, (zj_311 < (eX E).2.1 ∧ zx3 + (3 : Int32) = nI zj_311) ∧ (Cm E mX9_sheet [rf E 0, .int ((eX E).2.2 zj_309), .int ((eX E).2.2 zj_310), .int ((eX E).2.2 zj_311)] H (fun w zH_312 => ∃ zr_313 : Int32, w = some (.int zr_313) ∧ (∃ zj_314 : Nat, (zj_314 < (eX E).2.1 ∧ zx3 + (1 : Int32) = nI zj_314) ∧ (∃ zj_315 : Nat, (zj_315 < (eX E).2.1 ∧ zx3 + (2 : Int32) = nI zj_315) ∧ (∃ zj_316 : Nat, (zj_316 < (eX E).2.1 ∧ zx3 + (3 : Int32) = nI zj_316) ∧ (Cm E mX10_sheet [rf E 99, .int ((eX E).2.2 zj_314), .int ((eX E).2.2 zj_315), .int ((eX E).2.2 zj_316)] zH_312 (fun w zH_317 => ∃ zr_318 : Int32, w = some (.int zr_318) ∧ ((zr_313 = zr_318 → (∀ zx3_320 : Int32, zx3_320 = zx3 + (6 : Int32) → (Rn E mL_law mc ms Z u v 18 [some (rs E), some (rf E 0), some (rf E 99), some (.int zx3_320)] [] nN (lay E zH_317)))) ∧ (¬ zr_313 = zr_318 → (Rn E mL_law mc ms Z u v 1116 [none, none, none, none] [.int (0 : Int32)] nN (lay E zH_317))))))))))))))) ∧ ((((eX E).2.2 zj_2) &&& (63 : Int32)).toInt = 30 → (∃ zj_322 : Nat, (zj_322 < (eX E).2.1 ∧ zx3 + (1 : Int32) = nI zj_322) ∧ (Cm E mX9_lose [rf E 0, .int ((eX E).2.2 zj_322)] H (fun w zH_323 => ∃ zr_324 : Int32, w = some (.int zr_324) ∧ (∃ zj_325 : Nat, (zj_325 < (eX E).2.1 ∧ zx3 + (1 : Int32) = nI zj_325) ∧ (Cm E mX10_lose [rf E 99, .int ((eX E).2.2 zj_325)] zH_323 (fun w zH_326 => ∃ zr_327 : Int32, w = some (.int zr_327) ∧ ((zr_324 = zr_327 → (∀ zx3_329 : Int32, zx3_329 = zx3 + (6 : Int32) → (Rn E mL_law mc ms Z u v 18 [some (rs E), some (rf E 0), some (rf E 99), some (.int zx3_329)] [] nN (lay E zH_326)))) ∧ (¬ zr_324 = zr_327 → (Rn E mL_law mc ms Z u v 1139 [none, none, none, none] [.int (0 : Int32)] nN (lay E zH_326))))))))))) ∧ ((((eX E).2.2 zj_2) &&& (63 : Int32)).toInt = 31 → (∃ zj_331 : Nat, (zj_331 < (eX E).2.1 ∧ zx3 + (1 : Int32) = nI zj_331) ∧ (∃ zj_332 : Nat, (zj_332 < (eX E).2.1 ∧ zx3 + (2 : Int32) = nI zj_332) ∧ (∃ zj_333 : Nat, (zj_333 < (eX E).2.1 ∧ zx3 + (3 : Int32) = nI zj_333) ∧ (∃ zj_334 : Nat, (zj_334 < (eX E).2.1 ∧ zx3 + (4 : Int32) = nI zj_334) ∧ (Cm E mX9_put [rf E 0, .int ((eX E).2.2 zj_331), .int ((eX E).2.2 zj_332), .int ((eX E).2.2 zj_333), .int ((eX E).2.2 zj_334)] H (fun w zH_335 => ∃ zr_336 : Int32, w = some (.int zr_336) ∧ (∃ zj_337 : Nat, (zj_337 < (eX E).2.1 ∧ zx3 + (1 : Int32) = nI zj_337) ∧ (∃ zj_338 : Nat, (zj_338 < (eX E).2.1 ∧ zx3 + (2 : Int32) = nI zj_338) ∧ (∃ zj_339 : Nat, (zj_339 < (eX E).2.1 ∧ zx3 + (3 : Int32) = nI zj_339) ∧ (∃ zj_340 : Nat, (zj_340 < (eX E).2.1 ∧ zx3 + (4 : Int32) = nI zj_340) ∧ (Cm E mX10_put [rf E 99, .int ((eX E).2.2 zj_337), .int ((eX E).2.2 zj_338), .int ((eX E).2.2 zj_339), .int ((eX E).2.2 zj_340)] zH_335 (fun w zH_341 => ∃ zr_342 : Int32, w = some (.int zr_342) ∧ ((zr_336 = zr_342 → (∀ zx3_344 : Int32, zx3_344 = zx3 + (6 : Int32) → (Rn E mL_law mc ms Z u v 18 [some (rs E), some (rf E 0), some (rf E 99), some (.int zx3_344)] [] nN (lay E zH_341)))) ∧ (¬ zr_336 = zr_342 → (Rn E mL_law mc ms Z u v 1192 [none, none, none, none] [.int (0 : Int32)] nN (lay E zH_341))))))))))))))))) ∧ ((((eX E).2.2 zj_2) &&& (63 : Int32)).toInt = 32 → (∃ zj_346 : Nat, (zj_346 < (eX E).2.1 ∧ zx3 + (1 : Int32) = nI zj_346) ∧ (∃ zj_347 : Nat, (zj_347 < (eX E).2.1 ∧ zx3 + (2 : Int32) = nI zj_347) ∧ (∃ zj_348 : Nat, (zj_348 < (eX E).2.1 ∧ zx3 + (3 : Int32) = nI zj_348) ∧ (Cm E mX9_get [rf E 0, .int ((eX E).2.2 zj_346), .int ((eX E).2.2 zj_347), .int ((eX E).2.2 zj_348)] H (fun w zH_349 => ∃ zr_350 : Int32, w = some (.int zr_350) ∧ (∃ zj_351 : Nat, (zj_351 < (eX E).2.1 ∧ zx3 + (1 : Int32) = nI zj_351) ∧ (∃ zj_352 : Nat, (zj_352 < (eX E).2.1 ∧ zx3 + (2 : Int32) = nI zj_352) ∧ (∃ zj_353 : Nat, (zj_353 < (eX E).2.1 ∧ zx3 + (3 : Int32) = nI zj_353) ∧ (Cm E mX10_get [rf E 99, .int ((eX E).2.2 zj_351), .int ((eX E).2.2 zj_352), .int ((eX E).2.2 zj_353)] zH_349 (fun w zH_354 => ∃ zr_355 : Int32, w = some (.int zr_355) ∧ ((zr_350 = zr_355 → (∀ zx3_357 : Int32, zx3_357 = zx3 + (6 : Int32) → (Rn E mL_law mc ms Z u v 18 [some (rs E), some (rf E 0), some (rf E 99), some (.int zx3_357)] [] nN (lay E zH_354)))) ∧ (¬ zr_350 = zr_355 → (Rn E mL_law mc ms Z u v 1235 [none, none, none, none] [.int (0 : Int32)] nN (lay E zH_354))))))))))))))) ∧ ((((eX E).2.2 zj_2) &&& (63 : Int32)).toInt = 33 → (∃ zj_359 : Nat, (zj_359 < (eX E).2.1 ∧ zx3 + (1 : Int32) = nI zj_359) ∧ (∃ zj_360 : Nat, (zj_360 < (eX E).2.1 ∧ zx3 + (2 : Int32) = nI zj_360) ∧ (∃ zj_361 : Nat, (zj_361 < (eX E).2.1 ∧ zx3 + (3 : Int32) = nI zj_361) ∧ (∃ zj_362 : Nat, (zj_362 < (eX E).2.1 ∧ zx3 + (4 : Int32) = nI zj_362) ∧ (∃ zj_363 : Nat, (zj_363 < (eX E).2.1 ∧ zx3 + (5 : Int32) = nI zj_363) ∧ (Cm E mX9_copy [rf E 0, .int ((eX E).2.2 zj_359), .int ((eX E).2.2 zj_360), .int ((eX E).2.2 zj_361), .int ((eX E).2.2 zj_362), .int ((eX E).2.2 zj_363)] H (fun w zH_364 => ∃ zr_365 : Int32, w = some (.int zr_365) ∧ (∃ zj_366 : Nat, (zj_366 < (eX E).2.1 ∧ zx3 + (1 : Int32) = nI zj_366) ∧ (∃ zj_367 : Nat, (zj_367 < (eX E).2.1 ∧ zx3 + (2 : Int32) = nI zj_367) ∧ (∃ zj_368 : Nat, (zj_368 < (eX E).2.1 ∧ zx3 + (3 : Int32) = nI zj_368) ∧ (∃ zj_369 : Nat, (zj_369 < (eX E).2.1 ∧ zx3 + (4 : Int32) = nI zj_369) ∧ (∃ zj_370 : Nat, (zj_370 < (eX E).2.1 ∧ zx3 + (5 : Int32) = nI zj_370) ∧ (Cm E mX10_copy [rf E 99, .int ((eX E).2.2 zj_366), .int ((eX E).2.2 zj_367), .int ((eX E).2.2 zj_368), .int ((eX E).2.2 zj_369), .int ((eX E).2.2 zj_370)] zH_364 (fun w zH_371 => ∃ zr_372 : Int32, w = some (.int zr_372) ∧ ((zr_365 = zr_372 → (∀ zx3_374 : Int32, zx3_374 = zx3 + (6 : Int32) → (Rn E mL_law mc ms Z u v 18 [some (rs E), some (rf E 0), some (rf E 99), some (.int zx3_374)] [] nN (lay E zH_371)))) ∧ (¬ zr_365 = zr_372 → (Rn E mL_law mc ms Z u v 1298 [none, none, none, none] [.int (0 : Int32)] nN (lay E zH_371))))))))))))))))))) ∧ ((((eX E).2.2 zj_2) &&& (63 : Int32)).toInt = 34 → (∃ zj_376 : Nat, (zj_376 < (eX E).2.1 ∧ zx3 + (1 : Int32) = nI zj_376) ∧ (∃ zj_377 : Nat, (zj_377 < (eX E).2.1 ∧ zx3 + (2 : Int32) = nI zj_377) ∧ (Cm E mX9_write [rf E 0, .int ((eX E).2.2 zj_376), .int ((eX E).2.2 zj_377)] H (fun w zH_378 => ∃ zr_379 : Int32, w = some (.int zr_379) ∧ (∃ zj_380 : Nat, (zj_380 < (eX E).2.1 ∧ zx3 + (1 : Int32) = nI zj_380) ∧ (∃ zj_381 : Nat, (zj_381 < (eX E).2.1 ∧ zx3 + (2 : Int32) = nI zj_381) ∧ (Cm E mX10_write [rf E 99, .int ((eX E).2.2 zj_380), .int ((eX E).2.2 zj_381)] zH_378 (fun w zH_382 => ∃ zr_383 : Int32, w = some (.int zr_383) ∧ ((zr_379 = zr_383 → (∀ zx3_385 : Int32, zx3_385 = zx3 + (6 : Int32) → (Rn E mL_law mc ms Z u v 18 [some (rs E), some (rf E 0), some (rf E 99), some (.int zx3_385)] [] nN (lay E zH_382)))) ∧ (¬ zr_379 = zr_383 → (Rn E mL_law mc ms Z u v 1331 [none, none, none, none] [.int (0 : Int32)] nN (lay E zH_382))))))))))))) ∧ ((((eX E).2.2 zj_2) &&& (63 : Int32)).toInt = 35 → (∃ zj_387 : Nat, (zj_387 < (eX E).2.1 ∧ zx3 + (1 : Int32) = nI zj_387) ∧ (Cm E mX9_count [rf E 0, .int ((eX E).2.2 zj_387)] H (fun w zH_388 => ∃ zr_389 : Int32, w = some (.int zr_389) ∧ (∃ zj_390 : Nat, (zj_390 < (eX E).2.1 ∧ zx3 + (1 : Int32) = nI zj_390) ∧ (Cm E mX10_count [rf E 99, .int ((eX E).2.2 zj_390)] zH_388 (fun w zH_391 => ∃ zr_392 : Int32, w = some (.int zr_392) ∧ ((zr_389 = zr_392 → (∀ zx3_394 : Int32, zx3_394 = zx3 + (6 : Int32) → (Rn E mL_law mc ms Z u v 18 [some (rs E), some (rf E 0), some (rf E 99), some (.int zx3_394)] [] nN (lay E zH_391)))) ∧ (¬ zr_389 = zr_392 → (Rn E mL_law mc ms Z u v 1354 [none, none, none, none] [.int (0 : Int32)] nN (lay E zH_391))))))))))) ∧ ((((eX E).2.2 zj_2) &&& (63 : Int32)).toInt = 36 → (Cm E mX9_digest [rf E 0] H (fun w zH_396 => ∃ zr_397 : Int64, w = some (.long zr_397) ∧ (Cm E mX10_digest [rf E 99] zH_396 (fun w zH_398 => ∃ zr_399 : Int64, w = some (.long zr_399) ∧ (((lg_cmp zr_397 zr_399) = 0 → (∀ zx3_401 : Int32, zx3_401 = zx3 + (6 : Int32) → (Rn E mL_law mc ms Z u v 18 [some (rs E), some (rf E 0), some (rf E 99), some (.int zx3_401)] [] nN (lay E zH_398)))) ∧ (¬ (lg_cmp zr_397 zr_399) = 0 → (Rn E mL_law mc ms Z u v 1368 [none, none, none, none] [.int (0 : Int32)] nN (lay E zH_398))))))))) ∧ True)))) :
    Rn E mL_law mc ms Z u v 18 [some (rs E), some (rf E 0), some (rf E 99), some (.int zx3)] [] nN (lay E H) := by
  refine rn_iload_n dL_law_18 rfl ?_
  refine rn_aload_n dL_law_19 rfl ?_
  refine rn_slen dL_law_20 ?_
  refine rn_bipush (x := (6 : Int32)) dL_law_21 (by decide) ?_
  refine rn_isub dL_law_23 ?_
  refine rn_icmp_gt (tgt := 1375) dL_law_24 (by decide) (fun hc_1 => ?_) (fun hc_1 => ?_)
  · replace hF := hF.1 hc_1
    refine rn_iconst (x := (1 : Int32)) dL_law_1375 (by decide) ?_
    exact rn_wk (L' := [none, none, none, none]) (trivial) hF
  · replace hF := hF.2 hc_1
    refine rn_aload_n dL_law_27 rfl ?_
    refine rn_iload_n dL_law_28 rfl ?_
    obtain ⟨zj_2, hzj_2, hF⟩ := hF
    refine rj_sld (k := zj_2) hzj_2 hX dL_law_29 ?_
    refine rn_bipush (x := (63 : Int32)) dL_law_30 (by decide) ?_
    refine rn_iand dL_law_32 ?_
    by_cases hc_3 : (((eX E).2.2 zj_2) &&& (63 : Int32)).toInt < 0 ∨ 36 < (((eX E).2.2 zj_2) &&& (63 : Int32)).toInt
    · refine rn_tabOut (tgt := 1369) dL_law_33 hc_3 (by decide) ?_
      replace hF := hF.1 hc_3
      refine rn_iinc (w := (6 : Int32)) dL_law_1369 rfl (by decide) rfl (Nat.le_of_ble_eq_true rfl) (fun zx3_4 ezx3_4 => ?_)
      replace hF := hF zx3_4 ezx3_4
      show Rn _ _ _ _ _ _ _ _ [some (rs E), some (rf E 0), some (rf E 99), some (.int zx3_4)] _ _ _
      refine rn_goto (tgt := 18) dL_law_1372 (by decide) ?_
      exact rn_wk (L' := [some (rs E), some (rf E 0), some (rf E 99), some (.int zx3_4)]) (⟨rfl, ⟨rfl, ⟨rfl, ⟨rfl, trivial⟩⟩⟩⟩) hF
    · replace hF := hF.2
      obtain ⟨hk_5, hk_5r⟩ : (0 : Int) ≤ (((eX E).2.2 zj_2) &&& (63 : Int32)).toInt ∧ (((eX E).2.2 zj_2) &&& (63 : Int32)).toInt ≤ 36 := by omega
      by_cases hq_16 : (((eX E).2.2 zj_2) &&& (63 : Int32)).toInt = 0
      · replace hF := hF.1 hq_16
        refine rn_tabIn (tgt := 196) dL_law_33 (by omega) (by omega) (by rw [hq_16]; rfl) (by decide) ?_
        refine rn_aload_n dL_law_196 rfl ?_
        refine rn_aload_n dL_law_197 rfl ?_
        refine rn_iload_n dL_law_198 rfl ?_
        refine rn_iconst (x := (1 : Int32)) dL_law_199 (by decide) ?_
        refine rn_iadd dL_law_200 ?_
        obtain ⟨zj_6, hzj_6, hF⟩ := hF
        refine rj_sld (k := zj_6) hzj_6 hX dL_law_201 ?_
        refine rn_aload_n dL_law_202 rfl ?_
        refine rn_iload_n dL_law_203 rfl ?_
        refine rn_iconst (x := (2 : Int32)) dL_law_204 (by decide) ?_
        refine rn_iadd dL_law_205 ?_
        obtain ⟨zj_7, hzj_7, hF⟩ := hF
        refine rj_sld (k := zj_7) hzj_7 hX dL_law_206 ?_
        refine rm_callV (c0 := 0) (As := [.int ((eX E).2.2 zj_6), .int ((eX E).2.2 zj_7)]) (st := []) mlRL_13 mdX9_type (Nat.le_of_ble_eq_true rfl) rfl (by decide) (by decide) rfl rfl rfl (Nat.le_of_ble_eq_true rfl) hm dL_law_207 ?_
        refine cm_mono hF (fun w zH_8 hF => ?_)
        obtain ⟨zr_9, rfl, hF⟩ := hF
        refine rn_aload_n dL_law_210 rfl ?_
        refine rn_aload_n dL_law_211 rfl ?_
        refine rn_iload_n dL_law_212 rfl ?_
        refine rn_iconst (x := (1 : Int32)) dL_law_213 (by decide) ?_
        refine rn_iadd dL_law_214 ?_
        obtain ⟨zj_10, hzj_10, hF⟩ := hF
        refine rj_sld (k := zj_10) hzj_10 hX dL_law_215 ?_
        refine rn_aload_n dL_law_216 rfl ?_
        refine rn_iload_n dL_law_217 rfl ?_
        refine rn_iconst (x := (2 : Int32)) dL_law_218 (by decide) ?_
        refine rn_iadd dL_law_219 ?_
        obtain ⟨zj_11, hzj_11, hF⟩ := hF
        refine rj_sld (k := zj_11) hzj_11 hX dL_law_220 ?_
        refine rm_callV (c0 := 99) (As := [.int ((eX E).2.2 zj_10), .int ((eX E).2.2 zj_11)]) (st := [.int zr_9]) mlRL_17 mdX10_type (Nat.le_of_ble_eq_true rfl) rfl (by decide) (by decide) rfl rfl rfl (Nat.le_of_ble_eq_true rfl) hm dL_law_221 ?_
        refine cm_mono hF (fun w zH_12 hF => ?_)
        obtain ⟨zr_13, rfl, hF⟩ := hF
        refine rn_icmp_eq (tgt := 1369) dL_law_224 (by decide) (fun hc_14 => ?_) (fun hc_14 => ?_)
        · replace hF := hF.1 hc_14
          refine rn_iinc (w := (6 : Int32)) dL_law_1369 rfl (by decide) rfl (Nat.le_of_ble_eq_true rfl) (fun zx3_15 ezx3_15 => ?_)
          replace hF := hF zx3_15 ezx3_15
          show Rn _ _ _ _ _ _ _ _ [some (rs E), some (rf E 0), some (rf E 99), some (.int zx3_15)] _ _ _
          refine rn_goto (tgt := 18) dL_law_1372 (by decide) ?_
          exact rn_wk (L' := [some (rs E), some (rf E 0), some (rf E 99), some (.int zx3_15)]) (⟨rfl, ⟨rfl, ⟨rfl, ⟨rfl, trivial⟩⟩⟩⟩) hF
        · replace hF := hF.2 hc_14
          refine rn_iconst (x := (0 : Int32)) dL_law_227 (by decide) ?_
          exact rn_wk (L' := [none, none, none, none]) (trivial) hF
      by_cases hq_25 : (((eX E).2.2 zj_2) &&& (63 : Int32)).toInt = 1
      · replace hF := hF.2.1 hq_25
        refine rn_tabIn (tgt := 229) dL_law_33 (by omega) (by omega) (by rw [hq_25]; rfl) (by decide) ?_
        refine rn_aload_n dL_law_229 rfl ?_
        refine rn_aload_n dL_law_230 rfl ?_
        refine rn_iload_n dL_law_231 rfl ?_
        refine rn_iconst (x := (1 : Int32)) dL_law_232 (by decide) ?_
        refine rn_iadd dL_law_233 ?_
        obtain ⟨zj_17, hzj_17, hF⟩ := hF
        refine rj_sld (k := zj_17) hzj_17 hX dL_law_234 ?_
        refine rm_callV (c0 := 0) (As := [.int ((eX E).2.2 zj_17)]) (st := []) mlRL_18 mdX9_wipe (Nat.le_of_ble_eq_true rfl) rfl (by decide) (by decide) rfl rfl rfl (Nat.le_of_ble_eq_true rfl) hm dL_law_235 ?_
        refine cm_mono hF (fun w zH_18 hF => ?_)
        obtain ⟨zr_19, rfl, hF⟩ := hF
        refine rn_aload_n dL_law_238 rfl ?_
        refine rn_aload_n dL_law_239 rfl ?_
        refine rn_iload_n dL_law_240 rfl ?_
        refine rn_iconst (x := (1 : Int32)) dL_law_241 (by decide) ?_
        refine rn_iadd dL_law_242 ?_
        obtain ⟨zj_20, hzj_20, hF⟩ := hF
        refine rj_sld (k := zj_20) hzj_20 hX dL_law_243 ?_
        refine rm_callV (c0 := 99) (As := [.int ((eX E).2.2 zj_20)]) (st := [.int zr_19]) mlRL_22 mdX10_wipe (Nat.le_of_ble_eq_true rfl) rfl (by decide) (by decide) rfl rfl rfl (Nat.le_of_ble_eq_true rfl) hm dL_law_244 ?_
        refine cm_mono hF (fun w zH_21 hF => ?_)
        obtain ⟨zr_22, rfl, hF⟩ := hF
        refine rn_icmp_eq (tgt := 1369) dL_law_247 (by decide) (fun hc_23 => ?_) (fun hc_23 => ?_)
        · replace hF := hF.1 hc_23
          refine rn_iinc (w := (6 : Int32)) dL_law_1369 rfl (by decide) rfl (Nat.le_of_ble_eq_true rfl) (fun zx3_24 ezx3_24 => ?_)
          replace hF := hF zx3_24 ezx3_24
          show Rn _ _ _ _ _ _ _ _ [some (rs E), some (rf E 0), some (rf E 99), some (.int zx3_24)] _ _ _
          refine rn_goto (tgt := 18) dL_law_1372 (by decide) ?_
          exact rn_wk (L' := [some (rs E), some (rf E 0), some (rf E 99), some (.int zx3_24)]) (⟨rfl, ⟨rfl, ⟨rfl, ⟨rfl, trivial⟩⟩⟩⟩) hF
        · replace hF := hF.2 hc_23
          refine rn_iconst (x := (0 : Int32)) dL_law_250 (by decide) ?_
          exact rn_wk (L' := [none, none, none, none]) (trivial) hF
      by_cases hq_34 : (((eX E).2.2 zj_2) &&& (63 : Int32)).toInt = 2
      · replace hF := hF.2.2.1 hq_34
        refine rn_tabIn (tgt := 252) dL_law_33 (by omega) (by omega) (by rw [hq_34]; rfl) (by decide) ?_
        refine rn_aload_n dL_law_252 rfl ?_
        refine rn_aload_n dL_law_253 rfl ?_
        refine rn_iload_n dL_law_254 rfl ?_
        refine rn_iconst (x := (1 : Int32)) dL_law_255 (by decide) ?_
        refine rn_iadd dL_law_256 ?_
        obtain ⟨zj_26, hzj_26, hF⟩ := hF
        refine rj_sld (k := zj_26) hzj_26 hX dL_law_257 ?_
        refine rm_callV (c0 := 0) (As := [.int ((eX E).2.2 zj_26)]) (st := []) mlRL_23 mdX9_undo (Nat.le_of_ble_eq_true rfl) rfl (by decide) (by decide) rfl rfl rfl (Nat.le_of_ble_eq_true rfl) hm dL_law_258 ?_
        refine cm_mono hF (fun w zH_27 hF => ?_)
        obtain ⟨zr_28, rfl, hF⟩ := hF
        refine rn_aload_n dL_law_261 rfl ?_
        refine rn_aload_n dL_law_262 rfl ?_
        refine rn_iload_n dL_law_263 rfl ?_
        refine rn_iconst (x := (1 : Int32)) dL_law_264 (by decide) ?_
        refine rn_iadd dL_law_265 ?_
        obtain ⟨zj_29, hzj_29, hF⟩ := hF
        refine rj_sld (k := zj_29) hzj_29 hX dL_law_266 ?_
        refine rm_callV (c0 := 99) (As := [.int ((eX E).2.2 zj_29)]) (st := [.int zr_28]) mlRL_26 mdX10_undo (Nat.le_of_ble_eq_true rfl) rfl (by decide) (by decide) rfl rfl rfl (Nat.le_of_ble_eq_true rfl) hm dL_law_267 ?_
        refine cm_mono hF (fun w zH_30 hF => ?_)
        obtain ⟨zr_31, rfl, hF⟩ := hF
        refine rn_icmp_eq (tgt := 1369) dL_law_270 (by decide) (fun hc_32 => ?_) (fun hc_32 => ?_)
        · replace hF := hF.1 hc_32
          refine rn_iinc (w := (6 : Int32)) dL_law_1369 rfl (by decide) rfl (Nat.le_of_ble_eq_true rfl) (fun zx3_33 ezx3_33 => ?_)
          replace hF := hF zx3_33 ezx3_33
          show Rn _ _ _ _ _ _ _ _ [some (rs E), some (rf E 0), some (rf E 99), some (.int zx3_33)] _ _ _
          refine rn_goto (tgt := 18) dL_law_1372 (by decide) ?_
          exact rn_wk (L' := [some (rs E), some (rf E 0), some (rf E 99), some (.int zx3_33)]) (⟨rfl, ⟨rfl, ⟨rfl, ⟨rfl, trivial⟩⟩⟩⟩) hF
        · replace hF := hF.2 hc_32
          refine rn_iconst (x := (0 : Int32)) dL_law_273 (by decide) ?_
          exact rn_wk (L' := [none, none, none, none]) (trivial) hF
      by_cases hq_43 : (((eX E).2.2 zj_2) &&& (63 : Int32)).toInt = 3
      · replace hF := hF.2.2.2.1 hq_43
        refine rn_tabIn (tgt := 275) dL_law_33 (by omega) (by omega) (by rw [hq_43]; rfl) (by decide) ?_
        refine rn_aload_n dL_law_275 rfl ?_
        refine rn_aload_n dL_law_276 rfl ?_
        refine rn_iload_n dL_law_277 rfl ?_
        refine rn_iconst (x := (1 : Int32)) dL_law_278 (by decide) ?_
        refine rn_iadd dL_law_279 ?_
        obtain ⟨zj_35, hzj_35, hF⟩ := hF
        refine rj_sld (k := zj_35) hzj_35 hX dL_law_280 ?_
        refine rm_callV (c0 := 0) (As := [.int ((eX E).2.2 zj_35)]) (st := []) mlRL_27 mdX9_fault (Nat.le_of_ble_eq_true rfl) rfl (by decide) (by decide) rfl rfl rfl (Nat.le_of_ble_eq_true rfl) hm dL_law_281 ?_
        refine cm_mono hF (fun w zH_36 hF => ?_)
        obtain ⟨zr_37, rfl, hF⟩ := hF
        refine rn_aload_n dL_law_284 rfl ?_
        refine rn_aload_n dL_law_285 rfl ?_
        refine rn_iload_n dL_law_286 rfl ?_
        refine rn_iconst (x := (1 : Int32)) dL_law_287 (by decide) ?_
        refine rn_iadd dL_law_288 ?_
        obtain ⟨zj_38, hzj_38, hF⟩ := hF
        refine rj_sld (k := zj_38) hzj_38 hX dL_law_289 ?_
        refine rm_callV (c0 := 99) (As := [.int ((eX E).2.2 zj_38)]) (st := [.int zr_37]) mlRL_30 mdX10_fault (Nat.le_of_ble_eq_true rfl) rfl (by decide) (by decide) rfl rfl rfl (Nat.le_of_ble_eq_true rfl) hm dL_law_290 ?_
        refine cm_mono hF (fun w zH_39 hF => ?_)
        obtain ⟨zr_40, rfl, hF⟩ := hF
        refine rn_icmp_eq (tgt := 1369) dL_law_293 (by decide) (fun hc_41 => ?_) (fun hc_41 => ?_)
        · replace hF := hF.1 hc_41
          refine rn_iinc (w := (6 : Int32)) dL_law_1369 rfl (by decide) rfl (Nat.le_of_ble_eq_true rfl) (fun zx3_42 ezx3_42 => ?_)
          replace hF := hF zx3_42 ezx3_42
          show Rn _ _ _ _ _ _ _ _ [some (rs E), some (rf E 0), some (rf E 99), some (.int zx3_42)] _ _ _
          refine rn_goto (tgt := 18) dL_law_1372 (by decide) ?_
          exact rn_wk (L' := [some (rs E), some (rf E 0), some (rf E 99), some (.int zx3_42)]) (⟨rfl, ⟨rfl, ⟨rfl, ⟨rfl, trivial⟩⟩⟩⟩) hF
        · replace hF := hF.2 hc_41
          refine rn_iconst (x := (0 : Int32)) dL_law_296 (by decide) ?_
          exact rn_wk (L' := [none, none, none, none]) (trivial) hF
      by_cases hq_54 : (((eX E).2.2 zj_2) &&& (63 : Int32)).toInt = 4
      · replace hF := hF.2.2.2.2.1 hq_54
        refine rn_tabIn (tgt := 298) dL_law_33 (by omega) (by omega) (by rw [hq_54]; rfl) (by decide) ?_
        refine rn_aload_n dL_law_298 rfl ?_
        refine rn_aload_n dL_law_299 rfl ?_
        refine rn_iload_n dL_law_300 rfl ?_
        refine rn_iconst (x := (1 : Int32)) dL_law_301 (by decide) ?_
        refine rn_iadd dL_law_302 ?_
        obtain ⟨zj_44, hzj_44, hF⟩ := hF
        refine rj_sld (k := zj_44) hzj_44 hX dL_law_303 ?_
        refine rn_aload_n dL_law_304 rfl ?_
        refine rn_iload_n dL_law_305 rfl ?_
        refine rn_iconst (x := (2 : Int32)) dL_law_306 (by decide) ?_
        refine rn_iadd dL_law_307 ?_
        obtain ⟨zj_45, hzj_45, hF⟩ := hF
        refine rj_sld (k := zj_45) hzj_45 hX dL_law_308 ?_
        refine rm_callV (c0 := 0) (As := [.int ((eX E).2.2 zj_44), .int ((eX E).2.2 zj_45)]) (st := []) mlRL_31 mdX9_thing (Nat.le_of_ble_eq_true rfl) rfl (by decide) (by decide) rfl rfl rfl (Nat.le_of_ble_eq_true rfl) hm dL_law_309 ?_
        refine cm_mono hF (fun w zH_46 hF => ?_)
        obtain ⟨zr_47, rfl, hF⟩ := hF
        refine rn_aload_n dL_law_312 rfl ?_
        refine rn_aload_n dL_law_313 rfl ?_
        refine rn_iload_n dL_law_314 rfl ?_
        refine rn_iconst (x := (1 : Int32)) dL_law_315 (by decide) ?_
        refine rn_iadd dL_law_316 ?_
        obtain ⟨zj_48, hzj_48, hF⟩ := hF
        refine rj_sld (k := zj_48) hzj_48 hX dL_law_317 ?_
        refine rn_aload_n dL_law_318 rfl ?_
        refine rn_iload_n dL_law_319 rfl ?_
        refine rn_iconst (x := (2 : Int32)) dL_law_320 (by decide) ?_
        refine rn_iadd dL_law_321 ?_
        obtain ⟨zj_49, hzj_49, hF⟩ := hF
        refine rj_sld (k := zj_49) hzj_49 hX dL_law_322 ?_
        refine rm_callV (c0 := 99) (As := [.int ((eX E).2.2 zj_48), .int ((eX E).2.2 zj_49)]) (st := [.int zr_47]) mlRL_34 mdX10_thing (Nat.le_of_ble_eq_true rfl) rfl (by decide) (by decide) rfl rfl rfl (Nat.le_of_ble_eq_true rfl) hm dL_law_323 ?_
        refine cm_mono hF (fun w zH_50 hF => ?_)
        obtain ⟨zr_51, rfl, hF⟩ := hF
        refine rn_icmp_eq (tgt := 1369) dL_law_326 (by decide) (fun hc_52 => ?_) (fun hc_52 => ?_)
        · replace hF := hF.1 hc_52
          refine rn_iinc (w := (6 : Int32)) dL_law_1369 rfl (by decide) rfl (Nat.le_of_ble_eq_true rfl) (fun zx3_53 ezx3_53 => ?_)
          replace hF := hF zx3_53 ezx3_53
          show Rn _ _ _ _ _ _ _ _ [some (rs E), some (rf E 0), some (rf E 99), some (.int zx3_53)] _ _ _
          refine rn_goto (tgt := 18) dL_law_1372 (by decide) ?_
          exact rn_wk (L' := [some (rs E), some (rf E 0), some (rf E 99), some (.int zx3_53)]) (⟨rfl, ⟨rfl, ⟨rfl, ⟨rfl, trivial⟩⟩⟩⟩) hF
        · replace hF := hF.2 hc_52
          refine rn_iconst (x := (0 : Int32)) dL_law_329 (by decide) ?_
          exact rn_wk (L' := [none, none, none, none]) (trivial) hF
      by_cases hq_65 : (((eX E).2.2 zj_2) &&& (63 : Int32)).toInt = 5
      · replace hF := hF.2.2.2.2.2.1 hq_65
        refine rn_tabIn (tgt := 331) dL_law_33 (by omega) (by omega) (by rw [hq_65]; rfl) (by decide) ?_
        refine rn_aload_n dL_law_331 rfl ?_
        refine rn_aload_n dL_law_332 rfl ?_
        refine rn_iload_n dL_law_333 rfl ?_
        refine rn_iconst (x := (1 : Int32)) dL_law_334 (by decide) ?_
        refine rn_iadd dL_law_335 ?_
        obtain ⟨zj_55, hzj_55, hF⟩ := hF
        refine rj_sld (k := zj_55) hzj_55 hX dL_law_336 ?_
        refine rn_aload_n dL_law_337 rfl ?_
        refine rn_iload_n dL_law_338 rfl ?_
        refine rn_iconst (x := (2 : Int32)) dL_law_339 (by decide) ?_
        refine rn_iadd dL_law_340 ?_
        obtain ⟨zj_56, hzj_56, hF⟩ := hF
        refine rj_sld (k := zj_56) hzj_56 hX dL_law_341 ?_
        refine rm_callV (c0 := 0) (As := [.int ((eX E).2.2 zj_55), .int ((eX E).2.2 zj_56)]) (st := []) mlRL_35 mdX9_cousin (Nat.le_of_ble_eq_true rfl) rfl (by decide) (by decide) rfl rfl rfl (Nat.le_of_ble_eq_true rfl) hm dL_law_342 ?_
        refine cm_mono hF (fun w zH_57 hF => ?_)
        obtain ⟨zr_58, rfl, hF⟩ := hF
        refine rn_aload_n dL_law_345 rfl ?_
        refine rn_aload_n dL_law_346 rfl ?_
        refine rn_iload_n dL_law_347 rfl ?_
        refine rn_iconst (x := (1 : Int32)) dL_law_348 (by decide) ?_
        refine rn_iadd dL_law_349 ?_
        obtain ⟨zj_59, hzj_59, hF⟩ := hF
        refine rj_sld (k := zj_59) hzj_59 hX dL_law_350 ?_
        refine rn_aload_n dL_law_351 rfl ?_
        refine rn_iload_n dL_law_352 rfl ?_
        refine rn_iconst (x := (2 : Int32)) dL_law_353 (by decide) ?_
        refine rn_iadd dL_law_354 ?_
        obtain ⟨zj_60, hzj_60, hF⟩ := hF
        refine rj_sld (k := zj_60) hzj_60 hX dL_law_355 ?_
        refine rm_callV (c0 := 99) (As := [.int ((eX E).2.2 zj_59), .int ((eX E).2.2 zj_60)]) (st := [.int zr_58]) mlRL_38 mdX10_cousin (Nat.le_of_ble_eq_true rfl) rfl (by decide) (by decide) rfl rfl rfl (Nat.le_of_ble_eq_true rfl) hm dL_law_356 ?_
        refine cm_mono hF (fun w zH_61 hF => ?_)
        obtain ⟨zr_62, rfl, hF⟩ := hF
        refine rn_icmp_eq (tgt := 1369) dL_law_359 (by decide) (fun hc_63 => ?_) (fun hc_63 => ?_)
        · replace hF := hF.1 hc_63
          refine rn_iinc (w := (6 : Int32)) dL_law_1369 rfl (by decide) rfl (Nat.le_of_ble_eq_true rfl) (fun zx3_64 ezx3_64 => ?_)
          replace hF := hF zx3_64 ezx3_64
          show Rn _ _ _ _ _ _ _ _ [some (rs E), some (rf E 0), some (rf E 99), some (.int zx3_64)] _ _ _
          refine rn_goto (tgt := 18) dL_law_1372 (by decide) ?_
          exact rn_wk (L' := [some (rs E), some (rf E 0), some (rf E 99), some (.int zx3_64)]) (⟨rfl, ⟨rfl, ⟨rfl, ⟨rfl, trivial⟩⟩⟩⟩) hF
        · replace hF := hF.2 hc_63
          refine rn_iconst (x := (0 : Int32)) dL_law_362 (by decide) ?_
          exact rn_wk (L' := [none, none, none, none]) (trivial) hF
      by_cases hq_74 : (((eX E).2.2 zj_2) &&& (63 : Int32)).toInt = 6
      · replace hF := hF.2.2.2.2.2.2.1 hq_74
        refine rn_tabIn (tgt := 364) dL_law_33 (by omega) (by omega) (by rw [hq_74]; rfl) (by decide) ?_
        refine rn_aload_n dL_law_364 rfl ?_
        refine rn_aload_n dL_law_365 rfl ?_
        refine rn_iload_n dL_law_366 rfl ?_
        refine rn_iconst (x := (1 : Int32)) dL_law_367 (by decide) ?_
        refine rn_iadd dL_law_368 ?_
        obtain ⟨zj_66, hzj_66, hF⟩ := hF
        refine rj_sld (k := zj_66) hzj_66 hX dL_law_369 ?_
        refine rm_callV (c0 := 0) (As := [.int ((eX E).2.2 zj_66)]) (st := []) mlRL_39 mdX9_room (Nat.le_of_ble_eq_true rfl) rfl (by decide) (by decide) rfl rfl rfl (Nat.le_of_ble_eq_true rfl) hm dL_law_370 ?_
        refine cm_mono hF (fun w zH_67 hF => ?_)
        obtain ⟨zr_68, rfl, hF⟩ := hF
        refine rn_aload_n dL_law_373 rfl ?_
        refine rn_aload_n dL_law_374 rfl ?_
        refine rn_iload_n dL_law_375 rfl ?_
        refine rn_iconst (x := (1 : Int32)) dL_law_376 (by decide) ?_
        refine rn_iadd dL_law_377 ?_
        obtain ⟨zj_69, hzj_69, hF⟩ := hF
        refine rj_sld (k := zj_69) hzj_69 hX dL_law_378 ?_
        refine rm_callV (c0 := 99) (As := [.int ((eX E).2.2 zj_69)]) (st := [.int zr_68]) mlRL_42 mdX10_room (Nat.le_of_ble_eq_true rfl) rfl (by decide) (by decide) rfl rfl rfl (Nat.le_of_ble_eq_true rfl) hm dL_law_379 ?_
        refine cm_mono hF (fun w zH_70 hF => ?_)
        obtain ⟨zr_71, rfl, hF⟩ := hF
        refine rn_icmp_eq (tgt := 1369) dL_law_382 (by decide) (fun hc_72 => ?_) (fun hc_72 => ?_)
        · replace hF := hF.1 hc_72
          refine rn_iinc (w := (6 : Int32)) dL_law_1369 rfl (by decide) rfl (Nat.le_of_ble_eq_true rfl) (fun zx3_73 ezx3_73 => ?_)
          replace hF := hF zx3_73 ezx3_73
          show Rn _ _ _ _ _ _ _ _ [some (rs E), some (rf E 0), some (rf E 99), some (.int zx3_73)] _ _ _
          refine rn_goto (tgt := 18) dL_law_1372 (by decide) ?_
          exact rn_wk (L' := [some (rs E), some (rf E 0), some (rf E 99), some (.int zx3_73)]) (⟨rfl, ⟨rfl, ⟨rfl, ⟨rfl, trivial⟩⟩⟩⟩) hF
        · replace hF := hF.2 hc_72
          refine rn_iconst (x := (0 : Int32)) dL_law_385 (by decide) ?_
          exact rn_wk (L' := [none, none, none, none]) (trivial) hF
      by_cases hq_83 : (((eX E).2.2 zj_2) &&& (63 : Int32)).toInt = 7
      · replace hF := hF.2.2.2.2.2.2.2.1 hq_83
        refine rn_tabIn (tgt := 387) dL_law_33 (by omega) (by omega) (by rw [hq_83]; rfl) (by decide) ?_
        refine rn_aload_n dL_law_387 rfl ?_
        refine rn_aload_n dL_law_388 rfl ?_
        refine rn_iload_n dL_law_389 rfl ?_
        refine rn_iconst (x := (1 : Int32)) dL_law_390 (by decide) ?_
        refine rn_iadd dL_law_391 ?_
        obtain ⟨zj_75, hzj_75, hF⟩ := hF
        refine rj_sld (k := zj_75) hzj_75 hX dL_law_392 ?_
        refine rm_callV (c0 := 0) (As := [.int ((eX E).2.2 zj_75)]) (st := []) mlRL_43 mdX9_aunt (Nat.le_of_ble_eq_true rfl) rfl (by decide) (by decide) rfl rfl rfl (Nat.le_of_ble_eq_true rfl) hm dL_law_393 ?_
        refine cm_mono hF (fun w zH_76 hF => ?_)
        obtain ⟨zr_77, rfl, hF⟩ := hF
        refine rn_aload_n dL_law_396 rfl ?_
        refine rn_aload_n dL_law_397 rfl ?_
        refine rn_iload_n dL_law_398 rfl ?_
        refine rn_iconst (x := (1 : Int32)) dL_law_399 (by decide) ?_
        refine rn_iadd dL_law_400 ?_
        obtain ⟨zj_78, hzj_78, hF⟩ := hF
        refine rj_sld (k := zj_78) hzj_78 hX dL_law_401 ?_
        refine rm_callV (c0 := 99) (As := [.int ((eX E).2.2 zj_78)]) (st := [.int zr_77]) mlRL_46 mdX10_aunt (Nat.le_of_ble_eq_true rfl) rfl (by decide) (by decide) rfl rfl rfl (Nat.le_of_ble_eq_true rfl) hm dL_law_402 ?_
        refine cm_mono hF (fun w zH_79 hF => ?_)
        obtain ⟨zr_80, rfl, hF⟩ := hF
        refine rn_icmp_eq (tgt := 1369) dL_law_405 (by decide) (fun hc_81 => ?_) (fun hc_81 => ?_)
        · replace hF := hF.1 hc_81
          refine rn_iinc (w := (6 : Int32)) dL_law_1369 rfl (by decide) rfl (Nat.le_of_ble_eq_true rfl) (fun zx3_82 ezx3_82 => ?_)
          replace hF := hF zx3_82 ezx3_82
          show Rn _ _ _ _ _ _ _ _ [some (rs E), some (rf E 0), some (rf E 99), some (.int zx3_82)] _ _ _
          refine rn_goto (tgt := 18) dL_law_1372 (by decide) ?_
          exact rn_wk (L' := [some (rs E), some (rf E 0), some (rf E 99), some (.int zx3_82)]) (⟨rfl, ⟨rfl, ⟨rfl, ⟨rfl, trivial⟩⟩⟩⟩) hF
        · replace hF := hF.2 hc_81
          refine rn_iconst (x := (0 : Int32)) dL_law_408 (by decide) ?_
          exact rn_wk (L' := [none, none, none, none]) (trivial) hF
      by_cases hq_98 : (((eX E).2.2 zj_2) &&& (63 : Int32)).toInt = 8
      · replace hF := hF.2.2.2.2.2.2.2.2.1 hq_98
        refine rn_tabIn (tgt := 410) dL_law_33 (by omega) (by omega) (by rw [hq_98]; rfl) (by decide) ?_
        refine rn_aload_n dL_law_410 rfl ?_
        refine rn_aload_n dL_law_411 rfl ?_
        refine rn_iload_n dL_law_412 rfl ?_
        refine rn_iconst (x := (1 : Int32)) dL_law_413 (by decide) ?_
        refine rn_iadd dL_law_414 ?_
        obtain ⟨zj_84, hzj_84, hF⟩ := hF
        refine rj_sld (k := zj_84) hzj_84 hX dL_law_415 ?_
        refine rn_aload_n dL_law_416 rfl ?_
        refine rn_iload_n dL_law_417 rfl ?_
        refine rn_iconst (x := (2 : Int32)) dL_law_418 (by decide) ?_
        refine rn_iadd dL_law_419 ?_
        obtain ⟨zj_85, hzj_85, hF⟩ := hF
        refine rj_sld (k := zj_85) hzj_85 hX dL_law_420 ?_
        refine rn_aload_n dL_law_421 rfl ?_
        refine rn_iload_n dL_law_422 rfl ?_
        refine rn_iconst (x := (3 : Int32)) dL_law_423 (by decide) ?_
        refine rn_iadd dL_law_424 ?_
        obtain ⟨zj_86, hzj_86, hF⟩ := hF
        refine rj_sld (k := zj_86) hzj_86 hX dL_law_425 ?_
        refine rn_aload_n dL_law_426 rfl ?_
        refine rn_iload_n dL_law_427 rfl ?_
        refine rn_iconst (x := (4 : Int32)) dL_law_428 (by decide) ?_
        refine rn_iadd dL_law_429 ?_
        obtain ⟨zj_87, hzj_87, hF⟩ := hF
        refine rj_sld (k := zj_87) hzj_87 hX dL_law_430 ?_
        refine rm_callV (c0 := 0) (As := [.int ((eX E).2.2 zj_84), .int ((eX E).2.2 zj_85), .int ((eX E).2.2 zj_86), .int ((eX E).2.2 zj_87)]) (st := []) mlRL_47 mdX9_hand (Nat.le_of_ble_eq_true rfl) rfl (by decide) (by decide) rfl rfl rfl (Nat.le_of_ble_eq_true rfl) hm dL_law_431 ?_
        refine cm_mono hF (fun w zH_88 hF => ?_)
        obtain ⟨zr_89, rfl, hF⟩ := hF
        refine rn_aload_n dL_law_434 rfl ?_
        refine rn_aload_n dL_law_435 rfl ?_
        refine rn_iload_n dL_law_436 rfl ?_
        refine rn_iconst (x := (1 : Int32)) dL_law_437 (by decide) ?_
        refine rn_iadd dL_law_438 ?_
        obtain ⟨zj_90, hzj_90, hF⟩ := hF
        refine rj_sld (k := zj_90) hzj_90 hX dL_law_439 ?_
        refine rn_aload_n dL_law_440 rfl ?_
        refine rn_iload_n dL_law_441 rfl ?_
        refine rn_iconst (x := (2 : Int32)) dL_law_442 (by decide) ?_
        refine rn_iadd dL_law_443 ?_
        obtain ⟨zj_91, hzj_91, hF⟩ := hF
        refine rj_sld (k := zj_91) hzj_91 hX dL_law_444 ?_
        refine rn_aload_n dL_law_445 rfl ?_
        refine rn_iload_n dL_law_446 rfl ?_
        refine rn_iconst (x := (3 : Int32)) dL_law_447 (by decide) ?_
        refine rn_iadd dL_law_448 ?_
        obtain ⟨zj_92, hzj_92, hF⟩ := hF
        refine rj_sld (k := zj_92) hzj_92 hX dL_law_449 ?_
        refine rn_aload_n dL_law_450 rfl ?_
        refine rn_iload_n dL_law_451 rfl ?_
        refine rn_iconst (x := (4 : Int32)) dL_law_452 (by decide) ?_
        refine rn_iadd dL_law_453 ?_
        obtain ⟨zj_93, hzj_93, hF⟩ := hF
        refine rj_sld (k := zj_93) hzj_93 hX dL_law_454 ?_
        refine rm_callV (c0 := 99) (As := [.int ((eX E).2.2 zj_90), .int ((eX E).2.2 zj_91), .int ((eX E).2.2 zj_92), .int ((eX E).2.2 zj_93)]) (st := [.int zr_89]) mlRL_51 mdX10_hand (Nat.le_of_ble_eq_true rfl) rfl (by decide) (by decide) rfl rfl rfl (Nat.le_of_ble_eq_true rfl) hm dL_law_455 ?_
        refine cm_mono hF (fun w zH_94 hF => ?_)
        obtain ⟨zr_95, rfl, hF⟩ := hF
        refine rn_icmp_eq (tgt := 1369) dL_law_458 (by decide) (fun hc_96 => ?_) (fun hc_96 => ?_)
        · replace hF := hF.1 hc_96
          refine rn_iinc (w := (6 : Int32)) dL_law_1369 rfl (by decide) rfl (Nat.le_of_ble_eq_true rfl) (fun zx3_97 ezx3_97 => ?_)
          replace hF := hF zx3_97 ezx3_97
          show Rn _ _ _ _ _ _ _ _ [some (rs E), some (rf E 0), some (rf E 99), some (.int zx3_97)] _ _ _
          refine rn_goto (tgt := 18) dL_law_1372 (by decide) ?_
          exact rn_wk (L' := [some (rs E), some (rf E 0), some (rf E 99), some (.int zx3_97)]) (⟨rfl, ⟨rfl, ⟨rfl, ⟨rfl, trivial⟩⟩⟩⟩) hF
        · replace hF := hF.2 hc_96
          refine rn_iconst (x := (0 : Int32)) dL_law_461 (by decide) ?_
          exact rn_wk (L' := [none, none, none, none]) (trivial) hF
      by_cases hq_109 : (((eX E).2.2 zj_2) &&& (63 : Int32)).toInt = 9
      · replace hF := hF.2.2.2.2.2.2.2.2.2.1 hq_109
        refine rn_tabIn (tgt := 463) dL_law_33 (by omega) (by omega) (by rw [hq_109]; rfl) (by decide) ?_
        refine rn_aload_n dL_law_463 rfl ?_
        refine rn_aload_n dL_law_464 rfl ?_
        refine rn_iload_n dL_law_465 rfl ?_
        refine rn_iconst (x := (1 : Int32)) dL_law_466 (by decide) ?_
        refine rn_iadd dL_law_467 ?_
        obtain ⟨zj_99, hzj_99, hF⟩ := hF
        refine rj_sld (k := zj_99) hzj_99 hX dL_law_468 ?_
        refine rn_aload_n dL_law_469 rfl ?_
        refine rn_iload_n dL_law_470 rfl ?_
        refine rn_iconst (x := (2 : Int32)) dL_law_471 (by decide) ?_
        refine rn_iadd dL_law_472 ?_
        obtain ⟨zj_100, hzj_100, hF⟩ := hF
        refine rj_sld (k := zj_100) hzj_100 hX dL_law_473 ?_
        refine rm_callV (c0 := 0) (As := [.int ((eX E).2.2 zj_99), .int ((eX E).2.2 zj_100)]) (st := []) mlRL_52 mdX9_hole (Nat.le_of_ble_eq_true rfl) rfl (by decide) (by decide) rfl rfl rfl (Nat.le_of_ble_eq_true rfl) hm dL_law_474 ?_
        refine cm_mono hF (fun w zH_101 hF => ?_)
        obtain ⟨zr_102, rfl, hF⟩ := hF
        refine rn_aload_n dL_law_477 rfl ?_
        refine rn_aload_n dL_law_478 rfl ?_
        refine rn_iload_n dL_law_479 rfl ?_
        refine rn_iconst (x := (1 : Int32)) dL_law_480 (by decide) ?_
        refine rn_iadd dL_law_481 ?_
        obtain ⟨zj_103, hzj_103, hF⟩ := hF
        refine rj_sld (k := zj_103) hzj_103 hX dL_law_482 ?_
        refine rn_aload_n dL_law_483 rfl ?_
        refine rn_iload_n dL_law_484 rfl ?_
        refine rn_iconst (x := (2 : Int32)) dL_law_485 (by decide) ?_
        refine rn_iadd dL_law_486 ?_
        obtain ⟨zj_104, hzj_104, hF⟩ := hF
        refine rj_sld (k := zj_104) hzj_104 hX dL_law_487 ?_
        refine rm_callV (c0 := 99) (As := [.int ((eX E).2.2 zj_103), .int ((eX E).2.2 zj_104)]) (st := [.int zr_102]) mlRL_55 mdX10_hole (Nat.le_of_ble_eq_true rfl) rfl (by decide) (by decide) rfl rfl rfl (Nat.le_of_ble_eq_true rfl) hm dL_law_488 ?_
        refine cm_mono hF (fun w zH_105 hF => ?_)
        obtain ⟨zr_106, rfl, hF⟩ := hF
        refine rn_icmp_eq (tgt := 1369) dL_law_491 (by decide) (fun hc_107 => ?_) (fun hc_107 => ?_)
        · replace hF := hF.1 hc_107
          refine rn_iinc (w := (6 : Int32)) dL_law_1369 rfl (by decide) rfl (Nat.le_of_ble_eq_true rfl) (fun zx3_108 ezx3_108 => ?_)
          replace hF := hF zx3_108 ezx3_108
          show Rn _ _ _ _ _ _ _ _ [some (rs E), some (rf E 0), some (rf E 99), some (.int zx3_108)] _ _ _
          refine rn_goto (tgt := 18) dL_law_1372 (by decide) ?_
          exact rn_wk (L' := [some (rs E), some (rf E 0), some (rf E 99), some (.int zx3_108)]) (⟨rfl, ⟨rfl, ⟨rfl, ⟨rfl, trivial⟩⟩⟩⟩) hF
        · replace hF := hF.2 hc_107
          refine rn_iconst (x := (0 : Int32)) dL_law_494 (by decide) ?_
          exact rn_wk (L' := [none, none, none, none]) (trivial) hF
      by_cases hq_118 : (((eX E).2.2 zj_2) &&& (63 : Int32)).toInt = 10
      · replace hF := hF.2.2.2.2.2.2.2.2.2.2.1 hq_118
        refine rn_tabIn (tgt := 496) dL_law_33 (by omega) (by omega) (by rw [hq_118]; rfl) (by decide) ?_
        refine rn_aload_n dL_law_496 rfl ?_
        refine rn_aload_n dL_law_497 rfl ?_
        refine rn_iload_n dL_law_498 rfl ?_
        refine rn_iconst (x := (1 : Int32)) dL_law_499 (by decide) ?_
        refine rn_iadd dL_law_500 ?_
        obtain ⟨zj_110, hzj_110, hF⟩ := hF
        refine rj_sld (k := zj_110) hzj_110 hX dL_law_501 ?_
        refine rm_callV (c0 := 0) (As := [.int ((eX E).2.2 zj_110)]) (st := []) mlRL_56 mdX9_back (Nat.le_of_ble_eq_true rfl) rfl (by decide) (by decide) rfl rfl rfl (Nat.le_of_ble_eq_true rfl) hm dL_law_502 ?_
        refine cm_mono hF (fun w zH_111 hF => ?_)
        obtain ⟨zr_112, rfl, hF⟩ := hF
        refine rn_aload_n dL_law_505 rfl ?_
        refine rn_aload_n dL_law_506 rfl ?_
        refine rn_iload_n dL_law_507 rfl ?_
        refine rn_iconst (x := (1 : Int32)) dL_law_508 (by decide) ?_
        refine rn_iadd dL_law_509 ?_
        obtain ⟨zj_113, hzj_113, hF⟩ := hF
        refine rj_sld (k := zj_113) hzj_113 hX dL_law_510 ?_
        refine rm_callV (c0 := 99) (As := [.int ((eX E).2.2 zj_113)]) (st := [.int zr_112]) mlRL_59 mdX10_back (Nat.le_of_ble_eq_true rfl) rfl (by decide) (by decide) rfl rfl rfl (Nat.le_of_ble_eq_true rfl) hm dL_law_511 ?_
        refine cm_mono hF (fun w zH_114 hF => ?_)
        obtain ⟨zr_115, rfl, hF⟩ := hF
        refine rn_icmp_eq (tgt := 1369) dL_law_514 (by decide) (fun hc_116 => ?_) (fun hc_116 => ?_)
        · replace hF := hF.1 hc_116
          refine rn_iinc (w := (6 : Int32)) dL_law_1369 rfl (by decide) rfl (Nat.le_of_ble_eq_true rfl) (fun zx3_117 ezx3_117 => ?_)
          replace hF := hF zx3_117 ezx3_117
          show Rn _ _ _ _ _ _ _ _ [some (rs E), some (rf E 0), some (rf E 99), some (.int zx3_117)] _ _ _
          refine rn_goto (tgt := 18) dL_law_1372 (by decide) ?_
          exact rn_wk (L' := [some (rs E), some (rf E 0), some (rf E 99), some (.int zx3_117)]) (⟨rfl, ⟨rfl, ⟨rfl, ⟨rfl, trivial⟩⟩⟩⟩) hF
        · replace hF := hF.2 hc_116
          refine rn_iconst (x := (0 : Int32)) dL_law_517 (by decide) ?_
          exact rn_wk (L' := [none, none, none, none]) (trivial) hF
      by_cases hq_127 : (((eX E).2.2 zj_2) &&& (63 : Int32)).toInt = 11
      · replace hF := hF.2.2.2.2.2.2.2.2.2.2.2.1 hq_127
        refine rn_tabIn (tgt := 519) dL_law_33 (by omega) (by omega) (by rw [hq_127]; rfl) (by decide) ?_
        refine rn_aload_n dL_law_519 rfl ?_
        refine rn_aload_n dL_law_520 rfl ?_
        refine rn_iload_n dL_law_521 rfl ?_
        refine rn_iconst (x := (1 : Int32)) dL_law_522 (by decide) ?_
        refine rn_iadd dL_law_523 ?_
        obtain ⟨zj_119, hzj_119, hF⟩ := hF
        refine rj_sld (k := zj_119) hzj_119 hX dL_law_524 ?_
        refine rm_callV (c0 := 0) (As := [.int ((eX E).2.2 zj_119)]) (st := []) mlRL_60 mdX9_read (Nat.le_of_ble_eq_true rfl) rfl (by decide) (by decide) rfl rfl rfl (Nat.le_of_ble_eq_true rfl) hm dL_law_525 ?_
        refine cm_mono hF (fun w zH_120 hF => ?_)
        obtain ⟨zr_121, rfl, hF⟩ := hF
        refine rn_aload_n dL_law_528 rfl ?_
        refine rn_aload_n dL_law_529 rfl ?_
        refine rn_iload_n dL_law_530 rfl ?_
        refine rn_iconst (x := (1 : Int32)) dL_law_531 (by decide) ?_
        refine rn_iadd dL_law_532 ?_
        obtain ⟨zj_122, hzj_122, hF⟩ := hF
        refine rj_sld (k := zj_122) hzj_122 hX dL_law_533 ?_
        refine rm_callV (c0 := 99) (As := [.int ((eX E).2.2 zj_122)]) (st := [.int zr_121]) mlRL_63 mdX10_read (Nat.le_of_ble_eq_true rfl) rfl (by decide) (by decide) rfl rfl rfl (Nat.le_of_ble_eq_true rfl) hm dL_law_534 ?_
        refine cm_mono hF (fun w zH_123 hF => ?_)
        obtain ⟨zr_124, rfl, hF⟩ := hF
        refine rn_icmp_eq (tgt := 1369) dL_law_537 (by decide) (fun hc_125 => ?_) (fun hc_125 => ?_)
        · replace hF := hF.1 hc_125
          refine rn_iinc (w := (6 : Int32)) dL_law_1369 rfl (by decide) rfl (Nat.le_of_ble_eq_true rfl) (fun zx3_126 ezx3_126 => ?_)
          replace hF := hF zx3_126 ezx3_126
          show Rn _ _ _ _ _ _ _ _ [some (rs E), some (rf E 0), some (rf E 99), some (.int zx3_126)] _ _ _
          refine rn_goto (tgt := 18) dL_law_1372 (by decide) ?_
          exact rn_wk (L' := [some (rs E), some (rf E 0), some (rf E 99), some (.int zx3_126)]) (⟨rfl, ⟨rfl, ⟨rfl, ⟨rfl, trivial⟩⟩⟩⟩) hF
        · replace hF := hF.2 hc_125
          refine rn_iconst (x := (0 : Int32)) dL_law_540 (by decide) ?_
          exact rn_wk (L' := [none, none, none, none]) (trivial) hF
      by_cases hq_138 : (((eX E).2.2 zj_2) &&& (63 : Int32)).toInt = 12
      · replace hF := hF.2.2.2.2.2.2.2.2.2.2.2.2.1 hq_138
        refine rn_tabIn (tgt := 542) dL_law_33 (by omega) (by omega) (by rw [hq_138]; rfl) (by decide) ?_
        refine rn_aload_n dL_law_542 rfl ?_
        refine rn_aload_n dL_law_543 rfl ?_
        refine rn_iload_n dL_law_544 rfl ?_
        refine rn_iconst (x := (1 : Int32)) dL_law_545 (by decide) ?_
        refine rn_iadd dL_law_546 ?_
        obtain ⟨zj_128, hzj_128, hF⟩ := hF
        refine rj_sld (k := zj_128) hzj_128 hX dL_law_547 ?_
        refine rn_aload_n dL_law_548 rfl ?_
        refine rn_iload_n dL_law_549 rfl ?_
        refine rn_iconst (x := (2 : Int32)) dL_law_550 (by decide) ?_
        refine rn_iadd dL_law_551 ?_
        obtain ⟨zj_129, hzj_129, hF⟩ := hF
        refine rj_sld (k := zj_129) hzj_129 hX dL_law_552 ?_
        refine rm_callV (c0 := 0) (As := [.int ((eX E).2.2 zj_128), .int ((eX E).2.2 zj_129)]) (st := []) mlRL_64 mdX9_where (Nat.le_of_ble_eq_true rfl) rfl (by decide) (by decide) rfl rfl rfl (Nat.le_of_ble_eq_true rfl) hm dL_law_553 ?_
        refine cm_mono hF (fun w zH_130 hF => ?_)
        obtain ⟨zr_131, rfl, hF⟩ := hF
        refine rn_aload_n dL_law_556 rfl ?_
        refine rn_aload_n dL_law_557 rfl ?_
        refine rn_iload_n dL_law_558 rfl ?_
        refine rn_iconst (x := (1 : Int32)) dL_law_559 (by decide) ?_
        refine rn_iadd dL_law_560 ?_
        obtain ⟨zj_132, hzj_132, hF⟩ := hF
        refine rj_sld (k := zj_132) hzj_132 hX dL_law_561 ?_
        refine rn_aload_n dL_law_562 rfl ?_
        refine rn_iload_n dL_law_563 rfl ?_
        refine rn_iconst (x := (2 : Int32)) dL_law_564 (by decide) ?_
        refine rn_iadd dL_law_565 ?_
        obtain ⟨zj_133, hzj_133, hF⟩ := hF
        refine rj_sld (k := zj_133) hzj_133 hX dL_law_566 ?_
        refine rm_callV (c0 := 99) (As := [.int ((eX E).2.2 zj_132), .int ((eX E).2.2 zj_133)]) (st := [.int zr_131]) mlRL_67 mdX10_where (Nat.le_of_ble_eq_true rfl) rfl (by decide) (by decide) rfl rfl rfl (Nat.le_of_ble_eq_true rfl) hm dL_law_567 ?_
        refine cm_mono hF (fun w zH_134 hF => ?_)
        obtain ⟨zr_135, rfl, hF⟩ := hF
        refine rn_icmp_eq (tgt := 1369) dL_law_570 (by decide) (fun hc_136 => ?_) (fun hc_136 => ?_)
        · replace hF := hF.1 hc_136
          refine rn_iinc (w := (6 : Int32)) dL_law_1369 rfl (by decide) rfl (Nat.le_of_ble_eq_true rfl) (fun zx3_137 ezx3_137 => ?_)
          replace hF := hF zx3_137 ezx3_137
          show Rn _ _ _ _ _ _ _ _ [some (rs E), some (rf E 0), some (rf E 99), some (.int zx3_137)] _ _ _
          refine rn_goto (tgt := 18) dL_law_1372 (by decide) ?_
          exact rn_wk (L' := [some (rs E), some (rf E 0), some (rf E 99), some (.int zx3_137)]) (⟨rfl, ⟨rfl, ⟨rfl, ⟨rfl, trivial⟩⟩⟩⟩) hF
        · replace hF := hF.2 hc_136
          refine rn_iconst (x := (0 : Int32)) dL_law_573 (by decide) ?_
          exact rn_wk (L' := [none, none, none, none]) (trivial) hF
      by_cases hq_149 : (((eX E).2.2 zj_2) &&& (63 : Int32)).toInt = 13
      · replace hF := hF.2.2.2.2.2.2.2.2.2.2.2.2.2.1 hq_149
        refine rn_tabIn (tgt := 575) dL_law_33 (by omega) (by omega) (by rw [hq_149]; rfl) (by decide) ?_
        refine rn_aload_n dL_law_575 rfl ?_
        refine rn_aload_n dL_law_576 rfl ?_
        refine rn_iload_n dL_law_577 rfl ?_
        refine rn_iconst (x := (1 : Int32)) dL_law_578 (by decide) ?_
        refine rn_iadd dL_law_579 ?_
        obtain ⟨zj_139, hzj_139, hF⟩ := hF
        refine rj_sld (k := zj_139) hzj_139 hX dL_law_580 ?_
        refine rn_aload_n dL_law_581 rfl ?_
        refine rn_iload_n dL_law_582 rfl ?_
        refine rn_iconst (x := (2 : Int32)) dL_law_583 (by decide) ?_
        refine rn_iadd dL_law_584 ?_
        obtain ⟨zj_140, hzj_140, hF⟩ := hF
        refine rj_sld (k := zj_140) hzj_140 hX dL_law_585 ?_
        refine rm_callV (c0 := 0) (As := [.int ((eX E).2.2 zj_139), .int ((eX E).2.2 zj_140)]) (st := []) mlRL_68 mdX9_has (Nat.le_of_ble_eq_true rfl) rfl (by decide) (by decide) rfl rfl rfl (Nat.le_of_ble_eq_true rfl) hm dL_law_586 ?_
        refine cm_mono hF (fun w zH_141 hF => ?_)
        obtain ⟨zr_142, rfl, hF⟩ := hF
        refine rn_aload_n dL_law_589 rfl ?_
        refine rn_aload_n dL_law_590 rfl ?_
        refine rn_iload_n dL_law_591 rfl ?_
        refine rn_iconst (x := (1 : Int32)) dL_law_592 (by decide) ?_
        refine rn_iadd dL_law_593 ?_
        obtain ⟨zj_143, hzj_143, hF⟩ := hF
        refine rj_sld (k := zj_143) hzj_143 hX dL_law_594 ?_
        refine rn_aload_n dL_law_595 rfl ?_
        refine rn_iload_n dL_law_596 rfl ?_
        refine rn_iconst (x := (2 : Int32)) dL_law_597 (by decide) ?_
        refine rn_iadd dL_law_598 ?_
        obtain ⟨zj_144, hzj_144, hF⟩ := hF
        refine rj_sld (k := zj_144) hzj_144 hX dL_law_599 ?_
        refine rm_callV (c0 := 99) (As := [.int ((eX E).2.2 zj_143), .int ((eX E).2.2 zj_144)]) (st := [.int zr_142]) mlRL_71 mdX10_has (Nat.le_of_ble_eq_true rfl) rfl (by decide) (by decide) rfl rfl rfl (Nat.le_of_ble_eq_true rfl) hm dL_law_600 ?_
        refine cm_mono hF (fun w zH_145 hF => ?_)
        obtain ⟨zr_146, rfl, hF⟩ := hF
        refine rn_icmp_eq (tgt := 1369) dL_law_603 (by decide) (fun hc_147 => ?_) (fun hc_147 => ?_)
        · replace hF := hF.1 hc_147
          refine rn_iinc (w := (6 : Int32)) dL_law_1369 rfl (by decide) rfl (Nat.le_of_ble_eq_true rfl) (fun zx3_148 ezx3_148 => ?_)
          replace hF := hF zx3_148 ezx3_148
          show Rn _ _ _ _ _ _ _ _ [some (rs E), some (rf E 0), some (rf E 99), some (.int zx3_148)] _ _ _
          refine rn_goto (tgt := 18) dL_law_1372 (by decide) ?_
          exact rn_wk (L' := [some (rs E), some (rf E 0), some (rf E 99), some (.int zx3_148)]) (⟨rfl, ⟨rfl, ⟨rfl, ⟨rfl, trivial⟩⟩⟩⟩) hF
        · replace hF := hF.2 hc_147
          refine rn_iconst (x := (0 : Int32)) dL_law_606 (by decide) ?_
          exact rn_wk (L' := [none, none, none, none]) (trivial) hF
      by_cases hq_158 : (((eX E).2.2 zj_2) &&& (63 : Int32)).toInt = 14
      · replace hF := hF.2.2.2.2.2.2.2.2.2.2.2.2.2.2.1 hq_158
        refine rn_tabIn (tgt := 608) dL_law_33 (by omega) (by omega) (by rw [hq_158]; rfl) (by decide) ?_
        refine rn_aload_n dL_law_608 rfl ?_
        refine rn_aload_n dL_law_609 rfl ?_
        refine rn_iload_n dL_law_610 rfl ?_
        refine rn_iconst (x := (1 : Int32)) dL_law_611 (by decide) ?_
        refine rn_iadd dL_law_612 ?_
        obtain ⟨zj_150, hzj_150, hF⟩ := hF
        refine rj_sld (k := zj_150) hzj_150 hX dL_law_613 ?_
        refine rm_callV (c0 := 0) (As := [.int ((eX E).2.2 zj_150)]) (st := []) mlRL_72 mdX9_load (Nat.le_of_ble_eq_true rfl) rfl (by decide) (by decide) rfl rfl rfl (Nat.le_of_ble_eq_true rfl) hm dL_law_614 ?_
        refine cm_mono hF (fun w zH_151 hF => ?_)
        obtain ⟨zr_152, rfl, hF⟩ := hF
        refine rn_aload_n dL_law_617 rfl ?_
        refine rn_aload_n dL_law_618 rfl ?_
        refine rn_iload_n dL_law_619 rfl ?_
        refine rn_iconst (x := (1 : Int32)) dL_law_620 (by decide) ?_
        refine rn_iadd dL_law_621 ?_
        obtain ⟨zj_153, hzj_153, hF⟩ := hF
        refine rj_sld (k := zj_153) hzj_153 hX dL_law_622 ?_
        refine rm_callV (c0 := 99) (As := [.int ((eX E).2.2 zj_153)]) (st := [.int zr_152]) mlRL_75 mdX10_load (Nat.le_of_ble_eq_true rfl) rfl (by decide) (by decide) rfl rfl rfl (Nat.le_of_ble_eq_true rfl) hm dL_law_623 ?_
        refine cm_mono hF (fun w zH_154 hF => ?_)
        obtain ⟨zr_155, rfl, hF⟩ := hF
        refine rn_icmp_eq (tgt := 1369) dL_law_626 (by decide) (fun hc_156 => ?_) (fun hc_156 => ?_)
        · replace hF := hF.1 hc_156
          refine rn_iinc (w := (6 : Int32)) dL_law_1369 rfl (by decide) rfl (Nat.le_of_ble_eq_true rfl) (fun zx3_157 ezx3_157 => ?_)
          replace hF := hF zx3_157 ezx3_157
          show Rn _ _ _ _ _ _ _ _ [some (rs E), some (rf E 0), some (rf E 99), some (.int zx3_157)] _ _ _
          refine rn_goto (tgt := 18) dL_law_1372 (by decide) ?_
          exact rn_wk (L' := [some (rs E), some (rf E 0), some (rf E 99), some (.int zx3_157)]) (⟨rfl, ⟨rfl, ⟨rfl, ⟨rfl, trivial⟩⟩⟩⟩) hF
        · replace hF := hF.2 hc_156
          refine rn_iconst (x := (0 : Int32)) dL_law_629 (by decide) ?_
          exact rn_wk (L' := [none, none, none, none]) (trivial) hF
      by_cases hq_167 : (((eX E).2.2 zj_2) &&& (63 : Int32)).toInt = 15
      · replace hF := hF.2.2.2.2.2.2.2.2.2.2.2.2.2.2.2.1 hq_167
        refine rn_tabIn (tgt := 631) dL_law_33 (by omega) (by omega) (by rw [hq_167]; rfl) (by decide) ?_
        refine rn_aload_n dL_law_631 rfl ?_
        refine rn_aload_n dL_law_632 rfl ?_
        refine rn_iload_n dL_law_633 rfl ?_
        refine rn_iconst (x := (1 : Int32)) dL_law_634 (by decide) ?_
        refine rn_iadd dL_law_635 ?_
        obtain ⟨zj_159, hzj_159, hF⟩ := hF
        refine rj_sld (k := zj_159) hzj_159 hX dL_law_636 ?_
        refine rm_callV (c0 := 0) (As := [.int ((eX E).2.2 zj_159)]) (st := []) mlRL_76 mdX9_happy (Nat.le_of_ble_eq_true rfl) rfl (by decide) (by decide) rfl rfl rfl (Nat.le_of_ble_eq_true rfl) hm dL_law_637 ?_
        refine cm_mono hF (fun w zH_160 hF => ?_)
        obtain ⟨zr_161, rfl, hF⟩ := hF
        refine rn_aload_n dL_law_640 rfl ?_
        refine rn_aload_n dL_law_641 rfl ?_
        refine rn_iload_n dL_law_642 rfl ?_
        refine rn_iconst (x := (1 : Int32)) dL_law_643 (by decide) ?_
        refine rn_iadd dL_law_644 ?_
        obtain ⟨zj_162, hzj_162, hF⟩ := hF
        refine rj_sld (k := zj_162) hzj_162 hX dL_law_645 ?_
        refine rm_callV (c0 := 99) (As := [.int ((eX E).2.2 zj_162)]) (st := [.int zr_161]) mlRL_79 mdX10_happy (Nat.le_of_ble_eq_true rfl) rfl (by decide) (by decide) rfl rfl rfl (Nat.le_of_ble_eq_true rfl) hm dL_law_646 ?_
        refine cm_mono hF (fun w zH_163 hF => ?_)
        obtain ⟨zr_164, rfl, hF⟩ := hF
        refine rn_icmp_eq (tgt := 1369) dL_law_649 (by decide) (fun hc_165 => ?_) (fun hc_165 => ?_)
        · replace hF := hF.1 hc_165
          refine rn_iinc (w := (6 : Int32)) dL_law_1369 rfl (by decide) rfl (Nat.le_of_ble_eq_true rfl) (fun zx3_166 ezx3_166 => ?_)
          replace hF := hF zx3_166 ezx3_166
          show Rn _ _ _ _ _ _ _ _ [some (rs E), some (rf E 0), some (rf E 99), some (.int zx3_166)] _ _ _
          refine rn_goto (tgt := 18) dL_law_1372 (by decide) ?_
          exact rn_wk (L' := [some (rs E), some (rf E 0), some (rf E 99), some (.int zx3_166)]) (⟨rfl, ⟨rfl, ⟨rfl, ⟨rfl, trivial⟩⟩⟩⟩) hF
        · replace hF := hF.2 hc_165
          refine rn_iconst (x := (0 : Int32)) dL_law_652 (by decide) ?_
          exact rn_wk (L' := [none, none, none, none]) (trivial) hF
      by_cases hq_176 : (((eX E).2.2 zj_2) &&& (63 : Int32)).toInt = 16
      · replace hF := hF.2.2.2.2.2.2.2.2.2.2.2.2.2.2.2.2.1 hq_176
        refine rn_tabIn (tgt := 654) dL_law_33 (by omega) (by omega) (by rw [hq_176]; rfl) (by decide) ?_
        refine rn_aload_n dL_law_654 rfl ?_
        refine rn_aload_n dL_law_655 rfl ?_
        refine rn_iload_n dL_law_656 rfl ?_
        refine rn_iconst (x := (1 : Int32)) dL_law_657 (by decide) ?_
        refine rn_iadd dL_law_658 ?_
        obtain ⟨zj_168, hzj_168, hF⟩ := hF
        refine rj_sld (k := zj_168) hzj_168 hX dL_law_659 ?_
        refine rm_callV (c0 := 0) (As := [.int ((eX E).2.2 zj_168)]) (st := []) mlRL_80 mdX9_works (Nat.le_of_ble_eq_true rfl) rfl (by decide) (by decide) rfl rfl rfl (Nat.le_of_ble_eq_true rfl) hm dL_law_660 ?_
        refine cm_mono hF (fun w zH_169 hF => ?_)
        obtain ⟨zr_170, rfl, hF⟩ := hF
        refine rn_aload_n dL_law_663 rfl ?_
        refine rn_aload_n dL_law_664 rfl ?_
        refine rn_iload_n dL_law_665 rfl ?_
        refine rn_iconst (x := (1 : Int32)) dL_law_666 (by decide) ?_
        refine rn_iadd dL_law_667 ?_
        obtain ⟨zj_171, hzj_171, hF⟩ := hF
        refine rj_sld (k := zj_171) hzj_171 hX dL_law_668 ?_
        refine rm_callV (c0 := 99) (As := [.int ((eX E).2.2 zj_171)]) (st := [.int zr_170]) mlRL_83 mdX10_works (Nat.le_of_ble_eq_true rfl) rfl (by decide) (by decide) rfl rfl rfl (Nat.le_of_ble_eq_true rfl) hm dL_law_669 ?_
        refine cm_mono hF (fun w zH_172 hF => ?_)
        obtain ⟨zr_173, rfl, hF⟩ := hF
        refine rn_icmp_eq (tgt := 1369) dL_law_672 (by decide) (fun hc_174 => ?_) (fun hc_174 => ?_)
        · replace hF := hF.1 hc_174
          refine rn_iinc (w := (6 : Int32)) dL_law_1369 rfl (by decide) rfl (Nat.le_of_ble_eq_true rfl) (fun zx3_175 ezx3_175 => ?_)
          replace hF := hF zx3_175 ezx3_175
          show Rn _ _ _ _ _ _ _ _ [some (rs E), some (rf E 0), some (rf E 99), some (.int zx3_175)] _ _ _
          refine rn_goto (tgt := 18) dL_law_1372 (by decide) ?_
          exact rn_wk (L' := [some (rs E), some (rf E 0), some (rf E 99), some (.int zx3_175)]) (⟨rfl, ⟨rfl, ⟨rfl, ⟨rfl, trivial⟩⟩⟩⟩) hF
        · replace hF := hF.2 hc_174
          refine rn_iconst (x := (0 : Int32)) dL_law_675 (by decide) ?_
          exact rn_wk (L' := [none, none, none, none]) (trivial) hF
      by_cases hq_183 : (((eX E).2.2 zj_2) &&& (63 : Int32)).toInt = 17
      · replace hF := hF.2.2.2.2.2.2.2.2.2.2.2.2.2.2.2.2.2.1 hq_183
        refine rn_tabIn (tgt := 677) dL_law_33 (by omega) (by omega) (by rw [hq_183]; rfl) (by decide) ?_
        refine rn_aload_n dL_law_677 rfl ?_
        refine rm_callV (c0 := 0) (As := []) (st := []) mlRL_84 mdX9_fails (Nat.le_of_ble_eq_true rfl) rfl (by decide) (by decide) rfl rfl rfl (Nat.le_of_ble_eq_true rfl) hm dL_law_678 ?_
        refine cm_mono hF (fun w zH_177 hF => ?_)
        obtain ⟨zr_178, rfl, hF⟩ := hF
        refine rn_aload_n dL_law_681 rfl ?_
        refine rm_callV (c0 := 99) (As := []) (st := [.int zr_178]) mlRL_88 mdX10_fails (Nat.le_of_ble_eq_true rfl) rfl (by decide) (by decide) rfl rfl rfl (Nat.le_of_ble_eq_true rfl) hm dL_law_682 ?_
        refine cm_mono hF (fun w zH_179 hF => ?_)
        obtain ⟨zr_180, rfl, hF⟩ := hF
        refine rn_icmp_eq (tgt := 1369) dL_law_685 (by decide) (fun hc_181 => ?_) (fun hc_181 => ?_)
        · replace hF := hF.1 hc_181
          refine rn_iinc (w := (6 : Int32)) dL_law_1369 rfl (by decide) rfl (Nat.le_of_ble_eq_true rfl) (fun zx3_182 ezx3_182 => ?_)
          replace hF := hF zx3_182 ezx3_182
          show Rn _ _ _ _ _ _ _ _ [some (rs E), some (rf E 0), some (rf E 99), some (.int zx3_182)] _ _ _
          refine rn_goto (tgt := 18) dL_law_1372 (by decide) ?_
          exact rn_wk (L' := [some (rs E), some (rf E 0), some (rf E 99), some (.int zx3_182)]) (⟨rfl, ⟨rfl, ⟨rfl, ⟨rfl, trivial⟩⟩⟩⟩) hF
        · replace hF := hF.2 hc_181
          refine rn_iconst (x := (0 : Int32)) dL_law_688 (by decide) ?_
          exact rn_wk (L' := [none, none, none, none]) (trivial) hF
      by_cases hq_192 : (((eX E).2.2 zj_2) &&& (63 : Int32)).toInt = 18
      · replace hF := hF.2.2.2.2.2.2.2.2.2.2.2.2.2.2.2.2.2.2.1 hq_192
        refine rn_tabIn (tgt := 690) dL_law_33 (by omega) (by omega) (by rw [hq_192]; rfl) (by decide) ?_
        refine rn_aload_n dL_law_690 rfl ?_
        refine rn_aload_n dL_law_691 rfl ?_
        refine rn_iload_n dL_law_692 rfl ?_
        refine rn_iconst (x := (1 : Int32)) dL_law_693 (by decide) ?_
        refine rn_iadd dL_law_694 ?_
        obtain ⟨zj_184, hzj_184, hF⟩ := hF
        refine rj_sld (k := zj_184) hzj_184 hX dL_law_695 ?_
        refine rm_callV (c0 := 0) (As := [.int ((eX E).2.2 zj_184)]) (st := []) mlRL_89 mdX9_went (Nat.le_of_ble_eq_true rfl) rfl (by decide) (by decide) rfl rfl rfl (Nat.le_of_ble_eq_true rfl) hm dL_law_696 ?_
        refine cm_mono hF (fun w zH_185 hF => ?_)
        obtain ⟨zr_186, rfl, hF⟩ := hF
        refine rn_aload_n dL_law_699 rfl ?_
        refine rn_aload_n dL_law_700 rfl ?_
        refine rn_iload_n dL_law_701 rfl ?_
        refine rn_iconst (x := (1 : Int32)) dL_law_702 (by decide) ?_
        refine rn_iadd dL_law_703 ?_
        obtain ⟨zj_187, hzj_187, hF⟩ := hF
        refine rj_sld (k := zj_187) hzj_187 hX dL_law_704 ?_
        refine rm_callV (c0 := 99) (As := [.int ((eX E).2.2 zj_187)]) (st := [.int zr_186]) mlRL_92 mdX10_went (Nat.le_of_ble_eq_true rfl) rfl (by decide) (by decide) rfl rfl rfl (Nat.le_of_ble_eq_true rfl) hm dL_law_705 ?_
        refine cm_mono hF (fun w zH_188 hF => ?_)
        obtain ⟨zr_189, rfl, hF⟩ := hF
        refine rn_icmp_eq (tgt := 1369) dL_law_708 (by decide) (fun hc_190 => ?_) (fun hc_190 => ?_)
        · replace hF := hF.1 hc_190
          refine rn_iinc (w := (6 : Int32)) dL_law_1369 rfl (by decide) rfl (Nat.le_of_ble_eq_true rfl) (fun zx3_191 ezx3_191 => ?_)
          replace hF := hF zx3_191 ezx3_191
          show Rn _ _ _ _ _ _ _ _ [some (rs E), some (rf E 0), some (rf E 99), some (.int zx3_191)] _ _ _
          refine rn_goto (tgt := 18) dL_law_1372 (by decide) ?_
          exact rn_wk (L' := [some (rs E), some (rf E 0), some (rf E 99), some (.int zx3_191)]) (⟨rfl, ⟨rfl, ⟨rfl, ⟨rfl, trivial⟩⟩⟩⟩) hF
        · replace hF := hF.2 hc_190
          refine rn_iconst (x := (0 : Int32)) dL_law_711 (by decide) ?_
          exact rn_wk (L' := [none, none, none, none]) (trivial) hF
      by_cases hq_209 : (((eX E).2.2 zj_2) &&& (63 : Int32)).toInt = 19
      · replace hF := hF.2.2.2.2.2.2.2.2.2.2.2.2.2.2.2.2.2.2.2.1 hq_209
        refine rn_tabIn (tgt := 713) dL_law_33 (by omega) (by omega) (by rw [hq_209]; rfl) (by decide) ?_
        refine rn_aload_n dL_law_713 rfl ?_
        refine rn_aload_n dL_law_714 rfl ?_
        refine rn_iload_n dL_law_715 rfl ?_
        refine rn_iconst (x := (1 : Int32)) dL_law_716 (by decide) ?_
        refine rn_iadd dL_law_717 ?_
        obtain ⟨zj_193, hzj_193, hF⟩ := hF
        refine rj_sld (k := zj_193) hzj_193 hX dL_law_718 ?_
        refine rn_aload_n dL_law_719 rfl ?_
        refine rn_iload_n dL_law_720 rfl ?_
        refine rn_iconst (x := (2 : Int32)) dL_law_721 (by decide) ?_
        refine rn_iadd dL_law_722 ?_
        obtain ⟨zj_194, hzj_194, hF⟩ := hF
        refine rj_sld (k := zj_194) hzj_194 hX dL_law_723 ?_
        refine rn_aload_n dL_law_724 rfl ?_
        refine rn_iload_n dL_law_725 rfl ?_
        refine rn_iconst (x := (3 : Int32)) dL_law_726 (by decide) ?_
        refine rn_iadd dL_law_727 ?_
        obtain ⟨zj_195, hzj_195, hF⟩ := hF
        refine rj_sld (k := zj_195) hzj_195 hX dL_law_728 ?_
        refine rn_aload_n dL_law_729 rfl ?_
        refine rn_iload_n dL_law_730 rfl ?_
        refine rn_iconst (x := (4 : Int32)) dL_law_731 (by decide) ?_
        refine rn_iadd dL_law_732 ?_
        obtain ⟨zj_196, hzj_196, hF⟩ := hF
        refine rj_sld (k := zj_196) hzj_196 hX dL_law_733 ?_
        refine rn_aload_n dL_law_734 rfl ?_
        refine rn_iload_n dL_law_735 rfl ?_
        refine rn_iconst (x := (5 : Int32)) dL_law_736 (by decide) ?_
        refine rn_iadd dL_law_737 ?_
        obtain ⟨zj_197, hzj_197, hF⟩ := hF
        refine rj_sld (k := zj_197) hzj_197 hX dL_law_738 ?_
        refine rm_callV (c0 := 0) (As := [.int ((eX E).2.2 zj_193), .int ((eX E).2.2 zj_194), .int ((eX E).2.2 zj_195), .int ((eX E).2.2 zj_196), .int ((eX E).2.2 zj_197)]) (st := []) mlRL_93 mdX9_lend (Nat.le_of_ble_eq_true rfl) rfl (by decide) (by decide) rfl rfl rfl (Nat.le_of_ble_eq_true rfl) hm dL_law_739 ?_
        refine cm_mono hF (fun w zH_198 hF => ?_)
        obtain ⟨zr_199, rfl, hF⟩ := hF
        refine rn_aload_n dL_law_742 rfl ?_
        refine rn_aload_n dL_law_743 rfl ?_
        refine rn_iload_n dL_law_744 rfl ?_
        refine rn_iconst (x := (1 : Int32)) dL_law_745 (by decide) ?_
        refine rn_iadd dL_law_746 ?_
        obtain ⟨zj_200, hzj_200, hF⟩ := hF
        refine rj_sld (k := zj_200) hzj_200 hX dL_law_747 ?_
        refine rn_aload_n dL_law_748 rfl ?_
        refine rn_iload_n dL_law_749 rfl ?_
        refine rn_iconst (x := (2 : Int32)) dL_law_750 (by decide) ?_
        refine rn_iadd dL_law_751 ?_
        obtain ⟨zj_201, hzj_201, hF⟩ := hF
        refine rj_sld (k := zj_201) hzj_201 hX dL_law_752 ?_
        refine rn_aload_n dL_law_753 rfl ?_
        refine rn_iload_n dL_law_754 rfl ?_
        refine rn_iconst (x := (3 : Int32)) dL_law_755 (by decide) ?_
        refine rn_iadd dL_law_756 ?_
        obtain ⟨zj_202, hzj_202, hF⟩ := hF
        refine rj_sld (k := zj_202) hzj_202 hX dL_law_757 ?_
        refine rn_aload_n dL_law_758 rfl ?_
        refine rn_iload_n dL_law_759 rfl ?_
        refine rn_iconst (x := (4 : Int32)) dL_law_760 (by decide) ?_
        refine rn_iadd dL_law_761 ?_
        obtain ⟨zj_203, hzj_203, hF⟩ := hF
        refine rj_sld (k := zj_203) hzj_203 hX dL_law_762 ?_
        refine rn_aload_n dL_law_763 rfl ?_
        refine rn_iload_n dL_law_764 rfl ?_
        refine rn_iconst (x := (5 : Int32)) dL_law_765 (by decide) ?_
        refine rn_iadd dL_law_766 ?_
        obtain ⟨zj_204, hzj_204, hF⟩ := hF
        refine rj_sld (k := zj_204) hzj_204 hX dL_law_767 ?_
        refine rm_callV (c0 := 99) (As := [.int ((eX E).2.2 zj_200), .int ((eX E).2.2 zj_201), .int ((eX E).2.2 zj_202), .int ((eX E).2.2 zj_203), .int ((eX E).2.2 zj_204)]) (st := [.int zr_199]) mlRL_97 mdX10_lend (Nat.le_of_ble_eq_true rfl) rfl (by decide) (by decide) rfl rfl rfl (Nat.le_of_ble_eq_true rfl) hm dL_law_768 ?_
        refine cm_mono hF (fun w zH_205 hF => ?_)
        obtain ⟨zr_206, rfl, hF⟩ := hF
        refine rn_icmp_eq (tgt := 1369) dL_law_771 (by decide) (fun hc_207 => ?_) (fun hc_207 => ?_)
        · replace hF := hF.1 hc_207
          refine rn_iinc (w := (6 : Int32)) dL_law_1369 rfl (by decide) rfl (Nat.le_of_ble_eq_true rfl) (fun zx3_208 ezx3_208 => ?_)
          replace hF := hF zx3_208 ezx3_208
          show Rn _ _ _ _ _ _ _ _ [some (rs E), some (rf E 0), some (rf E 99), some (.int zx3_208)] _ _ _
          refine rn_goto (tgt := 18) dL_law_1372 (by decide) ?_
          exact rn_wk (L' := [some (rs E), some (rf E 0), some (rf E 99), some (.int zx3_208)]) (⟨rfl, ⟨rfl, ⟨rfl, ⟨rfl, trivial⟩⟩⟩⟩) hF
        · replace hF := hF.2 hc_207
          refine rn_iconst (x := (0 : Int32)) dL_law_774 (by decide) ?_
          exact rn_wk (L' := [none, none, none, none]) (trivial) hF
      by_cases hq_218 : (((eX E).2.2 zj_2) &&& (63 : Int32)).toInt = 20
      · replace hF := hF.2.2.2.2.2.2.2.2.2.2.2.2.2.2.2.2.2.2.2.2.1 hq_218
        refine rn_tabIn (tgt := 776) dL_law_33 (by omega) (by omega) (by rw [hq_218]; rfl) (by decide) ?_
        refine rn_aload_n dL_law_776 rfl ?_
        refine rn_aload_n dL_law_777 rfl ?_
        refine rn_iload_n dL_law_778 rfl ?_
        refine rn_iconst (x := (1 : Int32)) dL_law_779 (by decide) ?_
        refine rn_iadd dL_law_780 ?_
        obtain ⟨zj_210, hzj_210, hF⟩ := hF
        refine rj_sld (k := zj_210) hzj_210 hX dL_law_781 ?_
        refine rm_callV (c0 := 0) (As := [.int ((eX E).2.2 zj_210)]) (st := []) mlRL_98 mdX9_hangs (Nat.le_of_ble_eq_true rfl) rfl (by decide) (by decide) rfl rfl rfl (Nat.le_of_ble_eq_true rfl) hm dL_law_782 ?_
        refine cm_mono hF (fun w zH_211 hF => ?_)
        obtain ⟨zr_212, rfl, hF⟩ := hF
        refine rn_aload_n dL_law_785 rfl ?_
        refine rn_aload_n dL_law_786 rfl ?_
        refine rn_iload_n dL_law_787 rfl ?_
        refine rn_iconst (x := (1 : Int32)) dL_law_788 (by decide) ?_
        refine rn_iadd dL_law_789 ?_
        obtain ⟨zj_213, hzj_213, hF⟩ := hF
        refine rj_sld (k := zj_213) hzj_213 hX dL_law_790 ?_
        refine rm_callV (c0 := 99) (As := [.int ((eX E).2.2 zj_213)]) (st := [.int zr_212]) mlRL_101 mdX10_hangs (Nat.le_of_ble_eq_true rfl) rfl (by decide) (by decide) rfl rfl rfl (Nat.le_of_ble_eq_true rfl) hm dL_law_791 ?_
        refine cm_mono hF (fun w zH_214 hF => ?_)
        obtain ⟨zr_215, rfl, hF⟩ := hF
        refine rn_icmp_eq (tgt := 1369) dL_law_794 (by decide) (fun hc_216 => ?_) (fun hc_216 => ?_)
        · replace hF := hF.1 hc_216
          refine rn_iinc (w := (6 : Int32)) dL_law_1369 rfl (by decide) rfl (Nat.le_of_ble_eq_true rfl) (fun zx3_217 ezx3_217 => ?_)
          replace hF := hF zx3_217 ezx3_217
          show Rn _ _ _ _ _ _ _ _ [some (rs E), some (rf E 0), some (rf E 99), some (.int zx3_217)] _ _ _
          refine rn_goto (tgt := 18) dL_law_1372 (by decide) ?_
          exact rn_wk (L' := [some (rs E), some (rf E 0), some (rf E 99), some (.int zx3_217)]) (⟨rfl, ⟨rfl, ⟨rfl, ⟨rfl, trivial⟩⟩⟩⟩) hF
        · replace hF := hF.2 hc_216
          refine rn_iconst (x := (0 : Int32)) dL_law_797 (by decide) ?_
          exact rn_wk (L' := [none, none, none, none]) (trivial) hF
      by_cases hq_229 : (((eX E).2.2 zj_2) &&& (63 : Int32)).toInt = 21
      · replace hF := hF.2.2.2.2.2.2.2.2.2.2.2.2.2.2.2.2.2.2.2.2.2.1 hq_229
        refine rn_tabIn (tgt := 799) dL_law_33 (by omega) (by omega) (by rw [hq_229]; rfl) (by decide) ?_
        refine rn_aload_n dL_law_799 rfl ?_
        refine rn_aload_n dL_law_800 rfl ?_
        refine rn_iload_n dL_law_801 rfl ?_
        refine rn_iconst (x := (1 : Int32)) dL_law_802 (by decide) ?_
        refine rn_iadd dL_law_803 ?_
        obtain ⟨zj_219, hzj_219, hF⟩ := hF
        refine rj_sld (k := zj_219) hzj_219 hX dL_law_804 ?_
        refine rn_aload_n dL_law_805 rfl ?_
        refine rn_iload_n dL_law_806 rfl ?_
        refine rn_iconst (x := (2 : Int32)) dL_law_807 (by decide) ?_
        refine rn_iadd dL_law_808 ?_
        obtain ⟨zj_220, hzj_220, hF⟩ := hF
        refine rj_sld (k := zj_220) hzj_220 hX dL_law_809 ?_
        refine rm_callV (c0 := 0) (As := [.int ((eX E).2.2 zj_219), .int ((eX E).2.2 zj_220)]) (st := []) mlRL_102 mdX9_sort (Nat.le_of_ble_eq_true rfl) rfl (by decide) (by decide) rfl rfl rfl (Nat.le_of_ble_eq_true rfl) hm dL_law_810 ?_
        refine cm_mono hF (fun w zH_221 hF => ?_)
        obtain ⟨zr_222, rfl, hF⟩ := hF
        refine rn_aload_n dL_law_813 rfl ?_
        refine rn_aload_n dL_law_814 rfl ?_
        refine rn_iload_n dL_law_815 rfl ?_
        refine rn_iconst (x := (1 : Int32)) dL_law_816 (by decide) ?_
        refine rn_iadd dL_law_817 ?_
        obtain ⟨zj_223, hzj_223, hF⟩ := hF
        refine rj_sld (k := zj_223) hzj_223 hX dL_law_818 ?_
        refine rn_aload_n dL_law_819 rfl ?_
        refine rn_iload_n dL_law_820 rfl ?_
        refine rn_iconst (x := (2 : Int32)) dL_law_821 (by decide) ?_
        refine rn_iadd dL_law_822 ?_
        obtain ⟨zj_224, hzj_224, hF⟩ := hF
        refine rj_sld (k := zj_224) hzj_224 hX dL_law_823 ?_
        refine rm_callV (c0 := 99) (As := [.int ((eX E).2.2 zj_223), .int ((eX E).2.2 zj_224)]) (st := [.int zr_222]) mlRL_105 mdX10_sort (Nat.le_of_ble_eq_true rfl) rfl (by decide) (by decide) rfl rfl rfl (Nat.le_of_ble_eq_true rfl) hm dL_law_824 ?_
        refine cm_mono hF (fun w zH_225 hF => ?_)
        obtain ⟨zr_226, rfl, hF⟩ := hF
        refine rn_icmp_eq (tgt := 1369) dL_law_827 (by decide) (fun hc_227 => ?_) (fun hc_227 => ?_)
        · replace hF := hF.1 hc_227
          refine rn_iinc (w := (6 : Int32)) dL_law_1369 rfl (by decide) rfl (Nat.le_of_ble_eq_true rfl) (fun zx3_228 ezx3_228 => ?_)
          replace hF := hF zx3_228 ezx3_228
          show Rn _ _ _ _ _ _ _ _ [some (rs E), some (rf E 0), some (rf E 99), some (.int zx3_228)] _ _ _
          refine rn_goto (tgt := 18) dL_law_1372 (by decide) ?_
          exact rn_wk (L' := [some (rs E), some (rf E 0), some (rf E 99), some (.int zx3_228)]) (⟨rfl, ⟨rfl, ⟨rfl, ⟨rfl, trivial⟩⟩⟩⟩) hF
        · replace hF := hF.2 hc_227
          refine rn_iconst (x := (0 : Int32)) dL_law_830 (by decide) ?_
          exact rn_wk (L' := [none, none, none, none]) (trivial) hF
      by_cases hq_242 : (((eX E).2.2 zj_2) &&& (63 : Int32)).toInt = 22
      · replace hF := hF.2.2.2.2.2.2.2.2.2.2.2.2.2.2.2.2.2.2.2.2.2.2.1 hq_242
        refine rn_tabIn (tgt := 832) dL_law_33 (by omega) (by omega) (by rw [hq_242]; rfl) (by decide) ?_
        refine rn_aload_n dL_law_832 rfl ?_
        refine rn_aload_n dL_law_833 rfl ?_
        refine rn_iload_n dL_law_834 rfl ?_
        refine rn_iconst (x := (1 : Int32)) dL_law_835 (by decide) ?_
        refine rn_iadd dL_law_836 ?_
        obtain ⟨zj_230, hzj_230, hF⟩ := hF
        refine rj_sld (k := zj_230) hzj_230 hX dL_law_837 ?_
        refine rn_aload_n dL_law_838 rfl ?_
        refine rn_iload_n dL_law_839 rfl ?_
        refine rn_iconst (x := (2 : Int32)) dL_law_840 (by decide) ?_
        refine rn_iadd dL_law_841 ?_
        obtain ⟨zj_231, hzj_231, hF⟩ := hF
        refine rj_sld (k := zj_231) hzj_231 hX dL_law_842 ?_
        refine rn_aload_n dL_law_843 rfl ?_
        refine rn_iload_n dL_law_844 rfl ?_
        refine rn_iconst (x := (3 : Int32)) dL_law_845 (by decide) ?_
        refine rn_iadd dL_law_846 ?_
        obtain ⟨zj_232, hzj_232, hF⟩ := hF
        refine rj_sld (k := zj_232) hzj_232 hX dL_law_847 ?_
        refine rm_callV (c0 := 0) (As := [.int ((eX E).2.2 zj_230), .int ((eX E).2.2 zj_231), .int ((eX E).2.2 zj_232)]) (st := []) mlRL_106 mdX9_felt (Nat.le_of_ble_eq_true rfl) rfl (by decide) (by decide) rfl rfl rfl (Nat.le_of_ble_eq_true rfl) hm dL_law_848 ?_
        refine cm_mono hF (fun w zH_233 hF => ?_)
        obtain ⟨zr_234, rfl, hF⟩ := hF
        refine rn_aload_n dL_law_851 rfl ?_
        refine rn_aload_n dL_law_852 rfl ?_
        refine rn_iload_n dL_law_853 rfl ?_
        refine rn_iconst (x := (1 : Int32)) dL_law_854 (by decide) ?_
        refine rn_iadd dL_law_855 ?_
        obtain ⟨zj_235, hzj_235, hF⟩ := hF
        refine rj_sld (k := zj_235) hzj_235 hX dL_law_856 ?_
        refine rn_aload_n dL_law_857 rfl ?_
        refine rn_iload_n dL_law_858 rfl ?_
        refine rn_iconst (x := (2 : Int32)) dL_law_859 (by decide) ?_
        refine rn_iadd dL_law_860 ?_
        obtain ⟨zj_236, hzj_236, hF⟩ := hF
        refine rj_sld (k := zj_236) hzj_236 hX dL_law_861 ?_
        refine rn_aload_n dL_law_862 rfl ?_
        refine rn_iload_n dL_law_863 rfl ?_
        refine rn_iconst (x := (3 : Int32)) dL_law_864 (by decide) ?_
        refine rn_iadd dL_law_865 ?_
        obtain ⟨zj_237, hzj_237, hF⟩ := hF
        refine rj_sld (k := zj_237) hzj_237 hX dL_law_866 ?_
        refine rm_callV (c0 := 99) (As := [.int ((eX E).2.2 zj_235), .int ((eX E).2.2 zj_236), .int ((eX E).2.2 zj_237)]) (st := [.int zr_234]) mlRL_110 mdX10_felt (Nat.le_of_ble_eq_true rfl) rfl (by decide) (by decide) rfl rfl rfl (Nat.le_of_ble_eq_true rfl) hm dL_law_867 ?_
        refine cm_mono hF (fun w zH_238 hF => ?_)
        obtain ⟨zr_239, rfl, hF⟩ := hF
        refine rn_icmp_eq (tgt := 1369) dL_law_870 (by decide) (fun hc_240 => ?_) (fun hc_240 => ?_)
        · replace hF := hF.1 hc_240
          refine rn_iinc (w := (6 : Int32)) dL_law_1369 rfl (by decide) rfl (Nat.le_of_ble_eq_true rfl) (fun zx3_241 ezx3_241 => ?_)
          replace hF := hF zx3_241 ezx3_241
          show Rn _ _ _ _ _ _ _ _ [some (rs E), some (rf E 0), some (rf E 99), some (.int zx3_241)] _ _ _
          refine rn_goto (tgt := 18) dL_law_1372 (by decide) ?_
          exact rn_wk (L' := [some (rs E), some (rf E 0), some (rf E 99), some (.int zx3_241)]) (⟨rfl, ⟨rfl, ⟨rfl, ⟨rfl, trivial⟩⟩⟩⟩) hF
        · replace hF := hF.2 hc_240
          refine rn_iconst (x := (0 : Int32)) dL_law_873 (by decide) ?_
          exact rn_wk (L' := [none, none, none, none]) (trivial) hF
      by_cases hq_249 : (((eX E).2.2 zj_2) &&& (63 : Int32)).toInt = 23
      · replace hF := hF.2.2.2.2.2.2.2.2.2.2.2.2.2.2.2.2.2.2.2.2.2.2.2.1 hq_249
        refine rn_tabIn (tgt := 875) dL_law_33 (by omega) (by omega) (by rw [hq_249]; rfl) (by decide) ?_
        refine rn_aload_n dL_law_875 rfl ?_
        refine rm_callV (c0 := 0) (As := []) (st := []) mlRL_111 mdX9_forget (Nat.le_of_ble_eq_true rfl) rfl (by decide) (by decide) rfl rfl rfl (Nat.le_of_ble_eq_true rfl) hm dL_law_876 ?_
        refine cm_mono hF (fun w zH_243 hF => ?_)
        obtain ⟨zr_244, rfl, hF⟩ := hF
        refine rn_aload_n dL_law_879 rfl ?_
        refine rm_callV (c0 := 99) (As := []) (st := [.int zr_244]) mlRL_114 mdX10_forget (Nat.le_of_ble_eq_true rfl) rfl (by decide) (by decide) rfl rfl rfl (Nat.le_of_ble_eq_true rfl) hm dL_law_880 ?_
        refine cm_mono hF (fun w zH_245 hF => ?_)
        obtain ⟨zr_246, rfl, hF⟩ := hF
        refine rn_icmp_eq (tgt := 1369) dL_law_883 (by decide) (fun hc_247 => ?_) (fun hc_247 => ?_)
        · replace hF := hF.1 hc_247
          refine rn_iinc (w := (6 : Int32)) dL_law_1369 rfl (by decide) rfl (Nat.le_of_ble_eq_true rfl) (fun zx3_248 ezx3_248 => ?_)
          replace hF := hF zx3_248 ezx3_248
          show Rn _ _ _ _ _ _ _ _ [some (rs E), some (rf E 0), some (rf E 99), some (.int zx3_248)] _ _ _
          refine rn_goto (tgt := 18) dL_law_1372 (by decide) ?_
          exact rn_wk (L' := [some (rs E), some (rf E 0), some (rf E 99), some (.int zx3_248)]) (⟨rfl, ⟨rfl, ⟨rfl, ⟨rfl, trivial⟩⟩⟩⟩) hF
        · replace hF := hF.2 hc_247
          refine rn_iconst (x := (0 : Int32)) dL_law_886 (by decide) ?_
          exact rn_wk (L' := [none, none, none, none]) (trivial) hF
      by_cases hq_260 : (((eX E).2.2 zj_2) &&& (63 : Int32)).toInt = 24
      · replace hF := hF.2.2.2.2.2.2.2.2.2.2.2.2.2.2.2.2.2.2.2.2.2.2.2.2.1 hq_260
        refine rn_tabIn (tgt := 888) dL_law_33 (by omega) (by omega) (by rw [hq_260]; rfl) (by decide) ?_
        refine rn_aload_n dL_law_888 rfl ?_
        refine rn_aload_n dL_law_889 rfl ?_
        refine rn_iload_n dL_law_890 rfl ?_
        refine rn_iconst (x := (1 : Int32)) dL_law_891 (by decide) ?_
        refine rn_iadd dL_law_892 ?_
        obtain ⟨zj_250, hzj_250, hF⟩ := hF
        refine rj_sld (k := zj_250) hzj_250 hX dL_law_893 ?_
        refine rn_aload_n dL_law_894 rfl ?_
        refine rn_iload_n dL_law_895 rfl ?_
        refine rn_iconst (x := (2 : Int32)) dL_law_896 (by decide) ?_
        refine rn_iadd dL_law_897 ?_
        obtain ⟨zj_251, hzj_251, hF⟩ := hF
        refine rj_sld (k := zj_251) hzj_251 hX dL_law_898 ?_
        refine rm_callV (c0 := 0) (As := [.int ((eX E).2.2 zj_250), .int ((eX E).2.2 zj_251)]) (st := []) mlRL_115 mdX9_when (Nat.le_of_ble_eq_true rfl) rfl (by decide) (by decide) rfl rfl rfl (Nat.le_of_ble_eq_true rfl) hm dL_law_899 ?_
        refine cm_mono hF (fun w zH_252 hF => ?_)
        obtain ⟨zr_253, rfl, hF⟩ := hF
        refine rn_aload_n dL_law_902 rfl ?_
        refine rn_aload_n dL_law_903 rfl ?_
        refine rn_iload_n dL_law_904 rfl ?_
        refine rn_iconst (x := (1 : Int32)) dL_law_905 (by decide) ?_
        refine rn_iadd dL_law_906 ?_
        obtain ⟨zj_254, hzj_254, hF⟩ := hF
        refine rj_sld (k := zj_254) hzj_254 hX dL_law_907 ?_
        refine rn_aload_n dL_law_908 rfl ?_
        refine rn_iload_n dL_law_909 rfl ?_
        refine rn_iconst (x := (2 : Int32)) dL_law_910 (by decide) ?_
        refine rn_iadd dL_law_911 ?_
        obtain ⟨zj_255, hzj_255, hF⟩ := hF
        refine rj_sld (k := zj_255) hzj_255 hX dL_law_912 ?_
        refine rm_callV (c0 := 99) (As := [.int ((eX E).2.2 zj_254), .int ((eX E).2.2 zj_255)]) (st := [.int zr_253]) mlRL_118 mdX10_when (Nat.le_of_ble_eq_true rfl) rfl (by decide) (by decide) rfl rfl rfl (Nat.le_of_ble_eq_true rfl) hm dL_law_913 ?_
        refine cm_mono hF (fun w zH_256 hF => ?_)
        obtain ⟨zr_257, rfl, hF⟩ := hF
        refine rn_icmp_eq (tgt := 1369) dL_law_916 (by decide) (fun hc_258 => ?_) (fun hc_258 => ?_)
        · replace hF := hF.1 hc_258
          refine rn_iinc (w := (6 : Int32)) dL_law_1369 rfl (by decide) rfl (Nat.le_of_ble_eq_true rfl) (fun zx3_259 ezx3_259 => ?_)
          replace hF := hF zx3_259 ezx3_259
          show Rn _ _ _ _ _ _ _ _ [some (rs E), some (rf E 0), some (rf E 99), some (.int zx3_259)] _ _ _
          refine rn_goto (tgt := 18) dL_law_1372 (by decide) ?_
          exact rn_wk (L' := [some (rs E), some (rf E 0), some (rf E 99), some (.int zx3_259)]) (⟨rfl, ⟨rfl, ⟨rfl, ⟨rfl, trivial⟩⟩⟩⟩) hF
        · replace hF := hF.2 hc_258
          refine rn_iconst (x := (0 : Int32)) dL_law_919 (by decide) ?_
          exact rn_wk (L' := [none, none, none, none]) (trivial) hF
      by_cases hq_269 : (((eX E).2.2 zj_2) &&& (63 : Int32)).toInt = 25
      · replace hF := hF.2.2.2.2.2.2.2.2.2.2.2.2.2.2.2.2.2.2.2.2.2.2.2.2.2.1 hq_269
        refine rn_tabIn (tgt := 921) dL_law_33 (by omega) (by omega) (by rw [hq_269]; rfl) (by decide) ?_
        refine rn_aload_n dL_law_921 rfl ?_
        refine rn_aload_n dL_law_922 rfl ?_
        refine rn_iload_n dL_law_923 rfl ?_
        refine rn_iconst (x := (1 : Int32)) dL_law_924 (by decide) ?_
        refine rn_iadd dL_law_925 ?_
        obtain ⟨zj_261, hzj_261, hF⟩ := hF
        refine rj_sld (k := zj_261) hzj_261 hX dL_law_926 ?_
        refine rm_callV (c0 := 0) (As := [.int ((eX E).2.2 zj_261)]) (st := []) mlRL_119 mdX9_thief (Nat.le_of_ble_eq_true rfl) rfl (by decide) (by decide) rfl rfl rfl (Nat.le_of_ble_eq_true rfl) hm dL_law_927 ?_
        refine cm_mono hF (fun w zH_262 hF => ?_)
        obtain ⟨zr_263, rfl, hF⟩ := hF
        refine rn_aload_n dL_law_930 rfl ?_
        refine rn_aload_n dL_law_931 rfl ?_
        refine rn_iload_n dL_law_932 rfl ?_
        refine rn_iconst (x := (1 : Int32)) dL_law_933 (by decide) ?_
        refine rn_iadd dL_law_934 ?_
        obtain ⟨zj_264, hzj_264, hF⟩ := hF
        refine rj_sld (k := zj_264) hzj_264 hX dL_law_935 ?_
        refine rm_callV (c0 := 99) (As := [.int ((eX E).2.2 zj_264)]) (st := [.int zr_263]) mlRL_122 mdX10_thief (Nat.le_of_ble_eq_true rfl) rfl (by decide) (by decide) rfl rfl rfl (Nat.le_of_ble_eq_true rfl) hm dL_law_936 ?_
        refine cm_mono hF (fun w zH_265 hF => ?_)
        obtain ⟨zr_266, rfl, hF⟩ := hF
        refine rn_icmp_eq (tgt := 1369) dL_law_939 (by decide) (fun hc_267 => ?_) (fun hc_267 => ?_)
        · replace hF := hF.1 hc_267
          refine rn_iinc (w := (6 : Int32)) dL_law_1369 rfl (by decide) rfl (Nat.le_of_ble_eq_true rfl) (fun zx3_268 ezx3_268 => ?_)
          replace hF := hF zx3_268 ezx3_268
          show Rn _ _ _ _ _ _ _ _ [some (rs E), some (rf E 0), some (rf E 99), some (.int zx3_268)] _ _ _
          refine rn_goto (tgt := 18) dL_law_1372 (by decide) ?_
          exact rn_wk (L' := [some (rs E), some (rf E 0), some (rf E 99), some (.int zx3_268)]) (⟨rfl, ⟨rfl, ⟨rfl, ⟨rfl, trivial⟩⟩⟩⟩) hF
        · replace hF := hF.2 hc_267
          refine rn_iconst (x := (0 : Int32)) dL_law_942 (by decide) ?_
          exact rn_wk (L' := [none, none, none, none]) (trivial) hF
      by_cases hq_280 : (((eX E).2.2 zj_2) &&& (63 : Int32)).toInt = 26
      · replace hF := hF.2.2.2.2.2.2.2.2.2.2.2.2.2.2.2.2.2.2.2.2.2.2.2.2.2.2.1 hq_280
        refine rn_tabIn (tgt := 944) dL_law_33 (by omega) (by omega) (by rw [hq_280]; rfl) (by decide) ?_
        refine rn_aload_n dL_law_944 rfl ?_
        refine rn_aload_n dL_law_945 rfl ?_
        refine rn_iload_n dL_law_946 rfl ?_
        refine rn_iconst (x := (1 : Int32)) dL_law_947 (by decide) ?_
        refine rn_iadd dL_law_948 ?_
        obtain ⟨zj_270, hzj_270, hF⟩ := hF
        refine rj_sld (k := zj_270) hzj_270 hX dL_law_949 ?_
        refine rn_aload_n dL_law_950 rfl ?_
        refine rn_iload_n dL_law_951 rfl ?_
        refine rn_iconst (x := (2 : Int32)) dL_law_952 (by decide) ?_
        refine rn_iadd dL_law_953 ?_
        obtain ⟨zj_271, hzj_271, hF⟩ := hF
        refine rj_sld (k := zj_271) hzj_271 hX dL_law_954 ?_
        refine rm_callV (c0 := 0) (As := [.int ((eX E).2.2 zj_270), .int ((eX E).2.2 zj_271)]) (st := []) mlRL_123 mdX9_feel (Nat.le_of_ble_eq_true rfl) rfl (by decide) (by decide) rfl rfl rfl (Nat.le_of_ble_eq_true rfl) hm dL_law_955 ?_
        refine cm_mono hF (fun w zH_272 hF => ?_)
        obtain ⟨zr_273, rfl, hF⟩ := hF
        refine rn_aload_n dL_law_958 rfl ?_
        refine rn_aload_n dL_law_959 rfl ?_
        refine rn_iload_n dL_law_960 rfl ?_
        refine rn_iconst (x := (1 : Int32)) dL_law_961 (by decide) ?_
        refine rn_iadd dL_law_962 ?_
        obtain ⟨zj_274, hzj_274, hF⟩ := hF
        refine rj_sld (k := zj_274) hzj_274 hX dL_law_963 ?_
        refine rn_aload_n dL_law_964 rfl ?_
        refine rn_iload_n dL_law_965 rfl ?_
        refine rn_iconst (x := (2 : Int32)) dL_law_966 (by decide) ?_
        refine rn_iadd dL_law_967 ?_
        obtain ⟨zj_275, hzj_275, hF⟩ := hF
        refine rj_sld (k := zj_275) hzj_275 hX dL_law_968 ?_
        refine rm_callV (c0 := 99) (As := [.int ((eX E).2.2 zj_274), .int ((eX E).2.2 zj_275)]) (st := [.int zr_273]) mlRL_126 mdX10_feel (Nat.le_of_ble_eq_true rfl) rfl (by decide) (by decide) rfl rfl rfl (Nat.le_of_ble_eq_true rfl) hm dL_law_969 ?_
        refine cm_mono hF (fun w zH_276 hF => ?_)
        obtain ⟨zr_277, rfl, hF⟩ := hF
        refine rn_icmp_eq (tgt := 1369) dL_law_972 (by decide) (fun hc_278 => ?_) (fun hc_278 => ?_)
        · replace hF := hF.1 hc_278
          refine rn_iinc (w := (6 : Int32)) dL_law_1369 rfl (by decide) rfl (Nat.le_of_ble_eq_true rfl) (fun zx3_279 ezx3_279 => ?_)
          replace hF := hF zx3_279 ezx3_279
          show Rn _ _ _ _ _ _ _ _ [some (rs E), some (rf E 0), some (rf E 99), some (.int zx3_279)] _ _ _
          refine rn_goto (tgt := 18) dL_law_1372 (by decide) ?_
          exact rn_wk (L' := [some (rs E), some (rf E 0), some (rf E 99), some (.int zx3_279)]) (⟨rfl, ⟨rfl, ⟨rfl, ⟨rfl, trivial⟩⟩⟩⟩) hF
        · replace hF := hF.2 hc_278
          refine rn_iconst (x := (0 : Int32)) dL_law_975 (by decide) ?_
          exact rn_wk (L' := [none, none, none, none]) (trivial) hF
      by_cases hq_295 : (((eX E).2.2 zj_2) &&& (63 : Int32)).toInt = 27
      · replace hF := hF.2.2.2.2.2.2.2.2.2.2.2.2.2.2.2.2.2.2.2.2.2.2.2.2.2.2.2.1 hq_295
        refine rn_tabIn (tgt := 977) dL_law_33 (by omega) (by omega) (by rw [hq_295]; rfl) (by decide) ?_
        refine rn_aload_n dL_law_977 rfl ?_
        refine rn_aload_n dL_law_978 rfl ?_
        refine rn_iload_n dL_law_979 rfl ?_
        refine rn_iconst (x := (1 : Int32)) dL_law_980 (by decide) ?_
        refine rn_iadd dL_law_981 ?_
        obtain ⟨zj_281, hzj_281, hF⟩ := hF
        refine rj_sld (k := zj_281) hzj_281 hX dL_law_982 ?_
        refine rn_aload_n dL_law_983 rfl ?_
        refine rn_iload_n dL_law_984 rfl ?_
        refine rn_iconst (x := (2 : Int32)) dL_law_985 (by decide) ?_
        refine rn_iadd dL_law_986 ?_
        obtain ⟨zj_282, hzj_282, hF⟩ := hF
        refine rj_sld (k := zj_282) hzj_282 hX dL_law_987 ?_
        refine rn_aload_n dL_law_988 rfl ?_
        refine rn_iload_n dL_law_989 rfl ?_
        refine rn_iconst (x := (3 : Int32)) dL_law_990 (by decide) ?_
        refine rn_iadd dL_law_991 ?_
        obtain ⟨zj_283, hzj_283, hF⟩ := hF
        refine rj_sld (k := zj_283) hzj_283 hX dL_law_992 ?_
        refine rn_aload_n dL_law_993 rfl ?_
        refine rn_iload_n dL_law_994 rfl ?_
        refine rn_iconst (x := (4 : Int32)) dL_law_995 (by decide) ?_
        refine rn_iadd dL_law_996 ?_
        obtain ⟨zj_284, hzj_284, hF⟩ := hF
        refine rj_sld (k := zj_284) hzj_284 hX dL_law_997 ?_
        refine rm_callV (c0 := 0) (As := [.int ((eX E).2.2 zj_281), .int ((eX E).2.2 zj_282), .int ((eX E).2.2 zj_283), .int ((eX E).2.2 zj_284)]) (st := []) mlRL_127 mdX9_jumps (Nat.le_of_ble_eq_true rfl) rfl (by decide) (by decide) rfl rfl rfl (Nat.le_of_ble_eq_true rfl) hm dL_law_998 ?_
        refine cm_mono hF (fun w zH_285 hF => ?_)
        obtain ⟨zr_286, rfl, hF⟩ := hF
        refine rn_aload_n dL_law_1001 rfl ?_
        refine rn_aload_n dL_law_1002 rfl ?_
        refine rn_iload_n dL_law_1003 rfl ?_
        refine rn_iconst (x := (1 : Int32)) dL_law_1004 (by decide) ?_
        refine rn_iadd dL_law_1005 ?_
        obtain ⟨zj_287, hzj_287, hF⟩ := hF
        refine rj_sld (k := zj_287) hzj_287 hX dL_law_1006 ?_
        refine rn_aload_n dL_law_1007 rfl ?_
        refine rn_iload_n dL_law_1008 rfl ?_
        refine rn_iconst (x := (2 : Int32)) dL_law_1009 (by decide) ?_
        refine rn_iadd dL_law_1010 ?_
        obtain ⟨zj_288, hzj_288, hF⟩ := hF
        refine rj_sld (k := zj_288) hzj_288 hX dL_law_1011 ?_
        refine rn_aload_n dL_law_1012 rfl ?_
        refine rn_iload_n dL_law_1013 rfl ?_
        refine rn_iconst (x := (3 : Int32)) dL_law_1014 (by decide) ?_
        refine rn_iadd dL_law_1015 ?_
        obtain ⟨zj_289, hzj_289, hF⟩ := hF
        refine rj_sld (k := zj_289) hzj_289 hX dL_law_1016 ?_
        refine rn_aload_n dL_law_1017 rfl ?_
        refine rn_iload_n dL_law_1018 rfl ?_
        refine rn_iconst (x := (4 : Int32)) dL_law_1019 (by decide) ?_
        refine rn_iadd dL_law_1020 ?_
        obtain ⟨zj_290, hzj_290, hF⟩ := hF
        refine rj_sld (k := zj_290) hzj_290 hX dL_law_1021 ?_
        refine rm_callV (c0 := 99) (As := [.int ((eX E).2.2 zj_287), .int ((eX E).2.2 zj_288), .int ((eX E).2.2 zj_289), .int ((eX E).2.2 zj_290)]) (st := [.long zr_286]) mlRL_131 mdX10_jumps (Nat.le_of_ble_eq_true rfl) rfl (by decide) (by decide) rfl rfl rfl (Nat.le_of_ble_eq_true rfl) hm dL_law_1022 ?_
        refine cm_mono hF (fun w zH_291 hF => ?_)
        obtain ⟨zr_292, rfl, hF⟩ := hF
        refine rn_lcmp dL_law_1025 ?_
        refine rn_if_eq (tgt := 1369) dL_law_1026 (by decide) (fun hc_293 => ?_) (fun hc_293 => ?_)
        · replace hF := hF.1 hc_293
          refine rn_iinc (w := (6 : Int32)) dL_law_1369 rfl (by decide) rfl (Nat.le_of_ble_eq_true rfl) (fun zx3_294 ezx3_294 => ?_)
          replace hF := hF zx3_294 ezx3_294
          show Rn _ _ _ _ _ _ _ _ [some (rs E), some (rf E 0), some (rf E 99), some (.int zx3_294)] _ _ _
          refine rn_goto (tgt := 18) dL_law_1372 (by decide) ?_
          exact rn_wk (L' := [some (rs E), some (rf E 0), some (rf E 99), some (.int zx3_294)]) (⟨rfl, ⟨rfl, ⟨rfl, ⟨rfl, trivial⟩⟩⟩⟩) hF
        · replace hF := hF.2 hc_293
          refine rn_iconst (x := (0 : Int32)) dL_law_1029 (by decide) ?_
          exact rn_wk (L' := [none, none, none, none]) (trivial) hF
      by_cases hq_308 : (((eX E).2.2 zj_2) &&& (63 : Int32)).toInt = 28
      · replace hF := hF.2.2.2.2.2.2.2.2.2.2.2.2.2.2.2.2.2.2.2.2.2.2.2.2.2.2.2.2.1 hq_308
        refine rn_tabIn (tgt := 1031) dL_law_33 (by omega) (by omega) (by rw [hq_308]; rfl) (by decide) ?_
        refine rn_aload_n dL_law_1031 rfl ?_
        refine rn_aload_n dL_law_1032 rfl ?_
        refine rn_iload_n dL_law_1033 rfl ?_
        refine rn_iconst (x := (1 : Int32)) dL_law_1034 (by decide) ?_
        refine rn_iadd dL_law_1035 ?_
        obtain ⟨zj_296, hzj_296, hF⟩ := hF
        refine rj_sld (k := zj_296) hzj_296 hX dL_law_1036 ?_
        refine rn_aload_n dL_law_1037 rfl ?_
        refine rn_iload_n dL_law_1038 rfl ?_
        refine rn_iconst (x := (2 : Int32)) dL_law_1039 (by decide) ?_
        refine rn_iadd dL_law_1040 ?_
        obtain ⟨zj_297, hzj_297, hF⟩ := hF
        refine rj_sld (k := zj_297) hzj_297 hX dL_law_1041 ?_
        refine rn_aload_n dL_law_1042 rfl ?_
        refine rn_iload_n dL_law_1043 rfl ?_
        refine rn_iconst (x := (3 : Int32)) dL_law_1044 (by decide) ?_
        refine rn_iadd dL_law_1045 ?_
        obtain ⟨zj_298, hzj_298, hF⟩ := hF
        refine rj_sld (k := zj_298) hzj_298 hX dL_law_1046 ?_
        refine rm_callV (c0 := 0) (As := [.int ((eX E).2.2 zj_296), .int ((eX E).2.2 zj_297), .int ((eX E).2.2 zj_298)]) (st := []) mlRL_132 mdX9_day (Nat.le_of_ble_eq_true rfl) rfl (by decide) (by decide) rfl rfl rfl (Nat.le_of_ble_eq_true rfl) hm dL_law_1047 ?_
        refine cm_mono hF (fun w zH_299 hF => ?_)
        obtain ⟨zr_300, rfl, hF⟩ := hF
        refine rn_aload_n dL_law_1050 rfl ?_
        refine rn_aload_n dL_law_1051 rfl ?_
        refine rn_iload_n dL_law_1052 rfl ?_
        refine rn_iconst (x := (1 : Int32)) dL_law_1053 (by decide) ?_
        refine rn_iadd dL_law_1054 ?_
        obtain ⟨zj_301, hzj_301, hF⟩ := hF
        refine rj_sld (k := zj_301) hzj_301 hX dL_law_1055 ?_
        refine rn_aload_n dL_law_1056 rfl ?_
        refine rn_iload_n dL_law_1057 rfl ?_
        refine rn_iconst (x := (2 : Int32)) dL_law_1058 (by decide) ?_
        refine rn_iadd dL_law_1059 ?_
        obtain ⟨zj_302, hzj_302, hF⟩ := hF
        refine rj_sld (k := zj_302) hzj_302 hX dL_law_1060 ?_
        refine rn_aload_n dL_law_1061 rfl ?_
        refine rn_iload_n dL_law_1062 rfl ?_
        refine rn_iconst (x := (3 : Int32)) dL_law_1063 (by decide) ?_
        refine rn_iadd dL_law_1064 ?_
        obtain ⟨zj_303, hzj_303, hF⟩ := hF
        refine rj_sld (k := zj_303) hzj_303 hX dL_law_1065 ?_
        refine rm_callV (c0 := 99) (As := [.int ((eX E).2.2 zj_301), .int ((eX E).2.2 zj_302), .int ((eX E).2.2 zj_303)]) (st := [.int zr_300]) mlRL_135 mdX10_day (Nat.le_of_ble_eq_true rfl) rfl (by decide) (by decide) rfl rfl rfl (Nat.le_of_ble_eq_true rfl) hm dL_law_1066 ?_
        refine cm_mono hF (fun w zH_304 hF => ?_)
        obtain ⟨zr_305, rfl, hF⟩ := hF
        refine rn_icmp_eq (tgt := 1369) dL_law_1069 (by decide) (fun hc_306 => ?_) (fun hc_306 => ?_)
        · replace hF := hF.1 hc_306
          refine rn_iinc (w := (6 : Int32)) dL_law_1369 rfl (by decide) rfl (Nat.le_of_ble_eq_true rfl) (fun zx3_307 ezx3_307 => ?_)
          replace hF := hF zx3_307 ezx3_307
          show Rn _ _ _ _ _ _ _ _ [some (rs E), some (rf E 0), some (rf E 99), some (.int zx3_307)] _ _ _
          refine rn_goto (tgt := 18) dL_law_1372 (by decide) ?_
          exact rn_wk (L' := [some (rs E), some (rf E 0), some (rf E 99), some (.int zx3_307)]) (⟨rfl, ⟨rfl, ⟨rfl, ⟨rfl, trivial⟩⟩⟩⟩) hF
        · replace hF := hF.2 hc_306
          refine rn_iconst (x := (0 : Int32)) dL_law_1072 (by decide) ?_
          exact rn_wk (L' := [none, none, none, none]) (trivial) hF
      by_cases hq_321 : (((eX E).2.2 zj_2) &&& (63 : Int32)).toInt = 29
      · replace hF := hF.2.2.2.2.2.2.2.2.2.2.2.2.2.2.2.2.2.2.2.2.2.2.2.2.2.2.2.2.2.1 hq_321
        refine rn_tabIn (tgt := 1074) dL_law_33 (by omega) (by omega) (by rw [hq_321]; rfl) (by decide) ?_
        refine rn_aload_n dL_law_1074 rfl ?_
        refine rn_aload_n dL_law_1075 rfl ?_
        refine rn_iload_n dL_law_1076 rfl ?_
        refine rn_iconst (x := (1 : Int32)) dL_law_1077 (by decide) ?_
        refine rn_iadd dL_law_1078 ?_
        obtain ⟨zj_309, hzj_309, hF⟩ := hF
        refine rj_sld (k := zj_309) hzj_309 hX dL_law_1079 ?_
        refine rn_aload_n dL_law_1080 rfl ?_
        refine rn_iload_n dL_law_1081 rfl ?_
        refine rn_iconst (x := (2 : Int32)) dL_law_1082 (by decide) ?_
        refine rn_iadd dL_law_1083 ?_
        obtain ⟨zj_310, hzj_310, hF⟩ := hF
        refine rj_sld (k := zj_310) hzj_310 hX dL_law_1084 ?_
        refine rn_aload_n dL_law_1085 rfl ?_
        refine rn_iload_n dL_law_1086 rfl ?_
        refine rn_iconst (x := (3 : Int32)) dL_law_1087 (by decide) ?_
        refine rn_iadd dL_law_1088 ?_
        obtain ⟨zj_311, hzj_311, hF⟩ := hF
        refine rj_sld (k := zj_311) hzj_311 hX dL_law_1089 ?_
        refine rm_callV (c0 := 0) (As := [.int ((eX E).2.2 zj_309), .int ((eX E).2.2 zj_310), .int ((eX E).2.2 zj_311)]) (st := []) mlRL_136 mdX9_sheet (Nat.le_of_ble_eq_true rfl) rfl (by decide) (by decide) rfl rfl rfl (Nat.le_of_ble_eq_true rfl) hm dL_law_1090 ?_
        refine cm_mono hF (fun w zH_312 hF => ?_)
        obtain ⟨zr_313, rfl, hF⟩ := hF
        refine rn_aload_n dL_law_1093 rfl ?_
        refine rn_aload_n dL_law_1094 rfl ?_
        refine rn_iload_n dL_law_1095 rfl ?_
        refine rn_iconst (x := (1 : Int32)) dL_law_1096 (by decide) ?_
        refine rn_iadd dL_law_1097 ?_
        obtain ⟨zj_314, hzj_314, hF⟩ := hF
        refine rj_sld (k := zj_314) hzj_314 hX dL_law_1098 ?_
        refine rn_aload_n dL_law_1099 rfl ?_
        refine rn_iload_n dL_law_1100 rfl ?_
        refine rn_iconst (x := (2 : Int32)) dL_law_1101 (by decide) ?_
        refine rn_iadd dL_law_1102 ?_
        obtain ⟨zj_315, hzj_315, hF⟩ := hF
        refine rj_sld (k := zj_315) hzj_315 hX dL_law_1103 ?_
        refine rn_aload_n dL_law_1104 rfl ?_
        refine rn_iload_n dL_law_1105 rfl ?_
        refine rn_iconst (x := (3 : Int32)) dL_law_1106 (by decide) ?_
        refine rn_iadd dL_law_1107 ?_
        obtain ⟨zj_316, hzj_316, hF⟩ := hF
        refine rj_sld (k := zj_316) hzj_316 hX dL_law_1108 ?_
        refine rm_callV (c0 := 99) (As := [.int ((eX E).2.2 zj_314), .int ((eX E).2.2 zj_315), .int ((eX E).2.2 zj_316)]) (st := [.int zr_313]) mlRL_139 mdX10_sheet (Nat.le_of_ble_eq_true rfl) rfl (by decide) (by decide) rfl rfl rfl (Nat.le_of_ble_eq_true rfl) hm dL_law_1109 ?_
        refine cm_mono hF (fun w zH_317 hF => ?_)
        obtain ⟨zr_318, rfl, hF⟩ := hF
        refine rn_icmp_eq (tgt := 1369) dL_law_1112 (by decide) (fun hc_319 => ?_) (fun hc_319 => ?_)
        · replace hF := hF.1 hc_319
          refine rn_iinc (w := (6 : Int32)) dL_law_1369 rfl (by decide) rfl (Nat.le_of_ble_eq_true rfl) (fun zx3_320 ezx3_320 => ?_)
          replace hF := hF zx3_320 ezx3_320
          show Rn _ _ _ _ _ _ _ _ [some (rs E), some (rf E 0), some (rf E 99), some (.int zx3_320)] _ _ _
          refine rn_goto (tgt := 18) dL_law_1372 (by decide) ?_
          exact rn_wk (L' := [some (rs E), some (rf E 0), some (rf E 99), some (.int zx3_320)]) (⟨rfl, ⟨rfl, ⟨rfl, ⟨rfl, trivial⟩⟩⟩⟩) hF
        · replace hF := hF.2 hc_319
          refine rn_iconst (x := (0 : Int32)) dL_law_1115 (by decide) ?_
          exact rn_wk (L' := [none, none, none, none]) (trivial) hF
      by_cases hq_330 : (((eX E).2.2 zj_2) &&& (63 : Int32)).toInt = 30
      · replace hF := hF.2.2.2.2.2.2.2.2.2.2.2.2.2.2.2.2.2.2.2.2.2.2.2.2.2.2.2.2.2.2.1 hq_330
        refine rn_tabIn (tgt := 1117) dL_law_33 (by omega) (by omega) (by rw [hq_330]; rfl) (by decide) ?_
        refine rn_aload_n dL_law_1117 rfl ?_
        refine rn_aload_n dL_law_1118 rfl ?_
        refine rn_iload_n dL_law_1119 rfl ?_
        refine rn_iconst (x := (1 : Int32)) dL_law_1120 (by decide) ?_
        refine rn_iadd dL_law_1121 ?_
        obtain ⟨zj_322, hzj_322, hF⟩ := hF
        refine rj_sld (k := zj_322) hzj_322 hX dL_law_1122 ?_
        refine rm_callV (c0 := 0) (As := [.int ((eX E).2.2 zj_322)]) (st := []) mlRL_140 mdX9_lose (Nat.le_of_ble_eq_true rfl) rfl (by decide) (by decide) rfl rfl rfl (Nat.le_of_ble_eq_true rfl) hm dL_law_1123 ?_
        refine cm_mono hF (fun w zH_323 hF => ?_)
        obtain ⟨zr_324, rfl, hF⟩ := hF
        refine rn_aload_n dL_law_1126 rfl ?_
        refine rn_aload_n dL_law_1127 rfl ?_
        refine rn_iload_n dL_law_1128 rfl ?_
        refine rn_iconst (x := (1 : Int32)) dL_law_1129 (by decide) ?_
        refine rn_iadd dL_law_1130 ?_
        obtain ⟨zj_325, hzj_325, hF⟩ := hF
        refine rj_sld (k := zj_325) hzj_325 hX dL_law_1131 ?_
        refine rm_callV (c0 := 99) (As := [.int ((eX E).2.2 zj_325)]) (st := [.int zr_324]) mlRL_143 mdX10_lose (Nat.le_of_ble_eq_true rfl) rfl (by decide) (by decide) rfl rfl rfl (Nat.le_of_ble_eq_true rfl) hm dL_law_1132 ?_
        refine cm_mono hF (fun w zH_326 hF => ?_)
        obtain ⟨zr_327, rfl, hF⟩ := hF
        refine rn_icmp_eq (tgt := 1369) dL_law_1135 (by decide) (fun hc_328 => ?_) (fun hc_328 => ?_)
        · replace hF := hF.1 hc_328
          refine rn_iinc (w := (6 : Int32)) dL_law_1369 rfl (by decide) rfl (Nat.le_of_ble_eq_true rfl) (fun zx3_329 ezx3_329 => ?_)
          replace hF := hF zx3_329 ezx3_329
          show Rn _ _ _ _ _ _ _ _ [some (rs E), some (rf E 0), some (rf E 99), some (.int zx3_329)] _ _ _
          refine rn_goto (tgt := 18) dL_law_1372 (by decide) ?_
          exact rn_wk (L' := [some (rs E), some (rf E 0), some (rf E 99), some (.int zx3_329)]) (⟨rfl, ⟨rfl, ⟨rfl, ⟨rfl, trivial⟩⟩⟩⟩) hF
        · replace hF := hF.2 hc_328
          refine rn_iconst (x := (0 : Int32)) dL_law_1138 (by decide) ?_
          exact rn_wk (L' := [none, none, none, none]) (trivial) hF
      by_cases hq_345 : (((eX E).2.2 zj_2) &&& (63 : Int32)).toInt = 31
      · replace hF := hF.2.2.2.2.2.2.2.2.2.2.2.2.2.2.2.2.2.2.2.2.2.2.2.2.2.2.2.2.2.2.2.1 hq_345
        refine rn_tabIn (tgt := 1140) dL_law_33 (by omega) (by omega) (by rw [hq_345]; rfl) (by decide) ?_
        refine rn_aload_n dL_law_1140 rfl ?_
        refine rn_aload_n dL_law_1141 rfl ?_
        refine rn_iload_n dL_law_1142 rfl ?_
        refine rn_iconst (x := (1 : Int32)) dL_law_1143 (by decide) ?_
        refine rn_iadd dL_law_1144 ?_
        obtain ⟨zj_331, hzj_331, hF⟩ := hF
        refine rj_sld (k := zj_331) hzj_331 hX dL_law_1145 ?_
        refine rn_aload_n dL_law_1146 rfl ?_
        refine rn_iload_n dL_law_1147 rfl ?_
        refine rn_iconst (x := (2 : Int32)) dL_law_1148 (by decide) ?_
        refine rn_iadd dL_law_1149 ?_
        obtain ⟨zj_332, hzj_332, hF⟩ := hF
        refine rj_sld (k := zj_332) hzj_332 hX dL_law_1150 ?_
        refine rn_aload_n dL_law_1151 rfl ?_
        refine rn_iload_n dL_law_1152 rfl ?_
        refine rn_iconst (x := (3 : Int32)) dL_law_1153 (by decide) ?_
        refine rn_iadd dL_law_1154 ?_
        obtain ⟨zj_333, hzj_333, hF⟩ := hF
        refine rj_sld (k := zj_333) hzj_333 hX dL_law_1155 ?_
        refine rn_aload_n dL_law_1156 rfl ?_
        refine rn_iload_n dL_law_1157 rfl ?_
        refine rn_iconst (x := (4 : Int32)) dL_law_1158 (by decide) ?_
        refine rn_iadd dL_law_1159 ?_
        obtain ⟨zj_334, hzj_334, hF⟩ := hF
        refine rj_sld (k := zj_334) hzj_334 hX dL_law_1160 ?_
        refine rm_callV (c0 := 0) (As := [.int ((eX E).2.2 zj_331), .int ((eX E).2.2 zj_332), .int ((eX E).2.2 zj_333), .int ((eX E).2.2 zj_334)]) (st := []) mlRL_144 mdX9_put (Nat.le_of_ble_eq_true rfl) rfl (by decide) (by decide) rfl rfl rfl (Nat.le_of_ble_eq_true rfl) hm dL_law_1161 ?_
        refine cm_mono hF (fun w zH_335 hF => ?_)
        obtain ⟨zr_336, rfl, hF⟩ := hF
        refine rn_aload_n dL_law_1164 rfl ?_
        refine rn_aload_n dL_law_1165 rfl ?_
        refine rn_iload_n dL_law_1166 rfl ?_
        refine rn_iconst (x := (1 : Int32)) dL_law_1167 (by decide) ?_
        refine rn_iadd dL_law_1168 ?_
        obtain ⟨zj_337, hzj_337, hF⟩ := hF
        refine rj_sld (k := zj_337) hzj_337 hX dL_law_1169 ?_
        refine rn_aload_n dL_law_1170 rfl ?_
        refine rn_iload_n dL_law_1171 rfl ?_
        refine rn_iconst (x := (2 : Int32)) dL_law_1172 (by decide) ?_
        refine rn_iadd dL_law_1173 ?_
        obtain ⟨zj_338, hzj_338, hF⟩ := hF
        refine rj_sld (k := zj_338) hzj_338 hX dL_law_1174 ?_
        refine rn_aload_n dL_law_1175 rfl ?_
        refine rn_iload_n dL_law_1176 rfl ?_
        refine rn_iconst (x := (3 : Int32)) dL_law_1177 (by decide) ?_
        refine rn_iadd dL_law_1178 ?_
        obtain ⟨zj_339, hzj_339, hF⟩ := hF
        refine rj_sld (k := zj_339) hzj_339 hX dL_law_1179 ?_
        refine rn_aload_n dL_law_1180 rfl ?_
        refine rn_iload_n dL_law_1181 rfl ?_
        refine rn_iconst (x := (4 : Int32)) dL_law_1182 (by decide) ?_
        refine rn_iadd dL_law_1183 ?_
        obtain ⟨zj_340, hzj_340, hF⟩ := hF
        refine rj_sld (k := zj_340) hzj_340 hX dL_law_1184 ?_
        refine rm_callV (c0 := 99) (As := [.int ((eX E).2.2 zj_337), .int ((eX E).2.2 zj_338), .int ((eX E).2.2 zj_339), .int ((eX E).2.2 zj_340)]) (st := [.int zr_336]) mlRL_147 mdX10_put (Nat.le_of_ble_eq_true rfl) rfl (by decide) (by decide) rfl rfl rfl (Nat.le_of_ble_eq_true rfl) hm dL_law_1185 ?_
        refine cm_mono hF (fun w zH_341 hF => ?_)
        obtain ⟨zr_342, rfl, hF⟩ := hF
        refine rn_icmp_eq (tgt := 1369) dL_law_1188 (by decide) (fun hc_343 => ?_) (fun hc_343 => ?_)
        · replace hF := hF.1 hc_343
          refine rn_iinc (w := (6 : Int32)) dL_law_1369 rfl (by decide) rfl (Nat.le_of_ble_eq_true rfl) (fun zx3_344 ezx3_344 => ?_)
          replace hF := hF zx3_344 ezx3_344
          show Rn _ _ _ _ _ _ _ _ [some (rs E), some (rf E 0), some (rf E 99), some (.int zx3_344)] _ _ _
          refine rn_goto (tgt := 18) dL_law_1372 (by decide) ?_
          exact rn_wk (L' := [some (rs E), some (rf E 0), some (rf E 99), some (.int zx3_344)]) (⟨rfl, ⟨rfl, ⟨rfl, ⟨rfl, trivial⟩⟩⟩⟩) hF
        · replace hF := hF.2 hc_343
          refine rn_iconst (x := (0 : Int32)) dL_law_1191 (by decide) ?_
          exact rn_wk (L' := [none, none, none, none]) (trivial) hF
      by_cases hq_358 : (((eX E).2.2 zj_2) &&& (63 : Int32)).toInt = 32
      · replace hF := hF.2.2.2.2.2.2.2.2.2.2.2.2.2.2.2.2.2.2.2.2.2.2.2.2.2.2.2.2.2.2.2.2.1 hq_358
        refine rn_tabIn (tgt := 1193) dL_law_33 (by omega) (by omega) (by rw [hq_358]; rfl) (by decide) ?_
        refine rn_aload_n dL_law_1193 rfl ?_
        refine rn_aload_n dL_law_1194 rfl ?_
        refine rn_iload_n dL_law_1195 rfl ?_
        refine rn_iconst (x := (1 : Int32)) dL_law_1196 (by decide) ?_
        refine rn_iadd dL_law_1197 ?_
        obtain ⟨zj_346, hzj_346, hF⟩ := hF
        refine rj_sld (k := zj_346) hzj_346 hX dL_law_1198 ?_
        refine rn_aload_n dL_law_1199 rfl ?_
        refine rn_iload_n dL_law_1200 rfl ?_
        refine rn_iconst (x := (2 : Int32)) dL_law_1201 (by decide) ?_
        refine rn_iadd dL_law_1202 ?_
        obtain ⟨zj_347, hzj_347, hF⟩ := hF
        refine rj_sld (k := zj_347) hzj_347 hX dL_law_1203 ?_
        refine rn_aload_n dL_law_1204 rfl ?_
        refine rn_iload_n dL_law_1205 rfl ?_
        refine rn_iconst (x := (3 : Int32)) dL_law_1206 (by decide) ?_
        refine rn_iadd dL_law_1207 ?_
        obtain ⟨zj_348, hzj_348, hF⟩ := hF
        refine rj_sld (k := zj_348) hzj_348 hX dL_law_1208 ?_
        refine rm_callV (c0 := 0) (As := [.int ((eX E).2.2 zj_346), .int ((eX E).2.2 zj_347), .int ((eX E).2.2 zj_348)]) (st := []) mlRL_148 mdX9_get (Nat.le_of_ble_eq_true rfl) rfl (by decide) (by decide) rfl rfl rfl (Nat.le_of_ble_eq_true rfl) hm dL_law_1209 ?_
        refine cm_mono hF (fun w zH_349 hF => ?_)
        obtain ⟨zr_350, rfl, hF⟩ := hF
        refine rn_aload_n dL_law_1212 rfl ?_
        refine rn_aload_n dL_law_1213 rfl ?_
        refine rn_iload_n dL_law_1214 rfl ?_
        refine rn_iconst (x := (1 : Int32)) dL_law_1215 (by decide) ?_
        refine rn_iadd dL_law_1216 ?_
        obtain ⟨zj_351, hzj_351, hF⟩ := hF
        refine rj_sld (k := zj_351) hzj_351 hX dL_law_1217 ?_
        refine rn_aload_n dL_law_1218 rfl ?_
        refine rn_iload_n dL_law_1219 rfl ?_
        refine rn_iconst (x := (2 : Int32)) dL_law_1220 (by decide) ?_
        refine rn_iadd dL_law_1221 ?_
        obtain ⟨zj_352, hzj_352, hF⟩ := hF
        refine rj_sld (k := zj_352) hzj_352 hX dL_law_1222 ?_
        refine rn_aload_n dL_law_1223 rfl ?_
        refine rn_iload_n dL_law_1224 rfl ?_
        refine rn_iconst (x := (3 : Int32)) dL_law_1225 (by decide) ?_
        refine rn_iadd dL_law_1226 ?_
        obtain ⟨zj_353, hzj_353, hF⟩ := hF
        refine rj_sld (k := zj_353) hzj_353 hX dL_law_1227 ?_
        refine rm_callV (c0 := 99) (As := [.int ((eX E).2.2 zj_351), .int ((eX E).2.2 zj_352), .int ((eX E).2.2 zj_353)]) (st := [.int zr_350]) mlRL_151 mdX10_get (Nat.le_of_ble_eq_true rfl) rfl (by decide) (by decide) rfl rfl rfl (Nat.le_of_ble_eq_true rfl) hm dL_law_1228 ?_
        refine cm_mono hF (fun w zH_354 hF => ?_)
        obtain ⟨zr_355, rfl, hF⟩ := hF
        refine rn_icmp_eq (tgt := 1369) dL_law_1231 (by decide) (fun hc_356 => ?_) (fun hc_356 => ?_)
        · replace hF := hF.1 hc_356
          refine rn_iinc (w := (6 : Int32)) dL_law_1369 rfl (by decide) rfl (Nat.le_of_ble_eq_true rfl) (fun zx3_357 ezx3_357 => ?_)
          replace hF := hF zx3_357 ezx3_357
          show Rn _ _ _ _ _ _ _ _ [some (rs E), some (rf E 0), some (rf E 99), some (.int zx3_357)] _ _ _
          refine rn_goto (tgt := 18) dL_law_1372 (by decide) ?_
          exact rn_wk (L' := [some (rs E), some (rf E 0), some (rf E 99), some (.int zx3_357)]) (⟨rfl, ⟨rfl, ⟨rfl, ⟨rfl, trivial⟩⟩⟩⟩) hF
        · replace hF := hF.2 hc_356
          refine rn_iconst (x := (0 : Int32)) dL_law_1234 (by decide) ?_
          exact rn_wk (L' := [none, none, none, none]) (trivial) hF
      by_cases hq_375 : (((eX E).2.2 zj_2) &&& (63 : Int32)).toInt = 33
      · replace hF := hF.2.2.2.2.2.2.2.2.2.2.2.2.2.2.2.2.2.2.2.2.2.2.2.2.2.2.2.2.2.2.2.2.2.1 hq_375
        refine rn_tabIn (tgt := 1236) dL_law_33 (by omega) (by omega) (by rw [hq_375]; rfl) (by decide) ?_
        refine rn_aload_n dL_law_1236 rfl ?_
        refine rn_aload_n dL_law_1237 rfl ?_
        refine rn_iload_n dL_law_1238 rfl ?_
        refine rn_iconst (x := (1 : Int32)) dL_law_1239 (by decide) ?_
        refine rn_iadd dL_law_1240 ?_
        obtain ⟨zj_359, hzj_359, hF⟩ := hF
        refine rj_sld (k := zj_359) hzj_359 hX dL_law_1241 ?_
        refine rn_aload_n dL_law_1242 rfl ?_
        refine rn_iload_n dL_law_1243 rfl ?_
        refine rn_iconst (x := (2 : Int32)) dL_law_1244 (by decide) ?_
        refine rn_iadd dL_law_1245 ?_
        obtain ⟨zj_360, hzj_360, hF⟩ := hF
        refine rj_sld (k := zj_360) hzj_360 hX dL_law_1246 ?_
        refine rn_aload_n dL_law_1247 rfl ?_
        refine rn_iload_n dL_law_1248 rfl ?_
        refine rn_iconst (x := (3 : Int32)) dL_law_1249 (by decide) ?_
        refine rn_iadd dL_law_1250 ?_
        obtain ⟨zj_361, hzj_361, hF⟩ := hF
        refine rj_sld (k := zj_361) hzj_361 hX dL_law_1251 ?_
        refine rn_aload_n dL_law_1252 rfl ?_
        refine rn_iload_n dL_law_1253 rfl ?_
        refine rn_iconst (x := (4 : Int32)) dL_law_1254 (by decide) ?_
        refine rn_iadd dL_law_1255 ?_
        obtain ⟨zj_362, hzj_362, hF⟩ := hF
        refine rj_sld (k := zj_362) hzj_362 hX dL_law_1256 ?_
        refine rn_aload_n dL_law_1257 rfl ?_
        refine rn_iload_n dL_law_1258 rfl ?_
        refine rn_iconst (x := (5 : Int32)) dL_law_1259 (by decide) ?_
        refine rn_iadd dL_law_1260 ?_
        obtain ⟨zj_363, hzj_363, hF⟩ := hF
        refine rj_sld (k := zj_363) hzj_363 hX dL_law_1261 ?_
        refine rm_callV (c0 := 0) (As := [.int ((eX E).2.2 zj_359), .int ((eX E).2.2 zj_360), .int ((eX E).2.2 zj_361), .int ((eX E).2.2 zj_362), .int ((eX E).2.2 zj_363)]) (st := []) mlRL_152 mdX9_copy (Nat.le_of_ble_eq_true rfl) rfl (by decide) (by decide) rfl rfl rfl (Nat.le_of_ble_eq_true rfl) hm dL_law_1262 ?_
        refine cm_mono hF (fun w zH_364 hF => ?_)
        obtain ⟨zr_365, rfl, hF⟩ := hF
        refine rn_aload_n dL_law_1265 rfl ?_
        refine rn_aload_n dL_law_1266 rfl ?_
        refine rn_iload_n dL_law_1267 rfl ?_
        refine rn_iconst (x := (1 : Int32)) dL_law_1268 (by decide) ?_
        refine rn_iadd dL_law_1269 ?_
        obtain ⟨zj_366, hzj_366, hF⟩ := hF
        refine rj_sld (k := zj_366) hzj_366 hX dL_law_1270 ?_
        refine rn_aload_n dL_law_1271 rfl ?_
        refine rn_iload_n dL_law_1272 rfl ?_
        refine rn_iconst (x := (2 : Int32)) dL_law_1273 (by decide) ?_
        refine rn_iadd dL_law_1274 ?_
        obtain ⟨zj_367, hzj_367, hF⟩ := hF
        refine rj_sld (k := zj_367) hzj_367 hX dL_law_1275 ?_
        refine rn_aload_n dL_law_1276 rfl ?_
        refine rn_iload_n dL_law_1277 rfl ?_
        refine rn_iconst (x := (3 : Int32)) dL_law_1278 (by decide) ?_
        refine rn_iadd dL_law_1279 ?_
        obtain ⟨zj_368, hzj_368, hF⟩ := hF
        refine rj_sld (k := zj_368) hzj_368 hX dL_law_1280 ?_
        refine rn_aload_n dL_law_1281 rfl ?_
        refine rn_iload_n dL_law_1282 rfl ?_
        refine rn_iconst (x := (4 : Int32)) dL_law_1283 (by decide) ?_
        refine rn_iadd dL_law_1284 ?_
        obtain ⟨zj_369, hzj_369, hF⟩ := hF
        refine rj_sld (k := zj_369) hzj_369 hX dL_law_1285 ?_
        refine rn_aload_n dL_law_1286 rfl ?_
        refine rn_iload_n dL_law_1287 rfl ?_
        refine rn_iconst (x := (5 : Int32)) dL_law_1288 (by decide) ?_
        refine rn_iadd dL_law_1289 ?_
        obtain ⟨zj_370, hzj_370, hF⟩ := hF
        refine rj_sld (k := zj_370) hzj_370 hX dL_law_1290 ?_
        refine rm_callV (c0 := 99) (As := [.int ((eX E).2.2 zj_366), .int ((eX E).2.2 zj_367), .int ((eX E).2.2 zj_368), .int ((eX E).2.2 zj_369), .int ((eX E).2.2 zj_370)]) (st := [.int zr_365]) mlRL_155 mdX10_copy (Nat.le_of_ble_eq_true rfl) rfl (by decide) (by decide) rfl rfl rfl (Nat.le_of_ble_eq_true rfl) hm dL_law_1291 ?_
        refine cm_mono hF (fun w zH_371 hF => ?_)
        obtain ⟨zr_372, rfl, hF⟩ := hF
        refine rn_icmp_eq (tgt := 1369) dL_law_1294 (by decide) (fun hc_373 => ?_) (fun hc_373 => ?_)
        · replace hF := hF.1 hc_373
          refine rn_iinc (w := (6 : Int32)) dL_law_1369 rfl (by decide) rfl (Nat.le_of_ble_eq_true rfl) (fun zx3_374 ezx3_374 => ?_)
          replace hF := hF zx3_374 ezx3_374
          show Rn _ _ _ _ _ _ _ _ [some (rs E), some (rf E 0), some (rf E 99), some (.int zx3_374)] _ _ _
          refine rn_goto (tgt := 18) dL_law_1372 (by decide) ?_
          exact rn_wk (L' := [some (rs E), some (rf E 0), some (rf E 99), some (.int zx3_374)]) (⟨rfl, ⟨rfl, ⟨rfl, ⟨rfl, trivial⟩⟩⟩⟩) hF
        · replace hF := hF.2 hc_373
          refine rn_iconst (x := (0 : Int32)) dL_law_1297 (by decide) ?_
          exact rn_wk (L' := [none, none, none, none]) (trivial) hF
      by_cases hq_386 : (((eX E).2.2 zj_2) &&& (63 : Int32)).toInt = 34
      · replace hF := hF.2.2.2.2.2.2.2.2.2.2.2.2.2.2.2.2.2.2.2.2.2.2.2.2.2.2.2.2.2.2.2.2.2.2.1 hq_386
        refine rn_tabIn (tgt := 1299) dL_law_33 (by omega) (by omega) (by rw [hq_386]; rfl) (by decide) ?_
        refine rn_aload_n dL_law_1299 rfl ?_
        refine rn_aload_n dL_law_1300 rfl ?_
        refine rn_iload_n dL_law_1301 rfl ?_
        refine rn_iconst (x := (1 : Int32)) dL_law_1302 (by decide) ?_
        refine rn_iadd dL_law_1303 ?_
        obtain ⟨zj_376, hzj_376, hF⟩ := hF
        refine rj_sld (k := zj_376) hzj_376 hX dL_law_1304 ?_
        refine rn_aload_n dL_law_1305 rfl ?_
        refine rn_iload_n dL_law_1306 rfl ?_
        refine rn_iconst (x := (2 : Int32)) dL_law_1307 (by decide) ?_
        refine rn_iadd dL_law_1308 ?_
        obtain ⟨zj_377, hzj_377, hF⟩ := hF
        refine rj_sld (k := zj_377) hzj_377 hX dL_law_1309 ?_
        refine rm_callV (c0 := 0) (As := [.int ((eX E).2.2 zj_376), .int ((eX E).2.2 zj_377)]) (st := []) mlRL_156 mdX9_write (Nat.le_of_ble_eq_true rfl) rfl (by decide) (by decide) rfl rfl rfl (Nat.le_of_ble_eq_true rfl) hm dL_law_1310 ?_
        refine cm_mono hF (fun w zH_378 hF => ?_)
        obtain ⟨zr_379, rfl, hF⟩ := hF
        refine rn_aload_n dL_law_1313 rfl ?_
        refine rn_aload_n dL_law_1314 rfl ?_
        refine rn_iload_n dL_law_1315 rfl ?_
        refine rn_iconst (x := (1 : Int32)) dL_law_1316 (by decide) ?_
        refine rn_iadd dL_law_1317 ?_
        obtain ⟨zj_380, hzj_380, hF⟩ := hF
        refine rj_sld (k := zj_380) hzj_380 hX dL_law_1318 ?_
        refine rn_aload_n dL_law_1319 rfl ?_
        refine rn_iload_n dL_law_1320 rfl ?_
        refine rn_iconst (x := (2 : Int32)) dL_law_1321 (by decide) ?_
        refine rn_iadd dL_law_1322 ?_
        obtain ⟨zj_381, hzj_381, hF⟩ := hF
        refine rj_sld (k := zj_381) hzj_381 hX dL_law_1323 ?_
        refine rm_callV (c0 := 99) (As := [.int ((eX E).2.2 zj_380), .int ((eX E).2.2 zj_381)]) (st := [.int zr_379]) mlRL_159 mdX10_write (Nat.le_of_ble_eq_true rfl) rfl (by decide) (by decide) rfl rfl rfl (Nat.le_of_ble_eq_true rfl) hm dL_law_1324 ?_
        refine cm_mono hF (fun w zH_382 hF => ?_)
        obtain ⟨zr_383, rfl, hF⟩ := hF
        refine rn_icmp_eq (tgt := 1369) dL_law_1327 (by decide) (fun hc_384 => ?_) (fun hc_384 => ?_)
        · replace hF := hF.1 hc_384
          refine rn_iinc (w := (6 : Int32)) dL_law_1369 rfl (by decide) rfl (Nat.le_of_ble_eq_true rfl) (fun zx3_385 ezx3_385 => ?_)
          replace hF := hF zx3_385 ezx3_385
          show Rn _ _ _ _ _ _ _ _ [some (rs E), some (rf E 0), some (rf E 99), some (.int zx3_385)] _ _ _
          refine rn_goto (tgt := 18) dL_law_1372 (by decide) ?_
          exact rn_wk (L' := [some (rs E), some (rf E 0), some (rf E 99), some (.int zx3_385)]) (⟨rfl, ⟨rfl, ⟨rfl, ⟨rfl, trivial⟩⟩⟩⟩) hF
        · replace hF := hF.2 hc_384
          refine rn_iconst (x := (0 : Int32)) dL_law_1330 (by decide) ?_
          exact rn_wk (L' := [none, none, none, none]) (trivial) hF
      by_cases hq_395 : (((eX E).2.2 zj_2) &&& (63 : Int32)).toInt = 35
      · replace hF := hF.2.2.2.2.2.2.2.2.2.2.2.2.2.2.2.2.2.2.2.2.2.2.2.2.2.2.2.2.2.2.2.2.2.2.2.1 hq_395
        refine rn_tabIn (tgt := 1332) dL_law_33 (by omega) (by omega) (by rw [hq_395]; rfl) (by decide) ?_
        refine rn_aload_n dL_law_1332 rfl ?_
        refine rn_aload_n dL_law_1333 rfl ?_
        refine rn_iload_n dL_law_1334 rfl ?_
        refine rn_iconst (x := (1 : Int32)) dL_law_1335 (by decide) ?_
        refine rn_iadd dL_law_1336 ?_
        obtain ⟨zj_387, hzj_387, hF⟩ := hF
        refine rj_sld (k := zj_387) hzj_387 hX dL_law_1337 ?_
        refine rm_callV (c0 := 0) (As := [.int ((eX E).2.2 zj_387)]) (st := []) mlRL_160 mdX9_count (Nat.le_of_ble_eq_true rfl) rfl (by decide) (by decide) rfl rfl rfl (Nat.le_of_ble_eq_true rfl) hm dL_law_1338 ?_
        refine cm_mono hF (fun w zH_388 hF => ?_)
        obtain ⟨zr_389, rfl, hF⟩ := hF
        refine rn_aload_n dL_law_1341 rfl ?_
        refine rn_aload_n dL_law_1342 rfl ?_
        refine rn_iload_n dL_law_1343 rfl ?_
        refine rn_iconst (x := (1 : Int32)) dL_law_1344 (by decide) ?_
        refine rn_iadd dL_law_1345 ?_
        obtain ⟨zj_390, hzj_390, hF⟩ := hF
        refine rj_sld (k := zj_390) hzj_390 hX dL_law_1346 ?_
        refine rm_callV (c0 := 99) (As := [.int ((eX E).2.2 zj_390)]) (st := [.int zr_389]) mlRL_163 mdX10_count (Nat.le_of_ble_eq_true rfl) rfl (by decide) (by decide) rfl rfl rfl (Nat.le_of_ble_eq_true rfl) hm dL_law_1347 ?_
        refine cm_mono hF (fun w zH_391 hF => ?_)
        obtain ⟨zr_392, rfl, hF⟩ := hF
        refine rn_icmp_eq (tgt := 1369) dL_law_1350 (by decide) (fun hc_393 => ?_) (fun hc_393 => ?_)
        · replace hF := hF.1 hc_393
          refine rn_iinc (w := (6 : Int32)) dL_law_1369 rfl (by decide) rfl (Nat.le_of_ble_eq_true rfl) (fun zx3_394 ezx3_394 => ?_)
          replace hF := hF zx3_394 ezx3_394
          show Rn _ _ _ _ _ _ _ _ [some (rs E), some (rf E 0), some (rf E 99), some (.int zx3_394)] _ _ _
          refine rn_goto (tgt := 18) dL_law_1372 (by decide) ?_
          exact rn_wk (L' := [some (rs E), some (rf E 0), some (rf E 99), some (.int zx3_394)]) (⟨rfl, ⟨rfl, ⟨rfl, ⟨rfl, trivial⟩⟩⟩⟩) hF
        · replace hF := hF.2 hc_393
          refine rn_iconst (x := (0 : Int32)) dL_law_1353 (by decide) ?_
          exact rn_wk (L' := [none, none, none, none]) (trivial) hF
      by_cases hq_402 : (((eX E).2.2 zj_2) &&& (63 : Int32)).toInt = 36
      · replace hF := hF.2.2.2.2.2.2.2.2.2.2.2.2.2.2.2.2.2.2.2.2.2.2.2.2.2.2.2.2.2.2.2.2.2.2.2.2.1 hq_402
        refine rn_tabIn (tgt := 1355) dL_law_33 (by omega) (by omega) (by rw [hq_402]; rfl) (by decide) ?_
        refine rn_aload_n dL_law_1355 rfl ?_
        refine rm_callV (c0 := 0) (As := []) (st := []) mlRL_164 mdX9_digest (Nat.le_of_ble_eq_true rfl) rfl (by decide) (by decide) rfl rfl rfl (Nat.le_of_ble_eq_true rfl) hm dL_law_1356 ?_
        refine cm_mono hF (fun w zH_396 hF => ?_)
        obtain ⟨zr_397, rfl, hF⟩ := hF
        refine rn_aload_n dL_law_1359 rfl ?_
        refine rm_callV (c0 := 99) (As := []) (st := [.long zr_397]) mlRL_168 mdX10_digest (Nat.le_of_ble_eq_true rfl) rfl (by decide) (by decide) rfl rfl rfl (Nat.le_of_ble_eq_true rfl) hm dL_law_1360 ?_
        refine cm_mono hF (fun w zH_398 hF => ?_)
        obtain ⟨zr_399, rfl, hF⟩ := hF
        refine rn_lcmp dL_law_1363 ?_
        refine rn_if_eq (tgt := 1369) dL_law_1364 (by decide) (fun hc_400 => ?_) (fun hc_400 => ?_)
        · replace hF := hF.1 hc_400
          refine rn_iinc (w := (6 : Int32)) dL_law_1369 rfl (by decide) rfl (Nat.le_of_ble_eq_true rfl) (fun zx3_401 ezx3_401 => ?_)
          replace hF := hF zx3_401 ezx3_401
          show Rn _ _ _ _ _ _ _ _ [some (rs E), some (rf E 0), some (rf E 99), some (.int zx3_401)] _ _ _
          refine rn_goto (tgt := 18) dL_law_1372 (by decide) ?_
          exact rn_wk (L' := [some (rs E), some (rf E 0), some (rf E 99), some (.int zx3_401)]) (⟨rfl, ⟨rfl, ⟨rfl, ⟨rfl, trivial⟩⟩⟩⟩) hF
        · replace hF := hF.2 hc_400
          refine rn_iconst (x := (0 : Int32)) dL_law_1367 (by decide) ?_
          exact rn_wk (L' := [none, none, none, none]) (trivial) hF
      exfalso; omega
theorem sgL_1369 {E : En} {mc ms u v : Nat} {Z : List Frame → Array Value → State → State → Prop} {H : Hi} {zx3 : Int32} (hm : u ≤ mc ∧ v ≤ ms) (hX : (eX E).2.1 < 2 ^ 31)
    (hF : ∀ zx3_1 : Int32, zx3_1 = zx3 + (6 : Int32) → (Rn E mL_law mc ms Z u v 18 [some (rs E), some (rf E 0), some (rf E 99), some (.int zx3_1)] [] nN (lay E H))) :
    Rn E mL_law mc ms Z u v 1369 [some (rs E), some (rf E 0), some (rf E 99), some (.int zx3)] [] nN (lay E H) := by
  refine rn_iinc (w := (6 : Int32)) dL_law_1369 rfl (by decide) rfl (Nat.le_of_ble_eq_true rfl) (fun zx3_1 ezx3_1 => ?_)
  replace hF := hF zx3_1 ezx3_1
  show Rn _ _ _ _ _ _ _ _ [some (rs E), some (rf E 0), some (rf E 99), some (.int zx3_1)] _ _ _
  refine rn_goto (tgt := 18) dL_law_1372 (by decide) ?_
  exact rn_wk (L' := [some (rs E), some (rf E 0), some (rf E 99), some (.int zx3_1)]) (⟨rfl, ⟨rfl, ⟨rfl, ⟨rfl, trivial⟩⟩⟩⟩) hF
