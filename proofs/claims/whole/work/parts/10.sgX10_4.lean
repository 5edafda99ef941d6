theorem sgX10_thingDigest_0 {E : En} {Q : Option Value → Hi → Prop} {H : Hi} {zy1 : Int64} {zx3 : Int32} 
    (hF : Rm E mX10_thingDigest Q 6 [some (rf E 99), none, none, some (.int zx3), some (.long zy1), none, some (.int (0 : Int32))] [] H) :
    Rm E mX10_thingDigest Q 0 [some (rf E 99), some (.long zy1), none, some (.int zx3), none, none, none] [] H := by
  refine rn_lload_n dX10_thingDigest_0 rfl ?_
  refine ra_lstore dX10_thingDigest_1 rfl (Nat.le_of_ble_eq_true rfl) ?_
  show Rn _ _ _ _ _ _ _ _ [some (rf E 99), some (.long zy1), none, some (.int zx3), some (.long zy1), none, none] _ _ _
  refine rn_iconst (x := (0 : Int32)) dX10_thingDigest_3 (by decide) ?_
  refine ra_istore dX10_thingDigest_4 rfl (Nat.le_of_ble_eq_true rfl) ?_
  show Rn _ _ _ _ _ _ _ _ [some (rf E 99), some (.long zy1), none, some (.int zx3), some (.long zy1), none, some (.int (0 : Int32))] _ _ _
  exact rn_wk (L' := [some (rf E 99), none, none, some (.int zx3), some (.long zy1), none, some (.int (0 : Int32))]) (⟨rfl, ⟨rfl, ⟨rfl, ⟨rfl, trivial⟩⟩⟩⟩) hF
theorem cmX10_thingDigest {E : En} {Q : Option Value → Hi → Prop} {H : Hi} {zy1 : Int64} {zx3 : Int32} 
    (hF : Rm E mX10_thingDigest Q 6 [some (rf E 99), none, none, some (.int zx3), some (.long zy1), none, some (.int (0 : Int32))] [] H) :
    Cm E mX10_thingDigest [rf E 99, .long zy1, .int zx3] H Q :=
  cm_of (by decide +kernel : plainName RX10 = true) (Nat.le_of_ble_eq_true rfl) rfl (sgX10_thingDigest_0  hF)
theorem sgX10_thingDigest_6 {E : En} {Q : Option Value → Hi → Prop} {H : Hi} {zx3 : Int32} {zy4 : Int64} {zx6 : Int32} 
    (hF : ((3 : Int32) ≤ zx6 → (Cm E mX10_whereOf [rf E 99, .int (5 : Int32), .int zx3] H (fun w zH_2 => ∃ zr_3 : Int32, w = some (.int zr_3) ∧ (∀ zx4_4 : Int64, zx4_4 = ((31 : Int64) * zy4) + (zr_3.toInt64) → (Cm E mX10_whereOf [rf E 99, .int (23 : Int32), .int zx3] zH_2 (fun w zH_5 => ∃ zr_6 : Int32, w = some (.int zr_6) ∧ (∀ zx4_7 : Int64, zx4_7 = ((31 : Int64) * zx4_4) + (zr_6.toInt64) → (Cm E mX10_wentOf [rf E 99, .int zx3] zH_5 (fun w zH_8 => ∃ zr_9 : Int32, w = some (.int zr_9) ∧ (∀ zx4_10 : Int64, zx4_10 = ((31 : Int64) * zx4_7) + (zr_9.toInt64) → (Cm E mX10_lend [rf E 99, .int (0 : Int32), .int zx3, .int (3 : Int32), .int (4 : Int32), .int (-1 : Int32)] zH_8 (fun w zH_11 => ∃ zr_12 : Int32, w = some (.int zr_12) ∧ (∀ zx4_14 : Int64, zx4_14 = ((31 : Int64) * zx4_10) + (zr_12.toInt64) → ((¬ zr_12 = (-2 : Int32) → (Cm E mX10_ofRow [rf E 99, .int zr_12, .int (0 : Int32)] zH_11 (fun w zH_16 => ∃ zr_17 : Int32, w = some (.int zr_17) ∧ (∀ zx4_18 : Int64, zx4_18 = ((31 : Int64) * zx4_14) + (zr_17.toInt64) → (Cm E mX10_thiefOf [rf E 99, .int zx3] zH_16 (fun w zH_19 => ∃ zr_20 : Int32, w = some (.int zr_20) ∧ (∀ zx4_21 : Int64, zx4_21 = ((31 : Int64) * zx4_18) + (zr_20.toInt64) → (Cm E mX10_feel [rf E 99, .int (0 : Int32), .int zx3] zH_19 (fun w zH_22 => ∃ zr_23 : Int32, w = some (.int zr_23) ∧ (∀ zx4_24 : Int64, zx4_24 = ((31 : Int64) * zx4_21) + (zr_23.toInt64) → (Cm E mX10_jumpsOf [rf E 99, .int (5 : Int32), .int zx3, .int (9 : Int32), .int (0 : Int32)] zH_22 (fun w zH_25 => ∃ zr_26 : Int64, w = some (.long zr_26) ∧ (∀ zx4_27 : Int64, zx4_27 = ((31 : Int64) * zx4_24) + zr_26 → (Cm E mX10_jumpsOf [rf E 99, .int (5 : Int32), .int zx3, .int (9 : Int32), .int (1 : Int32)] zH_25 (fun w zH_28 => ∃ zr_29 : Int64, w = some (.long zr_29) ∧ (∀ zx4_30 : Int64, zx4_30 = ((31 : Int64) * zx4_27) + zr_29 → (Cm E mX10_dayOf [rf E 99, .int (7 : Int32), .int (12 : Int32), .int zx3] zH_28 (fun w zH_31 => ∃ zr_32 : Int32, w = some (.int zr_32) ∧ (Q (some (.long (((31 : Int64) * zx4_30) + (zr_32.toInt64)))) zH_31))))))))))))))))))) ∧ (zr_12 = (-2 : Int32) → (∀ zx4_33 : Int64, zx4_33 = ((31 : Int64) * zx4_14) + ((-2 : Int32).toInt64) → (Cm E mX10_thiefOf [rf E 99, .int zx3] zH_11 (fun w zH_34 => ∃ zr_35 : Int32, w = some (.int zr_35) ∧ (∀ zx4_36 : Int64, zx4_36 = ((31 : Int64) * zx4_33) + (zr_35.toInt64) → (Cm E mX10_feel [rf E 99, .int (0 : Int32), .int zx3] zH_34 (fun w zH_37 => ∃ zr_38 : Int32, w = some (.int zr_38) ∧ (∀ zx4_39 : Int64, zx4_39 = ((31 : Int64) * zx4_36) + (zr_38.toInt64) → (Cm E mX10_jumpsOf [rf E 99, .int (5 : Int32), .int zx3, .int (9 : Int32), .int (0 : Int32)] zH_37 (fun w zH_40 => ∃ zr_41 : Int64, w = some (.long zr_41) ∧ (∀ zx4_42 : Int64, zx4_42 = ((31 : Int64) * zx4_39) + zr_41 → (Cm E mX10_jumpsOf [rf E 99, .int (5 : Int32), .int zx3, .int (9 : Int32), .int (1 : Int32)] zH_40 (fun w zH_43 => ∃ zr_44 : Int64, w = some (.long zr_44) ∧ (∀ zx4_45 : Int64, zx4_45 = ((31 : Int64) * zx4_42) + zr_44 → (Cm E mX10_dayOf [rf E 99, .int (7 : Int32), .int (12 : Int32), .int zx3] zH_43 (fun w zH_46 => ∃ zr_47 : Int32, w = some (.int zr_47) ∧ (Q (some (.long (((31 : Int64) * zx4_45) + (zr_47.toInt64)))) zH_46))))))))))))))))))))))))))))))) ∧ (¬ (3 : Int32) ≤ zx6 → (Cm E mX10_thingOf [rf E 99, .int zx3, .int zx6] H (fun w zH_48 => ∃ zr_49 : Int32, w = some (.int zr_49) ∧ (∀ zx4_50 : Int64, zx4_50 = ((31 : Int64) * zy4) + (zr_49.toInt64) → (∀ zx6_51 : Int32, zx6_51 = zx6 + (1 : Int32) → (Rm E mX10_thingDigest Q 6 [some (rf E 99), none, none, some (.int zx3), some (.long zx4_50), none, some (.int zx6_51)] [] zH_48))))))) :
    Rm E mX10_thingDigest Q 6 [some (rf E 99), none, none, some (.int zx3), some (.long zy4), none, some (.int zx6)] [] H := by
  refine rn_iload dX10_thingDigest_6 rfl ?_
  refine rn_iconst (x := (3 : Int32)) dX10_thingDigest_8 (by decide) ?_
  refine rn_icmp_ge (tgt := 35) dX10_thingDigest_9 (by decide) (fun hc_1 => ?_) (fun hc_1 => ?_)
  · replace hF := hF.1 hc_1
    refine rn_ldc2 coRX10_328 dX10_thingDigest_35 ?_
    refine rn_lload dX10_thingDigest_38 rfl ?_
    refine rn_lmul dX10_thingDigest_40 ?_
    refine rn_aload_n dX10_thingDigest_41 rfl ?_
    refine rn_iconst (x := (5 : Int32)) dX10_thingDigest_42 (by decide) ?_
    refine rn_iload_n dX10_thingDigest_43 rfl ?_
    refine rm_callV (c0 := 99) (As := [.int (5 : Int32), .int zx3]) (st := [.long ((31 : Int64) * zy4)]) mlRX10_224 mdX10_whereOf (Nat.le_of_ble_eq_true rfl) rfl (by decide) (by decide) rfl rfl rfl (Nat.le_of_ble_eq_true rfl) ⟨Nat.le_refl _, Nat.le_refl _⟩ dX10_thingDigest_44 ?_
    refine cm_mono hF (fun w zH_2 hF => ?_)
    obtain ⟨zr_3, rfl, hF⟩ := hF
    refine rn_i2l dX10_thingDigest_47 ?_
    refine rn_ladd dX10_thingDigest_48 ?_
    refine rn_lstore dX10_thingDigest_49 rfl (Nat.le_of_ble_eq_true rfl) (fun zx4_4 ezx4_4 => ?_)
    replace hF := hF zx4_4 ezx4_4
    show Rn _ _ _ _ _ _ _ _ [some (rf E 99), none, none, some (.int zx3), some (.long zx4_4), none, some (.int zx6)] _ _ _
    refine rn_ldc2 coRX10_328 dX10_thingDigest_51 ?_
    refine rn_lload dX10_thingDigest_54 rfl ?_
    refine rn_lmul dX10_thingDigest_56 ?_
    refine rn_aload_n dX10_thingDigest_57 rfl ?_
    refine rn_bipush (x := (23 : Int32)) dX10_thingDigest_58 (by decide) ?_
    refine rn_iload_n dX10_thingDigest_60 rfl ?_
    refine rm_callV (c0 := 99) (As := [.int (23 : Int32), .int zx3]) (st := [.long ((31 : Int64) * zx4_4)]) mlRX10_224 mdX10_whereOf (Nat.le_of_ble_eq_true rfl) rfl (by decide) (by decide) rfl rfl rfl (Nat.le_of_ble_eq_true rfl) ⟨Nat.le_refl _, Nat.le_refl _⟩ dX10_thingDigest_61 ?_
    refine cm_mono hF (fun w zH_5 hF => ?_)
    obtain ⟨zr_6, rfl, hF⟩ := hF
    refine rn_i2l dX10_thingDigest_64 ?_
    refine rn_ladd dX10_thingDigest_65 ?_
    refine rn_lstore dX10_thingDigest_66 rfl (Nat.le_of_ble_eq_true rfl) (fun zx4_7 ezx4_7 => ?_)
    replace hF := hF zx4_7 ezx4_7
    show Rn _ _ _ _ _ _ _ _ [some (rf E 99), none, none, some (.int zx3), some (.long zx4_7), none, some (.int zx6)] _ _ _
    refine rn_ldc2 coRX10_328 dX10_thingDigest_68 ?_
    refine rn_lload dX10_thingDigest_71 rfl ?_
    refine rn_lmul dX10_thingDigest_73 ?_
    refine rn_aload_n dX10_thingDigest_74 rfl ?_
    refine rn_iload_n dX10_thingDigest_75 rfl ?_
    refine rm_callV (c0 := 99) (As := [.int zx3]) (st := [.long ((31 : Int64) * zx4_7)]) mlRX10_242 mdX10_wentOf (Nat.le_of_ble_eq_true rfl) rfl (by decide) (by decide) rfl rfl rfl (Nat.le_of_ble_eq_true rfl) ⟨Nat.le_refl _, Nat.le_refl _⟩ dX10_thingDigest_76 ?_
    refine cm_mono hF (fun w zH_8 hF => ?_)
    obtain ⟨zr_9, rfl, hF⟩ := hF
    refine rn_i2l dX10_thingDigest_79 ?_
    refine rn_ladd dX10_thingDigest_80 ?_
    refine rn_lstore dX10_thingDigest_81 rfl (Nat.le_of_ble_eq_true rfl) (fun zx4_10 ezx4_10 => ?_)
    replace hF := hF zx4_10 ezx4_10
    show Rn _ _ _ _ _ _ _ _ [some (rf E 99), none, none, some (.int zx3), some (.long zx4_10), none, some (.int zx6)] _ _ _
    refine rn_aload_n dX10_thingDigest_83 rfl ?_
    refine rn_iconst (x := (0 : Int32)) dX10_thingDigest_84 (by decide) ?_
    refine rn_iload_n dX10_thingDigest_85 rfl ?_
    refine rn_iconst (x := (3 : Int32)) dX10_thingDigest_86 (by decide) ?_
    refine rn_iconst (x := (4 : Int32)) dX10_thingDigest_87 (by decide) ?_
    refine rn_iconst (x := (-1 : Int32)) dX10_thingDigest_88 (by decide) ?_
    refine rm_callV (c0 := 99) (As := [.int (0 : Int32), .int zx3, .int (3 : Int32), .int (4 : Int32), .int (-1 : Int32)]) (st := []) mlRX10_330 mdX10_lend (Nat.le_of_ble_eq_true rfl) rfl (by decide) (by decide) rfl rfl rfl (Nat.le_of_ble_eq_true rfl) ⟨Nat.le_refl _, Nat.le_refl _⟩ dX10_thingDigest_89 ?_
    refine cm_mono hF (fun w zH_11 hF => ?_)
    obtain ⟨zr_12, rfl, hF⟩ := hF
    refine ra_istore dX10_thingDigest_92 rfl (Nat.le_of_ble_eq_true rfl) ?_
    show Rn _ _ _ _ _ _ _ _ [some (rf E 99), none, none, some (.int zx3), some (.long zx4_10), none, some (.int zr_12)] _ _ _
    refine rn_ldc2 coRX10_328 dX10_thingDigest_94 ?_
    refine rn_lload dX10_thingDigest_97 rfl ?_
    refine rn_lmul dX10_thingDigest_99 ?_
    refine rn_iload dX10_thingDigest_100 rfl ?_
    refine rn_i2l dX10_thingDigest_102 ?_
    refine rn_ladd dX10_thingDigest_103 ?_
    refine rn_lstore dX10_thingDigest_104 rfl (Nat.le_of_ble_eq_true rfl) (fun zx4_14 ezx4_14 => ?_)
    replace hF := hF zx4_14 ezx4_14
    show Rn _ _ _ _ _ _ _ _ [some (rf E 99), none, none, some (.int zx3), some (.long zx4_14), none, some (.int zr_12)] _ _ _
    refine rn_ldc2 coRX10_328 dX10_thingDigest_106 ?_
    refine rn_lload dX10_thingDigest_109 rfl ?_
    refine rn_lmul dX10_thingDigest_111 ?_
    refine rn_iload dX10_thingDigest_112 rfl ?_
    refine rn_bipush (x := (-2 : Int32)) dX10_thingDigest_114 (by decide) ?_
    refine rn_icmp_ne (tgt := 124) dX10_thingDigest_116 (by decide) (fun hc_15 => ?_) (fun hc_15 => ?_)
    · replace hF := hF.1 hc_15
      refine rn_aload_n dX10_thingDigest_124 rfl ?_
      refine rn_iload dX10_thingDigest_125 rfl ?_
      refine rn_iconst (x := (0 : Int32)) dX10_thingDigest_127 (by decide) ?_
      refine rm_callV (c0 := 99) (As := [.int zr_12, .int (0 : Int32)]) (st := [.long ((31 : Int64) * zx4_14)]) mlRX10_261 mdX10_ofRow (Nat.le_of_ble_eq_true rfl) rfl (by decide) (by decide) rfl rfl rfl (Nat.le_of_ble_eq_true rfl) ⟨Nat.le_refl _, Nat.le_refl _⟩ dX10_thingDigest_128 ?_
      refine cm_mono hF (fun w zH_16 hF => ?_)
      obtain ⟨zr_17, rfl, hF⟩ := hF
      refine rn_i2l dX10_thingDigest_131 ?_
      refine rn_ladd dX10_thingDigest_132 ?_
      refine rn_lstore dX10_thingDigest_133 rfl (Nat.le_of_ble_eq_true rfl) (fun zx4_18 ezx4_18 => ?_)
      replace hF := hF zx4_18 ezx4_18
      show Rn _ _ _ _ _ _ _ _ [some (rf E 99), none, none, some (.int zx3), some (.long zx4_18), none, some (.int zr_12)] _ _ _
      refine rn_ldc2 coRX10_328 dX10_thingDigest_135 ?_
      refine rn_lload dX10_thingDigest_138 rfl ?_
      refine rn_lmul dX10_thingDigest_140 ?_
      refine rn_aload_n dX10_thingDigest_141 rfl ?_
      refine rn_iload_n dX10_thingDigest_142 rfl ?_
      refine rm_callV (c0 := 99) (As := [.int zx3]) (st := [.long ((31 : Int64) * zx4_18)]) mlRX10_289 mdX10_thiefOf (Nat.le_of_ble_eq_true rfl) rfl (by decide) (by decide) rfl rfl rfl (Nat.le_of_ble_eq_true rfl) ⟨Nat.le_refl _, Nat.le_refl _⟩ dX10_thingDigest_143 ?_
      refine cm_mono hF (fun w zH_19 hF => ?_)
      obtain ⟨zr_20, rfl, hF⟩ := hF
      refine rn_i2l dX10_thingDigest_146 ?_
      refine rn_ladd dX10_thingDigest_147 ?_
      refine rn_lstore dX10_thingDigest_148 rfl (Nat.le_of_ble_eq_true rfl) (fun zx4_21 ezx4_21 => ?_)
      replace hF := hF zx4_21 ezx4_21
      show Rn _ _ _ _ _ _ _ _ [some (rf E 99), none, none, some (.int zx3), some (.long zx4_21), none, some (.int zr_12)] _ _ _
      refine rn_ldc2 coRX10_328 dX10_thingDigest_150 ?_
      refine rn_lload dX10_thingDigest_153 rfl ?_
      refine rn_lmul dX10_thingDigest_155 ?_
      refine rn_aload_n dX10_thingDigest_156 rfl ?_
      refine rn_iconst (x := (0 : Int32)) dX10_thingDigest_157 (by decide) ?_
      refine rn_iload_n dX10_thingDigest_158 rfl ?_
      refine rm_callV (c0 := 99) (As := [.int (0 : Int32), .int zx3]) (st := [.long ((31 : Int64) * zx4_21)]) mlRX10_333 mdX10_feel (Nat.le_of_ble_eq_true rfl) rfl (by decide) (by decide) rfl rfl rfl (Nat.le_of_ble_eq_true rfl) ⟨Nat.le_refl _, Nat.le_refl _⟩ dX10_thingDigest_159 ?_
      refine cm_mono hF (fun w zH_22 hF => ?_)
      obtain ⟨zr_23, rfl, hF⟩ := hF
      refine rn_i2l dX10_thingDigest_162 ?_
      refine rn_ladd dX10_thingDigest_163 ?_
      refine rn_lstore dX10_thingDigest_164 rfl (Nat.le_of_ble_eq_true rfl) (fun zx4_24 ezx4_24 => ?_)
      replace hF := hF zx4_24 ezx4_24
      show Rn _ _ _ _ _ _ _ _ [some (rf E 99), none, none, some (.int zx3), some (.long zx4_24), none, some (.int zr_12)] _ _ _
      refine rn_ldc2 coRX10_328 dX10_thingDigest_166 ?_
      refine rn_lload dX10_thingDigest_169 rfl ?_
      refine rn_lmul dX10_thingDigest_171 ?_
      refine rn_aload_n dX10_thingDigest_172 rfl ?_
      refine rn_iconst (x := (5 : Int32)) dX10_thingDigest_173 (by decide) ?_
      refine rn_iload_n dX10_thingDigest_174 rfl ?_
      refine rn_bipush (x := (9 : Int32)) dX10_thingDigest_175 (by decide) ?_
      refine rn_iconst (x := (0 : Int32)) dX10_thingDigest_177 (by decide) ?_
      refine rm_callV (c0 := 99) (As := [.int (5 : Int32), .int zx3, .int (9 : Int32), .int (0 : Int32)]) (st := [.long ((31 : Int64) * zx4_24)]) mlRX10_301 mdX10_jumpsOf (Nat.le_of_ble_eq_true rfl) rfl (by decide) (by decide) rfl rfl rfl (Nat.le_of_ble_eq_true rfl) ⟨Nat.le_refl _, Nat.le_refl _⟩ dX10_thingDigest_178 ?_
      refine cm_mono hF (fun w zH_25 hF => ?_)
      obtain ⟨zr_26, rfl, hF⟩ := hF
      refine rn_ladd dX10_thingDigest_181 ?_
      refine rn_lstore dX10_thingDigest_182 rfl (Nat.le_of_ble_eq_true rfl) (fun zx4_27 ezx4_27 => ?_)
      replace hF := hF zx4_27 ezx4_27
      show Rn _ _ _ _ _ _ _ _ [some (rf E 99), none, none, some (.int zx3), some (.long zx4_27), none, some (.int zr_12)] _ _ _
      refine rn_ldc2 coRX10_328 dX10_thingDigest_184 ?_
      refine rn_lload dX10_thingDigest_187 rfl ?_
      refine rn_lmul dX10_thingDigest_189 ?_
      refine rn_aload_n dX10_thingDigest_190 rfl ?_
      refine rn_iconst (x := (5 : Int32)) dX10_thingDigest_191 (by decide) ?_
      refine rn_iload_n dX10_thingDigest_192 rfl ?_
      refine rn_bipush (x := (9 : Int32)) dX10_thingDigest_193 (by decide) ?_
      refine rn_iconst (x := (1 : Int32)) dX10_thingDigest_195 (by decide) ?_
      refine rm_callV (c0 := 99) (As := [.int (5 : Int32), .int zx3, .int (9 : Int32), .int (1 : Int32)]) (st := [.long ((31 : Int64) * zx4_27)]) mlRX10_301 mdX10_jumpsOf (Nat.le_of_ble_eq_true rfl) rfl (by decide) (by decide) rfl rfl rfl (Nat.le_of_ble_eq_true rfl) ⟨Nat.le_refl _, Nat.le_refl _⟩ dX10_thingDigest_196 ?_
      refine cm_mono hF (fun w zH_28 hF => ?_)
      obtain ⟨zr_29, rfl, hF⟩ := hF
      refine rn_ladd dX10_thingDigest_199 ?_
      refine rn_lstore dX10_thingDigest_200 rfl (Nat.le_of_ble_eq_true rfl) (fun zx4_30 ezx4_30 => ?_)
      replace hF := hF zx4_30 ezx4_30
      show Rn _ _ _ _ _ _ _ _ [some (rf E 99), none, none, some (.int zx3), some (.long zx4_30), none, some (.int zr_12)] _ _ _
      refine rn_ldc2 coRX10_328 dX10_thingDigest_202 ?_
      refine rn_lload dX10_thingDigest_205 rfl ?_
      refine rn_lmul dX10_thingDigest_207 ?_
      refine rn_aload_n dX10_thingDigest_208 rfl ?_
      refine rn_bipush (x := (7 : Int32)) dX10_thingDigest_209 (by decide) ?_
      refine rn_bipush (x := (12 : Int32)) dX10_thingDigest_211 (by decide) ?_
      refine rn_iload_n dX10_thingDigest_213 rfl ?_
      refine rm_callV (c0 := 99) (As := [.int (7 : Int32), .int (12 : Int32), .int zx3]) (st := [.long ((31 : Int64) * zx4_30)]) mlRX10_310 mdX10_dayOf (Nat.le_of_ble_eq_true rfl) rfl (by decide) (by decide) rfl rfl rfl (Nat.le_of_ble_eq_true rfl) ⟨Nat.le_refl _, Nat.le_refl _⟩ dX10_thingDigest_214 ?_
      refine cm_mono hF (fun w zH_31 hF => ?_)
      obtain ⟨zr_32, rfl, hF⟩ := hF
      refine rn_i2l dX10_thingDigest_217 ?_
      refine rn_ladd dX10_thingDigest_218 ?_
      exact rm_lret rfl dX10_thingDigest_219 hF
    · replace hF := hF.2 hc_15
      refine rn_bipush (x := (-2 : Int32)) dX10_thingDigest_119 (by decide) ?_
      refine rn_goto (tgt := 131) dX10_thingDigest_121 (by decide) ?_
      refine rn_i2l dX10_thingDigest_131 ?_
      refine rn_ladd dX10_thingDigest_132 ?_
      refine rn_lstore dX10_thingDigest_133 rfl (Nat.le_of_ble_eq_true rfl) (fun zx4_33 ezx4_33 => ?_)
      replace hF := hF zx4_33 ezx4_33
      show Rn _ _ _ _ _ _ _ _ [some (rf E 99), none, none, some (.int zx3), some (.long zx4_33), none, some (.int zr_12)] _ _ _
      refine rn_ldc2 coRX10_328 dX10_thingDigest_135 ?_
      refine rn_lload dX10_thingDigest_138 rfl ?_
      refine rn_lmul dX10_thingDigest_140 ?_
      refine rn_aload_n dX10_thingDigest_141 rfl ?_
      refine rn_iload_n dX10_thingDigest_142 rfl ?_
      refine rm_callV (c0 := 99) (As := [.int zx3]) (st := [.long ((31 : Int64) * zx4_33)]) mlRX10_289 mdX10_thiefOf (Nat.le_of_ble_eq_true rfl) rfl (by decide) (by decide) rfl rfl rfl (Nat.le_of_ble_eq_true rfl) ⟨Nat.le_refl _, Nat.le_refl _⟩ dX10_thingDigest_143 ?_
      refine cm_mono hF (fun w zH_34 hF => ?_)
      obtain ⟨zr_35, rfl, hF⟩ := hF
      refine rn_i2l dX10_thingDigest_146 ?_
      refine rn_ladd dX10_thingDigest_147 ?_
      refine rn_lstore dX10_thingDigest_148 rfl (Nat.le_of_ble_eq_true rfl) (fun zx4_36 ezx4_36 => ?_)
      replace hF := hF zx4_36 ezx4_36
      show Rn _ _ _ _ _ _ _ _ [some (rf E 99), none, none, some (.int zx3), some (.long zx4_36), none, some (.int zr_12)] _ _ _
      refine rn_ldc2 coRX10_328 dX10_thingDigest_150 ?_
      refine rn_lload dX10_thingDigest_153 rfl ?_
      refine rn_lmul dX10_thingDigest_155 ?_
      refine rn_aload_n dX10_thingDigest_156 rfl ?_
      refine rn_iconst (x := (0 : Int32)) dX10_thingDigest_157 (by decide) ?_
      refine rn_iload_n dX10_thingDigest_158 rfl ?_
      refine rm_callV (c0 := 99) (As := [.int (0 : Int32), .int zx3]) (st := [.long ((31 : Int64) * zx4_36)]) mlRX10_333 mdX10_feel (Nat.le_of_ble_eq_true rfl) rfl (by decide) (by decide) rfl rfl rfl (Nat.le_of_ble_eq_true rfl) ⟨Nat.le_refl _, Nat.le_refl _⟩ dX10_thingDigest_159 ?_
      refine cm_mono hF (fun w zH_37 hF => ?_)
      obtain ⟨zr_38, rfl, hF⟩ := hF
      refine rn_i2l dX10_thingDigest_162 ?_
      refine rn_ladd dX10_thingDigest_163 ?_
      refine rn_lstore dX10_thingDigest_164 rfl (Nat.le_of_ble_eq_true rfl) (fun zx4_39 ezx4_39 => ?_)
      replace hF := hF zx4_39 ezx4_39
      show Rn _ _ _ _ _ _ _ _ [some (rf E 99), none, none, some (.int zx3), some (.long zx4_39), none, some (.int zr_12)] _ _ _
      refine rn_ldc2 coRX10_328 dX10_thingDigest_166 ?_
      refine rn_lload dX10_thingDigest_169 rfl ?_
      refine rn_lmul dX10_thingDigest_171 ?_
      refine rn_aload_n dX10_thingDigest_172 rfl ?_
      refine rn_iconst (x := (5 : Int32)) dX10_thingDigest_173 (by decide) ?_
      refine rn_iload_n dX10_thingDigest_174 rfl ?_
      refine rn_bipush (x := (9 : Int32)) dX10_thingDigest_175 (by decide) ?_
      refine rn_iconst (x := (0 : Int32)) dX10_thingDigest_177 (by decide) ?_
      refine rm_callV (c0 := 99) (As := [.int (5 : Int32), .int zx3, .int (9 : Int32), .int (0 : Int32)]) (st := [.long ((31 : Int64) * zx4_39)]) mlRX10_301 mdX10_jumpsOf (Nat.le_of_ble_eq_true rfl) rfl (by decide) (by decide) rfl rfl rfl (Nat.le_of_ble_eq_true rfl) ⟨Nat.le_refl _, Nat.le_refl _⟩ dX10_thingDigest_178 ?_
      refine cm_mono hF (fun w zH_40 hF => ?_)
      obtain ⟨zr_41, rfl, hF⟩ := hF
      refine rn_ladd dX10_thingDigest_181 ?_
      refine rn_lstore dX10_thingDigest_182 rfl (Nat.le_of_ble_eq_true rfl) (fun zx4_42 ezx4_42 => ?_)
      replace hF := hF zx4_42 ezx4_42
      show Rn _ _ _ _ _ _ _ _ [some (rf E 99), none, none, some (.int zx3), some (.long zx4_42), none, some (.int zr_12)] _ _ _
      refine rn_ldc2 coRX10_328 dX10_thingDigest_184 ?_
      refine rn_lload dX10_thingDigest_187 rfl ?_
      refine rn_lmul dX10_thingDigest_189 ?_
      refine rn_aload_n dX10_thingDigest_190 rfl ?_
      refine rn_iconst (x := (5 : Int32)) dX10_thingDigest_191 (by decide) ?_
      refine rn_iload_n dX10_thingDigest_192 rfl ?_
      refine rn_bipush (x := (9 : Int32)) dX10_thingDigest_193 (by decide) ?_
      refine rn_iconst (x := (1 : Int32)) dX10_thingDigest_195 (by decide) ?_
      refine rm_callV (c0 := 99) (As := [.int (5 : Int32), .int zx3, .int (9 : Int32), .int (1 : Int32)]) (st := [.long ((31 : Int64) * zx4_42)]) mlRX10_301 mdX10_jumpsOf (Nat.le_of_ble_eq_true rfl) rfl (by decide) (by decide) rfl rfl rfl (Nat.le_of_ble_eq_true rfl) ⟨Nat.le_refl _, Nat.le_refl _⟩ dX10_thingDigest_196 ?_
      refine cm_mono hF (fun w zH_43 hF => ?_)
      obtain ⟨zr_44, rfl, hF⟩ := hF
      refine rn_ladd dX10_thingDigest_199 ?_
      refine rn_lstore dX10_thingDigest_200 rfl (Nat.le_of_ble_eq_true rfl) (fun zx4_45 ezx4_45 => ?_)
      replace hF := hF zx4_45 ezx4_45
      show Rn _ _ _ _ _ _ _ _ [some (rf E 99), none, none, some (.int zx3), some (.long zx4_45), none, some (.int zr_12)] _ _ _
      refine rn_ldc2 coRX10_328 dX10_thingDigest_202 ?_
      refine rn_lload dX10_thingDigest_205 rfl ?_
      refine rn_lmul dX10_thingDigest_207 ?_
      refine rn_aload_n dX10_thingDigest_208 rfl ?_
      refine rn_bipush (x := (7 : Int32)) dX10_thingDigest_209 (by decide) ?_
      refine rn_bipush (x := (12 : Int32)) dX10_thingDigest_211 (by decide) ?_
      refine rn_iload_n dX10_thingDigest_213 rfl ?_
      refine rm_callV (c0 := 99) (As := [.int (7 : Int32), .int (12 : Int32), .int zx3]) (st := [.long ((31 : Int64) * zx4_45)]) mlRX10_310 mdX10_dayOf (Nat.le_of_ble_eq_true rfl) rfl (by decide) (by decide) rfl rfl rfl (Nat.le_of_ble_eq_true rfl) ⟨Nat.le_refl _, Nat.le_refl _⟩ dX10_thingDigest_214 ?_
      refine cm_mono hF (fun w zH_46 hF => ?_)
      obtain ⟨zr_47, rfl, hF⟩ := hF
      refine rn_i2l dX10_thingDigest_217 ?_
      refine rn_ladd dX10_thingDigest_218 ?_
      exact rm_lret rfl dX10_thingDigest_219 hF
  · replace hF := hF.2 hc_1
    refine rn_ldc2 coRX10_328 dX10_thingDigest_12 ?_
    refine rn_lload dX10_thingDigest_15 rfl ?_
    refine rn_lmul dX10_thingDigest_17 ?_
    refine rn_aload_n dX10_thingDigest_18 rfl ?_
    refine rn_iload_n dX10_thingDigest_19 rfl ?_
    refine rn_iload dX10_thingDigest_20 rfl ?_
    refine rm_callV (c0 := 99) (As := [.int zx3, .int zx6]) (st := [.long ((31 : Int64) * zy4)]) mlRX10_150 mdX10_thingOf (Nat.le_of_ble_eq_true rfl) rfl (by decide) (by decide) rfl rfl rfl (Nat.le_of_ble_eq_true rfl) ⟨Nat.le_refl _, Nat.le_refl _⟩ dX10_thingDigest_22 ?_
    refine cm_mono hF (fun w zH_48 hF => ?_)
    obtain ⟨zr_49, rfl, hF⟩ := hF
    refine rn_i2l dX10_thingDigest_25 ?_
    refine rn_ladd dX10_thingDigest_26 ?_
    refine rn_lstore dX10_thingDigest_27 rfl (Nat.le_of_ble_eq_true rfl) (fun zx4_50 ezx4_50 => ?_)
    replace hF := hF zx4_50 ezx4_50
    show Rn _ _ _ _ _ _ _ _ [some (rf E 99), none, none, some (.int zx3), some (.long zx4_50), none, some (.int zx6)] _ _ _
    refine rn_iinc (w := (1 : Int32)) dX10_thingDigest_29 rfl (by decide) rfl (Nat.le_of_ble_eq_true rfl) (fun zx6_51 ezx6_51 => ?_)
    replace hF := hF zx6_51 ezx6_51
    show Rn _ _ _ _ _ _ _ _ [some (rf E 99), none, none, some (.int zx3), some (.long zx4_50), none, some (.int zx6_51)] _ _ _
    refine rn_goto (tgt := 6) dX10_thingDigest_32 (by decide) ?_
    exact rn_wk (L' := [some (rf E 99), none, none, some (.int zx3), some (.long zx4_50), none, some (.int zx6_51)]) (⟨rfl, ⟨rfl, ⟨rfl, ⟨rfl, trivial⟩⟩⟩⟩) hF
theorem sgX10_hourDigest_0 {E : En} {Q : Option Value → Hi → Prop} {H : Hi} {zy1 : Int64} {zx3 : Int32} 
    (hF : Cm E mX10_loadOf [rf E 99, .int zx3] H (fun w zH_1 => ∃ zr_2 : Int32, w = some (.int zr_2) ∧ (∀ zx4_3 : Int64, zx4_3 = ((31 : Int64) * zy1) + (zr_2.toInt64) → (Cm E mX10_happyOf [rf E 99, .int zx3] zH_1 (fun w zH_4 => ∃ zr_5 : Int32, w = some (.int zr_5) ∧ (∀ zx4_6 : Int64, zx4_6 = ((31 : Int64) * zx4_3) + (zr_5.toInt64) → (Cm E mX10_hangsOf [rf E 99, .int zx3] zH_4 (fun w zH_7 => ∃ zr_8 : Int32, w = some (.int zr_8) ∧ (Q (some (.long (((31 : Int64) * zx4_6) + (zr_8.toInt64)))) zH_7))))))))) :
    Rm E mX10_hourDigest Q 0 [some (rf E 99), some (.long zy1), none, some (.int zx3), none, none] [] H := by
  refine rn_ldc2 coRX10_328 dX10_hourDigest_0 ?_
  refine rn_lload_n dX10_hourDigest_3 rfl ?_
  refine rn_lmul dX10_hourDigest_4 ?_
  refine rn_aload_n dX10_hourDigest_5 rfl ?_
  refine rn_iload_n dX10_hourDigest_6 rfl ?_
  refine rm_callV (c0 := 99) (As := [.int zx3]) (st := [.long ((31 : Int64) * zy1)]) mlRX10_230 mdX10_loadOf (Nat.le_of_ble_eq_true rfl) rfl (by decide) (by decide) rfl rfl rfl (Nat.le_of_ble_eq_true rfl) ⟨Nat.le_refl _, Nat.le_refl _⟩ dX10_hourDigest_7 ?_
  refine cm_mono hF (fun w zH_1 hF => ?_)
  obtain ⟨zr_2, rfl, hF⟩ := hF
  refine rn_i2l dX10_hourDigest_10 ?_
  refine rn_ladd dX10_hourDigest_11 ?_
  refine rn_lstore dX10_hourDigest_12 rfl (Nat.le_of_ble_eq_true rfl) (fun zx4_3 ezx4_3 => ?_)
  replace hF := hF zx4_3 ezx4_3
  show Rn _ _ _ _ _ _ _ _ [some (rf E 99), some (.long zy1), none, some (.int zx3), some (.long zx4_3), none] _ _ _
  refine rn_ldc2 coRX10_328 dX10_hourDigest_14 ?_
  refine rn_lload dX10_hourDigest_17 rfl ?_
  refine rn_lmul dX10_hourDigest_19 ?_
  refine rn_aload_n dX10_hourDigest_20 rfl ?_
  refine rn_iload_n dX10_hourDigest_21 rfl ?_
  refine rm_callV (c0 := 99) (As := [.int zx3]) (st := [.long ((31 : Int64) * zx4_3)]) mlRX10_233 mdX10_happyOf (Nat.le_of_ble_eq_true rfl) rfl (by decide) (by decide) rfl rfl rfl (Nat.le_of_ble_eq_true rfl) ⟨Nat.le_refl _, Nat.le_refl _⟩ dX10_hourDigest_22 ?_
  refine cm_mono hF (fun w zH_4 hF => ?_)
  obtain ⟨zr_5, rfl, hF⟩ := hF
  refine rn_i2l dX10_hourDigest_25 ?_
  refine rn_ladd dX10_hourDigest_26 ?_
  refine rn_lstore dX10_hourDigest_27 rfl (Nat.le_of_ble_eq_true rfl) (fun zx4_6 ezx4_6 => ?_)
  replace hF := hF zx4_6 ezx4_6
  show Rn _ _ _ _ _ _ _ _ [some (rf E 99), some (.long zy1), none, some (.int zx3), some (.long zx4_6), none] _ _ _
  refine rn_ldc2 coRX10_328 dX10_hourDigest_29 ?_
  refine rn_lload dX10_hourDigest_32 rfl ?_
  refine rn_lmul dX10_hourDigest_34 ?_
  refine rn_aload_n dX10_hourDigest_35 rfl ?_
  refine rn_iload_n dX10_hourDigest_36 rfl ?_
  refine rm_callV (c0 := 99) (As := [.int zx3]) (st := [.long ((31 : Int64) * zx4_6)]) mlRX10_268 mdX10_hangsOf (Nat.le_of_ble_eq_true rfl) rfl (by decide) (by decide) rfl rfl rfl (Nat.le_of_ble_eq_true rfl) ⟨Nat.le_refl _, Nat.le_refl _⟩ dX10_hourDigest_37 ?_
  refine cm_mono hF (fun w zH_7 hF => ?_)
  obtain ⟨zr_8, rfl, hF⟩ := hF
  refine rn_i2l dX10_hourDigest_40 ?_
  refine rn_ladd dX10_hourDigest_41 ?_
  exact rm_lret rfl dX10_hourDigest_42 hF
theorem cmX10_hourDigest {E : En} {Q : Option Value → Hi → Prop} {H : Hi} {zy1 : Int64} {zx3 : Int32} 
    (hF : Cm E mX10_loadOf [rf E 99, .int zx3] H (fun w zH_1 => ∃ zr_2 : Int32, w = some (.int zr_2) ∧ (∀ zx4_3 : Int64, zx4_3 = ((31 : Int64) * zy1) + (zr_2.toInt64) → (Cm E mX10_happyOf [rf E 99, .int zx3] zH_1 (fun w zH_4 => ∃ zr_5 : Int32, w = some (.int zr_5) ∧ (∀ zx4_6 : Int64, zx4_6 = ((31 : Int64) * zx4_3) + (zr_5.toInt64) → (Cm E mX10_hangsOf [rf E 99, .int zx3] zH_4 (fun w zH_7 => ∃ zr_8 : Int32, w = some (.int zr_8) ∧ (Q (some (.long (((31 : Int64) * zx4_6) + (zr_8.toInt64)))) zH_7))))))))) :
    Cm E mX10_hourDigest [rf E 99, .long zy1, .int zx3] H Q :=
  cm_of (by decide +kernel : plainName RX10 = true) (Nat.le_of_ble_eq_true rfl) rfl (sgX10_hourDigest_0  hF)
theorem sgX10_digest_0 {E : En} {Q : Option Value → Hi → Prop} {H : Hi}  
    (hF : Rm E mX10_digest Q 6 [some (rf E 99), some (.long (17 : Int64)), none, some (.int (0 : Int32))] [] H) :
    Rm E mX10_digest Q 0 [some (rf E 99), none, none, none] [] H := by
  refine rn_ldc2 coRX10_336 dX10_digest_0 ?_
  refine ra_lstore_n dX10_digest_3 rfl (Nat.le_of_ble_eq_true rfl) ?_
  show Rn _ _ _ _ _ _ _ _ [some (rf E 99), some (.long (17 : Int64)), none, none] _ _ _
  refine rn_iconst (x := (0 : Int32)) dX10_digest_4 (by decide) ?_
  refine ra_istore_n dX10_digest_5 rfl (Nat.le_of_ble_eq_true rfl) ?_
  show Rn _ _ _ _ _ _ _ _ [some (rf E 99), some (.long (17 : Int64)), none, some (.int (0 : Int32))] _ _ _
  exact rn_wk (L' := [some (rf E 99), some (.long (17 : Int64)), none, some (.int (0 : Int32))]) (⟨rfl, ⟨rfl, ⟨rfl, trivial⟩⟩⟩) hF
theorem cmX10_digest {E : En} {Q : Option Value → Hi → Prop} {H : Hi}  
    (hF : Rm E mX10_digest Q 6 [some (rf E 99), some (.long (17 : Int64)), none, some (.int (0 : Int32))] [] H) :
    Cm E mX10_digest [rf E 99] H Q :=
  cm_of (by decide +kernel : plainName RX10 = true) (Nat.le_of_ble_eq_true rfl) rfl (sgX10_digest_0  hF)
theorem sgX10_digest_6 {E : En} {Q : Option Value → Hi → Prop} {H : Hi} {zy1 : Int64} {zx3 : Int32} 
    (hF : ((8 : Int32) ≤ zx3 → (Cm E mX10_faultOf [rf E 99, .int (0 : Int32)] H (fun w zH_2 => ∃ zr_3 : Int32, w = some (.int zr_3) ∧ (∀ zx1_4 : Int64, zx1_4 = ((31 : Int64) * zy1) + (zr_3.toInt64) → (Cm E mX10_faultOf [rf E 99, .int (1 : Int32)] zH_2 (fun w zH_5 => ∃ zr_6 : Int32, w = some (.int zr_6) ∧ (∀ zx1_7 : Int64, zx1_7 = ((31 : Int64) * zx1_4) + (zr_6.toInt64) → (Rm E mX10_digest Q 59 [some (rf E 99), some (.long zx1_7), none, some (.int (0 : Int32))] [] zH_5)))))))) ∧ (¬ (8 : Int32) ≤ zx3 → (Cm E mX10_count [rf E 99, .int zx3] H (fun w zH_9 => ∃ zr_10 : Int32, w = some (.int zr_10) ∧ (∀ zx1_11 : Int64, zx1_11 = ((31 : Int64) * zy1) + (zr_10.toInt64) → (∀ zx3_12 : Int32, zx3_12 = zx3 + (1 : Int32) → (Rm E mX10_digest Q 6 [some (rf E 99), some (.long zx1_11), none, some (.int zx3_12)] [] zH_9))))))) :
    Rm E mX10_digest Q 6 [some (rf E 99), some (.long zy1), none, some (.int zx3)] [] H := by
  refine rn_iload_n dX10_digest_6 rfl ?_
  refine rn_bipush (x := (8 : Int32)) dX10_digest_7 (by decide) ?_
  refine rn_icmp_ge (tgt := 31) dX10_digest_9 (by decide) (fun hc_1 => ?_) (fun hc_1 => ?_)
  · replace hF := hF.1 hc_1
    refine rn_ldc2 coRX10_328 dX10_digest_31 ?_
    refine rn_lload_n dX10_digest_34 rfl ?_
    refine rn_lmul dX10_digest_35 ?_
    refine rn_aload_n dX10_digest_36 rfl ?_
    refine rn_iconst (x := (0 : Int32)) dX10_digest_37 (by decide) ?_
    refine rm_callV (c0 := 99) (As := [.int (0 : Int32)]) (st := [.long ((31 : Int64) * zy1)]) mlRX10_141 mdX10_faultOf (Nat.le_of_ble_eq_true rfl) rfl (by decide) (by decide) rfl rfl rfl (Nat.le_of_ble_eq_true rfl) ⟨Nat.le_refl _, Nat.le_refl _⟩ dX10_digest_38 ?_
    refine cm_mono hF (fun w zH_2 hF => ?_)
    obtain ⟨zr_3, rfl, hF⟩ := hF
    refine rn_i2l dX10_digest_41 ?_
    refine rn_ladd dX10_digest_42 ?_
    refine rn_lstore_n dX10_digest_43 rfl (Nat.le_of_ble_eq_true rfl) (fun zx1_4 ezx1_4 => ?_)
    replace hF := hF zx1_4 ezx1_4
    show Rn _ _ _ _ _ _ _ _ [some (rf E 99), some (.long zx1_4), none, some (.int zx3)] _ _ _
    refine rn_ldc2 coRX10_328 dX10_digest_44 ?_
    refine rn_lload_n dX10_digest_47 rfl ?_
    refine rn_lmul dX10_digest_48 ?_
    refine rn_aload_n dX10_digest_49 rfl ?_
    refine rn_iconst (x := (1 : Int32)) dX10_digest_50 (by decide) ?_
    refine rm_callV (c0 := 99) (As := [.int (1 : Int32)]) (st := [.long ((31 : Int64) * zx1_4)]) mlRX10_141 mdX10_faultOf (Nat.le_of_ble_eq_true rfl) rfl (by decide) (by decide) rfl rfl rfl (Nat.le_of_ble_eq_true rfl) ⟨Nat.le_refl _, Nat.le_refl _⟩ dX10_digest_51 ?_
    refine cm_mono hF (fun w zH_5 hF => ?_)
    obtain ⟨zr_6, rfl, hF⟩ := hF
    refine rn_i2l dX10_digest_54 ?_
    refine rn_ladd dX10_digest_55 ?_
    refine rn_lstore_n dX10_digest_56 rfl (Nat.le_of_ble_eq_true rfl) (fun zx1_7 ezx1_7 => ?_)
    replace hF := hF zx1_7 ezx1_7
    show Rn _ _ _ _ _ _ _ _ [some (rf E 99), some (.long zx1_7), none, some (.int zx3)] _ _ _
    refine rn_iconst (x := (0 : Int32)) dX10_digest_57 (by decide) ?_
    refine ra_istore_n dX10_digest_58 rfl (Nat.le_of_ble_eq_true rfl) ?_
    show Rn _ _ _ _ _ _ _ _ [some (rf E 99), some (.long zx1_7), none, some (.int (0 : Int32))] _ _ _
    exact rn_wk (L' := [some (rf E 99), some (.long zx1_7), none, some (.int (0 : Int32))]) (⟨rfl, ⟨rfl, ⟨rfl, trivial⟩⟩⟩) hF
  · replace hF := hF.2 hc_1
    refine rn_ldc2 coRX10_328 dX10_digest_12 ?_
    refine rn_lload_n dX10_digest_15 rfl ?_
    refine rn_lmul dX10_digest_16 ?_
    refine rn_aload_n dX10_digest_17 rfl ?_
    refine rn_iload_n dX10_digest_18 rfl ?_
    refine rm_callV (c0 := 99) (As := [.int zx3]) (st := [.long ((31 : Int64) * zy1)]) mlRX10_338 mdX10_count (Nat.le_of_ble_eq_true rfl) rfl (by decide) (by decide) rfl rfl rfl (Nat.le_of_ble_eq_true rfl) ⟨Nat.le_refl _, Nat.le_refl _⟩ dX10_digest_19 ?_
    refine cm_mono hF (fun w zH_9 hF => ?_)
    obtain ⟨zr_10, rfl, hF⟩ := hF
    refine rn_i2l dX10_digest_22 ?_
    refine rn_ladd dX10_digest_23 ?_
    refine rn_lstore_n dX10_digest_24 rfl (Nat.le_of_ble_eq_true rfl) (fun zx1_11 ezx1_11 => ?_)
    replace hF := hF zx1_11 ezx1_11
    show Rn _ _ _ _ _ _ _ _ [some (rf E 99), some (.long zx1_11), none, some (.int zx3)] _ _ _
    refine rn_iinc (w := (1 : Int32)) dX10_digest_25 rfl (by decide) rfl (Nat.le_of_ble_eq_true rfl) (fun zx3_12 ezx3_12 => ?_)
    replace hF := hF zx3_12 ezx3_12
    show Rn _ _ _ _ _ _ _ _ [some (rf E 99), some (.long zx1_11), none, some (.int zx3_12)] _ _ _
    refine rn_goto (tgt := 6) dX10_digest_28 (by decide) ?_
    exact rn_wk (L' := [some (rf E 99), some (.long zx1_11), none, some (.int zx3_12)]) (⟨rfl, ⟨rfl, ⟨rfl, trivial⟩⟩⟩) hF
theorem sgX10_digest_59 {E : En} {Q : Option Value → Hi → Prop} {H : Hi} {zy1 : Int64} {zx3 : Int32} 
    (hF : ((H 99 2) ≤ zx3 → (Rm E mX10_digest Q 82 [some (rf E 99), some (.long zy1), none, some (.int (0 : Int32))] [] H)) ∧ (¬ (H 99 2) ≤ zx3 → (Cm E mX10_thingDigest [rf E 99, .long zy1, .int zx3] H (fun w zH_3 => ∃ zr_4 : Int64, w = some (.long zr_4) ∧ (∀ zx3_6 : Int32, zx3_6 = zx3 + (1 : Int32) → (Rm E mX10_digest Q 59 [some (rf E 99), some (.long zr_4), none, some (.int zx3_6)] [] zH_3)))))) :
    Rm E mX10_digest Q 59 [some (rf E 99), some (.long zy1), none, some (.int zx3)] [] H := by
  refine rn_iload_n dX10_digest_59 rfl ?_
  refine rn_aload_n dX10_digest_60 rfl ?_
  refine rm_geti flRX10_125 rfl (by decide) rfl dX10_digest_61 ?_
  refine rn_icmp_ge (tgt := 80) dX10_digest_64 (by decide) (fun hc_1 => ?_) (fun hc_1 => ?_)
  · replace hF := hF.1 hc_1
    refine rn_iconst (x := (0 : Int32)) dX10_digest_80 (by decide) ?_
    refine ra_istore_n dX10_digest_81 rfl (Nat.le_of_ble_eq_true rfl) ?_
    show Rn _ _ _ _ _ _ _ _ [some (rf E 99), some (.long zy1), none, some (.int (0 : Int32))] _ _ _
    exact rn_wk (L' := [some (rf E 99), some (.long zy1), none, some (.int (0 : Int32))]) (⟨rfl, ⟨rfl, ⟨rfl, trivial⟩⟩⟩) hF
  · replace hF := hF.2 hc_1
    refine rn_aload_n dX10_digest_67 rfl ?_
    refine rn_lload_n dX10_digest_68 rfl ?_
    refine rn_iload_n dX10_digest_69 rfl ?_
    refine rm_callV (c0 := 99) (As := [.long zy1, .int zx3]) (st := []) mlRX10_341 mdX10_thingDigest (Nat.le_of_ble_eq_true rfl) rfl (by decide) (by decide) rfl rfl rfl (Nat.le_of_ble_eq_true rfl) ⟨Nat.le_refl _, Nat.le_refl _⟩ dX10_digest_70 ?_
    refine cm_mono hF (fun w zH_3 hF => ?_)
    obtain ⟨zr_4, rfl, hF⟩ := hF
    refine ra_lstore_n dX10_digest_73 rfl (Nat.le_of_ble_eq_true rfl) ?_
    show Rn _ _ _ _ _ _ _ _ [some (rf E 99), some (.long zr_4), none, some (.int zx3)] _ _ _
    refine rn_iinc (w := (1 : Int32)) dX10_digest_74 rfl (by decide) rfl (Nat.le_of_ble_eq_true rfl) (fun zx3_6 ezx3_6 => ?_)
    replace hF := hF zx3_6 ezx3_6
    show Rn _ _ _ _ _ _ _ _ [some (rf E 99), some (.long zr_4), none, some (.int zx3_6)] _ _ _
    refine rn_goto (tgt := 59) dX10_digest_77 (by decide) ?_
    exact rn_wk (L' := [some (rf E 99), some (.long zr_4), none, some (.int zx3_6)]) (⟨rfl, ⟨rfl, ⟨rfl, trivial⟩⟩⟩) hF
theorem sgX10_digest_82 {E : En} {Q : Option Value → Hi → Prop} {H : Hi} {zy1 : Int64} {zx3 : Int32} 
    (hF : ((H 99 6) ≤ zx3 → (Cm E mX10_hourDigest [rf E 99, .long zy1, .int (0 : Int32)] H (fun w zH_2 => ∃ zr_3 : Int64, w = some (.long zr_3) ∧ (Cm E mX10_hourDigest [rf E 99, .long zr_3, .int (1 : Int32)] zH_2 (fun w zH_5 => ∃ zr_6 : Int64, w = some (.long zr_6) ∧ (Cm E mX10_hourDigest [rf E 99, .long zr_6, .int (5 : Int32)] zH_5 (fun w zH_8 => ∃ zr_9 : Int64, w = some (.long zr_9) ∧ (Cm E mX10_hourDigest [rf E 99, .long zr_9, .int (12 : Int32)] zH_8 (fun w zH_11 => ∃ zr_12 : Int64, w = some (.long zr_12) ∧ (Cm E mX10_hourDigest [rf E 99, .long zr_12, .int (23 : Int32)] zH_11 (fun w zH_14 => ∃ zr_15 : Int64, w = some (.long zr_15) ∧ (Rm E mX10_digest Q 192 [some (rf E 99), some (.long zr_15), none, some (.int (0 : Int32))] [] zH_14)))))))))))) ∧ (¬ (H 99 6) ≤ zx3 → (∃ zj_18 : Nat, (zj_18 < 9 ∧ zx3 = nI zj_18) ∧ (∀ zx1_19 : Int64, zx1_19 = ((31 : Int64) * zy1) + ((H 105 zj_18).toInt64) → (∃ zj_20 : Nat, (zj_20 < 9 ∧ zx3 = nI zj_20) ∧ (∀ zx1_21 : Int64, zx1_21 = ((31 : Int64) * zx1_19) + ((H 106 zj_20).toInt64) → (Cm E mX10_hasOf [rf E 99, .int (9 : Int32), .int zx3] H (fun w zH_22 => ∃ zr_23 : Int32, w = some (.int zr_23) ∧ (∀ zx1_24 : Int64, zx1_24 = ((31 : Int64) * zx1_21) + (zr_23.toInt64) → (Cm E mX10_when [rf E 99, .int zx3, .int (0 : Int32)] zH_22 (fun w zH_25 => ∃ zr_26 : Int32, w = some (.int zr_26) ∧ (∀ zx1_27 : Int64, zx1_27 = ((31 : Int64) * zx1_24) + (zr_26.toInt64) → (∀ zx3_28 : Int32, zx3_28 = zx3 + (1 : Int32) → (Rm E mX10_digest Q 82 [some (rf E 99), some (.long zx1_27), none, some (.int zx3_28)] [] zH_25)))))))))))))) :
    Rm E mX10_digest Q 82 [some (rf E 99), some (.long zy1), none, some (.int zx3)] [] H := by
  refine rn_iload_n dX10_digest_82 rfl ?_
  refine rn_aload_n dX10_digest_83 rfl ?_
  refine rm_geti flRX10_128 rfl (by decide) rfl dX10_digest_84 ?_
  refine rn_icmp_ge (tgt := 153) dX10_digest_87 (by decide) (fun hc_1 => ?_) (fun hc_1 => ?_)
  · replace hF := hF.1 hc_1
    refine rn_aload_n dX10_digest_153 rfl ?_
    refine rn_lload_n dX10_digest_154 rfl ?_
    refine rn_iconst (x := (0 : Int32)) dX10_digest_155 (by decide) ?_
    refine rm_callV (c0 := 99) (As := [.long zy1, .int (0 : Int32)]) (st := []) mlRX10_348 mdX10_hourDigest (Nat.le_of_ble_eq_true rfl) rfl (by decide) (by decide) rfl rfl rfl (Nat.le_of_ble_eq_true rfl) ⟨Nat.le_refl _, Nat.le_refl _⟩ dX10_digest_156 ?_
    refine cm_mono hF (fun w zH_2 hF => ?_)
    obtain ⟨zr_3, rfl, hF⟩ := hF
    refine ra_lstore_n dX10_digest_159 rfl (Nat.le_of_ble_eq_true rfl) ?_
    show Rn _ _ _ _ _ _ _ _ [some (rf E 99), some (.long zr_3), none, some (.int zx3)] _ _ _
    refine rn_aload_n dX10_digest_160 rfl ?_
    refine rn_lload_n dX10_digest_161 rfl ?_
    refine rn_iconst (x := (1 : Int32)) dX10_digest_162 (by decide) ?_
    refine rm_callV (c0 := 99) (As := [.long zr_3, .int (1 : Int32)]) (st := []) mlRX10_348 mdX10_hourDigest (Nat.le_of_ble_eq_true rfl) rfl (by decide) (by decide) rfl rfl rfl (Nat.le_of_ble_eq_true rfl) ⟨Nat.le_refl _, Nat.le_refl _⟩ dX10_digest_163 ?_
    refine cm_mono hF (fun w zH_5 hF => ?_)
    obtain ⟨zr_6, rfl, hF⟩ := hF
    refine ra_lstore_n dX10_digest_166 rfl (Nat.le_of_ble_eq_true rfl) ?_
    show Rn _ _ _ _ _ _ _ _ [some (rf E 99), some (.long zr_6), none, some (.int zx3)] _ _ _
    refine rn_aload_n dX10_digest_167 rfl ?_
    refine rn_lload_n dX10_digest_168 rfl ?_
    refine rn_iconst (x := (5 : Int32)) dX10_digest_169 (by decide) ?_
    refine rm_callV (c0 := 99) (As := [.long zr_6, .int (5 : Int32)]) (st := []) mlRX10_348 mdX10_hourDigest (Nat.le_of_ble_eq_true rfl) rfl (by decide) (by decide) rfl rfl rfl (Nat.le_of_ble_eq_true rfl) ⟨Nat.le_refl _, Nat.le_refl _⟩ dX10_digest_170 ?_
    refine cm_mono hF (fun w zH_8 hF => ?_)
    obtain ⟨zr_9, rfl, hF⟩ := hF
    refine ra_lstore_n dX10_digest_173 rfl (Nat.le_of_ble_eq_true rfl) ?_
    show Rn _ _ _ _ _ _ _ _ [some (rf E 99), some (.long zr_9), none, some (.int zx3)] _ _ _
    refine rn_aload_n dX10_digest_174 rfl ?_
    refine rn_lload_n dX10_digest_175 rfl ?_
    refine rn_bipush (x := (12 : Int32)) dX10_digest_176 (by decide) ?_
    refine rm_callV (c0 := 99) (As := [.long zr_9, .int (12 : Int32)]) (st := []) mlRX10_348 mdX10_hourDigest (Nat.le_of_ble_eq_true rfl) rfl (by decide) (by decide) rfl rfl rfl (Nat.le_of_ble_eq_true rfl) ⟨Nat.le_refl _, Nat.le_refl _⟩ dX10_digest_178 ?_
    refine cm_mono hF (fun w zH_11 hF => ?_)
    obtain ⟨zr_12, rfl, hF⟩ := hF
    refine ra_lstore_n dX10_digest_181 rfl (Nat.le_of_ble_eq_true rfl) ?_
    show Rn _ _ _ _ _ _ _ _ [some (rf E 99), some (.long zr_12), none, some (.int zx3)] _ _ _
    refine rn_aload_n dX10_digest_182 rfl ?_
    refine rn_lload_n dX10_digest_183 rfl ?_
    refine rn_bipush (x := (23 : Int32)) dX10_digest_184 (by decide) ?_
    refine rm_callV (c0 := 99) (As := [.long zr_12, .int (23 : Int32)]) (st := []) mlRX10_348 mdX10_hourDigest (Nat.le_of_ble_eq_true rfl) rfl (by decide) (by decide) rfl rfl rfl (Nat.le_of_ble_eq_true rfl) ⟨Nat.le_refl _, Nat.le_refl _⟩ dX10_digest_186 ?_
    refine cm_mono hF (fun w zH_14 hF => ?_)
    obtain ⟨zr_15, rfl, hF⟩ := hF
    refine ra_lstore_n dX10_digest_189 rfl (Nat.le_of_ble_eq_true rfl) ?_
    show Rn _ _ _ _ _ _ _ _ [some (rf E 99), some (.long zr_15), none, some (.int zx3)] _ _ _
    refine rn_iconst (x := (0 : Int32)) dX10_digest_190 (by decide) ?_
    refine ra_istore_n dX10_digest_191 rfl (Nat.le_of_ble_eq_true rfl) ?_
    show Rn _ _ _ _ _ _ _ _ [some (rf E 99), some (.long zr_15), none, some (.int (0 : Int32))] _ _ _
    exact rn_wk (L' := [some (rf E 99), some (.long zr_15), none, some (.int (0 : Int32))]) (⟨rfl, ⟨rfl, ⟨rfl, trivial⟩⟩⟩) hF
  · replace hF := hF.2 hc_1
    refine rn_ldc2 coRX10_328 dX10_digest_90 ?_
    refine rn_lload_n dX10_digest_93 rfl ?_
    refine rn_lmul dX10_digest_94 ?_
    refine rn_aload_n dX10_digest_95 rfl ?_
    refine rm_getr (r := 105) flRX10_25 rfl (by decide) rfl dX10_digest_96 ?_
    refine rn_iload_n dX10_digest_99 rfl ?_
    obtain ⟨zj_18, hzj_18, hF⟩ := hF
    refine rj_iald (j := zj_18) hzj_18 rfl (by decide) rfl (by decide) dX10_digest_100 ?_
    refine rn_i2l dX10_digest_101 ?_
    refine rn_ladd dX10_digest_102 ?_
    refine rn_lstore_n dX10_digest_103 rfl (Nat.le_of_ble_eq_true rfl) (fun zx1_19 ezx1_19 => ?_)
    replace hF := hF zx1_19 ezx1_19
    show Rn _ _ _ _ _ _ _ _ [some (rf E 99), some (.long zx1_19), none, some (.int zx3)] _ _ _
    refine rn_ldc2 coRX10_328 dX10_digest_104 ?_
    refine rn_lload_n dX10_digest_107 rfl ?_
    refine rn_lmul dX10_digest_108 ?_
    refine rn_aload_n dX10_digest_109 rfl ?_
    refine rm_getr (r := 106) flRX10_28 rfl (by decide) rfl dX10_digest_110 ?_
    refine rn_iload_n dX10_digest_113 rfl ?_
    obtain ⟨zj_20, hzj_20, hF⟩ := hF
    refine rj_iald (j := zj_20) hzj_20 rfl (by decide) rfl (by decide) dX10_digest_114 ?_
    refine rn_i2l dX10_digest_115 ?_
    refine rn_ladd dX10_digest_116 ?_
    refine rn_lstore_n dX10_digest_117 rfl (Nat.le_of_ble_eq_true rfl) (fun zx1_21 ezx1_21 => ?_)
    replace hF := hF zx1_21 ezx1_21
    show Rn _ _ _ _ _ _ _ _ [some (rf E 99), some (.long zx1_21), none, some (.int zx3)] _ _ _
    refine rn_ldc2 coRX10_328 dX10_digest_118 ?_
    refine rn_lload_n dX10_digest_121 rfl ?_
    refine rn_lmul dX10_digest_122 ?_
    refine rn_aload_n dX10_digest_123 rfl ?_
    refine rn_bipush (x := (9 : Int32)) dX10_digest_124 (by decide) ?_
    refine rn_iload_n dX10_digest_126 rfl ?_
    refine rm_callV (c0 := 99) (As := [.int (9 : Int32), .int zx3]) (st := [.long ((31 : Int64) * zx1_21)]) mlRX10_227 mdX10_hasOf (Nat.le_of_ble_eq_true rfl) rfl (by decide) (by decide) rfl rfl rfl (Nat.le_of_ble_eq_true rfl) ⟨Nat.le_refl _, Nat.le_refl _⟩ dX10_digest_127 ?_
    refine cm_mono hF (fun w zH_22 hF => ?_)
    obtain ⟨zr_23, rfl, hF⟩ := hF
    refine rn_i2l dX10_digest_130 ?_
    refine rn_ladd dX10_digest_131 ?_
    refine rn_lstore_n dX10_digest_132 rfl (Nat.le_of_ble_eq_true rfl) (fun zx1_24 ezx1_24 => ?_)
    replace hF := hF zx1_24 ezx1_24
    show Rn _ _ _ _ _ _ _ _ [some (rf E 99), some (.long zx1_24), none, some (.int zx3)] _ _ _
    refine rn_ldc2 coRX10_328 dX10_digest_133 ?_
    refine rn_lload_n dX10_digest_136 rfl ?_
    refine rn_lmul dX10_digest_137 ?_
    refine rn_aload_n dX10_digest_138 rfl ?_
    refine rn_iload_n dX10_digest_139 rfl ?_
    refine rn_iconst (x := (0 : Int32)) dX10_digest_140 (by decide) ?_
    refine rm_callV (c0 := 99) (As := [.int zx3, .int (0 : Int32)]) (st := [.long ((31 : Int64) * zx1_24)]) mlRX10_345 mdX10_when (Nat.le_of_ble_eq_true rfl) rfl (by decide) (by decide) rfl rfl rfl (Nat.le_of_ble_eq_true rfl) ⟨Nat.le_refl _, Nat.le_refl _⟩ dX10_digest_141 ?_
    refine cm_mono hF (fun w zH_25 hF => ?_)
    obtain ⟨zr_26, rfl, hF⟩ := hF
    refine rn_i2l dX10_digest_144 ?_
    refine rn_ladd dX10_digest_145 ?_
    refine rn_lstore_n dX10_digest_146 rfl (Nat.le_of_ble_eq_true rfl) (fun zx1_27 ezx1_27 => ?_)
    replace hF := hF zx1_27 ezx1_27
    show Rn _ _ _ _ _ _ _ _ [some (rf E 99), some (.long zx1_27), none, some (.int zx3)] _ _ _
    refine rn_iinc (w := (1 : Int32)) dX10_digest_147 rfl (by decide) rfl (Nat.le_of_ble_eq_true rfl) (fun zx3_28 ezx3_28 => ?_)
    replace hF := hF zx3_28 ezx3_28
    show Rn _ _ _ _ _ _ _ _ [some (rf E 99), some (.long zx1_27), none, some (.int zx3_28)] _ _ _
    refine rn_goto (tgt := 82) dX10_digest_150 (by decide) ?_
    exact rn_wk (L' := [some (rf E 99), some (.long zx1_27), none, some (.int zx3_28)]) (⟨rfl, ⟨rfl, ⟨rfl, trivial⟩⟩⟩) hF
theorem sgX10_digest_192 {E : En} {Q : Option Value → Hi → Prop} {H : Hi} {zy1 : Int64} {zx3 : Int32} 
    (hF : ((H 99 11) ≤ zx3 → (Cm E mX10_failsNow [rf E 99] H (fun w zH_2 => ∃ zr_3 : Int32, w = some (.int zr_3) ∧ (∀ zx1_4 : Int64, zx1_4 = ((31 : Int64) * zy1) + (zr_3.toInt64) → (Cm E mX10_sortBy [rf E 99, .int (9 : Int32)] zH_2 (fun w zH_5 => ∃ zr_6 : Int32, w = some (.int zr_6) ∧ (∀ zx1_8 : Int64, zx1_8 = ((31 : Int64) * zx1_4) + (zr_6.toInt64) → (Cm E mX10_ofRow [rf E 99, .int zr_6, .int (0 : Int32)] zH_5 (fun w zH_9 => ∃ zr_10 : Int32, w = some (.int zr_10) ∧ (∀ zx1_11 : Int64, zx1_11 = ((31 : Int64) * zx1_8) + (zr_10.toInt64) → (Cm E mX10_dayOf [rf E 99, .int (7 : Int32), .int (12 : Int32), .int (-1 : Int32)] zH_9 (fun w zH_12 => ∃ zr_13 : Int32, w = some (.int zr_13) ∧ (Q (some (.long (((31 : Int64) * zx1_11) + (zr_13.toInt64)))) zH_12))))))))))))) ∧ (¬ (H 99 11) ≤ zx3 → (Cm E mX10_worksOf [rf E 99, .int zx3] H (fun w zH_14 => ∃ zr_15 : Int32, w = some (.int zr_15) ∧ (∀ zx1_16 : Int64, zx1_16 = ((31 : Int64) * zy1) + (zr_15.toInt64) → (∀ zx3_17 : Int32, zx3_17 = zx3 + (1 : Int32) → (Rm E mX10_digest Q 192 [some (rf E 99), some (.long zx1_16), none, some (.int zx3_17)] [] zH_14))))))) :
    Rm E mX10_digest Q 192 [some (rf E 99), some (.long zy1), none, some (.int zx3)] [] H := by
  refine rn_iload_n dX10_digest_192 rfl ?_
  refine rn_aload_n dX10_digest_193 rfl ?_
  refine rm_geti flRX10_163 rfl (by decide) rfl dX10_digest_194 ?_
  refine rn_icmp_ge (tgt := 219) dX10_digest_197 (by decide) (fun hc_1 => ?_) (fun hc_1 => ?_)
  · replace hF := hF.1 hc_1
    refine rn_ldc2 coRX10_328 dX10_digest_219 ?_
    refine rn_lload_n dX10_digest_222 rfl ?_
    refine rn_lmul dX10_digest_223 ?_
    refine rn_aload_n dX10_digest_224 rfl ?_
    refine rm_callV (c0 := 99) (As := []) (st := [.long ((31 : Int64) * zy1)]) mlRX10_239 mdX10_failsNow (Nat.le_of_ble_eq_true rfl) rfl (by decide) (by decide) rfl rfl rfl (Nat.le_of_ble_eq_true rfl) ⟨Nat.le_refl _, Nat.le_refl _⟩ dX10_digest_225 ?_
    refine cm_mono hF (fun w zH_2 hF => ?_)
    obtain ⟨zr_3, rfl, hF⟩ := hF
    refine rn_i2l dX10_digest_228 ?_
    refine rn_ladd dX10_digest_229 ?_
    refine rn_lstore_n dX10_digest_230 rfl (Nat.le_of_ble_eq_true rfl) (fun zx1_4 ezx1_4 => ?_)
    replace hF := hF zx1_4 ezx1_4
    show Rn _ _ _ _ _ _ _ _ [some (rf E 99), some (.long zx1_4), none, some (.int zx3)] _ _ _
    refine rn_aload_n dX10_digest_231 rfl ?_
    refine rn_bipush (x := (9 : Int32)) dX10_digest_232 (by decide) ?_
    refine rm_callV (c0 := 99) (As := [.int (9 : Int32)]) (st := []) mlRX10_274 mdX10_sortBy (Nat.le_of_ble_eq_true rfl) rfl (by decide) (by decide) rfl rfl rfl (Nat.le_of_ble_eq_true rfl) ⟨Nat.le_refl _, Nat.le_refl _⟩ dX10_digest_234 ?_
    refine cm_mono hF (fun w zH_5 hF => ?_)
    obtain ⟨zr_6, rfl, hF⟩ := hF
    refine ra_istore_n dX10_digest_237 rfl (Nat.le_of_ble_eq_true rfl) ?_
    show Rn _ _ _ _ _ _ _ _ [some (rf E 99), some (.long zx1_4), none, some (.int zr_6)] _ _ _
    refine rn_ldc2 coRX10_328 dX10_digest_238 ?_
    refine rn_lload_n dX10_digest_241 rfl ?_
    refine rn_lmul dX10_digest_242 ?_
    refine rn_iload_n dX10_digest_243 rfl ?_
    refine rn_i2l dX10_digest_244 ?_
    refine rn_ladd dX10_digest_245 ?_
    refine rn_lstore_n dX10_digest_246 rfl (Nat.le_of_ble_eq_true rfl) (fun zx1_8 ezx1_8 => ?_)
    replace hF := hF zx1_8 ezx1_8
    show Rn _ _ _ _ _ _ _ _ [some (rf E 99), some (.long zx1_8), none, some (.int zr_6)] _ _ _
    refine rn_ldc2 coRX10_328 dX10_digest_247 ?_
    refine rn_lload_n dX10_digest_250 rfl ?_
    refine rn_lmul dX10_digest_251 ?_
    refine rn_aload_n dX10_digest_252 rfl ?_
    refine rn_iload_n dX10_digest_253 rfl ?_
    refine rn_iconst (x := (0 : Int32)) dX10_digest_254 (by decide) ?_
    refine rm_callV (c0 := 99) (As := [.int zr_6, .int (0 : Int32)]) (st := [.long ((31 : Int64) * zx1_8)]) mlRX10_261 mdX10_ofRow (Nat.le_of_ble_eq_true rfl) rfl (by decide) (by decide) rfl rfl rfl (Nat.le_of_ble_eq_true rfl) ⟨Nat.le_refl _, Nat.le_refl _⟩ dX10_digest_255 ?_
    refine cm_mono hF (fun w zH_9 hF => ?_)
    obtain ⟨zr_10, rfl, hF⟩ := hF
    refine rn_i2l dX10_digest_258 ?_
    refine rn_ladd dX10_digest_259 ?_
    refine rn_lstore_n dX10_digest_260 rfl (Nat.le_of_ble_eq_true rfl) (fun zx1_11 ezx1_11 => ?_)
    replace hF := hF zx1_11 ezx1_11
    show Rn _ _ _ _ _ _ _ _ [some (rf E 99), some (.long zx1_11), none, some (.int zr_6)] _ _ _
    refine rn_ldc2 coRX10_328 dX10_digest_261 ?_
    refine rn_lload_n dX10_digest_264 rfl ?_
    refine rn_lmul dX10_digest_265 ?_
    refine rn_aload_n dX10_digest_266 rfl ?_
    refine rn_bipush (x := (7 : Int32)) dX10_digest_267 (by decide) ?_
    refine rn_bipush (x := (12 : Int32)) dX10_digest_269 (by decide) ?_
    refine rn_iconst (x := (-1 : Int32)) dX10_digest_271 (by decide) ?_
    refine rm_callV (c0 := 99) (As := [.int (7 : Int32), .int (12 : Int32), .int (-1 : Int32)]) (st := [.long ((31 : Int64) * zx1_11)]) mlRX10_310 mdX10_dayOf (Nat.le_of_ble_eq_true rfl) rfl (by decide) (by decide) rfl rfl rfl (Nat.le_of_ble_eq_true rfl) ⟨Nat.le_refl _, Nat.le_refl _⟩ dX10_digest_272 ?_
    refine cm_mono hF (fun w zH_12 hF => ?_)
    obtain ⟨zr_13, rfl, hF⟩ := hF
    refine rn_i2l dX10_digest_275 ?_
    refine rn_ladd dX10_digest_276 ?_
    exact rm_lret rfl dX10_digest_277 hF
  · replace hF := hF.2 hc_1
    refine rn_ldc2 coRX10_328 dX10_digest_200 ?_
    refine rn_lload_n dX10_digest_203 rfl ?_
    refine rn_lmul dX10_digest_204 ?_
    refine rn_aload_n dX10_digest_205 rfl ?_
    refine rn_iload_n dX10_digest_206 rfl ?_
    refine rm_callV (c0 := 99) (As := [.int zx3]) (st := [.long ((31 : Int64) * zy1)]) mlRX10_236 mdX10_worksOf (Nat.le_of_ble_eq_true rfl) rfl (by decide) (by decide) rfl rfl rfl (Nat.le_of_ble_eq_true rfl) ⟨Nat.le_refl _, Nat.le_refl _⟩ dX10_digest_207 ?_
    refine cm_mono hF (fun w zH_14 hF => ?_)
    obtain ⟨zr_15, rfl, hF⟩ := hF
    refine rn_i2l dX10_digest_210 ?_
    refine rn_ladd dX10_digest_211 ?_
    refine rn_lstore_n dX10_digest_212 rfl (Nat.le_of_ble_eq_true rfl) (fun zx1_16 ezx1_16 => ?_)
    replace hF := hF zx1_16 ezx1_16
    show Rn _ _ _ _ _ _ _ _ [some (rf E 99), some (.long zx1_16), none, some (.int zx3)] _ _ _
    refine rn_iinc (w := (1 : Int32)) dX10_digest_213 rfl (by decide) rfl (Nat.le_of_ble_eq_true rfl) (fun zx3_17 ezx3_17 => ?_)
    replace hF := hF zx3_17 ezx3_17
    show Rn _ _ _ _ _ _ _ _ [some (rf E 99), some (.long zx1_16), none, some (.int zx3_17)] _ _ _
    refine rn_goto (tgt := 192) dX10_digest_216 (by decide) ?_
    exact rn_wk (L' := [some (rf E 99), some (.long zx1_16), none, some (.int zx3_17)]) (⟨rfl, ⟨rfl, ⟨rfl, trivial⟩⟩⟩) hF
