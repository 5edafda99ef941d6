theorem sgX10_in_0 {E : En} {Q : Option Value → Hi → Prop} {H : Hi} {zx0 : Int32} {zx1 : Int32} {zx2 : Int32} 
    (hF : (zx0 < zx1 → (Q (some (.int (0 : Int32))) H)) ∧ (¬ zx0 < zx1 → ((zx2 < zx0 → (Q (some (.int (0 : Int32))) H)) ∧ (¬ zx2 < zx0 → (Q (some (.int (1 : Int32))) H))))) :
    Rm E mX10_in Q 0 [some (.int zx0), some (.int zx1), some (.int zx2)] [] H := by
  refine rn_iload_n dX10_in_0 rfl ?_
  refine rn_iload_n dX10_in_1 rfl ?_
  refine rn_icmp_lt (tgt := 14) dX10_in_2 (by decide) (fun hc_1 => ?_) (fun hc_1 => ?_)
  · replace hF := hF.1 hc_1
    refine rn_iconst (x := (0 : Int32)) dX10_in_14 (by decide) ?_
    exact rm_zret rfl rfl dX10_in_15 hF
  · replace hF := hF.2 hc_1
    refine rn_iload_n dX10_in_5 rfl ?_
    refine rn_iload_n dX10_in_6 rfl ?_
    refine rn_icmp_gt (tgt := 14) dX10_in_7 (by decide) (fun hc_2 => ?_) (fun hc_2 => ?_)
    · replace hF := hF.1 hc_2
      refine rn_iconst (x := (0 : Int32)) dX10_in_14 (by decide) ?_
      exact rm_zret rfl rfl dX10_in_15 hF
    · replace hF := hF.2 hc_2
      refine rn_iconst (x := (1 : Int32)) dX10_in_10 (by decide) ?_
      refine rn_goto (tgt := 15) dX10_in_11 (by decide) ?_
      exact rm_zret rfl rfl dX10_in_15 hF
theorem cmX10_in {E : En} {Q : Option Value → Hi → Prop} {H : Hi} {zx0 : Int32} {zx1 : Int32} {zx2 : Int32} 
    (hF : (zx0 < zx1 → (Q (some (.int (0 : Int32))) H)) ∧ (¬ zx0 < zx1 → ((zx2 < zx0 → (Q (some (.int (0 : Int32))) H)) ∧ (¬ zx2 < zx0 → (Q (some (.int (1 : Int32))) H))))) :
    Cm E mX10_in [.int zx0, .int zx1, .int zx2] H Q :=
  cm_of (by decide +kernel : plainName RX10 = true) (Nat.le_of_ble_eq_true rfl) rfl (sgX10_in_0  hF)
theorem sgX10_isIn_0 {E : En} {Q : Option Value → Hi → Prop} {H : Hi} {zx0 : Int32} {zx1 : Int32} 
    (hF : (¬ ((zx0 >>> (zx1 &&& 31)) &&& (1 : Int32)) = (1 : Int32) → (Q (some (.int (0 : Int32))) H)) ∧ (((zx0 >>> (zx1 &&& 31)) &&& (1 : Int32)) = (1 : Int32) → (Q (some (.int (1 : Int32))) H))) :
    Rm E mX10_isIn Q 0 [some (.int zx0), some (.int zx1)] [] H := by
  refine rn_iload_n dX10_isIn_0 rfl ?_
  refine rn_iload_n dX10_isIn_1 rfl ?_
  refine rn_ishr dX10_isIn_2 ?_
  refine rn_iconst (x := (1 : Int32)) dX10_isIn_3 (by decide) ?_
  refine rn_iand dX10_isIn_4 ?_
  refine rn_iconst (x := (1 : Int32)) dX10_isIn_5 (by decide) ?_
  refine rn_icmp_ne (tgt := 13) dX10_isIn_6 (by decide) (fun hc_1 => ?_) (fun hc_1 => ?_)
  · replace hF := hF.1 hc_1
    refine rn_iconst (x := (0 : Int32)) dX10_isIn_13 (by decide) ?_
    exact rm_zret rfl rfl dX10_isIn_14 hF
  · replace hF := hF.2 hc_1
    refine rn_iconst (x := (1 : Int32)) dX10_isIn_9 (by decide) ?_
    refine rn_goto (tgt := 14) dX10_isIn_10 (by decide) ?_
    exact rm_zret rfl rfl dX10_isIn_14 hF
theorem cmX10_isIn {E : En} {Q : Option Value → Hi → Prop} {H : Hi} {zx0 : Int32} {zx1 : Int32} 
    (hF : (¬ ((zx0 >>> (zx1 &&& 31)) &&& (1 : Int32)) = (1 : Int32) → (Q (some (.int (0 : Int32))) H)) ∧ (((zx0 >>> (zx1 &&& 31)) &&& (1 : Int32)) = (1 : Int32) → (Q (some (.int (1 : Int32))) H))) :
    Cm E mX10_isIn [.int zx0, .int zx1] H Q :=
  cm_of (by decide +kernel : plainName RX10 = true) (Nat.le_of_ble_eq_true rfl) rfl (sgX10_isIn_0  hF)
theorem sgX10_no_0 {E : En} {Q : Option Value → Hi → Prop} {H : Hi} {zx0 : Int32} 
    (hF : Q (some (.long ((-9223372036854775808 : Int64) - (zx0.toInt64)))) H) :
    Rm E mX10_no Q 0 [some (.int zx0)] [] H := by
  refine rn_ldc2 coRX10_108 dX10_no_0 ?_
  refine rn_iload_n dX10_no_3 rfl ?_
  refine rn_i2l dX10_no_4 ?_
  refine rn_lsub dX10_no_5 ?_
  exact rm_lret rfl dX10_no_6 hF
theorem cmX10_no {E : En} {Q : Option Value → Hi → Prop} {H : Hi} {zx0 : Int32} 
    (hF : Q (some (.long ((-9223372036854775808 : Int64) - (zx0.toInt64)))) H) :
    Cm E mX10_no [.int zx0] H Q :=
  cm_of (by decide +kernel : plainName RX10 = true) (Nat.le_of_ble_eq_true rfl) rfl (sgX10_no_0  hF)
theorem sgX10_lowest_0 {E : En} {Q : Option Value → Hi → Prop} {H : Hi} {zy0 : Int64} {zy2 : Int64} {zx4 : Int32} 
    (hF : Rm E mX10_lowest Q 6 [some (.long zy0), none, some (.long zy2), none, some (.int zx4), some (.long zy0), none, some (.long zy2), none, none, none] [] H) :
    Rm E mX10_lowest Q 0 [some (.long zy0), none, some (.long zy2), none, some (.int zx4), none, none, none, none, none, none] [] H := by
  refine rn_lload_n dX10_lowest_0 rfl ?_
  refine ra_lstore dX10_lowest_1 rfl (Nat.le_of_ble_eq_true rfl) ?_
  show Rn _ _ _ _ _ _ _ _ [some (.long zy0), none, some (.long zy2), none, some (.int zx4), some (.long zy0), none, none, none, none, none] _ _ _
  refine rn_lload_n dX10_lowest_3 rfl ?_
  refine ra_lstore dX10_lowest_4 rfl (Nat.le_of_ble_eq_true rfl) ?_
  show Rn _ _ _ _ _ _ _ _ [some (.long zy0), none, some (.long zy2), none, some (.int zx4), some (.long zy0), none, some (.long zy2), none, none, none] _ _ _
  exact rn_wk (L' := [some (.long zy0), none, some (.long zy2), none, some (.int zx4), some (.long zy0), none, some (.long zy2), none, none, none]) (⟨rfl, ⟨rfl, ⟨rfl, ⟨rfl, ⟨rfl, trivial⟩⟩⟩⟩⟩) hF
theorem cmX10_lowest {E : En} {Q : Option Value → Hi → Prop} {H : Hi} {zy0 : Int64} {zy2 : Int64} {zx4 : Int32} 
    (hF : Rm E mX10_lowest Q 6 [some (.long zy0), none, some (.long zy2), none, some (.int zx4), some (.long zy0), none, some (.long zy2), none, none, none] [] H) :
    Cm E mX10_lowest [.long zy0, .long zy2, .int zx4] H Q :=
  cm_of (by decide +kernel : plainName RX10 = true) (Nat.le_of_ble_eq_true rfl) rfl (sgX10_lowest_0  hF)
theorem sgX10_lowest_6 {E : En} {Q : Option Value → Hi → Prop} {H : Hi} {zy0 : Int64} {zy2 : Int64} {zx4 : Int32} {zy5 : Int64} {zy7 : Int64} 
    (hF : ((lg_cmp zy7 (0 : Int64)) = 0 → ((¬ zx4 = 0 → ((¬ zy5 = 0) ∧ (Q (some (.long (zy2 / zy5))) H))) ∧ (zx4 = 0 → ((¬ zy5 = 0) ∧ (Q (some (.long (zy0 / zy5))) H))))) ∧ (¬ (lg_cmp zy7 (0 : Int64)) = 0 → ((¬ zy7 = 0) ∧ (∀ zx9_6 : Int64, zx9_6 = zy5 - zy5 / zy7 * zy7 → (Rm E mX10_lowest Q 6 [some (.long zy0), none, some (.long zy2), none, some (.int zx4), some (.long zy7), none, some (.long zx9_6), none, none, none] [] H))))) :
    Rm E mX10_lowest Q 6 [some (.long zy0), none, some (.long zy2), none, some (.int zx4), some (.long zy5), none, some (.long zy7), none, none, none] [] H := by
  refine rn_lload dX10_lowest_6 rfl ?_
  refine rn_lconst (x := (0 : Int64)) dX10_lowest_8 (by decide) ?_
  refine rn_lcmp dX10_lowest_9 ?_
  refine rn_if_eq (tgt := 31) dX10_lowest_10 (by decide) (fun hc_1 => ?_) (fun hc_1 => ?_)
  · replace hF := hF.1 hc_1
    refine rn_iload dX10_lowest_31 rfl ?_
    refine rn_if_ne (tgt := 43) dX10_lowest_33 (by decide) (fun hc_2 => ?_) (fun hc_2 => ?_)
    · replace hF := hF.1 hc_2
      refine rn_lload_n dX10_lowest_43 rfl ?_
      refine rn_lload dX10_lowest_44 rfl ?_
      obtain ⟨hz_3, hF⟩ := hF
      refine rn_ldiv dX10_lowest_46 hz_3 ?_
      exact rm_lret rfl dX10_lowest_47 hF
    · replace hF := hF.2 hc_2
      refine rn_lload_n dX10_lowest_36 rfl ?_
      refine rn_lload dX10_lowest_37 rfl ?_
      obtain ⟨hz_4, hF⟩ := hF
      refine rn_ldiv dX10_lowest_39 hz_4 ?_
      refine rn_goto (tgt := 47) dX10_lowest_40 (by decide) ?_
      exact rm_lret rfl dX10_lowest_47 hF
  · replace hF := hF.2 hc_1
    refine rn_lload dX10_lowest_13 rfl ?_
    refine rn_lload dX10_lowest_15 rfl ?_
    obtain ⟨hz_5, hF⟩ := hF
    refine rn_lrem dX10_lowest_17 hz_5 ?_
    refine rn_lstore dX10_lowest_18 rfl (Nat.le_of_ble_eq_true rfl) (fun zx9_6 ezx9_6 => ?_)
    replace hF := hF zx9_6 ezx9_6
    show Rn _ _ _ _ _ _ _ _ [some (.long zy0), none, some (.long zy2), none, some (.int zx4), some (.long zy5), none, some (.long zy7), none, some (.long zx9_6), none] _ _ _
    refine rn_lload dX10_lowest_20 rfl ?_
    refine ra_lstore dX10_lowest_22 rfl (Nat.le_of_ble_eq_true rfl) ?_
    show Rn _ _ _ _ _ _ _ _ [some (.long zy0), none, some (.long zy2), none, some (.int zx4), some (.long zy7), none, some (.long zy7), none, some (.long zx9_6), none] _ _ _
    refine rn_lload dX10_lowest_24 rfl ?_
    refine ra_lstore dX10_lowest_26 rfl (Nat.le_of_ble_eq_true rfl) ?_
    show Rn _ _ _ _ _ _ _ _ [some (.long zy0), none, some (.long zy2), none, some (.int zx4), some (.long zy7), none, some (.long zx9_6), none, some (.long zx9_6), none] _ _ _
    refine rn_goto (tgt := 6) dX10_lowest_28 (by decide) ?_
    exact rn_wk (L' := [some (.long zy0), none, some (.long zy2), none, some (.int zx4), some (.long zy7), none, some (.long zx9_6), none, none, none]) (⟨rfl, ⟨rfl, ⟨rfl, ⟨rfl, ⟨rfl, trivial⟩⟩⟩⟩⟩) hF
theorem sgX10_isText_0 {E : En} {Q : Option Value → Hi → Prop} {H : Hi} {zx0 : Int32} 
    (hF : Cm E mX10_in [.int zx0, .int (0 : Int32), .int (1 : Int32)] H (fun w zH_1 => ∃ zr_2 : Int32, w = some (.int zr_2) ∧ (narrow .boolean (.int zr_2) = .int zr_2 ∧ Q (some (.int zr_2)) zH_1))) :
    Rm E mX10_isText Q 0 [some (.int zx0)] [] H := by
  refine rn_iload_n dX10_isText_0 rfl ?_
  refine rn_iconst (x := (0 : Int32)) dX10_isText_1 (by decide) ?_
  refine rn_iconst (x := (1 : Int32)) dX10_isText_2 (by decide) ?_
  refine rm_callS (As := [.int zx0, .int (0 : Int32), .int (1 : Int32)]) (st := []) mlRX10_110 mdX10_in (Nat.le_of_ble_eq_true rfl) rfl rfl (Nat.le_of_ble_eq_true rfl) ⟨Nat.le_refl _, Nat.le_refl _⟩ dX10_isText_3 ?_
  refine cm_mono hF (fun w zH_1 hF => ?_)
  obtain ⟨zr_2, rfl, hF⟩ := hF
  exact rm_zret rfl hF.1 dX10_isText_6 hF.2
theorem cmX10_isText {E : En} {Q : Option Value → Hi → Prop} {H : Hi} {zx0 : Int32} 
    (hF : Cm E mX10_in [.int zx0, .int (0 : Int32), .int (1 : Int32)] H (fun w zH_1 => ∃ zr_2 : Int32, w = some (.int zr_2) ∧ (narrow .boolean (.int zr_2) = .int zr_2 ∧ Q (some (.int zr_2)) zH_1))) :
    Cm E mX10_isText [.int zx0] H Q :=
  cm_of (by decide +kernel : plainName RX10 = true) (Nat.le_of_ble_eq_true rfl) rfl (sgX10_isText_0  hF)
theorem sgX10_isEight_0 {E : En} {Q : Option Value → Hi → Prop} {H : Hi} {zx0 : Int32} 
    (hF : Cm E mX10_in [.int zx0, .int (0 : Int32), .int (7 : Int32)] H (fun w zH_1 => ∃ zr_2 : Int32, w = some (.int zr_2) ∧ (narrow .boolean (.int zr_2) = .int zr_2 ∧ Q (some (.int zr_2)) zH_1))) :
    Rm E mX10_isEight Q 0 [some (.int zx0)] [] H := by
  refine rn_iload_n dX10_isEight_0 rfl ?_
  refine rn_iconst (x := (0 : Int32)) dX10_isEight_1 (by decide) ?_
  refine rn_bipush (x := (7 : Int32)) dX10_isEight_2 (by decide) ?_
  refine rm_callS (As := [.int zx0, .int (0 : Int32), .int (7 : Int32)]) (st := []) mlRX10_110 mdX10_in (Nat.le_of_ble_eq_true rfl) rfl rfl (Nat.le_of_ble_eq_true rfl) ⟨Nat.le_refl _, Nat.le_refl _⟩ dX10_isEight_4 ?_
  refine cm_mono hF (fun w zH_1 hF => ?_)
  obtain ⟨zr_2, rfl, hF⟩ := hF
  exact rm_zret rfl hF.1 dX10_isEight_7 hF.2
theorem cmX10_isEight {E : En} {Q : Option Value → Hi → Prop} {H : Hi} {zx0 : Int32} 
    (hF : Cm E mX10_in [.int zx0, .int (0 : Int32), .int (7 : Int32)] H (fun w zH_1 => ∃ zr_2 : Int32, w = some (.int zr_2) ∧ (narrow .boolean (.int zr_2) = .int zr_2 ∧ Q (some (.int zr_2)) zH_1))) :
    Cm E mX10_isEight [.int zx0] H Q :=
  cm_of (by decide +kernel : plainName RX10 = true) (Nat.le_of_ble_eq_true rfl) rfl (sgX10_isEight_0  hF)
theorem sgX10_isHour_0 {E : En} {Q : Option Value → Hi → Prop} {H : Hi} {zx0 : Int32} 
    (hF : Cm E mX10_in [.int zx0, .int (0 : Int32), .int (23 : Int32)] H (fun w zH_1 => ∃ zr_2 : Int32, w = some (.int zr_2) ∧ (narrow .boolean (.int zr_2) = .int zr_2 ∧ Q (some (.int zr_2)) zH_1))) :
    Rm E mX10_isHour Q 0 [some (.int zx0)] [] H := by
  refine rn_iload_n dX10_isHour_0 rfl ?_
  refine rn_iconst (x := (0 : Int32)) dX10_isHour_1 (by decide) ?_
  refine rn_bipush (x := (23 : Int32)) dX10_isHour_2 (by decide) ?_
  refine rm_callS (As := [.int zx0, .int (0 : Int32), .int (23 : Int32)]) (st := []) mlRX10_110 mdX10_in (Nat.le_of_ble_eq_true rfl) rfl rfl (Nat.le_of_ble_eq_true rfl) ⟨Nat.le_refl _, Nat.le_refl _⟩ dX10_isHour_4 ?_
  refine cm_mono hF (fun w zH_1 hF => ?_)
  obtain ⟨zr_2, rfl, hF⟩ := hF
  exact rm_zret rfl hF.1 dX10_isHour_7 hF.2
theorem cmX10_isHour {E : En} {Q : Option Value → Hi → Prop} {H : Hi} {zx0 : Int32} 
    (hF : Cm E mX10_in [.int zx0, .int (0 : Int32), .int (23 : Int32)] H (fun w zH_1 => ∃ zr_2 : Int32, w = some (.int zr_2) ∧ (narrow .boolean (.int zr_2) = .int zr_2 ∧ Q (some (.int zr_2)) zH_1))) :
    Cm E mX10_isHour [.int zx0] H Q :=
  cm_of (by decide +kernel : plainName RX10 = true) (Nat.le_of_ble_eq_true rfl) rfl (sgX10_isHour_0  hF)
theorem sgX10_type_0 {E : En} {Q : Option Value → Hi → Prop} {H : Hi} {zx1 : Int32} {zx2 : Int32} 
    (hF : Cm E mX10_isText [.int zx1] H (fun w zH_1 => ∃ zr_2 : Int32, w = some (.int zr_2) ∧ ((zr_2 = 0 → (Q (some (.int (-2 : Int32))) zH_1)) ∧ (¬ zr_2 = 0 → (Cm E mX10_in [.int zx2, .int (0 : Int32), .int (255 : Int32)] zH_1 (fun w zH_4 => ∃ zr_5 : Int32, w = some (.int zr_5) ∧ ((¬ zr_5 = 0 → (∃ zj_7 : Nat, (zj_7 < 2 ∧ zx1 = nI zj_7) ∧ ((¬ zx1 = 0 → ((¬ (zH_4 100 zj_7) = (23 : Int32) → (∃ zj_10 : Nat, (zj_10 < 2 ∧ zx1 = nI zj_10) ∧ (∃ zj_11 : Nat, (zj_11 < 62 ∧ ((31 : Int32) * zx1) + (zH_4 100 zj_10) = nI zj_11) ∧ (∀ zH_12 : Hi, zH_12 = up zH_4 101 zj_11 zx2 → (∃ zj_13 : Nat, (zj_13 < 2 ∧ zx1 = nI zj_13) ∧ (∃ zj_14 : Nat, (zj_14 < 2 ∧ zx1 = nI zj_14) ∧ (∀ zH_15 : Hi, zH_15 = up zH_12 100 zj_14 ((zH_12 100 zj_13) + (1 : Int32)) → (∃ zj_16 : Nat, (zj_16 < 2 ∧ zx1 = nI zj_16) ∧ (Q (some (.int (zH_15 100 zj_16))) zH_15))))))))) ∧ ((zH_4 100 zj_7) = (23 : Int32) → (Q (some (.int (-4 : Int32))) zH_4)))) ∧ (zx1 = 0 → ((¬ (zH_4 100 zj_7) = (31 : Int32) → (∃ zj_18 : Nat, (zj_18 < 2 ∧ zx1 = nI zj_18) ∧ (∃ zj_19 : Nat, (zj_19 < 62 ∧ ((31 : Int32) * zx1) + (zH_4 100 zj_18) = nI zj_19) ∧ (∀ zH_20 : Hi, zH_20 = up zH_4 101 zj_19 zx2 → (∃ zj_21 : Nat, (zj_21 < 2 ∧ zx1 = nI zj_21) ∧ (∃ zj_22 : Nat, (zj_22 < 2 ∧ zx1 = nI zj_22) ∧ (∀ zH_23 : Hi, zH_23 = up zH_20 100 zj_22 ((zH_20 100 zj_21) + (1 : Int32)) → (∃ zj_24 : Nat, (zj_24 < 2 ∧ zx1 = nI zj_24) ∧ (Q (some (.int (zH_23 100 zj_24))) zH_23))))))))) ∧ ((zH_4 100 zj_7) = (31 : Int32) → (Q (some (.int (-4 : Int32))) zH_4))))))) ∧ (zr_5 = 0 → (Q (some (.int (-2 : Int32))) zH_4))))))))) :
    Rm E mX10_type Q 0 [some (rf E 99), some (.int zx1), some (.int zx2)] [] H := by
  refine rn_iload_n dX10_type_0 rfl ?_
  refine rm_callS (As := [.int zx1]) (st := []) mlRX10_114 mdX10_isText (Nat.le_of_ble_eq_true rfl) rfl rfl (Nat.le_of_ble_eq_true rfl) ⟨Nat.le_refl _, Nat.le_refl _⟩ dX10_type_1 ?_
  refine cm_mono hF (fun w zH_1 hF => ?_)
  obtain ⟨zr_2, rfl, hF⟩ := hF
  refine rn_if_eq (tgt := 18) dX10_type_4 (by decide) (fun hc_3 => ?_) (fun hc_3 => ?_)
  · replace hF := hF.1 hc_3
    refine rn_bipush (x := (-2 : Int32)) dX10_type_18 (by decide) ?_
    exact rm_iret rfl dX10_type_20 hF
  · replace hF := hF.2 hc_3
    refine rn_iload_n dX10_type_7 rfl ?_
    refine rn_iconst (x := (0 : Int32)) dX10_type_8 (by decide) ?_
    refine rn_sipush (x := (255 : Int32)) dX10_type_9 (by decide) ?_
    refine rm_callS (As := [.int zx2, .int (0 : Int32), .int (255 : Int32)]) (st := []) mlRX10_110 mdX10_in (Nat.le_of_ble_eq_true rfl) rfl rfl (Nat.le_of_ble_eq_true rfl) ⟨Nat.le_refl _, Nat.le_refl _⟩ dX10_type_12 ?_
    refine cm_mono hF (fun w zH_4 hF => ?_)
    obtain ⟨zr_5, rfl, hF⟩ := hF
    refine rn_if_ne (tgt := 21) dX10_type_15 (by decide) (fun hc_6 => ?_) (fun hc_6 => ?_)
    · replace hF := hF.1 hc_6
      refine rn_aload_n dX10_type_21 rfl ?_
      refine rm_getr (r := 100) flRX10_7 rfl (by decide) rfl dX10_type_22 ?_
      refine rn_iload_n dX10_type_25 rfl ?_
      obtain ⟨zj_7, hzj_7, hF⟩ := hF
      refine rj_iald (j := zj_7) hzj_7 rfl (by decide) rfl (by decide) dX10_type_26 ?_
      refine rn_iload_n dX10_type_27 rfl ?_
      refine rn_if_ne (tgt := 36) dX10_type_28 (by decide) (fun hc_8 => ?_) (fun hc_8 => ?_)
      · replace hF := hF.1 hc_8
        refine rn_bipush (x := (23 : Int32)) dX10_type_36 (by decide) ?_
        refine rn_icmp_ne (tgt := 44) dX10_type_38 (by decide) (fun hc_9 => ?_) (fun hc_9 => ?_)
        · replace hF := hF.1 hc_9
          refine rn_aload_n dX10_type_44 rfl ?_
          refine rm_getr (r := 101) flRX10_13 rfl (by decide) rfl dX10_type_45 ?_
          refine rn_bipush (x := (31 : Int32)) dX10_type_48 (by decide) ?_
          refine rn_iload_n dX10_type_50 rfl ?_
          refine rn_imul dX10_type_51 ?_
          refine rn_aload_n dX10_type_52 rfl ?_
          refine rm_getr (r := 100) flRX10_7 rfl (by decide) rfl dX10_type_53 ?_
          refine rn_iload_n dX10_type_56 rfl ?_
          obtain ⟨zj_10, hzj_10, hF⟩ := hF
          refine rj_iald (j := zj_10) hzj_10 rfl (by decide) rfl (by decide) dX10_type_57 ?_
          refine rn_iadd dX10_type_58 ?_
          refine rn_iload_n dX10_type_59 rfl ?_
          obtain ⟨zj_11, hzj_11, hF⟩ := hF
          refine rj_iast (j := zj_11) hzj_11 rfl (by decide) rfl (by decide) dX10_type_60 (fun zH_12 ezH_12 => ?_)
          replace hF := hF zH_12 ezH_12
          refine rn_aload_n dX10_type_61 rfl ?_
          refine rm_getr (r := 100) flRX10_7 rfl (by decide) rfl dX10_type_62 ?_
          refine rn_iload_n dX10_type_65 rfl ?_
          refine rn_dup2 dX10_type_66 rfl rfl ?_
          obtain ⟨zj_13, hzj_13, hF⟩ := hF
          refine rj_iald (j := zj_13) hzj_13 rfl (by decide) rfl (by decide) dX10_type_67 ?_
          refine rn_iconst (x := (1 : Int32)) dX10_type_68 (by decide) ?_
          refine rn_iadd dX10_type_69 ?_
          obtain ⟨zj_14, hzj_14, hF⟩ := hF
          refine rj_iast (j := zj_14) hzj_14 rfl (by decide) rfl (by decide) dX10_type_70 (fun zH_15 ezH_15 => ?_)
          replace hF := hF zH_15 ezH_15
          refine rn_aload_n dX10_type_71 rfl ?_
          refine rm_getr (r := 100) flRX10_7 rfl (by decide) rfl dX10_type_72 ?_
          refine rn_iload_n dX10_type_75 rfl ?_
          obtain ⟨zj_16, hzj_16, hF⟩ := hF
          refine rj_iald (j := zj_16) hzj_16 rfl (by decide) rfl (by decide) dX10_type_76 ?_
          exact rm_iret rfl dX10_type_77 hF
        · replace hF := hF.2 hc_9
          refine rn_bipush (x := (-4 : Int32)) dX10_type_41 (by decide) ?_
          exact rm_iret rfl dX10_type_43 hF
      · replace hF := hF.2 hc_8
        refine rn_bipush (x := (31 : Int32)) dX10_type_31 (by decide) ?_
        refine rn_goto (tgt := 38) dX10_type_33 (by decide) ?_
        refine rn_icmp_ne (tgt := 44) dX10_type_38 (by decide) (fun hc_17 => ?_) (fun hc_17 => ?_)
        · replace hF := hF.1 hc_17
          refine rn_aload_n dX10_type_44 rfl ?_
          refine rm_getr (r := 101) flRX10_13 rfl (by decide) rfl dX10_type_45 ?_
          refine rn_bipush (x := (31 : Int32)) dX10_type_48 (by decide) ?_
          refine rn_iload_n dX10_type_50 rfl ?_
          refine rn_imul dX10_type_51 ?_
          refine rn_aload_n dX10_type_52 rfl ?_
          refine rm_getr (r := 100) flRX10_7 rfl (by decide) rfl dX10_type_53 ?_
          refine rn_iload_n dX10_type_56 rfl ?_
          obtain ⟨zj_18, hzj_18, hF⟩ := hF
          refine rj_iald (j := zj_18) hzj_18 rfl (by decide) rfl (by decide) dX10_type_57 ?_
          refine rn_iadd dX10_type_58 ?_
          refine rn_iload_n dX10_type_59 rfl ?_
          obtain ⟨zj_19, hzj_19, hF⟩ := hF
          refine rj_iast (j := zj_19) hzj_19 rfl (by decide) rfl (by decide) dX10_type_60 (fun zH_20 ezH_20 => ?_)
          replace hF := hF zH_20 ezH_20
          refine rn_aload_n dX10_type_61 rfl ?_
          refine rm_getr (r := 100) flRX10_7 rfl (by decide) rfl dX10_type_62 ?_
          refine rn_iload_n dX10_type_65 rfl ?_
          refine rn_dup2 dX10_type_66 rfl rfl ?_
          obtain ⟨zj_21, hzj_21, hF⟩ := hF
          refine rj_iald (j := zj_21) hzj_21 rfl (by decide) rfl (by decide) dX10_type_67 ?_
          refine rn_iconst (x := (1 : Int32)) dX10_type_68 (by decide) ?_
          refine rn_iadd dX10_type_69 ?_
          obtain ⟨zj_22, hzj_22, hF⟩ := hF
          refine rj_iast (j := zj_22) hzj_22 rfl (by decide) rfl (by decide) dX10_type_70 (fun zH_23 ezH_23 => ?_)
          replace hF := hF zH_23 ezH_23
          refine rn_aload_n dX10_type_71 rfl ?_
          refine rm_getr (r := 100) flRX10_7 rfl (by decide) rfl dX10_type_72 ?_
          refine rn_iload_n dX10_type_75 rfl ?_
          obtain ⟨zj_24, hzj_24, hF⟩ := hF
          refine rj_iald (j := zj_24) hzj_24 rfl (by decide) rfl (by decide) dX10_type_76 ?_
          exact rm_iret rfl dX10_type_77 hF
        · replace hF := hF.2 hc_17
          refine rn_bipush (x := (-4 : Int32)) dX10_type_41 (by decide) ?_
          exact rm_iret rfl dX10_type_43 hF
    · replace hF := hF.2 hc_6
      refine rn_bipush (x := (-2 : Int32)) dX10_type_18 (by decide) ?_
      exact rm_iret rfl dX10_type_20 hF
theorem cmX10_type {E : En} {Q : Option Value → Hi → Prop} {H : Hi} {zx1 : Int32} {zx2 : Int32} 
    (hF : Cm E mX10_isText [.int zx1] H (fun w zH_1 => ∃ zr_2 : Int32, w = some (.int zr_2) ∧ ((zr_2 = 0 → (Q (some (.int (-2 : Int32))) zH_1)) ∧ (¬ zr_2 = 0 → (Cm E mX10_in [.int zx2, .int (0 : Int32), .int (255 : Int32)] zH_1 (fun w zH_4 => ∃ zr_5 : Int32, w = some (.int zr_5) ∧ ((¬ zr_5 = 0 → (∃ zj_7 : Nat, (zj_7 < 2 ∧ zx1 = nI zj_7) ∧ ((¬ zx1 = 0 → ((¬ (zH_4 100 zj_7) = (23 : Int32) → (∃ zj_10 : Nat, (zj_10 < 2 ∧ zx1 = nI zj_10) ∧ (∃ zj_11 : Nat, (zj_11 < 62 ∧ ((31 : Int32) * zx1) + (zH_4 100 zj_10) = nI zj_11) ∧ (∀ zH_12 : Hi, zH_12 = up zH_4 101 zj_11 zx2 → (∃ zj_13 : Nat, (zj_13 < 2 ∧ zx1 = nI zj_13) ∧ (∃ zj_14 : Nat, (zj_14 < 2 ∧ zx1 = nI zj_14) ∧ (∀ zH_15 : Hi, zH_15 = up zH_12 100 zj_14 ((zH_12 100 zj_13) + (1 : Int32)) → (∃ zj_16 : Nat, (zj_16 < 2 ∧ zx1 = nI zj_16) ∧ (Q (some (.int (zH_15 100 zj_16))) zH_15))))))))) ∧ ((zH_4 100 zj_7) = (23 : Int32) → (Q (some (.int (-4 : Int32))) zH_4)))) ∧ (zx1 = 0 → ((¬ (zH_4 100 zj_7) = (31 : Int32) → (∃ zj_18 : Nat, (zj_18 < 2 ∧ zx1 = nI zj_18) ∧ (∃ zj_19 : Nat, (zj_19 < 62 ∧ ((31 : Int32) * zx1) + (zH_4 100 zj_18) = nI zj_19) ∧ (∀ zH_20 : Hi, zH_20 = up zH_4 101 zj_19 zx2 → (∃ zj_21 : Nat, (zj_21 < 2 ∧ zx1 = nI zj_21) ∧ (∃ zj_22 : Nat, (zj_22 < 2 ∧ zx1 = nI zj_22) ∧ (∀ zH_23 : Hi, zH_23 = up zH_20 100 zj_22 ((zH_20 100 zj_21) + (1 : Int32)) → (∃ zj_24 : Nat, (zj_24 < 2 ∧ zx1 = nI zj_24) ∧ (Q (some (.int (zH_23 100 zj_24))) zH_23))))))))) ∧ ((zH_4 100 zj_7) = (31 : Int32) → (Q (some (.int (-4 : Int32))) zH_4))))))) ∧ (zr_5 = 0 → (Q (some (.int (-2 : Int32))) zH_4))))))))) :
    Cm E mX10_type [rf E 99, .int zx1, .int zx2] H Q :=
  cm_of (by decide +kernel : plainName RX10 = true) (Nat.le_of_ble_eq_true rfl) rfl (sgX10_type_0  hF)
theorem sgX10_wipe_0 {E : En} {Q : Option Value → Hi → Prop} {H : Hi} {zx1 : Int32} 
    (hF : Cm E mX10_isText [.int zx1] H (fun w zH_1 => ∃ zr_2 : Int32, w = some (.int zr_2) ∧ ((¬ zr_2 = 0 → (∃ zj_4 : Nat, (zj_4 < 2 ∧ zx1 = nI zj_4) ∧ (∀ zx2_5 : Int32, zx2_5 = zH_1 100 zj_4 → (∃ zj_6 : Nat, (zj_6 < 2 ∧ zx1 = nI zj_6) ∧ (∀ zH_7 : Hi, zH_7 = up zH_1 100 zj_6 (0 : Int32) → (Q (some (.int zx2_5)) zH_7)))))) ∧ (zr_2 = 0 → (Q (some (.int (-2 : Int32))) zH_1))))) :
    Rm E mX10_wipe Q 0 [some (rf E 99), some (.int zx1), none] [] H := by
  refine rn_iload_n dX10_wipe_0 rfl ?_
  refine rm_callS (As := [.int zx1]) (st := []) mlRX10_114 mdX10_isText (Nat.le_of_ble_eq_true rfl) rfl rfl (Nat.le_of_ble_eq_true rfl) ⟨Nat.le_refl _, Nat.le_refl _⟩ dX10_wipe_1 ?_
  refine cm_mono hF (fun w zH_1 hF => ?_)
  obtain ⟨zr_2, rfl, hF⟩ := hF
  refine rn_if_ne (tgt := 10) dX10_wipe_4 (by decide) (fun hc_3 => ?_) (fun hc_3 => ?_)
  · replace hF := hF.1 hc_3
    refine rn_aload_n dX10_wipe_10 rfl ?_
    refine rm_getr (r := 100) flRX10_7 rfl (by decide) rfl dX10_wipe_11 ?_
    refine rn_iload_n dX10_wipe_14 rfl ?_
    obtain ⟨zj_4, hzj_4, hF⟩ := hF
    refine rj_iald (j := zj_4) hzj_4 rfl (by decide) rfl (by decide) dX10_wipe_15 ?_
    refine rn_istore_n dX10_wipe_16 rfl (Nat.le_of_ble_eq_true rfl) (fun zx2_5 ezx2_5 => ?_)
    replace hF := hF zx2_5 ezx2_5
    show Rn _ _ _ _ _ _ _ _ [some (rf E 99), some (.int zx1), some (.int zx2_5)] _ _ _
    refine rn_aload_n dX10_wipe_17 rfl ?_
    refine rm_getr (r := 100) flRX10_7 rfl (by decide) rfl dX10_wipe_18 ?_
    refine rn_iload_n dX10_wipe_21 rfl ?_
    refine rn_iconst (x := (0 : Int32)) dX10_wipe_22 (by decide) ?_
    obtain ⟨zj_6, hzj_6, hF⟩ := hF
    refine rj_iast (j := zj_6) hzj_6 rfl (by decide) rfl (by decide) dX10_wipe_23 (fun zH_7 ezH_7 => ?_)
    replace hF := hF zH_7 ezH_7
    refine rn_iload_n dX10_wipe_24 rfl ?_
    exact rm_iret rfl dX10_wipe_25 hF
  · replace hF := hF.2 hc_3
    refine rn_bipush (x := (-2 : Int32)) dX10_wipe_7 (by decide) ?_
    exact rm_iret rfl dX10_wipe_9 hF
theorem cmX10_wipe {E : En} {Q : Option Value → Hi → Prop} {H : Hi} {zx1 : Int32} 
    (hF : Cm E mX10_isText [.int zx1] H (fun w zH_1 => ∃ zr_2 : Int32, w = some (.int zr_2) ∧ ((¬ zr_2 = 0 → (∃ zj_4 : Nat, (zj_4 < 2 ∧ zx1 = nI zj_4) ∧ (∀ zx2_5 : Int32, zx2_5 = zH_1 100 zj_4 → (∃ zj_6 : Nat, (zj_6 < 2 ∧ zx1 = nI zj_6) ∧ (∀ zH_7 : Hi, zH_7 = up zH_1 100 zj_6 (0 : Int32) → (Q (some (.int zx2_5)) zH_7)))))) ∧ (zr_2 = 0 → (Q (some (.int (-2 : Int32))) zH_1))))) :
    Cm E mX10_wipe [rf E 99, .int zx1] H Q :=
  cm_of (by decide +kernel : plainName RX10 = true) (Nat.le_of_ble_eq_true rfl) rfl (sgX10_wipe_0  hF)
theorem sgX10_undo_0 {E : En} {Q : Option Value → Hi → Prop} {H : Hi} {zx1 : Int32} 
    (hF : Cm E mX10_isText [.int zx1] H (fun w zH_1 => ∃ zr_2 : Int32, w = some (.int zr_2) ∧ ((¬ zr_2 = 0 → (∃ zj_4 : Nat, (zj_4 < 2 ∧ zx1 = nI zj_4) ∧ ((¬ (zH_1 100 zj_4) = 0 → (∃ zj_6 : Nat, (zj_6 < 2 ∧ zx1 = nI zj_6) ∧ (∃ zj_7 : Nat, (zj_7 < 2 ∧ zx1 = nI zj_7) ∧ (∀ zH_8 : Hi, zH_8 = up zH_1 100 zj_7 ((zH_1 100 zj_6) - (1 : Int32)) → (∃ zj_9 : Nat, (zj_9 < 2 ∧ zx1 = nI zj_9) ∧ (Q (some (.int (zH_8 100 zj_9))) zH_8)))))) ∧ ((zH_1 100 zj_4) = 0 → (Q (some (.int (-3 : Int32))) zH_1))))) ∧ (zr_2 = 0 → (Q (some (.int (-2 : Int32))) zH_1))))) :
    Rm E mX10_undo Q 0 [some (rf E 99), some (.int zx1)] [] H := by
  refine rn_iload_n dX10_undo_0 rfl ?_
  refine rm_callS (As := [.int zx1]) (st := []) mlRX10_114 mdX10_isText (Nat.le_of_ble_eq_true rfl) rfl rfl (Nat.le_of_ble_eq_true rfl) ⟨Nat.le_refl _, Nat.le_refl _⟩ dX10_undo_1 ?_
  refine cm_mono hF (fun w zH_1 hF => ?_)
  obtain ⟨zr_2, rfl, hF⟩ := hF
  refine rn_if_ne (tgt := 10) dX10_undo_4 (by decide) (fun hc_3 => ?_) (fun hc_3 => ?_)
  · replace hF := hF.1 hc_3
    refine rn_aload_n dX10_undo_10 rfl ?_
    refine rm_getr (r := 100) flRX10_7 rfl (by decide) rfl dX10_undo_11 ?_
    refine rn_iload_n dX10_undo_14 rfl ?_
    obtain ⟨zj_4, hzj_4, hF⟩ := hF
    refine rj_iald (j := zj_4) hzj_4 rfl (by decide) rfl (by decide) dX10_undo_15 ?_
    refine rn_if_ne (tgt := 22) dX10_undo_16 (by decide) (fun hc_5 => ?_) (fun hc_5 => ?_)
    · replace hF := hF.1 hc_5
      refine rn_aload_n dX10_undo_22 rfl ?_
      refine rm_getr (r := 100) flRX10_7 rfl (by decide) rfl dX10_undo_23 ?_
      refine rn_iload_n dX10_undo_26 rfl ?_
      refine rn_dup2 dX10_undo_27 rfl rfl ?_
      obtain ⟨zj_6, hzj_6, hF⟩ := hF
      refine rj_iald (j := zj_6) hzj_6 rfl (by decide) rfl (by decide) dX10_undo_28 ?_
      refine rn_iconst (x := (1 : Int32)) dX10_undo_29 (by decide) ?_
      refine rn_isub dX10_undo_30 ?_
      obtain ⟨zj_7, hzj_7, hF⟩ := hF
      refine rj_iast (j := zj_7) hzj_7 rfl (by decide) rfl (by decide) dX10_undo_31 (fun zH_8 ezH_8 => ?_)
      replace hF := hF zH_8 ezH_8
      refine rn_aload_n dX10_undo_32 rfl ?_
      refine rm_getr (r := 100) flRX10_7 rfl (by decide) rfl dX10_undo_33 ?_
      refine rn_iload_n dX10_undo_36 rfl ?_
      obtain ⟨zj_9, hzj_9, hF⟩ := hF
      refine rj_iald (j := zj_9) hzj_9 rfl (by decide) rfl (by decide) dX10_undo_37 ?_
      exact rm_iret rfl dX10_undo_38 hF
    · replace hF := hF.2 hc_5
      refine rn_bipush (x := (-3 : Int32)) dX10_undo_19 (by decide) ?_
      exact rm_iret rfl dX10_undo_21 hF
  · replace hF := hF.2 hc_3
    refine rn_bipush (x := (-2 : Int32)) dX10_undo_7 (by decide) ?_
    exact rm_iret rfl dX10_undo_9 hF
theorem cmX10_undo {E : En} {Q : Option Value → Hi → Prop} {H : Hi} {zx1 : Int32} 
    (hF : Cm E mX10_isText [.int zx1] H (fun w zH_1 => ∃ zr_2 : Int32, w = some (.int zr_2) ∧ ((¬ zr_2 = 0 → (∃ zj_4 : Nat, (zj_4 < 2 ∧ zx1 = nI zj_4) ∧ ((¬ (zH_1 100 zj_4) = 0 → (∃ zj_6 : Nat, (zj_6 < 2 ∧ zx1 = nI zj_6) ∧ (∃ zj_7 : Nat, (zj_7 < 2 ∧ zx1 = nI zj_7) ∧ (∀ zH_8 : Hi, zH_8 = up zH_1 100 zj_7 ((zH_1 100 zj_6) - (1 : Int32)) → (∃ zj_9 : Nat, (zj_9 < 2 ∧ zx1 = nI zj_9) ∧ (Q (some (.int (zH_8 100 zj_9))) zH_8)))))) ∧ ((zH_1 100 zj_4) = 0 → (Q (some (.int (-3 : Int32))) zH_1))))) ∧ (zr_2 = 0 → (Q (some (.int (-2 : Int32))) zH_1))))) :
    Cm E mX10_undo [rf E 99, .int zx1] H Q :=
  cm_of (by decide +kernel : plainName RX10 = true) (Nat.le_of_ble_eq_true rfl) rfl (sgX10_undo_0  hF)
theorem sgX10_byteAt_0 {E : En} {Q : Option Value → Hi → Prop} {H : Hi} {zx1 : Int32} {zx2 : Int32} 
    (hF : ∃ zj_1 : Nat, (zj_1 < 2 ∧ zx1 = nI zj_1) ∧ (((H 100 zj_1) ≤ zx2 → (Q (some (.int (-1 : Int32))) H)) ∧ (¬ (H 100 zj_1) ≤ zx2 → (∃ zj_3 : Nat, (zj_3 < 62 ∧ ((31 : Int32) * zx1) + zx2 = nI zj_3) ∧ (Q (some (.int (H 101 zj_3))) H))))) :
    Rm E mX10_byteAt Q 0 [some (rf E 99), some (.int zx1), some (.int zx2)] [] H := by
  refine rn_iload_n dX10_byteAt_0 rfl ?_
  refine rn_aload_n dX10_byteAt_1 rfl ?_
  refine rm_getr (r := 100) flRX10_7 rfl (by decide) rfl dX10_byteAt_2 ?_
  refine rn_iload_n dX10_byteAt_5 rfl ?_
  obtain ⟨zj_1, hzj_1, hF⟩ := hF
  refine rj_iald (j := zj_1) hzj_1 rfl (by decide) rfl (by decide) dX10_byteAt_6 ?_
  refine rn_icmp_ge (tgt := 24) dX10_byteAt_7 (by decide) (fun hc_2 => ?_) (fun hc_2 => ?_)
  · replace hF := hF.1 hc_2
    refine rn_iconst (x := (-1 : Int32)) dX10_byteAt_24 (by decide) ?_
    exact rm_iret rfl dX10_byteAt_25 hF
  · replace hF := hF.2 hc_2
    refine rn_aload_n dX10_byteAt_10 rfl ?_
    refine rm_getr (r := 101) flRX10_13 rfl (by decide) rfl dX10_byteAt_11 ?_
    refine rn_bipush (x := (31 : Int32)) dX10_byteAt_14 (by decide) ?_
    refine rn_iload_n dX10_byteAt_16 rfl ?_
    refine rn_imul dX10_byteAt_17 ?_
    refine rn_iload_n dX10_byteAt_18 rfl ?_
    refine rn_iadd dX10_byteAt_19 ?_
    obtain ⟨zj_3, hzj_3, hF⟩ := hF
    refine rj_iald (j := zj_3) hzj_3 rfl (by decide) rfl (by decide) dX10_byteAt_20 ?_
    refine rn_goto (tgt := 25) dX10_byteAt_21 (by decide) ?_
    exact rm_iret rfl dX10_byteAt_25 hF
theorem cmX10_byteAt {E : En} {Q : Option Value → Hi → Prop} {H : Hi} {zx1 : Int32} {zx2 : Int32} 
    (hF : ∃ zj_1 : Nat, (zj_1 < 2 ∧ zx1 = nI zj_1) ∧ (((H 100 zj_1) ≤ zx2 → (Q (some (.int (-1 : Int32))) H)) ∧ (¬ (H 100 zj_1) ≤ zx2 → (∃ zj_3 : Nat, (zj_3 < 62 ∧ ((31 : Int32) * zx1) + zx2 = nI zj_3) ∧ (Q (some (.int (H 101 zj_3))) H))))) :
    Cm E mX10_byteAt [rf E 99, .int zx1, .int zx2] H Q :=
  cm_of (by decide +kernel : plainName RX10 = true) (Nat.le_of_ble_eq_true rfl) rfl (sgX10_byteAt_0  hF)
theorem sgX10_readsThing_0 {E : En} {Q : Option Value → Hi → Prop} {H : Hi} {zx1 : Int32} {zx2 : Int32} 
    (hF : Cm E mX10_byteAt [rf E 99, .int (0 : Int32), .int zx2] H (fun w zH_1 => ∃ zr_2 : Int32, w = some (.int zr_2) ∧ (∀ zx3_3 : Int32, zx3_3 = zr_2 - (48 : Int32) → (Cm E mX10_byteAt [rf E 99, .int (0 : Int32), .int (zx2 + (1 : Int32))] zH_1 (fun w zH_4 => ∃ zr_5 : Int32, w = some (.int zr_5) ∧ (∀ zx4_6 : Int32, zx4_6 = zr_5 - (48 : Int32) → (Cm E mX10_byteAt [rf E 99, .int (0 : Int32), .int (zx2 + (2 : Int32))] zH_4 (fun w zH_7 => ∃ zr_8 : Int32, w = some (.int zr_8) ∧ ((¬ zr_8 = (111 : Int32) → ((¬ zr_8 = (115 : Int32) → ((¬ zr_8 = (102 : Int32) → (Cm E mX10_in [.int zx3_3, .int (1 : Int32), .int (9 : Int32)] zH_7 (fun w zH_14 => ∃ zr_15 : Int32, w = some (.int zr_15) ∧ ((¬ zr_15 = 0 → (Cm E mX10_isEight [.int zx4_6] zH_14 (fun w zH_17 => ∃ zr_18 : Int32, w = some (.int zr_18) ∧ ((¬ zr_18 = 0 → ((¬ (-1 : Int32) = (-1 : Int32) → (∃ zj_21 : Nat, (zj_21 < 9 ∧ zx1 = nI zj_21) ∧ (∀ zH_22 : Hi, zH_22 = up zH_17 102 zj_21 zx3_3 → (∃ zj_23 : Nat, (zj_23 < 9 ∧ zx1 = nI zj_23) ∧ (∀ zH_24 : Hi, zH_24 = up zH_22 103 zj_23 zx4_6 → (∃ zj_25 : Nat, (zj_25 < 9 ∧ zx1 = nI zj_25) ∧ (∀ zH_26 : Hi, zH_26 = up zH_24 104 zj_25 (-1 : Int32) → (Q (some (.int (3 : Int32))) zH_26)))))))) ∧ ((-1 : Int32) = (-1 : Int32) → (Q (some (.int (2 : Int32))) zH_17)))) ∧ (zr_18 = 0 → (Q (some (.int (1 : Int32))) zH_17)))))) ∧ (zr_15 = 0 → (Q (some (.int (0 : Int32))) zH_14)))))) ∧ (zr_8 = (102 : Int32) → (Cm E mX10_in [.int zx3_3, .int (1 : Int32), .int (9 : Int32)] zH_7 (fun w zH_28 => ∃ zr_29 : Int32, w = some (.int zr_29) ∧ ((¬ zr_29 = 0 → (Cm E mX10_isEight [.int zx4_6] zH_28 (fun w zH_31 => ∃ zr_32 : Int32, w = some (.int zr_32) ∧ ((¬ zr_32 = 0 → ((¬ (2 : Int32) = (-1 : Int32) → (∃ zj_35 : Nat, (zj_35 < 9 ∧ zx1 = nI zj_35) ∧ (∀ zH_36 : Hi, zH_36 = up zH_31 102 zj_35 zx3_3 → (∃ zj_37 : Nat, (zj_37 < 9 ∧ zx1 = nI zj_37) ∧ (∀ zH_38 : Hi, zH_38 = up zH_36 103 zj_37 zx4_6 → (∃ zj_39 : Nat, (zj_39 < 9 ∧ zx1 = nI zj_39) ∧ (∀ zH_40 : Hi, zH_40 = up zH_38 104 zj_39 (2 : Int32) → (Q (some (.int (3 : Int32))) zH_40)))))))) ∧ ((2 : Int32) = (-1 : Int32) → (Q (some (.int (2 : Int32))) zH_31)))) ∧ (zr_32 = 0 → (Q (some (.int (1 : Int32))) zH_31)))))) ∧ (zr_29 = 0 → (Q (some (.int (0 : Int32))) zH_28)))))))) ∧ (zr_8 = (115 : Int32) → (Cm E mX10_in [.int zx3_3, .int (1 : Int32), .int (9 : Int32)] zH_7 (fun w zH_42 => ∃ zr_43 : Int32, w = some (.int zr_43) ∧ ((¬ zr_43 = 0 → (Cm E mX10_isEight [.int zx4_6] zH_42 (fun w zH_45 => ∃ zr_46 : Int32, w = some (.int zr_46) ∧ ((¬ zr_46 = 0 → ((¬ (1 : Int32) = (-1 : Int32) → (∃ zj_49 : Nat, (zj_49 < 9 ∧ zx1 = nI zj_49) ∧ (∀ zH_50 : Hi, zH_50 = up zH_45 102 zj_49 zx3_3 → (∃ zj_51 : Nat, (zj_51 < 9 ∧ zx1 = nI zj_51) ∧ (∀ zH_52 : Hi, zH_52 = up zH_50 103 zj_51 zx4_6 → (∃ zj_53 : Nat, (zj_53 < 9 ∧ zx1 = nI zj_53) ∧ (∀ zH_54 : Hi, zH_54 = up zH_52 104 zj_53 (1 : Int32) → (Q (some (.int (3 : Int32))) zH_54)))))))) ∧ ((1 : Int32) = (-1 : Int32) → (Q (some (.int (2 : Int32))) zH_45)))) ∧ (zr_46 = 0 → (Q (some (.int (1 : Int32))) zH_45)))))) ∧ (zr_43 = 0 → (Q (some (.int (0 : Int32))) zH_42)))))))) ∧ (zr_8 = (111 : Int32) → (Cm E mX10_in [.int zx3_3, .int (1 : Int32), .int (9 : Int32)] zH_7 (fun w zH_56 => ∃ zr_57 : Int32, w = some (.int zr_57) ∧ ((¬ zr_57 = 0 → (Cm E mX10_isEight [.int zx4_6] zH_56 (fun w zH_59 => ∃ zr_60 : Int32, w = some (.int zr_60) ∧ ((¬ zr_60 = 0 → ((¬ (0 : Int32) = (-1 : Int32) → (∃ zj_63 : Nat, (zj_63 < 9 ∧ zx1 = nI zj_63) ∧ (∀ zH_64 : Hi, zH_64 = up zH_59 102 zj_63 zx3_3 → (∃ zj_65 : Nat, (zj_65 < 9 ∧ zx1 = nI zj_65) ∧ (∀ zH_66 : Hi, zH_66 = up zH_64 103 zj_65 zx4_6 → (∃ zj_67 : Nat, (zj_67 < 9 ∧ zx1 = nI zj_67) ∧ (∀ zH_68 : Hi, zH_68 = up zH_66 104 zj_67 (0 : Int32) → (Q (some (.int (3 : Int32))) zH_68)))))))) ∧ ((0 : Int32) = (-1 : Int32) → (Q (some (.int (2 : Int32))) zH_59)))) ∧ (zr_60 = 0 → (Q (some (.int (1 : Int32))) zH_59)))))) ∧ (zr_57 = 0 → (Q (some (.int (0 : Int32))) zH_56))))))))))))))) :
    Rm E mX10_readsThing Q 0 [some (rf E 99), some (.int zx1), some (.int zx2), none, none, none, none] [] H := by
  refine rn_aload_n dX10_readsThing_0 rfl ?_
  refine rn_iconst (x := (0 : Int32)) dX10_readsThing_1 (by decide) ?_
  refine rn_iload_n dX10_readsThing_2 rfl ?_
  refine rm_callV (c0 := 99) (As := [.int (0 : Int32), .int zx2]) (st := []) mlRX10_118 mdX10_byteAt (Nat.le_of_ble_eq_true rfl) rfl (by decide) (by decide) rfl rfl rfl (Nat.le_of_ble_eq_true rfl) ⟨Nat.le_refl _, Nat.le_refl _⟩ dX10_readsThing_3 ?_
  refine cm_mono hF (fun w zH_1 hF => ?_)
  obtain ⟨zr_2, rfl, hF⟩ := hF
  refine rn_bipush (x := (48 : Int32)) dX10_readsThing_6 (by decide) ?_
  refine rn_isub dX10_readsThing_8 ?_
  refine rn_istore_n dX10_readsThing_9 rfl (Nat.le_of_ble_eq_true rfl) (fun zx3_3 ezx3_3 => ?_)
  replace hF := hF zx3_3 ezx3_3
  show Rn _ _ _ _ _ _ _ _ [some (rf E 99), some (.int zx1), some (.int zx2), some (.int zx3_3), none, none, none] _ _ _
  refine rn_aload_n dX10_readsThing_10 rfl ?_
  refine rn_iconst (x := (0 : Int32)) dX10_readsThing_11 (by decide) ?_
  refine rn_iload_n dX10_readsThing_12 rfl ?_
  refine rn_iconst (x := (1 : Int32)) dX10_readsThing_13 (by decide) ?_
  refine rn_iadd dX10_readsThing_14 ?_
  refine rm_callV (c0 := 99) (As := [.int (0 : Int32), .int (zx2 + (1 : Int32))]) (st := []) mlRX10_118 mdX10_byteAt (Nat.le_of_ble_eq_true rfl) rfl (by decide) (by decide) rfl rfl rfl (Nat.le_of_ble_eq_true rfl) ⟨Nat.le_refl _, Nat.le_refl _⟩ dX10_readsThing_15 ?_
  refine cm_mono hF (fun w zH_4 hF => ?_)
  obtain ⟨zr_5, rfl, hF⟩ := hF
  refine rn_bipush (x := (48 : Int32)) dX10_readsThing_18 (by decide) ?_
  refine rn_isub dX10_readsThing_20 ?_
  refine rn_istore dX10_readsThing_21 rfl (Nat.le_of_ble_eq_true rfl) (fun zx4_6 ezx4_6 => ?_)
  replace hF := hF zx4_6 ezx4_6
  show Rn _ _ _ _ _ _ _ _ [some (rf E 99), some (.int zx1), some (.int zx2), some (.int zx3_3), some (.int zx4_6), none, none] _ _ _
  refine rn_aload_n dX10_readsThing_23 rfl ?_
  refine rn_iconst (x := (0 : Int32)) dX10_readsThing_24 (by decide) ?_
  refine rn_iload_n dX10_readsThing_25 rfl ?_
  refine rn_iconst (x := (2 : Int32)) dX10_readsThing_26 (by decide) ?_
  refine rn_iadd dX10_readsThing_27 ?_
  refine rm_callV (c0 := 99) (As := [.int (0 : Int32), .int (zx2 + (2 : Int32))]) (st := []) mlRX10_118 mdX10_byteAt (Nat.le_of_ble_eq_true rfl) rfl (by decide) (by decide) rfl rfl rfl (Nat.le_of_ble_eq_true rfl) ⟨Nat.le_refl _, Nat.le_refl _⟩ dX10_readsThing_28 ?_
  refine cm_mono hF (fun w zH_7 hF => ?_)
  obtain ⟨zr_8, rfl, hF⟩ := hF
  refine ra_istore dX10_readsThing_31 rfl (Nat.le_of_ble_eq_true rfl) ?_
  show Rn _ _ _ _ _ _ _ _ [some (rf E 99), some (.int zx1), some (.int zx2), some (.int zx3_3), some (.int zx4_6), some (.int zr_8), none] _ _ _
  refine rn_iload dX10_readsThing_33 rfl ?_
  refine rn_bipush (x := (111 : Int32)) dX10_readsThing_35 (by decide) ?_
  refine rn_icmp_ne (tgt := 44) dX10_readsThing_37 (by decide) (fun hc_10 => ?_) (fun hc_10 => ?_)
  · replace hF := hF.1 hc_10
    refine rn_iload dX10_readsThing_44 rfl ?_
    refine rn_bipush (x := (115 : Int32)) dX10_readsThing_46 (by decide) ?_
    refine rn_icmp_ne (tgt := 55) dX10_readsThing_48 (by decide) (fun hc_11 => ?_) (fun hc_11 => ?_)
    · replace hF := hF.1 hc_11
      refine rn_iload dX10_readsThing_55 rfl ?_
      refine rn_bipush (x := (102 : Int32)) dX10_readsThing_57 (by decide) ?_
      refine rn_icmp_ne (tgt := 66) dX10_readsThing_59 (by decide) (fun hc_12 => ?_) (fun hc_12 => ?_)
      · replace hF := hF.1 hc_12
        refine rn_iconst (x := (-1 : Int32)) dX10_readsThing_66 (by decide) ?_
        refine ra_istore dX10_readsThing_67 rfl (Nat.le_of_ble_eq_true rfl) ?_
        show Rn _ _ _ _ _ _ _ _ [some (rf E 99), some (.int zx1), some (.int zx2), some (.int zx3_3), some (.int zx4_6), some (.int zr_8), some (.int (-1 : Int32))] _ _ _
        refine rn_iload_n dX10_readsThing_69 rfl ?_
        refine rn_iconst (x := (1 : Int32)) dX10_readsThing_70 (by decide) ?_
        refine rn_bipush (x := (9 : Int32)) dX10_readsThing_71 (by decide) ?_
        refine rm_callS (As := [.int zx3_3, .int (1 : Int32), .int (9 : Int32)]) (st := []) mlRX10_110 mdX10_in (Nat.le_of_ble_eq_true rfl) rfl rfl (Nat.le_of_ble_eq_true rfl) ⟨Nat.le_refl _, Nat.le_refl _⟩ dX10_readsThing_73 ?_
        refine cm_mono hF (fun w zH_14 hF => ?_)
        obtain ⟨zr_15, rfl, hF⟩ := hF
        refine rn_if_ne (tgt := 81) dX10_readsThing_76 (by decide) (fun hc_16 => ?_) (fun hc_16 => ?_)
        · replace hF := hF.1 hc_16
          refine rn_iload dX10_readsThing_81 rfl ?_
          refine rm_callS (As := [.int zx4_6]) (st := []) mlRX10_122 mdX10_isEight (Nat.le_of_ble_eq_true rfl) rfl rfl (Nat.le_of_ble_eq_true rfl) ⟨Nat.le_refl _, Nat.le_refl _⟩ dX10_readsThing_83 ?_
          refine cm_mono hF (fun w zH_17 hF => ?_)
          obtain ⟨zr_18, rfl, hF⟩ := hF
          refine rn_if_ne (tgt := 91) dX10_readsThing_86 (by decide) (fun hc_19 => ?_) (fun hc_19 => ?_)
          · replace hF := hF.1 hc_19
            refine rn_iload dX10_readsThing_91 rfl ?_
            refine rn_iconst (x := (-1 : Int32)) dX10_readsThing_93 (by decide) ?_
            refine rn_icmp_ne (tgt := 99) dX10_readsThing_94 (by decide) (fun hc_20 => ?_) (fun hc_20 => ?_)
            · replace hF := hF.1 hc_20
              refine rn_aload_n dX10_readsThing_99 rfl ?_
              refine rm_getr (r := 102) flRX10_16 rfl (by decide) rfl dX10_readsThing_100 ?_
              refine rn_iload_n dX10_readsThing_103 rfl ?_
              refine rn_iload_n dX10_readsThing_104 rfl ?_
              obtain ⟨zj_21, hzj_21, hF⟩ := hF
              refine rj_iast (j := zj_21) hzj_21 rfl (by decide) rfl (by decide) dX10_readsThing_105 (fun zH_22 ezH_22 => ?_)
              replace hF := hF zH_22 ezH_22
              refine rn_aload_n dX10_readsThing_106 rfl ?_
              refine rm_getr (r := 103) flRX10_19 rfl (by decide) rfl dX10_readsThing_107 ?_
              refine rn_iload_n dX10_readsThing_110 rfl ?_
              refine rn_iload dX10_readsThing_111 rfl ?_
              obtain ⟨zj_23, hzj_23, hF⟩ := hF
              refine rj_iast (j := zj_23) hzj_23 rfl (by decide) rfl (by decide) dX10_readsThing_113 (fun zH_24 ezH_24 => ?_)
              replace hF := hF zH_24 ezH_24
              refine rn_aload_n dX10_readsThing_114 rfl ?_
              refine rm_getr (r := 104) flRX10_22 rfl (by decide) rfl dX10_readsThing_115 ?_
              refine rn_iload_n dX10_readsThing_118 rfl ?_
              refine rn_iload dX10_readsThing_119 rfl ?_
              obtain ⟨zj_25, hzj_25, hF⟩ := hF
              refine rj_iast (j := zj_25) hzj_25 rfl (by decide) rfl (by decide) dX10_readsThing_121 (fun zH_26 ezH_26 => ?_)
              replace hF := hF zH_26 ezH_26
              refine rn_iconst (x := (3 : Int32)) dX10_readsThing_122 (by decide) ?_
              exact rm_iret rfl dX10_readsThing_123 hF
            · replace hF := hF.2 hc_20
              refine rn_iconst (x := (2 : Int32)) dX10_readsThing_97 (by decide) ?_
              exact rm_iret rfl dX10_readsThing_98 hF
          · replace hF := hF.2 hc_19
            refine rn_iconst (x := (1 : Int32)) dX10_readsThing_89 (by decide) ?_
            exact rm_iret rfl dX10_readsThing_90 hF
        · replace hF := hF.2 hc_16
          refine rn_iconst (x := (0 : Int32)) dX10_readsThing_79 (by decide) ?_
          exact rm_iret rfl dX10_readsThing_80 hF
      · replace hF := hF.2 hc_12
        refine rn_iconst (x := (2 : Int32)) dX10_readsThing_62 (by decide) ?_
        refine rn_goto (tgt := 67) dX10_readsThing_63 (by decide) ?_
        refine ra_istore dX10_readsThing_67 rfl (Nat.le_of_ble_eq_true rfl) ?_
        show Rn _ _ _ _ _ _ _ _ [some (rf E 99), some (.int zx1), some (.int zx2), some (.int zx3_3), some (.int zx4_6), some (.int zr_8), some (.int (2 : Int32))] _ _ _
        refine rn_iload_n dX10_readsThing_69 rfl ?_
        refine rn_iconst (x := (1 : Int32)) dX10_readsThing_70 (by decide) ?_
        refine rn_bipush (x := (9 : Int32)) dX10_readsThing_71 (by decide) ?_
        refine rm_callS (As := [.int zx3_3, .int (1 : Int32), .int (9 : Int32)]) (st := []) mlRX10_110 mdX10_in (Nat.le_of_ble_eq_true rfl) rfl rfl (Nat.le_of_ble_eq_true rfl) ⟨Nat.le_refl _, Nat.le_refl _⟩ dX10_readsThing_73 ?_
        refine cm_mono hF (fun w zH_28 hF => ?_)
        obtain ⟨zr_29, rfl, hF⟩ := hF
        refine rn_if_ne (tgt := 81) dX10_readsThing_76 (by decide) (fun hc_30 => ?_) (fun hc_30 => ?_)
        · replace hF := hF.1 hc_30
          refine rn_iload dX10_readsThing_81 rfl ?_
          refine rm_callS (As := [.int zx4_6]) (st := []) mlRX10_122 mdX10_isEight (Nat.le_of_ble_eq_true rfl) rfl rfl (Nat.le_of_ble_eq_true rfl) ⟨Nat.le_refl _, Nat.le_refl _⟩ dX10_readsThing_83 ?_
          refine cm_mono hF (fun w zH_31 hF => ?_)
          obtain ⟨zr_32, rfl, hF⟩ := hF
          refine rn_if_ne (tgt := 91) dX10_readsThing_86 (by decide) (fun hc_33 => ?_) (fun hc_33 => ?_)
          · replace hF := hF.1 hc_33
            refine rn_iload dX10_readsThing_91 rfl ?_
            refine rn_iconst (x := (-1 : Int32)) dX10_readsThing_93 (by decide) ?_
            refine rn_icmp_ne (tgt := 99) dX10_readsThing_94 (by decide) (fun hc_34 => ?_) (fun hc_34 => ?_)
            · replace hF := hF.1 hc_34
              refine rn_aload_n dX10_readsThing_99 rfl ?_
              refine rm_getr (r := 102) flRX10_16 rfl (by decide) rfl dX10_readsThing_100 ?_
              refine rn_iload_n dX10_readsThing_103 rfl ?_
              refine rn_iload_n dX10_readsThing_104 rfl ?_
              obtain ⟨zj_35, hzj_35, hF⟩ := hF
              refine rj_iast (j := zj_35) hzj_35 rfl (by decide) rfl (by decide) dX10_readsThing_105 (fun zH_36 ezH_36 => ?_)
              replace hF := hF zH_36 ezH_36
              refine rn_aload_n dX10_readsThing_106 rfl ?_
              refine rm_getr (r := 103) flRX10_19 rfl (by decide) rfl dX10_readsThing_107 ?_
              refine rn_iload_n dX10_readsThing_110 rfl ?_
              refine rn_iload dX10_readsThing_111 rfl ?_
              obtain ⟨zj_37, hzj_37, hF⟩ := hF
              refine rj_iast (j := zj_37) hzj_37 rfl (by decide) rfl (by decide) dX10_readsThing_113 (fun zH_38 ezH_38 => ?_)
              replace hF := hF zH_38 ezH_38
              refine rn_aload_n dX10_readsThing_114 rfl ?_
              refine rm_getr (r := 104) flRX10_22 rfl (by decide) rfl dX10_readsThing_115 ?_
              refine rn_iload_n dX10_readsThing_118 rfl ?_
              refine rn_iload dX10_readsThing_119 rfl ?_
              obtain ⟨zj_39, hzj_39, hF⟩ := hF
              refine rj_iast (j := zj_39) hzj_39 rfl (by decide) rfl (by decide) dX10_readsThing_121 (fun zH_40 ezH_40 => ?_)
              replace hF := hF zH_40 ezH_40
              refine rn_iconst (x := (3 : Int32)) dX10_readsThing_122 (by decide) ?_
              exact rm_iret rfl dX10_readsThing_123 hF
            · replace hF := hF.2 hc_34
              refine rn_iconst (x := (2 : Int32)) dX10_readsThing_97 (by decide) ?_
              exact rm_iret rfl dX10_readsThing_98 hF
          · replace hF := hF.2 hc_33
            refine rn_iconst (x := (1 : Int32)) dX10_readsThing_89 (by decide) ?_
            exact rm_iret rfl dX10_readsThing_90 hF
        · replace hF := hF.2 hc_30
          refine rn_iconst (x := (0 : Int32)) dX10_readsThing_79 (by decide) ?_
          exact rm_iret rfl dX10_readsThing_80 hF
    · replace hF := hF.2 hc_11
      refine rn_iconst (x := (1 : Int32)) dX10_readsThing_51 (by decide) ?_
      refine rn_goto (tgt := 67) dX10_readsThing_52 (by decide) ?_
      refine ra_istore dX10_readsThing_67 rfl (Nat.le_of_ble_eq_true rfl) ?_
      show Rn _ _ _ _ _ _ _ _ [some (rf E 99), some (.int zx1), some (.int zx2), some (.int zx3_3), some (.int zx4_6), some (.int zr_8), some (.int (1 : Int32))] _ _ _
      refine rn_iload_n dX10_readsThing_69 rfl ?_
      refine rn_iconst (x := (1 : Int32)) dX10_readsThing_70 (by decide) ?_
      refine rn_bipush (x := (9 : Int32)) dX10_readsThing_71 (by decide) ?_
      refine rm_callS (As := [.int zx3_3, .int (1 : Int32), .int (9 : Int32)]) (st := []) mlRX10_110 mdX10_in (Nat.le_of_ble_eq_true rfl) rfl rfl (Nat.le_of_ble_eq_true rfl) ⟨Nat.le_refl _, Nat.le_refl _⟩ dX10_readsThing_73 ?_
      refine cm_mono hF (fun w zH_42 hF => ?_)
      obtain ⟨zr_43, rfl, hF⟩ := hF
      refine rn_if_ne (tgt := 81) dX10_readsThing_76 (by decide) (fun hc_44 => ?_) (fun hc_44 => ?_)
      · replace hF := hF.1 hc_44
        refine rn_iload dX10_readsThing_81 rfl ?_
        refine rm_callS (As := [.int zx4_6]) (st := []) mlRX10_122 mdX10_isEight (Nat.le_of_ble_eq_true rfl) rfl rfl (Nat.le_of_ble_eq_true rfl) ⟨Nat.le_refl _, Nat.le_refl _⟩ dX10_readsThing_83 ?_
        refine cm_mono hF (fun w zH_45 hF => ?_)
        obtain ⟨zr_46, rfl, hF⟩ := hF
        refine rn_if_ne (tgt := 91) dX10_readsThing_86 (by decide) (fun hc_47 => ?_) (fun hc_47 => ?_)
        · replace hF := hF.1 hc_47
          refine rn_iload dX10_readsThing_91 rfl ?_
          refine rn_iconst (x := (-1 : Int32)) dX10_readsThing_93 (by decide) ?_
          refine rn_icmp_ne (tgt := 99) dX10_readsThing_94 (by decide) (fun hc_48 => ?_) (fun hc_48 => ?_)
          · replace hF := hF.1 hc_48
            refine rn_aload_n dX10_readsThing_99 rfl ?_
            refine rm_getr (r := 102) flRX10_16 rfl (by decide) rfl dX10_readsThing_100 ?_
            refine rn_iload_n dX10_readsThing_103 rfl ?_
            refine rn_iload_n dX10_readsThing_104 rfl ?_
            obtain ⟨zj_49, hzj_49, hF⟩ := hF
            refine rj_iast (j := zj_49) hzj_49 rfl (by decide) rfl (by decide) dX10_readsThing_105 (fun zH_50 ezH_50 => ?_)
            replace hF := hF zH_50 ezH_50
            refine rn_aload_n dX10_readsThing_106 rfl ?_
            refine rm_getr (r := 103) flRX10_19 rfl (by decide) rfl dX10_readsThing_107 ?_
            refine rn_iload_n dX10_readsThing_110 rfl ?_
            refine rn_iload dX10_readsThing_111 rfl ?_
            obtain ⟨zj_51, hzj_51, hF⟩ := hF
            refine rj_iast (j := zj_51) hzj_51 rfl (by decide) rfl (by decide) dX10_readsThing_113 (fun zH_52 ezH_52 => ?_)
            replace hF := hF zH_52 ezH_52
            refine rn_aload_n dX10_readsThing_114 rfl ?_
            refine rm_getr (r := 104) flRX10_22 rfl (by decide) rfl dX10_readsThing_115 ?_
            refine rn_iload_n dX10_readsThing_118 rfl ?_
            refine rn_iload dX10_readsThing_119 rfl ?_
            obtain ⟨zj_53, hzj_53, hF⟩ := hF
            refine rj_iast (j := zj_53) hzj_53 rfl (by decide) rfl (by decide) dX10_readsThing_121 (fun zH_54 ezH_54 => ?_)
            replace hF := hF zH_54 ezH_54
            refine rn_iconst (x := (3 : Int32)) dX10_readsThing_122 (by decide) ?_
            exact rm_iret rfl dX10_readsThing_123 hF
          · replace hF := hF.2 hc_48
            refine rn_iconst (x := (2 : Int32)) dX10_readsThing_97 (by decide) ?_
            exact rm_iret rfl dX10_readsThing_98 hF
        · replace hF := hF.2 hc_47
          refine rn_iconst (x := (1 : Int32)) dX10_readsThing_89 (by decide) ?_
          exact rm_iret rfl dX10_readsThing_90 hF
      · replace hF := hF.2 hc_44
        refine rn_iconst (x := (0 : Int32)) dX10_readsThing_79 (by decide) ?_
        exact rm_iret rfl dX10_readsThing_80 hF
  · replace hF := hF.2 hc_10
    refine rn_iconst (x := (0 : Int32)) dX10_readsThing_40 (by decide) ?_
    refine rn_goto (tgt := 67) dX10_readsThing_41 (by decide) ?_
    refine ra_istore dX10_readsThing_67 rfl (Nat.le_of_ble_eq_true rfl) ?_
    show Rn _ _ _ _ _ _ _ _ [some (rf E 99), some (.int zx1), some (.int zx2), some (.int zx3_3), some (.int zx4_6), some (.int zr_8), some (.int (0 : Int32))] _ _ _
    refine rn_iload_n dX10_readsThing_69 rfl ?_
    refine rn_iconst (x := (1 : Int32)) dX10_readsThing_70 (by decide) ?_
    refine rn_bipush (x := (9 : Int32)) dX10_readsThing_71 (by decide) ?_
    refine rm_callS (As := [.int zx3_3, .int (1 : Int32), .int (9 : Int32)]) (st := []) mlRX10_110 mdX10_in (Nat.le_of_ble_eq_true rfl) rfl rfl (Nat.le_of_ble_eq_true rfl) ⟨Nat.le_refl _, Nat.le_refl _⟩ dX10_readsThing_73 ?_
    refine cm_mono hF (fun w zH_56 hF => ?_)
    obtain ⟨zr_57, rfl, hF⟩ := hF
    refine rn_if_ne (tgt := 81) dX10_readsThing_76 (by decide) (fun hc_58 => ?_) (fun hc_58 => ?_)
    · replace hF := hF.1 hc_58
      refine rn_iload dX10_readsThing_81 rfl ?_
      refine rm_callS (As := [.int zx4_6]) (st := []) mlRX10_122 mdX10_isEight (Nat.le_of_ble_eq_true rfl) rfl rfl (Nat.le_of_ble_eq_true rfl) ⟨Nat.le_refl _, Nat.le_refl _⟩ dX10_readsThing_83 ?_
      refine cm_mono hF (fun w zH_59 hF => ?_)
      obtain ⟨zr_60, rfl, hF⟩ := hF
      refine rn_if_ne (tgt := 91) dX10_readsThing_86 (by decide) (fun hc_61 => ?_) (fun hc_61 => ?_)
      · replace hF := hF.1 hc_61
        refine rn_iload dX10_readsThing_91 rfl ?_
        refine rn_iconst (x := (-1 : Int32)) dX10_readsThing_93 (by decide) ?_
        refine rn_icmp_ne (tgt := 99) dX10_readsThing_94 (by decide) (fun hc_62 => ?_) (fun hc_62 => ?_)
        · replace hF := hF.1 hc_62
          refine rn_aload_n dX10_readsThing_99 rfl ?_
          refine rm_getr (r := 102) flRX10_16 rfl (by decide) rfl dX10_readsThing_100 ?_
          refine rn_iload_n dX10_readsThing_103 rfl ?_
          refine rn_iload_n dX10_readsThing_104 rfl ?_
          obtain ⟨zj_63, hzj_63, hF⟩ := hF
          refine rj_iast (j := zj_63) hzj_63 rfl (by decide) rfl (by decide) dX10_readsThing_105 (fun zH_64 ezH_64 => ?_)
          replace hF := hF zH_64 ezH_64
          refine rn_aload_n dX10_readsThing_106 rfl ?_
          refine rm_getr (r := 103) flRX10_19 rfl (by decide) rfl dX10_readsThing_107 ?_
          refine rn_iload_n dX10_readsThing_110 rfl ?_
          refine rn_iload dX10_readsThing_111 rfl ?_
          obtain ⟨zj_65, hzj_65, hF⟩ := hF
          refine rj_iast (j := zj_65) hzj_65 rfl (by decide) rfl (by decide) dX10_readsThing_113 (fun zH_66 ezH_66 => ?_)
          replace hF := hF zH_66 ezH_66
          refine rn_aload_n dX10_readsThing_114 rfl ?_
          refine rm_getr (r := 104) flRX10_22 rfl (by decide) rfl dX10_readsThing_115 ?_
          refine rn_iload_n dX10_readsThing_118 rfl ?_
          refine rn_iload dX10_readsThing_119 rfl ?_
          obtain ⟨zj_67, hzj_67, hF⟩ := hF
          refine rj_iast (j := zj_67) hzj_67 rfl (by decide) rfl (by decide) dX10_readsThing_121 (fun zH_68 ezH_68 => ?_)
          replace hF := hF zH_68 ezH_68
          refine rn_iconst (x := (3 : Int32)) dX10_readsThing_122 (by decide) ?_
          exact rm_iret rfl dX10_readsThing_123 hF
        · replace hF := hF.2 hc_62
          refine rn_iconst (x := (2 : Int32)) dX10_readsThing_97 (by decide) ?_
          exact rm_iret rfl dX10_readsThing_98 hF
      · replace hF := hF.2 hc_61
        refine rn_iconst (x := (1 : Int32)) dX10_readsThing_89 (by decide) ?_
        exact rm_iret rfl dX10_readsThing_90 hF
    · replace hF := hF.2 hc_58
      refine rn_iconst (x := (0 : Int32)) dX10_readsThing_79 (by decide) ?_
      exact rm_iret rfl dX10_readsThing_80 hF
theorem cmX10_readsThing {E : En} {Q : Option Value → Hi → Prop} {H : Hi} {zx1 : Int32} {zx2 : Int32} 
    (hF : Cm E mX10_byteAt [rf E 99, .int (0 : Int32), .int zx2] H (fun w zH_1 => ∃ zr_2 : Int32, w = some (.int zr_2) ∧ (∀ zx3_3 : Int32, zx3_3 = zr_2 - (48 : Int32) → (Cm E mX10_byteAt [rf E 99, .int (0 : Int32), .int (zx2 + (1 : Int32))] zH_1 (fun w zH_4 => ∃ zr_5 : Int32, w = some (.int zr_5) ∧ (∀ zx4_6 : Int32, zx4_6 = zr_5 - (48 : Int32) → (Cm E mX10_byteAt [rf E 99, .int (0 : Int32), .int (zx2 + (2 : Int32))] zH_4 (fun w zH_7 => ∃ zr_8 : Int32, w = some (.int zr_8) ∧ ((¬ zr_8 = (111 : Int32) → ((¬ zr_8 = (115 : Int32) → ((¬ zr_8 = (102 : Int32) → (Cm E mX10_in [.int zx3_3, .int (1 : Int32), .int (9 : Int32)] zH_7 (fun w zH_14 => ∃ zr_15 : Int32, w = some (.int zr_15) ∧ ((¬ zr_15 = 0 → (Cm E mX10_isEight [.int zx4_6] zH_14 (fun w zH_17 => ∃ zr_18 : Int32, w = some (.int zr_18) ∧ ((¬ zr_18 = 0 → ((¬ (-1 : Int32) = (-1 : Int32) → (∃ zj_21 : Nat, (zj_21 < 9 ∧ zx1 = nI zj_21) ∧ (∀ zH_22 : Hi, zH_22 = up zH_17 102 zj_21 zx3_3 → (∃ zj_23 : Nat, (zj_23 < 9 ∧ zx1 = nI zj_23) ∧ (∀ zH_24 : Hi, zH_24 = up zH_22 103 zj_23 zx4_6 → (∃ zj_25 : Nat, (zj_25 < 9 ∧ zx1 = nI zj_25) ∧ (∀ zH_26 : Hi, zH_26 = up zH_24 104 zj_25 (-1 : Int32) → (Q (some (.int (3 : Int32))) zH_26)))))))) ∧ ((-1 : Int32) = (-1 : Int32) → (Q (some (.int (2 : Int32))) zH_17)))) ∧ (zr_18 = 0 → (Q (some (.int (1 : Int32))) zH_17)))))) ∧ (zr_15 = 0 → (Q (some (.int (0 : Int32))) zH_14)))))) ∧ (zr_8 = (102 : Int32) → (Cm E mX10_in [.int zx3_3, .int (1 : Int32), .int (9 : Int32)] zH_7 (fun w zH_28 => ∃ zr_29 : Int32, w = some (.int zr_29) ∧ ((¬ zr_29 = 0 → (Cm E mX10_isEight [.int zx4_6] zH_28 (fun w zH_31 => ∃ zr_32 : Int32, w = some (.int zr_32) ∧ ((¬ zr_32 = 0 → ((¬ (2 : Int32) = (-1 : Int32) → (∃ zj_35 : Nat, (zj_35 < 9 ∧ zx1 = nI zj_35) ∧ (∀ zH_36 : Hi, zH_36 = up zH_31 102 zj_35 zx3_3 → (∃ zj_37 : Nat, (zj_37 < 9 ∧ zx1 = nI zj_37) ∧ (∀ zH_38 : Hi, zH_38 = up zH_36 103 zj_37 zx4_6 → (∃ zj_39 : Nat, (zj_39 < 9 ∧ zx1 = nI zj_39) ∧ (∀ zH_40 : Hi, zH_40 = up zH_38 104 zj_39 (2 : Int32) → (Q (some (.int (3 : Int32))) zH_40)))))))) ∧ ((2 : Int32) = (-1 : Int32) → (Q (some (.int (2 : Int32))) zH_31)))) ∧ (zr_32 = 0 → (Q (some (.int (1 : Int32))) zH_31)))))) ∧ (zr_29 = 0 → (Q (some (.int (0 : Int32))) zH_28)))))))) ∧ (zr_8 = (115 : Int32) → (Cm E mX10_in [.int zx3_3, .int (1 : Int32), .int (9 : Int32)] zH_7 (fun w zH_42 => ∃ zr_43 : Int32, w = some (.int zr_43) ∧ ((¬ zr_43 = 0 → (Cm E mX10_isEight [.int zx4_6] zH_42 (fun w zH_45 => ∃ zr_46 : Int32, w = some (.int zr_46) ∧ ((¬ zr_46 = 0 → ((¬ (1 : Int32) = (-1 : Int32) → (∃ zj_49 : Nat, (zj_49 < 9 ∧ zx1 = nI zj_49) ∧ (∀ zH_50 : Hi, zH_50 = up zH_45 102 zj_49 zx3_3 → (∃ zj_51 : Nat, (zj_51 < 9 ∧ zx1 = nI zj_51) ∧ (∀ zH_52 : Hi, zH_52 = up zH_50 103 zj_51 zx4_6 → (∃ zj_53 : Nat, (zj_53 < 9 ∧ zx1 = nI zj_53) ∧ (∀ zH_54 : Hi, zH_54 = up zH_52 104 zj_53 (1 : Int32) → (Q (some (.int (3 : Int32))) zH_54)))))))) ∧ ((1 : Int32) = (-1 : Int32) → (Q (some (.int (2 : Int32))) zH_45)))) ∧ (zr_46 = 0 → (Q (some (.int (1 : Int32))) zH_45)))))) ∧ (zr_43 = 0 → (Q (some (.int (0 : Int32))) zH_42)))))))) ∧ (zr_8 = (111 : Int32) → (Cm E mX10_in [.int zx3_3, .int (1 : Int32), .int (9 : Int32)] zH_7 (fun w zH_56 => ∃ zr_57 : Int32, w = some (.int zr_57) ∧ ((¬ zr_57 = 0 → (Cm E mX10_isEight [.int zx4_6] zH_56 (fun w zH_59 => ∃ zr_60 : Int32, w = some (.int zr_60) ∧ ((¬ zr_60 = 0 → ((¬ (0 : Int32) = (-1 : Int32) → (∃ zj_63 : Nat, (zj_63 < 9 ∧ zx1 = nI zj_63) ∧ (∀ zH_64 : Hi, zH_64 = up zH_59 102 zj_63 zx3_3 → (∃ zj_65 : Nat, (zj_65 < 9 ∧ zx1 = nI zj_65) ∧ (∀ zH_66 : Hi, zH_66 = up zH_64 103 zj_65 zx4_6 → (∃ zj_67 : Nat, (zj_67 < 9 ∧ zx1 = nI zj_67) ∧ (∀ zH_68 : Hi, zH_68 = up zH_66 104 zj_67 (0 : Int32) → (Q (some (.int (3 : Int32))) zH_68)))))))) ∧ ((0 : Int32) = (-1 : Int32) → (Q (some (.int (2 : Int32))) zH_59)))) ∧ (zr_60 = 0 → (Q (some (.int (1 : Int32))) zH_59)))))) ∧ (zr_57 = 0 → (Q (some (.int (0 : Int32))) zH_56))))))))))))))) :
    Cm E mX10_readsThing [rf E 99, .int zx1, .int zx2] H Q :=
  cm_of (by decide +kernel : plainName RX10 = true) (Nat.le_of_ble_eq_true rfl) rfl (sgX10_readsThing_0  hF)
theorem sgX10_readsCousin_0 {E : En} {Q : Option Value → Hi → Prop} {H : Hi} {zx1 : Int32} {zx2 : Int32} 
    (hF : Cm E mX10_byteAt [rf E 99, .int (1 : Int32), .int zx2] H (fun w zH_1 => ∃ zr_2 : Int32, w = some (.int zr_2) ∧ (Cm E mX10_byteAt [rf E 99, .int (1 : Int32), .int (zx2 + (1 : Int32))] zH_1 (fun w zH_4 => ∃ zr_5 : Int32, w = some (.int zr_5) ∧ ((zr_2 = (111 : Int32) → ((zr_5 = (46 : Int32) → ((¬ zr_2 = (104 : Int32) → (Rm E mX10_readsCousin Q 68 [some (rf E 99), some (.int zx1), none, none, some (.int zr_5)] [.int (0 : Int32), .int zx1, rf E 105] zH_4)) ∧ (zr_2 = (104 : Int32) → (Rm E mX10_readsCousin Q 68 [some (rf E 99), some (.int zx1), none, none, some (.int zr_5)] [.int (1 : Int32), .int zx1, rf E 105] zH_4)))) ∧ (¬ zr_5 = (46 : Int32) → (Cm E mX10_in [.int zr_5, .int (48 : Int32), .int (55 : Int32)] zH_4 (fun w zH_10 => ∃ zr_11 : Int32, w = some (.int zr_11) ∧ ((¬ zr_11 = 0 → ((¬ zr_2 = (104 : Int32) → (Rm E mX10_readsCousin Q 68 [some (rf E 99), some (.int zx1), none, none, some (.int zr_5)] [.int (0 : Int32), .int zx1, rf E 105] zH_10)) ∧ (zr_2 = (104 : Int32) → (Rm E mX10_readsCousin Q 68 [some (rf E 99), some (.int zx1), none, none, some (.int zr_5)] [.int (1 : Int32), .int zx1, rf E 105] zH_10)))) ∧ (zr_11 = 0 → (Q (some (.int (1 : Int32))) zH_10)))))))) ∧ (¬ zr_2 = (111 : Int32) → ((zr_2 = (104 : Int32) → ((zr_5 = (46 : Int32) → ((¬ zr_2 = (104 : Int32) → (Rm E mX10_readsCousin Q 68 [some (rf E 99), some (.int zx1), none, none, some (.int zr_5)] [.int (0 : Int32), .int zx1, rf E 105] zH_4)) ∧ (zr_2 = (104 : Int32) → (Rm E mX10_readsCousin Q 68 [some (rf E 99), some (.int zx1), none, none, some (.int zr_5)] [.int (1 : Int32), .int zx1, rf E 105] zH_4)))) ∧ (¬ zr_5 = (46 : Int32) → (Cm E mX10_in [.int zr_5, .int (48 : Int32), .int (55 : Int32)] zH_4 (fun w zH_17 => ∃ zr_18 : Int32, w = some (.int zr_18) ∧ ((¬ zr_18 = 0 → ((¬ zr_2 = (104 : Int32) → (Rm E mX10_readsCousin Q 68 [some (rf E 99), some (.int zx1), none, none, some (.int zr_5)] [.int (0 : Int32), .int zx1, rf E 105] zH_17)) ∧ (zr_2 = (104 : Int32) → (Rm E mX10_readsCousin Q 68 [some (rf E 99), some (.int zx1), none, none, some (.int zr_5)] [.int (1 : Int32), .int zx1, rf E 105] zH_17)))) ∧ (zr_18 = 0 → (Q (some (.int (1 : Int32))) zH_17)))))))) ∧ (¬ zr_2 = (104 : Int32) → (Q (some (.int (0 : Int32))) zH_4))))))))) :
    Rm E mX10_readsCousin Q 0 [some (rf E 99), some (.int zx1), some (.int zx2), none, none] [] H := by
  refine rn_aload_n dX10_readsCousin_0 rfl ?_
  refine rn_iconst (x := (1 : Int32)) dX10_readsCousin_1 (by decide) ?_
  refine rn_iload_n dX10_readsCousin_2 rfl ?_
  refine rm_callV (c0 := 99) (As := [.int (1 : Int32), .int zx2]) (st := []) mlRX10_118 mdX10_byteAt (Nat.le_of_ble_eq_true rfl) rfl (by decide) (by decide) rfl rfl rfl (Nat.le_of_ble_eq_true rfl) ⟨Nat.le_refl _, Nat.le_refl _⟩ dX10_readsCousin_3 ?_
  refine cm_mono hF (fun w zH_1 hF => ?_)
  obtain ⟨zr_2, rfl, hF⟩ := hF
  refine ra_istore_n dX10_readsCousin_6 rfl (Nat.le_of_ble_eq_true rfl) ?_
  show Rn _ _ _ _ _ _ _ _ [some (rf E 99), some (.int zx1), some (.int zx2), some (.int zr_2), none] _ _ _
  refine rn_aload_n dX10_readsCousin_7 rfl ?_
  refine rn_iconst (x := (1 : Int32)) dX10_readsCousin_8 (by decide) ?_
  refine rn_iload_n dX10_readsCousin_9 rfl ?_
  refine rn_iconst (x := (1 : Int32)) dX10_readsCousin_10 (by decide) ?_
  refine rn_iadd dX10_readsCousin_11 ?_
  refine rm_callV (c0 := 99) (As := [.int (1 : Int32), .int (zx2 + (1 : Int32))]) (st := []) mlRX10_118 mdX10_byteAt (Nat.le_of_ble_eq_true rfl) rfl (by decide) (by decide) rfl rfl rfl (Nat.le_of_ble_eq_true rfl) ⟨Nat.le_refl _, Nat.le_refl _⟩ dX10_readsCousin_12 ?_
  refine cm_mono hF (fun w zH_4 hF => ?_)
  obtain ⟨zr_5, rfl, hF⟩ := hF
  refine ra_istore dX10_readsCousin_15 rfl (Nat.le_of_ble_eq_true rfl) ?_
  show Rn _ _ _ _ _ _ _ _ [some (rf E 99), some (.int zx1), some (.int zx2), some (.int zr_2), some (.int zr_5)] _ _ _
  refine rn_iload_n dX10_readsCousin_17 rfl ?_
  refine rn_bipush (x := (111 : Int32)) dX10_readsCousin_18 (by decide) ?_
  refine rn_icmp_eq (tgt := 31) dX10_readsCousin_20 (by decide) (fun hc_7 => ?_) (fun hc_7 => ?_)
  · replace hF := hF.1 hc_7
    refine rn_iload dX10_readsCousin_31 rfl ?_
    refine rn_bipush (x := (46 : Int32)) dX10_readsCousin_33 (by decide) ?_
    refine rn_icmp_eq (tgt := 52) dX10_readsCousin_35 (by decide) (fun hc_8 => ?_) (fun hc_8 => ?_)
    · replace hF := hF.1 hc_8
      refine rn_aload_n dX10_readsCousin_52 rfl ?_
      refine rm_getr (r := 105) flRX10_25 rfl (by decide) rfl dX10_readsCousin_53 ?_
      refine rn_iload_n dX10_readsCousin_56 rfl ?_
      refine rn_iload_n dX10_readsCousin_57 rfl ?_
      refine rn_bipush (x := (104 : Int32)) dX10_readsCousin_58 (by decide) ?_
      refine rn_icmp_ne (tgt := 67) dX10_readsCousin_60 (by decide) (fun hc_9 => ?_) (fun hc_9 => ?_)
      · replace hF := hF.1 hc_9
        refine rn_iconst (x := (0 : Int32)) dX10_readsCousin_67 (by decide) ?_
        exact rn_wk (L' := [some (rf E 99), some (.int zx1), none, none, some (.int zr_5)]) (⟨rfl, ⟨rfl, ⟨rfl, trivial⟩⟩⟩) hF
      · replace hF := hF.2 hc_9
        refine rn_iconst (x := (1 : Int32)) dX10_readsCousin_63 (by decide) ?_
        refine rn_goto (tgt := 68) dX10_readsCousin_64 (by decide) ?_
        exact rn_wk (L' := [some (rf E 99), some (.int zx1), none, none, some (.int zr_5)]) (⟨rfl, ⟨rfl, ⟨rfl, trivial⟩⟩⟩) hF
    · replace hF := hF.2 hc_8
      refine rn_iload dX10_readsCousin_38 rfl ?_
      refine rn_bipush (x := (48 : Int32)) dX10_readsCousin_40 (by decide) ?_
      refine rn_bipush (x := (55 : Int32)) dX10_readsCousin_42 (by decide) ?_
      refine rm_callS (As := [.int zr_5, .int (48 : Int32), .int (55 : Int32)]) (st := []) mlRX10_110 mdX10_in (Nat.le_of_ble_eq_true rfl) rfl rfl (Nat.le_of_ble_eq_true rfl) ⟨Nat.le_refl _, Nat.le_refl _⟩ dX10_readsCousin_44 ?_
      refine cm_mono hF (fun w zH_10 hF => ?_)
      obtain ⟨zr_11, rfl, hF⟩ := hF
      refine rn_if_ne (tgt := 52) dX10_readsCousin_47 (by decide) (fun hc_12 => ?_) (fun hc_12 => ?_)
      · replace hF := hF.1 hc_12
        refine rn_aload_n dX10_readsCousin_52 rfl ?_
        refine rm_getr (r := 105) flRX10_25 rfl (by decide) rfl dX10_readsCousin_53 ?_
        refine rn_iload_n dX10_readsCousin_56 rfl ?_
        refine rn_iload_n dX10_readsCousin_57 rfl ?_
        refine rn_bipush (x := (104 : Int32)) dX10_readsCousin_58 (by decide) ?_
        refine rn_icmp_ne (tgt := 67) dX10_readsCousin_60 (by decide) (fun hc_13 => ?_) (fun hc_13 => ?_)
        · replace hF := hF.1 hc_13
          refine rn_iconst (x := (0 : Int32)) dX10_readsCousin_67 (by decide) ?_
          exact rn_wk (L' := [some (rf E 99), some (.int zx1), none, none, some (.int zr_5)]) (⟨rfl, ⟨rfl, ⟨rfl, trivial⟩⟩⟩) hF
        · replace hF := hF.2 hc_13
          refine rn_iconst (x := (1 : Int32)) dX10_readsCousin_63 (by decide) ?_
          refine rn_goto (tgt := 68) dX10_readsCousin_64 (by decide) ?_
          exact rn_wk (L' := [some (rf E 99), some (.int zx1), none, none, some (.int zr_5)]) (⟨rfl, ⟨rfl, ⟨rfl, trivial⟩⟩⟩) hF
      · replace hF := hF.2 hc_12
        refine rn_iconst (x := (1 : Int32)) dX10_readsCousin_50 (by decide) ?_
        exact rm_iret rfl dX10_readsCousin_51 hF
  · replace hF := hF.2 hc_7
    refine rn_iload_n dX10_readsCousin_23 rfl ?_
    refine rn_bipush (x := (104 : Int32)) dX10_readsCousin_24 (by decide) ?_
    refine rn_icmp_eq (tgt := 31) dX10_readsCousin_26 (by decide) (fun hc_14 => ?_) (fun hc_14 => ?_)
    · replace hF := hF.1 hc_14
      refine rn_iload dX10_readsCousin_31 rfl ?_
      refine rn_bipush (x := (46 : Int32)) dX10_readsCousin_33 (by decide) ?_
      refine rn_icmp_eq (tgt := 52) dX10_readsCousin_35 (by decide) (fun hc_15 => ?_) (fun hc_15 => ?_)
      · replace hF := hF.1 hc_15
        refine rn_aload_n dX10_readsCousin_52 rfl ?_
        refine rm_getr (r := 105) flRX10_25 rfl (by decide) rfl dX10_readsCousin_53 ?_
        refine rn_iload_n dX10_readsCousin_56 rfl ?_
        refine rn_iload_n dX10_readsCousin_57 rfl ?_
        refine rn_bipush (x := (104 : Int32)) dX10_readsCousin_58 (by decide) ?_
        refine rn_icmp_ne (tgt := 67) dX10_readsCousin_60 (by decide) (fun hc_16 => ?_) (fun hc_16 => ?_)
        · replace hF := hF.1 hc_16
          refine rn_iconst (x := (0 : Int32)) dX10_readsCousin_67 (by decide) ?_
          exact rn_wk (L' := [some (rf E 99), some (.int zx1), none, none, some (.int zr_5)]) (⟨rfl, ⟨rfl, ⟨rfl, trivial⟩⟩⟩) hF
        · replace hF := hF.2 hc_16
          refine rn_iconst (x := (1 : Int32)) dX10_readsCousin_63 (by decide) ?_
          refine rn_goto (tgt := 68) dX10_readsCousin_64 (by decide) ?_
          exact rn_wk (L' := [some (rf E 99), some (.int zx1), none, none, some (.int zr_5)]) (⟨rfl, ⟨rfl, ⟨rfl, trivial⟩⟩⟩) hF
      · replace hF := hF.2 hc_15
        refine rn_iload dX10_readsCousin_38 rfl ?_
        refine rn_bipush (x := (48 : Int32)) dX10_readsCousin_40 (by decide) ?_
        refine rn_bipush (x := (55 : Int32)) dX10_readsCousin_42 (by decide) ?_
        refine rm_callS (As := [.int zr_5, .int (48 : Int32), .int (55 : Int32)]) (st := []) mlRX10_110 mdX10_in (Nat.le_of_ble_eq_true rfl) rfl rfl (Nat.le_of_ble_eq_true rfl) ⟨Nat.le_refl _, Nat.le_refl _⟩ dX10_readsCousin_44 ?_
        refine cm_mono hF (fun w zH_17 hF => ?_)
        obtain ⟨zr_18, rfl, hF⟩ := hF
        refine rn_if_ne (tgt := 52) dX10_readsCousin_47 (by decide) (fun hc_19 => ?_) (fun hc_19 => ?_)
        · replace hF := hF.1 hc_19
          refine rn_aload_n dX10_readsCousin_52 rfl ?_
          refine rm_getr (r := 105) flRX10_25 rfl (by decide) rfl dX10_readsCousin_53 ?_
          refine rn_iload_n dX10_readsCousin_56 rfl ?_
          refine rn_iload_n dX10_readsCousin_57 rfl ?_
          refine rn_bipush (x := (104 : Int32)) dX10_readsCousin_58 (by decide) ?_
          refine rn_icmp_ne (tgt := 67) dX10_readsCousin_60 (by decide) (fun hc_20 => ?_) (fun hc_20 => ?_)
          · replace hF := hF.1 hc_20
            refine rn_iconst (x := (0 : Int32)) dX10_readsCousin_67 (by decide) ?_
            exact rn_wk (L' := [some (rf E 99), some (.int zx1), none, none, some (.int zr_5)]) (⟨rfl, ⟨rfl, ⟨rfl, trivial⟩⟩⟩) hF
          · replace hF := hF.2 hc_20
            refine rn_iconst (x := (1 : Int32)) dX10_readsCousin_63 (by decide) ?_
            refine rn_goto (tgt := 68) dX10_readsCousin_64 (by decide) ?_
            exact rn_wk (L' := [some (rf E 99), some (.int zx1), none, none, some (.int zr_5)]) (⟨rfl, ⟨rfl, ⟨rfl, trivial⟩⟩⟩) hF
        · replace hF := hF.2 hc_19
          refine rn_iconst (x := (1 : Int32)) dX10_readsCousin_50 (by decide) ?_
          exact rm_iret rfl dX10_readsCousin_51 hF
    · replace hF := hF.2 hc_14
      refine rn_iconst (x := (0 : Int32)) dX10_readsCousin_29 (by decide) ?_
      exact rm_iret rfl dX10_readsCousin_30 hF
theorem cmX10_readsCousin {E : En} {Q : Option Value → Hi → Prop} {H : Hi} {zx1 : Int32} {zx2 : Int32} 
    (hF : Cm E mX10_byteAt [rf E 99, .int (1 : Int32), .int zx2] H (fun w zH_1 => ∃ zr_2 : Int32, w = some (.int zr_2) ∧ (Cm E mX10_byteAt [rf E 99, .int (1 : Int32), .int (zx2 + (1 : Int32))] zH_1 (fun w zH_4 => ∃ zr_5 : Int32, w = some (.int zr_5) ∧ ((zr_2 = (111 : Int32) → ((zr_5 = (46 : Int32) → ((¬ zr_2 = (104 : Int32) → (Rm E mX10_readsCousin Q 68 [some (rf E 99), some (.int zx1), none, none, some (.int zr_5)] [.int (0 : Int32), .int zx1, rf E 105] zH_4)) ∧ (zr_2 = (104 : Int32) → (Rm E mX10_readsCousin Q 68 [some (rf E 99), some (.int zx1), none, none, some (.int zr_5)] [.int (1 : Int32), .int zx1, rf E 105] zH_4)))) ∧ (¬ zr_5 = (46 : Int32) → (Cm E mX10_in [.int zr_5, .int (48 : Int32), .int (55 : Int32)] zH_4 (fun w zH_10 => ∃ zr_11 : Int32, w = some (.int zr_11) ∧ ((¬ zr_11 = 0 → ((¬ zr_2 = (104 : Int32) → (Rm E mX10_readsCousin Q 68 [some (rf E 99), some (.int zx1), none, none, some (.int zr_5)] [.int (0 : Int32), .int zx1, rf E 105] zH_10)) ∧ (zr_2 = (104 : Int32) → (Rm E mX10_readsCousin Q 68 [some (rf E 99), some (.int zx1), none, none, some (.int zr_5)] [.int (1 : Int32), .int zx1, rf E 105] zH_10)))) ∧ (zr_11 = 0 → (Q (some (.int (1 : Int32))) zH_10)))))))) ∧ (¬ zr_2 = (111 : Int32) → ((zr_2 = (104 : Int32) → ((zr_5 = (46 : Int32) → ((¬ zr_2 = (104 : Int32) → (Rm E mX10_readsCousin Q 68 [some (rf E 99), some (.int zx1), none, none, some (.int zr_5)] [.int (0 : Int32), .int zx1, rf E 105] zH_4)) ∧ (zr_2 = (104 : Int32) → (Rm E mX10_readsCousin Q 68 [some (rf E 99), some (.int zx1), none, none, some (.int zr_5)] [.int (1 : Int32), .int zx1, rf E 105] zH_4)))) ∧ (¬ zr_5 = (46 : Int32) → (Cm E mX10_in [.int zr_5, .int (48 : Int32), .int (55 : Int32)] zH_4 (fun w zH_17 => ∃ zr_18 : Int32, w = some (.int zr_18) ∧ ((¬ zr_18 = 0 → ((¬ zr_2 = (104 : Int32) → (Rm E mX10_readsCousin Q 68 [some (rf E 99), some (.int zx1), none, none, some (.int zr_5)] [.int (0 : Int32), .int zx1, rf E 105] zH_17)) ∧ (zr_2 = (104 : Int32) → (Rm E mX10_readsCousin Q 68 [some (rf E 99), some (.int zx1), none, none, some (.int zr_5)] [.int (1 : Int32), .int zx1, rf E 105] zH_17)))) ∧ (zr_18 = 0 → (Q (some (.int (1 : Int32))) zH_17)))))))) ∧ (¬ zr_2 = (104 : Int32) → (Q (some (.int (0 : Int32))) zH_4))))))))) :
    Cm E mX10_readsCousin [rf E 99, .int zx1, .int zx2] H Q :=
  cm_of (by decide +kernel : plainName RX10 = true) (Nat.le_of_ble_eq_true rfl) rfl (sgX10_readsCousin_0  hF)
theorem sgX10_readsCousin_68 {E : En} {Q : Option Value → Hi → Prop} {H : Hi} {zx1 : Int32} {zx4 : Int32} {zt1 : Int32} {zt2 : Int32} 
    (hF : ∃ zj_1 : Nat, (zj_1 < 9 ∧ zt1 = nI zj_1) ∧ (∀ zH_2 : Hi, zH_2 = up H 105 zj_1 zt2 → ((¬ zx4 = (46 : Int32) → (Rm E mX10_readsCousin Q 90 [none, none, none, none, none] [.int (zx4 - (48 : Int32)), .int zx1, rf E 106] zH_2)) ∧ (zx4 = (46 : Int32) → (Rm E mX10_readsCousin Q 90 [none, none, none, none, none] [.int (-1 : Int32), .int zx1, rf E 106] zH_2))))) :
    Rm E mX10_readsCousin Q 68 [some (rf E 99), some (.int zx1), none, none, some (.int zx4)] [.int zt2, .int zt1, rf E 105] H := by
  obtain ⟨zj_1, hzj_1, hF⟩ := hF
  refine rj_iast (j := zj_1) hzj_1 rfl (by decide) rfl (by decide) dX10_readsCousin_68 (fun zH_2 ezH_2 => ?_)
  replace hF := hF zH_2 ezH_2
  refine rn_aload_n dX10_readsCousin_69 rfl ?_
  refine rm_getr (r := 106) flRX10_28 rfl (by decide) rfl dX10_readsCousin_70 ?_
  refine rn_iload_n dX10_readsCousin_73 rfl ?_
  refine rn_iload dX10_readsCousin_74 rfl ?_
  refine rn_bipush (x := (46 : Int32)) dX10_readsCousin_76 (by decide) ?_
  refine rn_icmp_ne (tgt := 85) dX10_readsCousin_78 (by decide) (fun hc_3 => ?_) (fun hc_3 => ?_)
  · replace hF := hF.1 hc_3
    refine rn_iload dX10_readsCousin_85 rfl ?_
    refine rn_bipush (x := (48 : Int32)) dX10_readsCousin_87 (by decide) ?_
    refine rn_isub dX10_readsCousin_89 ?_
    exact rn_wk (L' := [none, none, none, none, none]) (trivial) hF
  · replace hF := hF.2 hc_3
    refine rn_iconst (x := (-1 : Int32)) dX10_readsCousin_81 (by decide) ?_
    refine rn_goto (tgt := 90) dX10_readsCousin_82 (by decide) ?_
    exact rn_wk (L' := [none, none, none, none, none]) (trivial) hF
theorem sgX10_readsCousin_90 {E : En} {Q : Option Value → Hi → Prop} {H : Hi} {zt1 : Int32} {zt2 : Int32} 
    (hF : ∃ zj_1 : Nat, (zj_1 < 9 ∧ zt1 = nI zj_1) ∧ (∀ zH_2 : Hi, zH_2 = up H 106 zj_1 zt2 → (Q (some (.int (2 : Int32))) zH_2))) :
    Rm E mX10_readsCousin Q 90 [none, none, none, none, none] [.int zt2, .int zt1, rf E 106] H := by
  obtain ⟨zj_1, hzj_1, hF⟩ := hF
  refine rj_iast (j := zj_1) hzj_1 rfl (by decide) rfl (by decide) dX10_readsCousin_90 (fun zH_2 ezH_2 => ?_)
  replace hF := hF zH_2 ezH_2
  refine rn_iconst (x := (2 : Int32)) dX10_readsCousin_91 (by decide) ?_
  exact rm_iret rfl dX10_readsCousin_92 hF
theorem sgX10_readsText_0 {E : En} {Q : Option Value → Hi → Prop} {H : Hi} {zx1 : Int32} 
    (hF : (¬ zx1 = 0 → (Rm E mX10_readsText Q 9 [some (rf E 99), some (.int zx1), none, none, none, none] [.int (2 : Int32)] H)) ∧ (zx1 = 0 → (Rm E mX10_readsText Q 9 [some (rf E 99), some (.int zx1), none, none, none, none] [.int (3 : Int32)] H))) :
    Rm E mX10_readsText Q 0 [some (rf E 99), some (.int zx1), none, none, none, none] [] H := by
  refine rn_iload_n dX10_readsText_0 rfl ?_
  refine rn_if_ne (tgt := 8) dX10_readsText_1 (by decide) (fun hc_1 => ?_) (fun hc_1 => ?_)
  · replace hF := hF.1 hc_1
    refine rn_iconst (x := (2 : Int32)) dX10_readsText_8 (by decide) ?_
    exact rn_wk (L' := [some (rf E 99), some (.int zx1), none, none, none, none]) (⟨rfl, ⟨rfl, trivial⟩⟩) hF
  · replace hF := hF.2 hc_1
    refine rn_iconst (x := (3 : Int32)) dX10_readsText_4 (by decide) ?_
    refine rn_goto (tgt := 9) dX10_readsText_5 (by decide) ?_
    exact rn_wk (L' := [some (rf E 99), some (.int zx1), none, none, none, none]) (⟨rfl, ⟨rfl, trivial⟩⟩) hF
theorem cmX10_readsText {E : En} {Q : Option Value → Hi → Prop} {H : Hi} {zx1 : Int32} 
    (hF : (¬ zx1 = 0 → (Rm E mX10_readsText Q 9 [some (rf E 99), some (.int zx1), none, none, none, none] [.int (2 : Int32)] H)) ∧ (zx1 = 0 → (Rm E mX10_readsText Q 9 [some (rf E 99), some (.int zx1), none, none, none, none] [.int (3 : Int32)] H))) :
    Cm E mX10_readsText [rf E 99, .int zx1] H Q :=
  cm_of (by decide +kernel : plainName RX10 = true) (Nat.le_of_ble_eq_true rfl) rfl (sgX10_readsText_0  hF)
theorem sgX10_readsText_9 {E : En} {Q : Option Value → Hi → Prop} {H : Hi} {zx1 : Int32} {zt0 : Int32} 
    (hF : (¬ zx1 = 0 → (Rm E mX10_readsText Q 28 [some (rf E 99), some (.int zx1), some (.int zt0), some (.int (0 : Int32)), some (.int (0 : Int32)), none] [.int (H 99 2), rf E 99] H)) ∧ (zx1 = 0 → (Rm E mX10_readsText Q 28 [some (rf E 99), some (.int zx1), some (.int zt0), some (.int (0 : Int32)), some (.int (0 : Int32)), none] [.int (0 : Int32), rf E 99] H))) :
    Rm E mX10_readsText Q 9 [some (rf E 99), some (.int zx1), none, none, none, none] [.int zt0] H := by
  refine ra_istore_n dX10_readsText_9 rfl (Nat.le_of_ble_eq_true rfl) ?_
  show Rn _ _ _ _ _ _ _ _ [some (rf E 99), some (.int zx1), some (.int zt0), none, none, none] _ _ _
  refine rn_iconst (x := (0 : Int32)) dX10_readsText_10 (by decide) ?_
  refine ra_istore_n dX10_readsText_11 rfl (Nat.le_of_ble_eq_true rfl) ?_
  show Rn _ _ _ _ _ _ _ _ [some (rf E 99), some (.int zx1), some (.int zt0), some (.int (0 : Int32)), none, none] _ _ _
  refine rn_iconst (x := (0 : Int32)) dX10_readsText_12 (by decide) ?_
  refine ra_istore dX10_readsText_13 rfl (Nat.le_of_ble_eq_true rfl) ?_
  show Rn _ _ _ _ _ _ _ _ [some (rf E 99), some (.int zx1), some (.int zt0), some (.int (0 : Int32)), some (.int (0 : Int32)), none] _ _ _
  refine rn_aload_n dX10_readsText_15 rfl ?_
  refine rn_iload_n dX10_readsText_16 rfl ?_
  refine rn_if_ne (tgt := 24) dX10_readsText_17 (by decide) (fun hc_4 => ?_) (fun hc_4 => ?_)
  · replace hF := hF.1 hc_4
    refine rn_aload_n dX10_readsText_24 rfl ?_
    refine rm_geti flRX10_125 rfl (by decide) rfl dX10_readsText_25 ?_
    exact rn_wk (L' := [some (rf E 99), some (.int zx1), some (.int zt0), some (.int (0 : Int32)), some (.int (0 : Int32)), none]) (⟨rfl, ⟨rfl, ⟨rfl, ⟨rfl, ⟨rfl, trivial⟩⟩⟩⟩⟩) hF
  · replace hF := hF.2 hc_4
    refine rn_iconst (x := (0 : Int32)) dX10_readsText_20 (by decide) ?_
    refine rn_goto (tgt := 28) dX10_readsText_21 (by decide) ?_
    exact rn_wk (L' := [some (rf E 99), some (.int zx1), some (.int zt0), some (.int (0 : Int32)), some (.int (0 : Int32)), none]) (⟨rfl, ⟨rfl, ⟨rfl, ⟨rfl, ⟨rfl, trivial⟩⟩⟩⟩⟩) hF
theorem sgX10_readsText_28 {E : En} {Q : Option Value → Hi → Prop} {H : Hi} {zx1 : Int32} {zx2 : Int32} {zx3 : Int32} {zx4 : Int32} {zt1 : Int32} 
    (hF : ∀ zH_1 : Hi, zH_1 = up H 99 2 zt1 → ((¬ zx1 = (1 : Int32) → (Rm E mX10_readsText Q 45 [some (rf E 99), some (.int zx1), some (.int zx2), some (.int zx3), some (.int zx4), none] [.int (zH_1 99 6), rf E 99] zH_1)) ∧ (zx1 = (1 : Int32) → (Rm E mX10_readsText Q 45 [some (rf E 99), some (.int zx1), some (.int zx2), some (.int zx3), some (.int zx4), none] [.int (0 : Int32), rf E 99] zH_1)))) :
    Rm E mX10_readsText Q 28 [some (rf E 99), some (.int zx1), some (.int zx2), some (.int zx3), some (.int zx4), none] [.int zt1, rf E 99] H := by
  refine rm_puti flRX10_125 rfl (by decide) rfl dX10_readsText_28 (fun zH_1 ezH_1 => ?_)
  replace hF := hF zH_1 ezH_1
  refine rn_aload_n dX10_readsText_31 rfl ?_
  refine rn_iload_n dX10_readsText_32 rfl ?_
  refine rn_iconst (x := (1 : Int32)) dX10_readsText_33 (by decide) ?_
  refine rn_icmp_ne (tgt := 41) dX10_readsText_34 (by decide) (fun hc_2 => ?_) (fun hc_2 => ?_)
  · replace hF := hF.1 hc_2
    refine rn_aload_n dX10_readsText_41 rfl ?_
    refine rm_geti flRX10_128 rfl (by decide) rfl dX10_readsText_42 ?_
    exact rn_wk (L' := [some (rf E 99), some (.int zx1), some (.int zx2), some (.int zx3), some (.int zx4), none]) (⟨rfl, ⟨rfl, ⟨rfl, ⟨rfl, ⟨rfl, trivial⟩⟩⟩⟩⟩) hF
  · replace hF := hF.2 hc_2
    refine rn_iconst (x := (0 : Int32)) dX10_readsText_37 (by decide) ?_
    refine rn_goto (tgt := 45) dX10_readsText_38 (by decide) ?_
    exact rn_wk (L' := [some (rf E 99), some (.int zx1), some (.int zx2), some (.int zx3), some (.int zx4), none]) (⟨rfl, ⟨rfl, ⟨rfl, ⟨rfl, ⟨rfl, trivial⟩⟩⟩⟩⟩) hF
theorem sgX10_readsText_45 {E : En} {Q : Option Value → Hi → Prop} {H : Hi} {zx1 : Int32} {zx2 : Int32} {zx3 : Int32} {zx4 : Int32} {zt1 : Int32} 
    (hF : ∀ zH_1 : Hi, zH_1 = up H 99 6 zt1 → (Rm E mX10_readsText Q 48 [some (rf E 99), some (.int zx1), some (.int zx2), some (.int zx3), some (.int zx4), none] [] zH_1)) :
    Rm E mX10_readsText Q 45 [some (rf E 99), some (.int zx1), some (.int zx2), some (.int zx3), some (.int zx4), none] [.int zt1, rf E 99] H := by
  refine rm_puti flRX10_128 rfl (by decide) rfl dX10_readsText_45 (fun zH_1 ezH_1 => ?_)
  replace hF := hF zH_1 ezH_1
  exact rn_wk (L' := [some (rf E 99), some (.int zx1), some (.int zx2), some (.int zx3), some (.int zx4), none]) (⟨rfl, ⟨rfl, ⟨rfl, ⟨rfl, ⟨rfl, trivial⟩⟩⟩⟩⟩) hF
theorem sgX10_readsText_48 {E : En} {Q : Option Value → Hi → Prop} {H : Hi} {zx1 : Int32} {zx2 : Int32} {zx3 : Int32} {zx4 : Int32} 
    (hF : ∃ zj_1 : Nat, (zj_1 < 2 ∧ zx1 = nI zj_1) ∧ ((zx4 < (H 100 zj_1) → ((¬ zx3 = (8 : Int32) → ((¬ zx1 = 0 → (Cm E mX10_readsCousin [rf E 99, .int zx3, .int zx4] H (fun w zH_5 => ∃ zr_6 : Int32, w = some (.int zr_6) ∧ (Rm E mX10_readsText Q 95 [some (rf E 99), some (.int zx1), some (.int zx2), some (.int zx3), some (.int zx4), none] [.int zr_6] zH_5)))) ∧ (zx1 = 0 → (Cm E mX10_readsThing [rf E 99, .int zx3, .int zx4] H (fun w zH_7 => ∃ zr_8 : Int32, w = some (.int zr_8) ∧ (Rm E mX10_readsText Q 95 [some (rf E 99), some (.int zx1), some (.int zx2), some (.int zx3), some (.int zx4), none] [.int zr_8] zH_7)))))) ∧ (zx3 = (8 : Int32) → (Rm E mX10_readsText Q 95 [some (rf E 99), some (.int zx1), some (.int zx2), some (.int zx3), some (.int zx4), none] [.int (0 : Int32)] H)))) ∧ (¬ zx4 < (H 100 zj_1) → ((zx4 ≤ 0 → (Q (some (.int (-1 : Int32))) H)) ∧ (¬ zx4 ≤ 0 → ((¬ zx3 = (8 : Int32) → ((¬ zx1 = 0 → (Cm E mX10_readsCousin [rf E 99, .int zx3, .int zx4] H (fun w zH_12 => ∃ zr_13 : Int32, w = some (.int zr_13) ∧ (Rm E mX10_readsText Q 95 [some (rf E 99), some (.int zx1), some (.int zx2), some (.int zx3), some (.int zx4), none] [.int zr_13] zH_12)))) ∧ (zx1 = 0 → (Cm E mX10_readsThing [rf E 99, .int zx3, .int zx4] H (fun w zH_14 => ∃ zr_15 : Int32, w = some (.int zr_15) ∧ (Rm E mX10_readsText Q 95 [some (rf E 99), some (.int zx1), some (.int zx2), some (.int zx3), some (.int zx4), none] [.int zr_15] zH_14)))))) ∧ (zx3 = (8 : Int32) → (Rm E mX10_readsText Q 95 [some (rf E 99), some (.int zx1), some (.int zx2), some (.int zx3), some (.int zx4), none] [.int (0 : Int32)] H)))))))) :
    Rm E mX10_readsText Q 48 [some (rf E 99), some (.int zx1), some (.int zx2), some (.int zx3), some (.int zx4), none] [] H := by
  refine rn_iload dX10_readsText_48 rfl ?_
  refine rn_aload_n dX10_readsText_50 rfl ?_
  refine rm_getr (r := 100) flRX10_7 rfl (by decide) rfl dX10_readsText_51 ?_
  refine rn_iload_n dX10_readsText_54 rfl ?_
  obtain ⟨zj_1, hzj_1, hF⟩ := hF
  refine rj_iald (j := zj_1) hzj_1 rfl (by decide) rfl (by decide) dX10_readsText_55 ?_
  refine rn_icmp_lt (tgt := 64) dX10_readsText_56 (by decide) (fun hc_2 => ?_) (fun hc_2 => ?_)
  · replace hF := hF.1 hc_2
    refine rn_iload_n dX10_readsText_64 rfl ?_
    refine rn_bipush (x := (8 : Int32)) dX10_readsText_65 (by decide) ?_
    refine rn_icmp_ne (tgt := 74) dX10_readsText_67 (by decide) (fun hc_3 => ?_) (fun hc_3 => ?_)
    · replace hF := hF.1 hc_3
      refine rn_iload_n dX10_readsText_74 rfl ?_
      refine rn_if_ne (tgt := 88) dX10_readsText_75 (by decide) (fun hc_4 => ?_) (fun hc_4 => ?_)
      · replace hF := hF.1 hc_4
        refine rn_aload_n dX10_readsText_88 rfl ?_
        refine rn_iload_n dX10_readsText_89 rfl ?_
        refine rn_iload dX10_readsText_90 rfl ?_
        refine rm_callV (c0 := 99) (As := [.int zx3, .int zx4]) (st := []) mlRX10_134 mdX10_readsCousin (Nat.le_of_ble_eq_true rfl) rfl (by decide) (by decide) rfl rfl rfl (Nat.le_of_ble_eq_true rfl) ⟨Nat.le_refl _, Nat.le_refl _⟩ dX10_readsText_92 ?_
        refine cm_mono hF (fun w zH_5 hF => ?_)
        obtain ⟨zr_6, rfl, hF⟩ := hF
        exact rn_wk (L' := [some (rf E 99), some (.int zx1), some (.int zx2), some (.int zx3), some (.int zx4), none]) (⟨rfl, ⟨rfl, ⟨rfl, ⟨rfl, ⟨rfl, trivial⟩⟩⟩⟩⟩) hF
      · replace hF := hF.2 hc_4
        refine rn_aload_n dX10_readsText_78 rfl ?_
        refine rn_iload_n dX10_readsText_79 rfl ?_
        refine rn_iload dX10_readsText_80 rfl ?_
        refine rm_callV (c0 := 99) (As := [.int zx3, .int zx4]) (st := []) mlRX10_131 mdX10_readsThing (Nat.le_of_ble_eq_true rfl) rfl (by decide) (by decide) rfl rfl rfl (Nat.le_of_ble_eq_true rfl) ⟨Nat.le_refl _, Nat.le_refl _⟩ dX10_readsText_82 ?_
        refine cm_mono hF (fun w zH_7 hF => ?_)
        obtain ⟨zr_8, rfl, hF⟩ := hF
        refine rn_goto (tgt := 95) dX10_readsText_85 (by decide) ?_
        exact rn_wk (L' := [some (rf E 99), some (.int zx1), some (.int zx2), some (.int zx3), some (.int zx4), none]) (⟨rfl, ⟨rfl, ⟨rfl, ⟨rfl, ⟨rfl, trivial⟩⟩⟩⟩⟩) hF
    · replace hF := hF.2 hc_3
      refine rn_iconst (x := (0 : Int32)) dX10_readsText_70 (by decide) ?_
      refine rn_goto (tgt := 95) dX10_readsText_71 (by decide) ?_
      exact rn_wk (L' := [some (rf E 99), some (.int zx1), some (.int zx2), some (.int zx3), some (.int zx4), none]) (⟨rfl, ⟨rfl, ⟨rfl, ⟨rfl, ⟨rfl, trivial⟩⟩⟩⟩⟩) hF
  · replace hF := hF.2 hc_2
    refine rn_iload dX10_readsText_59 rfl ?_
    refine rn_if_le (tgt := 185) dX10_readsText_61 (by decide) (fun hc_9 => ?_) (fun hc_9 => ?_)
    · replace hF := hF.1 hc_9
      refine rn_iconst (x := (-1 : Int32)) dX10_readsText_185 (by decide) ?_
      exact rm_iret rfl dX10_readsText_186 hF
    · replace hF := hF.2 hc_9
      refine rn_iload_n dX10_readsText_64 rfl ?_
      refine rn_bipush (x := (8 : Int32)) dX10_readsText_65 (by decide) ?_
      refine rn_icmp_ne (tgt := 74) dX10_readsText_67 (by decide) (fun hc_10 => ?_) (fun hc_10 => ?_)
      · replace hF := hF.1 hc_10
        refine rn_iload_n dX10_readsText_74 rfl ?_
        refine rn_if_ne (tgt := 88) dX10_readsText_75 (by decide) (fun hc_11 => ?_) (fun hc_11 => ?_)
        · replace hF := hF.1 hc_11
          refine rn_aload_n dX10_readsText_88 rfl ?_
          refine rn_iload_n dX10_readsText_89 rfl ?_
          refine rn_iload dX10_readsText_90 rfl ?_
          refine rm_callV (c0 := 99) (As := [.int zx3, .int zx4]) (st := []) mlRX10_134 mdX10_readsCousin (Nat.le_of_ble_eq_true rfl) rfl (by decide) (by decide) rfl rfl rfl (Nat.le_of_ble_eq_true rfl) ⟨Nat.le_refl _, Nat.le_refl _⟩ dX10_readsText_92 ?_
          refine cm_mono hF (fun w zH_12 hF => ?_)
          obtain ⟨zr_13, rfl, hF⟩ := hF
          exact rn_wk (L' := [some (rf E 99), some (.int zx1), some (.int zx2), some (.int zx3), some (.int zx4), none]) (⟨rfl, ⟨rfl, ⟨rfl, ⟨rfl, ⟨rfl, trivial⟩⟩⟩⟩⟩) hF
        · replace hF := hF.2 hc_11
          refine rn_aload_n dX10_readsText_78 rfl ?_
          refine rn_iload_n dX10_readsText_79 rfl ?_
          refine rn_iload dX10_readsText_80 rfl ?_
          refine rm_callV (c0 := 99) (As := [.int zx3, .int zx4]) (st := []) mlRX10_131 mdX10_readsThing (Nat.le_of_ble_eq_true rfl) rfl (by decide) (by decide) rfl rfl rfl (Nat.le_of_ble_eq_true rfl) ⟨Nat.le_refl _, Nat.le_refl _⟩ dX10_readsText_82 ?_
          refine cm_mono hF (fun w zH_14 hF => ?_)
          obtain ⟨zr_15, rfl, hF⟩ := hF
          refine rn_goto (tgt := 95) dX10_readsText_85 (by decide) ?_
          exact rn_wk (L' := [some (rf E 99), some (.int zx1), some (.int zx2), some (.int zx3), some (.int zx4), none]) (⟨rfl, ⟨rfl, ⟨rfl, ⟨rfl, ⟨rfl, trivial⟩⟩⟩⟩⟩) hF
      · replace hF := hF.2 hc_10
        refine rn_iconst (x := (0 : Int32)) dX10_readsText_70 (by decide) ?_
        refine rn_goto (tgt := 95) dX10_readsText_71 (by decide) ?_
        exact rn_wk (L' := [some (rf E 99), some (.int zx1), some (.int zx2), some (.int zx3), some (.int zx4), none]) (⟨rfl, ⟨rfl, ⟨rfl, ⟨rfl, ⟨rfl, trivial⟩⟩⟩⟩⟩) hF
theorem sgX10_readsText_95 {E : En} {Q : Option Value → Hi → Prop} {H : Hi} {zx1 : Int32} {zx2 : Int32} {zx3 : Int32} {zx4 : Int32} {zt0 : Int32} 
    (hF : (zx2 ≤ zt0 → (∀ zx3_3 : Int32, zx3_3 = zx3 + (1 : Int32) → (∀ zx4_4 : Int32, zx4_4 = zx4 + zx2 → (∃ zj_5 : Nat, (zj_5 < 2 ∧ zx1 = nI zj_5) ∧ ((¬ zx4_4 = (H 100 zj_5) → (Cm E mX10_byteAt [rf E 99, .int zx1, .int zx4_4] H (fun w zH_7 => ∃ zr_8 : Int32, w = some (.int zr_8) ∧ ((zr_8 = (59 : Int32) → (∀ zx4_10 : Int32, zx4_10 = zx4_4 + (1 : Int32) → (Rm E mX10_readsText Q 48 [some (rf E 99), some (.int zx1), some (.int zx2), some (.int zx3_3), some (.int zx4_10), none] [] zH_7))) ∧ (¬ zr_8 = (59 : Int32) → (Q (some (.int zx4_4)) zH_7)))))) ∧ (zx4_4 = (H 100 zj_5) → ((¬ zx1 = 0 → (Rm E mX10_readsText Q 142 [some (rf E 99), some (.int zx1), none, some (.int zx3_3), none, none] [.int (H 99 2), rf E 99] H)) ∧ (zx1 = 0 → (Rm E mX10_readsText Q 142 [some (rf E 99), some (.int zx1), none, some (.int zx3_3), none, none] [.int zx3_3, rf E 99] H))))))))) ∧ (¬ zx2 ≤ zt0 → (Q (some (.int (zx4 + zt0))) H))) :
    Rm E mX10_readsText Q 95 [some (rf E 99), some (.int zx1), some (.int zx2), some (.int zx3), some (.int zx4), none] [.int zt0] H := by
  refine ra_istore dX10_readsText_95 rfl (Nat.le_of_ble_eq_true rfl) ?_
  show Rn _ _ _ _ _ _ _ _ [some (rf E 99), some (.int zx1), some (.int zx2), some (.int zx3), some (.int zx4), some (.int zt0)] _ _ _
  refine rn_iload dX10_readsText_97 rfl ?_
  refine rn_iload_n dX10_readsText_99 rfl ?_
  refine rn_icmp_ge (tgt := 109) dX10_readsText_100 (by decide) (fun hc_2 => ?_) (fun hc_2 => ?_)
  · replace hF := hF.1 hc_2
    refine rn_iinc (w := (1 : Int32)) dX10_readsText_109 rfl (by decide) rfl (Nat.le_of_ble_eq_true rfl) (fun zx3_3 ezx3_3 => ?_)
    replace hF := hF zx3_3 ezx3_3
    show Rn _ _ _ _ _ _ _ _ [some (rf E 99), some (.int zx1), some (.int zx2), some (.int zx3_3), some (.int zx4), some (.int zt0)] _ _ _
    refine rn_iload dX10_readsText_112 rfl ?_
    refine rn_iload_n dX10_readsText_114 rfl ?_
    refine rn_iadd dX10_readsText_115 ?_
    refine rn_istore dX10_readsText_116 rfl (Nat.le_of_ble_eq_true rfl) (fun zx4_4 ezx4_4 => ?_)
    replace hF := hF zx4_4 ezx4_4
    show Rn _ _ _ _ _ _ _ _ [some (rf E 99), some (.int zx1), some (.int zx2), some (.int zx3_3), some (.int zx4_4), some (.int zt0)] _ _ _
    refine rn_iload dX10_readsText_118 rfl ?_
    refine rn_aload_n dX10_readsText_120 rfl ?_
    refine rm_getr (r := 100) flRX10_7 rfl (by decide) rfl dX10_readsText_121 ?_
    refine rn_iload_n dX10_readsText_124 rfl ?_
    obtain ⟨zj_5, hzj_5, hF⟩ := hF
    refine rj_iald (j := zj_5) hzj_5 rfl (by decide) rfl (by decide) dX10_readsText_125 ?_
    refine rn_icmp_ne (tgt := 164) dX10_readsText_126 (by decide) (fun hc_6 => ?_) (fun hc_6 => ?_)
    · replace hF := hF.1 hc_6
      refine rn_aload_n dX10_readsText_164 rfl ?_
      refine rn_iload_n dX10_readsText_165 rfl ?_
      refine rn_iload dX10_readsText_166 rfl ?_
      refine rm_callV (c0 := 99) (As := [.int zx1, .int zx4_4]) (st := []) mlRX10_118 mdX10_byteAt (Nat.le_of_ble_eq_true rfl) rfl (by decide) (by decide) rfl rfl rfl (Nat.le_of_ble_eq_true rfl) ⟨Nat.le_refl _, Nat.le_refl _⟩ dX10_readsText_168 ?_
      refine cm_mono hF (fun w zH_7 hF => ?_)
      obtain ⟨zr_8, rfl, hF⟩ := hF
      refine rn_bipush (x := (59 : Int32)) dX10_readsText_171 (by decide) ?_
      refine rn_icmp_eq (tgt := 179) dX10_readsText_173 (by decide) (fun hc_9 => ?_) (fun hc_9 => ?_)
      · replace hF := hF.1 hc_9
        refine rn_iinc (w := (1 : Int32)) dX10_readsText_179 rfl (by decide) rfl (Nat.le_of_ble_eq_true rfl) (fun zx4_10 ezx4_10 => ?_)
        replace hF := hF zx4_10 ezx4_10
        show Rn _ _ _ _ _ _ _ _ [some (rf E 99), some (.int zx1), some (.int zx2), some (.int zx3_3), some (.int zx4_10), some (.int zt0)] _ _ _
        refine rn_goto (tgt := 48) dX10_readsText_182 (by decide) ?_
        exact rn_wk (L' := [some (rf E 99), some (.int zx1), some (.int zx2), some (.int zx3_3), some (.int zx4_10), none]) (⟨rfl, ⟨rfl, ⟨rfl, ⟨rfl, ⟨rfl, trivial⟩⟩⟩⟩⟩) hF
      · replace hF := hF.2 hc_9
        refine rn_iload dX10_readsText_176 rfl ?_
        exact rm_iret rfl dX10_readsText_178 hF
    · replace hF := hF.2 hc_6
      refine rn_aload_n dX10_readsText_129 rfl ?_
      refine rn_iload_n dX10_readsText_130 rfl ?_
      refine rn_if_ne (tgt := 138) dX10_readsText_131 (by decide) (fun hc_11 => ?_) (fun hc_11 => ?_)
      · replace hF := hF.1 hc_11
        refine rn_aload_n dX10_readsText_138 rfl ?_
        refine rm_geti flRX10_125 rfl (by decide) rfl dX10_readsText_139 ?_
        exact rn_wk (L' := [some (rf E 99), some (.int zx1), none, some (.int zx3_3), none, none]) (⟨rfl, ⟨rfl, ⟨rfl, trivial⟩⟩⟩) hF
      · replace hF := hF.2 hc_11
        refine rn_iload_n dX10_readsText_134 rfl ?_
        refine rn_goto (tgt := 142) dX10_readsText_135 (by decide) ?_
        exact rn_wk (L' := [some (rf E 99), some (.int zx1), none, some (.int zx3_3), none, none]) (⟨rfl, ⟨rfl, ⟨rfl, trivial⟩⟩⟩) hF
  · replace hF := hF.2 hc_2
    refine rn_iload dX10_readsText_103 rfl ?_
    refine rn_iload dX10_readsText_105 rfl ?_
    refine rn_iadd dX10_readsText_107 ?_
    exact rm_iret rfl dX10_readsText_108 hF
theorem sgX10_readsText_142 {E : En} {Q : Option Value → Hi → Prop} {H : Hi} {zx1 : Int32} {zx3 : Int32} {zt1 : Int32} 
    (hF : ∀ zH_1 : Hi, zH_1 = up H 99 2 zt1 → ((¬ zx1 = (1 : Int32) → (Rm E mX10_readsText Q 159 [none, none, none, none, none, none] [.int (zH_1 99 6), rf E 99] zH_1)) ∧ (zx1 = (1 : Int32) → (Rm E mX10_readsText Q 159 [none, none, none, none, none, none] [.int zx3, rf E 99] zH_1)))) :
    Rm E mX10_readsText Q 142 [some (rf E 99), some (.int zx1), none, some (.int zx3), none, none] [.int zt1, rf E 99] H := by
  refine rm_puti flRX10_125 rfl (by decide) rfl dX10_readsText_142 (fun zH_1 ezH_1 => ?_)
  replace hF := hF zH_1 ezH_1
  refine rn_aload_n dX10_readsText_145 rfl ?_
  refine rn_iload_n dX10_readsText_146 rfl ?_
  refine rn_iconst (x := (1 : Int32)) dX10_readsText_147 (by decide) ?_
  refine rn_icmp_ne (tgt := 155) dX10_readsText_148 (by decide) (fun hc_2 => ?_) (fun hc_2 => ?_)
  · replace hF := hF.1 hc_2
    refine rn_aload_n dX10_readsText_155 rfl ?_
    refine rm_geti flRX10_128 rfl (by decide) rfl dX10_readsText_156 ?_
    exact rn_wk (L' := [none, none, none, none, none, none]) (trivial) hF
  · replace hF := hF.2 hc_2
    refine rn_iload_n dX10_readsText_151 rfl ?_
    refine rn_goto (tgt := 159) dX10_readsText_152 (by decide) ?_
    exact rn_wk (L' := [none, none, none, none, none, none]) (trivial) hF
theorem sgX10_readsText_159 {E : En} {Q : Option Value → Hi → Prop} {H : Hi} {zt1 : Int32} 
    (hF : ∀ zH_1 : Hi, zH_1 = up H 99 6 zt1 → (Q (some (.int (-1 : Int32))) zH_1)) :
    Rm E mX10_readsText Q 159 [none, none, none, none, none, none] [.int zt1, rf E 99] H := by
  refine rm_puti flRX10_128 rfl (by decide) rfl dX10_readsText_159 (fun zH_1 ezH_1 => ?_)
  replace hF := hF zH_1 ezH_1
  refine rn_iconst (x := (-1 : Int32)) dX10_readsText_162 (by decide) ?_
  exact rm_iret rfl dX10_readsText_163 hF
theorem sgX10_faultOf_0 {E : En} {Q : Option Value → Hi → Prop} {H : Hi} {zx1 : Int32} 
    (hF : Cm E mX10_readsText [rf E 99, .int (0 : Int32)] H (fun w zH_1 => ∃ zr_2 : Int32, w = some (.int zr_2) ∧ (Cm E mX10_readsText [rf E 99, .int (1 : Int32)] zH_1 (fun w zH_4 => ∃ zr_5 : Int32, w = some (.int zr_5) ∧ ((¬ zx1 = 0 → (Q (some (.int zr_5)) zH_4)) ∧ (zx1 = 0 → (Q (some (.int zr_2)) zH_4))))))) :
    Rm E mX10_faultOf Q 0 [some (rf E 99), some (.int zx1), none, none] [] H := by
  refine rn_aload_n dX10_faultOf_0 rfl ?_
  refine rn_iconst (x := (0 : Int32)) dX10_faultOf_1 (by decide) ?_
  refine rm_callV (c0 := 99) (As := [.int (0 : Int32)]) (st := []) mlRX10_137 mdX10_readsText (Nat.le_of_ble_eq_true rfl) rfl (by decide) (by decide) rfl rfl rfl (Nat.le_of_ble_eq_true rfl) ⟨Nat.le_refl _, Nat.le_refl _⟩ dX10_faultOf_2 ?_
  refine cm_mono hF (fun w zH_1 hF => ?_)
  obtain ⟨zr_2, rfl, hF⟩ := hF
  refine ra_istore_n dX10_faultOf_5 rfl (Nat.le_of_ble_eq_true rfl) ?_
  show Rn _ _ _ _ _ _ _ _ [some (rf E 99), some (.int zx1), some (.int zr_2), none] _ _ _
  refine rn_aload_n dX10_faultOf_6 rfl ?_
  refine rn_iconst (x := (1 : Int32)) dX10_faultOf_7 (by decide) ?_
  refine rm_callV (c0 := 99) (As := [.int (1 : Int32)]) (st := []) mlRX10_137 mdX10_readsText (Nat.le_of_ble_eq_true rfl) rfl (by decide) (by decide) rfl rfl rfl (Nat.le_of_ble_eq_true rfl) ⟨Nat.le_refl _, Nat.le_refl _⟩ dX10_faultOf_8 ?_
  refine cm_mono hF (fun w zH_4 hF => ?_)
  obtain ⟨zr_5, rfl, hF⟩ := hF
  refine ra_istore_n dX10_faultOf_11 rfl (Nat.le_of_ble_eq_true rfl) ?_
  show Rn _ _ _ _ _ _ _ _ [some (rf E 99), some (.int zx1), some (.int zr_2), some (.int zr_5)] _ _ _
  refine rn_iload_n dX10_faultOf_12 rfl ?_
  refine rn_if_ne (tgt := 20) dX10_faultOf_13 (by decide) (fun hc_7 => ?_) (fun hc_7 => ?_)
  · replace hF := hF.1 hc_7
    refine rn_iload_n dX10_faultOf_20 rfl ?_
    exact rm_iret rfl dX10_faultOf_21 hF
  · replace hF := hF.2 hc_7
    refine rn_iload_n dX10_faultOf_16 rfl ?_
    refine rn_goto (tgt := 21) dX10_faultOf_17 (by decide) ?_
    exact rm_iret rfl dX10_faultOf_21 hF
theorem cmX10_faultOf {E : En} {Q : Option Value → Hi → Prop} {H : Hi} {zx1 : Int32} 
    (hF : Cm E mX10_readsText [rf E 99, .int (0 : Int32)] H (fun w zH_1 => ∃ zr_2 : Int32, w = some (.int zr_2) ∧ (Cm E mX10_readsText [rf E 99, .int (1 : Int32)] zH_1 (fun w zH_4 => ∃ zr_5 : Int32, w = some (.int zr_5) ∧ ((¬ zx1 = 0 → (Q (some (.int zr_5)) zH_4)) ∧ (zx1 = 0 → (Q (some (.int zr_2)) zH_4))))))) :
    Cm E mX10_faultOf [rf E 99, .int zx1] H Q :=
  cm_of (by decide +kernel : plainName RX10 = true) (Nat.le_of_ble_eq_true rfl) rfl (sgX10_faultOf_0  hF)
theorem sgX10_reads_0 {E : En} {Q : Option Value → Hi → Prop} {H : Hi}  
    (hF : Cm E mX10_faultOf [rf E 99, .int (0 : Int32)] H (fun w zH_1 => ∃ zr_2 : Int32, w = some (.int zr_2) ∧ (Q none zH_1))) :
    Rm E mX10_reads Q 0 [some (rf E 99), none] [] H := by
  refine rn_aload_n dX10_reads_0 rfl ?_
  refine rn_iconst (x := (0 : Int32)) dX10_reads_1 (by decide) ?_
  refine rm_callV (c0 := 99) (As := [.int (0 : Int32)]) (st := []) mlRX10_141 mdX10_faultOf (Nat.le_of_ble_eq_true rfl) rfl (by decide) (by decide) rfl rfl rfl (Nat.le_of_ble_eq_true rfl) ⟨Nat.le_refl _, Nat.le_refl _⟩ dX10_reads_2 ?_
  refine cm_mono hF (fun w zH_1 hF => ?_)
  obtain ⟨zr_2, rfl, hF⟩ := hF
  refine ra_istore_n dX10_reads_5 rfl (Nat.le_of_ble_eq_true rfl) ?_
  show Rn _ _ _ _ _ _ _ _ [some (rf E 99), some (.int zr_2)] _ _ _
  exact rm_vret rfl dX10_reads_6 hF
theorem cmX10_reads {E : En} {Q : Option Value → Hi → Prop} {H : Hi}  
    (hF : Cm E mX10_faultOf [rf E 99, .int (0 : Int32)] H (fun w zH_1 => ∃ zr_2 : Int32, w = some (.int zr_2) ∧ (Q none zH_1))) :
    Cm E mX10_reads [rf E 99] H Q :=
  cm_of (by decide +kernel : plainName RX10 = true) (Nat.le_of_ble_eq_true rfl) rfl (sgX10_reads_0  hF)
theorem sgX10_fault_0 {E : En} {Q : Option Value → Hi → Prop} {H : Hi} {zx1 : Int32} 
    (hF : Cm E mX10_isText [.int zx1] H (fun w zH_1 => ∃ zr_2 : Int32, w = some (.int zr_2) ∧ ((zr_2 = 0 → (Q (some (.int (-2 : Int32))) zH_1)) ∧ (¬ zr_2 = 0 → (Cm E mX10_faultOf [rf E 99, .int zx1] zH_1 (fun w zH_4 => ∃ zr_5 : Int32, w = some (.int zr_5) ∧ (Q (some (.int zr_5)) zH_4))))))) :
    Rm E mX10_fault Q 0 [some (rf E 99), some (.int zx1)] [] H := by
  refine rn_iload_n dX10_fault_0 rfl ?_
  refine rm_callS (As := [.int zx1]) (st := []) mlRX10_114 mdX10_isText (Nat.le_of_ble_eq_true rfl) rfl rfl (Nat.le_of_ble_eq_true rfl) ⟨Nat.le_refl _, Nat.le_refl _⟩ dX10_fault_1 ?_
  refine cm_mono hF (fun w zH_1 hF => ?_)
  obtain ⟨zr_2, rfl, hF⟩ := hF
  refine rn_if_eq (tgt := 15) dX10_fault_4 (by decide) (fun hc_3 => ?_) (fun hc_3 => ?_)
  · replace hF := hF.1 hc_3
    refine rn_bipush (x := (-2 : Int32)) dX10_fault_15 (by decide) ?_
    exact rm_iret rfl dX10_fault_17 hF
  · replace hF := hF.2 hc_3
    refine rn_aload_n dX10_fault_7 rfl ?_
    refine rn_iload_n dX10_fault_8 rfl ?_
    refine rm_callV (c0 := 99) (As := [.int zx1]) (st := []) mlRX10_141 mdX10_faultOf (Nat.le_of_ble_eq_true rfl) rfl (by decide) (by decide) rfl rfl rfl (Nat.le_of_ble_eq_true rfl) ⟨Nat.le_refl _, Nat.le_refl _⟩ dX10_fault_9 ?_
    refine cm_mono hF (fun w zH_4 hF => ?_)
    obtain ⟨zr_5, rfl, hF⟩ := hF
    refine rn_goto (tgt := 17) dX10_fault_12 (by decide) ?_
    exact rm_iret rfl dX10_fault_17 hF
theorem cmX10_fault {E : En} {Q : Option Value → Hi → Prop} {H : Hi} {zx1 : Int32} 
    (hF : Cm E mX10_isText [.int zx1] H (fun w zH_1 => ∃ zr_2 : Int32, w = some (.int zr_2) ∧ ((zr_2 = 0 → (Q (some (.int (-2 : Int32))) zH_1)) ∧ (¬ zr_2 = 0 → (Cm E mX10_faultOf [rf E 99, .int zx1] zH_1 (fun w zH_4 => ∃ zr_5 : Int32, w = some (.int zr_5) ∧ (Q (some (.int zr_5)) zH_4))))))) :
    Cm E mX10_fault [rf E 99, .int zx1] H Q :=
  cm_of (by decide +kernel : plainName RX10 = true) (Nat.le_of_ble_eq_true rfl) rfl (sgX10_fault_0  hF)
theorem sgX10_isThing_0 {E : En} {Q : Option Value → Hi → Prop} {H : Hi} {zx1 : Int32} 
    (hF : Cm E mX10_reads [rf E 99] H (fun w zH_1 => w = none ∧ (Cm E mX10_in [.int zx1, .int (0 : Int32), .int ((zH_1 99 2) - (1 : Int32))] zH_1 (fun w zH_2 => ∃ zr_3 : Int32, w = some (.int zr_3) ∧ (narrow .boolean (.int zr_3) = .int zr_3 ∧ Q (some (.int zr_3)) zH_2))))) :
    Rm E mX10_isThing Q 0 [some (rf E 99), some (.int zx1)] [] H := by
  refine rn_aload_n dX10_isThing_0 rfl ?_
  refine rm_callV (c0 := 99) (As := []) (st := []) mlRX10_144 mdX10_reads (Nat.le_of_ble_eq_true rfl) rfl (by decide) (by decide) rfl rfl rfl (Nat.le_of_ble_eq_true rfl) ⟨Nat.le_refl _, Nat.le_refl _⟩ dX10_isThing_1 ?_
  refine cm_mono hF (fun w zH_1 hF => ?_)
  obtain ⟨rfl, hF⟩ := hF
  refine rn_iload_n dX10_isThing_4 rfl ?_
  refine rn_iconst (x := (0 : Int32)) dX10_isThing_5 (by decide) ?_
  refine rn_aload_n dX10_isThing_6 rfl ?_
  refine rm_geti flRX10_125 rfl (by decide) rfl dX10_isThing_7 ?_
  refine rn_iconst (x := (1 : Int32)) dX10_isThing_10 (by decide) ?_
  refine rn_isub dX10_isThing_11 ?_
  refine rm_callS (As := [.int zx1, .int (0 : Int32), .int ((zH_1 99 2) - (1 : Int32))]) (st := []) mlRX10_110 mdX10_in (Nat.le_of_ble_eq_true rfl) rfl rfl (Nat.le_of_ble_eq_true rfl) ⟨Nat.le_refl _, Nat.le_refl _⟩ dX10_isThing_12 ?_
  refine cm_mono hF (fun w zH_2 hF => ?_)
  obtain ⟨zr_3, rfl, hF⟩ := hF
  exact rm_zret rfl hF.1 dX10_isThing_15 hF.2
theorem cmX10_isThing {E : En} {Q : Option Value → Hi → Prop} {H : Hi} {zx1 : Int32} 
    (hF : Cm E mX10_reads [rf E 99] H (fun w zH_1 => w = none ∧ (Cm E mX10_in [.int zx1, .int (0 : Int32), .int ((zH_1 99 2) - (1 : Int32))] zH_1 (fun w zH_2 => ∃ zr_3 : Int32, w = some (.int zr_3) ∧ (narrow .boolean (.int zr_3) = .int zr_3 ∧ Q (some (.int zr_3)) zH_2))))) :
    Cm E mX10_isThing [rf E 99, .int zx1] H Q :=
  cm_of (by decide +kernel : plainName RX10 = true) (Nat.le_of_ble_eq_true rfl) rfl (sgX10_isThing_0  hF)
theorem sgX10_isCousin_0 {E : En} {Q : Option Value → Hi → Prop} {H : Hi} {zx1 : Int32} 
    (hF : Cm E mX10_reads [rf E 99] H (fun w zH_1 => w = none ∧ (Cm E mX10_in [.int zx1, .int (0 : Int32), .int ((zH_1 99 6) - (1 : Int32))] zH_1 (fun w zH_2 => ∃ zr_3 : Int32, w = some (.int zr_3) ∧ (narrow .boolean (.int zr_3) = .int zr_3 ∧ Q (some (.int zr_3)) zH_2))))) :
    Rm E mX10_isCousin Q 0 [some (rf E 99), some (.int zx1)] [] H := by
  refine rn_aload_n dX10_isCousin_0 rfl ?_
  refine rm_callV (c0 := 99) (As := []) (st := []) mlRX10_144 mdX10_reads (Nat.le_of_ble_eq_true rfl) rfl (by decide) (by decide) rfl rfl rfl (Nat.le_of_ble_eq_true rfl) ⟨Nat.le_refl _, Nat.le_refl _⟩ dX10_isCousin_1 ?_
  refine cm_mono hF (fun w zH_1 hF => ?_)
  obtain ⟨rfl, hF⟩ := hF
  refine rn_iload_n dX10_isCousin_4 rfl ?_
  refine rn_iconst (x := (0 : Int32)) dX10_isCousin_5 (by decide) ?_
  refine rn_aload_n dX10_isCousin_6 rfl ?_
  refine rm_geti flRX10_128 rfl (by decide) rfl dX10_isCousin_7 ?_
  refine rn_iconst (x := (1 : Int32)) dX10_isCousin_10 (by decide) ?_
  refine rn_isub dX10_isCousin_11 ?_
  refine rm_callS (As := [.int zx1, .int (0 : Int32), .int ((zH_1 99 6) - (1 : Int32))]) (st := []) mlRX10_110 mdX10_in (Nat.le_of_ble_eq_true rfl) rfl rfl (Nat.le_of_ble_eq_true rfl) ⟨Nat.le_refl _, Nat.le_refl _⟩ dX10_isCousin_12 ?_
  refine cm_mono hF (fun w zH_2 hF => ?_)
  obtain ⟨zr_3, rfl, hF⟩ := hF
  exact rm_zret rfl hF.1 dX10_isCousin_15 hF.2
theorem cmX10_isCousin {E : En} {Q : Option Value → Hi → Prop} {H : Hi} {zx1 : Int32} 
    (hF : Cm E mX10_reads [rf E 99] H (fun w zH_1 => w = none ∧ (Cm E mX10_in [.int zx1, .int (0 : Int32), .int ((zH_1 99 6) - (1 : Int32))] zH_1 (fun w zH_2 => ∃ zr_3 : Int32, w = some (.int zr_3) ∧ (narrow .boolean (.int zr_3) = .int zr_3 ∧ Q (some (.int zr_3)) zH_2))))) :
    Cm E mX10_isCousin [rf E 99, .int zx1] H Q :=
  cm_of (by decide +kernel : plainName RX10 = true) (Nat.le_of_ble_eq_true rfl) rfl (sgX10_isCousin_0  hF)
theorem sgX10_thingOf_0 {E : En} {Q : Option Value → Hi → Prop} {H : Hi} {zx1 : Int32} {zx2 : Int32} 
    (hF : (¬ zx2 = 0 → ((¬ zx2 = (1 : Int32) → (∃ zj_3 : Nat, (zj_3 < 9 ∧ zx1 = nI zj_3) ∧ (Q (some (.int (H 104 zj_3))) H))) ∧ (zx2 = (1 : Int32) → (∃ zj_4 : Nat, (zj_4 < 9 ∧ zx1 = nI zj_4) ∧ (Q (some (.int (H 103 zj_4))) H))))) ∧ (zx2 = 0 → (∃ zj_5 : Nat, (zj_5 < 9 ∧ zx1 = nI zj_5) ∧ (Q (some (.int (H 102 zj_5))) H)))) :
    Rm E mX10_thingOf Q 0 [some (rf E 99), some (.int zx1), some (.int zx2)] [] H := by
  refine rn_iload_n dX10_thingOf_0 rfl ?_
  refine rn_if_ne (tgt := 13) dX10_thingOf_1 (by decide) (fun hc_1 => ?_) (fun hc_1 => ?_)
  · replace hF := hF.1 hc_1
    refine rn_iload_n dX10_thingOf_13 rfl ?_
    refine rn_iconst (x := (1 : Int32)) dX10_thingOf_14 (by decide) ?_
    refine rn_icmp_ne (tgt := 27) dX10_thingOf_15 (by decide) (fun hc_2 => ?_) (fun hc_2 => ?_)
    · replace hF := hF.1 hc_2
      refine rn_aload_n dX10_thingOf_27 rfl ?_
      refine rm_getr (r := 104) flRX10_22 rfl (by decide) rfl dX10_thingOf_28 ?_
      refine rn_iload_n dX10_thingOf_31 rfl ?_
      obtain ⟨zj_3, hzj_3, hF⟩ := hF
      refine rj_iald (j := zj_3) hzj_3 rfl (by decide) rfl (by decide) dX10_thingOf_32 ?_
      exact rm_iret rfl dX10_thingOf_33 hF
    · replace hF := hF.2 hc_2
      refine rn_aload_n dX10_thingOf_18 rfl ?_
      refine rm_getr (r := 103) flRX10_19 rfl (by decide) rfl dX10_thingOf_19 ?_
      refine rn_iload_n dX10_thingOf_22 rfl ?_
      obtain ⟨zj_4, hzj_4, hF⟩ := hF
      refine rj_iald (j := zj_4) hzj_4 rfl (by decide) rfl (by decide) dX10_thingOf_23 ?_
      refine rn_goto (tgt := 33) dX10_thingOf_24 (by decide) ?_
      exact rm_iret rfl dX10_thingOf_33 hF
  · replace hF := hF.2 hc_1
    refine rn_aload_n dX10_thingOf_4 rfl ?_
    refine rm_getr (r := 102) flRX10_16 rfl (by decide) rfl dX10_thingOf_5 ?_
    refine rn_iload_n dX10_thingOf_8 rfl ?_
    obtain ⟨zj_5, hzj_5, hF⟩ := hF
    refine rj_iald (j := zj_5) hzj_5 rfl (by decide) rfl (by decide) dX10_thingOf_9 ?_
    refine rn_goto (tgt := 33) dX10_thingOf_10 (by decide) ?_
    exact rm_iret rfl dX10_thingOf_33 hF
theorem cmX10_thingOf {E : En} {Q : Option Value → Hi → Prop} {H : Hi} {zx1 : Int32} {zx2 : Int32} 
    (hF : (¬ zx2 = 0 → ((¬ zx2 = (1 : Int32) → (∃ zj_3 : Nat, (zj_3 < 9 ∧ zx1 = nI zj_3) ∧ (Q (some (.int (H 104 zj_3))) H))) ∧ (zx2 = (1 : Int32) → (∃ zj_4 : Nat, (zj_4 < 9 ∧ zx1 = nI zj_4) ∧ (Q (some (.int (H 103 zj_4))) H))))) ∧ (zx2 = 0 → (∃ zj_5 : Nat, (zj_5 < 9 ∧ zx1 = nI zj_5) ∧ (Q (some (.int (H 102 zj_5))) H)))) :
    Cm E mX10_thingOf [rf E 99, .int zx1, .int zx2] H Q :=
  cm_of (by decide +kernel : plainName RX10 = true) (Nat.le_of_ble_eq_true rfl) rfl (sgX10_thingOf_0  hF)
theorem sgX10_thing_0 {E : En} {Q : Option Value → Hi → Prop} {H : Hi} {zx1 : Int32} {zx2 : Int32} 
    (hF : Cm E mX10_isThing [rf E 99, .int zx1] H (fun w zH_1 => ∃ zr_2 : Int32, w = some (.int zr_2) ∧ ((zr_2 = 0 → (Q (some (.int (-2 : Int32))) zH_1)) ∧ (¬ zr_2 = 0 → (Cm E mX10_in [.int zx2, .int (0 : Int32), .int (2 : Int32)] zH_1 (fun w zH_4 => ∃ zr_5 : Int32, w = some (.int zr_5) ∧ ((zr_5 = 0 → (Q (some (.int (-2 : Int32))) zH_4)) ∧ (¬ zr_5 = 0 → (Cm E mX10_thingOf [rf E 99, .int zx1, .int zx2] zH_4 (fun w zH_7 => ∃ zr_8 : Int32, w = some (.int zr_8) ∧ (Q (some (.int zr_8)) zH_7))))))))))) :
    Rm E mX10_thing Q 0 [some (rf E 99), some (.int zx1), some (.int zx2)] [] H := by
  refine rn_aload_n dX10_thing_0 rfl ?_
  refine rn_iload_n dX10_thing_1 rfl ?_
  refine rm_callV (c0 := 99) (As := [.int zx1]) (st := []) mlRX10_147 mdX10_isThing (Nat.le_of_ble_eq_true rfl) rfl (by decide) (by decide) rfl rfl rfl (Nat.le_of_ble_eq_true rfl) ⟨Nat.le_refl _, Nat.le_refl _⟩ dX10_thing_2 ?_
  refine cm_mono hF (fun w zH_1 hF => ?_)
  obtain ⟨zr_2, rfl, hF⟩ := hF
  refine rn_if_eq (tgt := 26) dX10_thing_5 (by decide) (fun hc_3 => ?_) (fun hc_3 => ?_)
  · replace hF := hF.1 hc_3
    refine rn_bipush (x := (-2 : Int32)) dX10_thing_26 (by decide) ?_
    exact rm_iret rfl dX10_thing_28 hF
  · replace hF := hF.2 hc_3
    refine rn_iload_n dX10_thing_8 rfl ?_
    refine rn_iconst (x := (0 : Int32)) dX10_thing_9 (by decide) ?_
    refine rn_iconst (x := (2 : Int32)) dX10_thing_10 (by decide) ?_
    refine rm_callS (As := [.int zx2, .int (0 : Int32), .int (2 : Int32)]) (st := []) mlRX10_110 mdX10_in (Nat.le_of_ble_eq_true rfl) rfl rfl (Nat.le_of_ble_eq_true rfl) ⟨Nat.le_refl _, Nat.le_refl _⟩ dX10_thing_11 ?_
    refine cm_mono hF (fun w zH_4 hF => ?_)
    obtain ⟨zr_5, rfl, hF⟩ := hF
    refine rn_if_eq (tgt := 26) dX10_thing_14 (by decide) (fun hc_6 => ?_) (fun hc_6 => ?_)
    · replace hF := hF.1 hc_6
      refine rn_bipush (x := (-2 : Int32)) dX10_thing_26 (by decide) ?_
      exact rm_iret rfl dX10_thing_28 hF
    · replace hF := hF.2 hc_6
      refine rn_aload_n dX10_thing_17 rfl ?_
      refine rn_iload_n dX10_thing_18 rfl ?_
      refine rn_iload_n dX10_thing_19 rfl ?_
      refine rm_callV (c0 := 99) (As := [.int zx1, .int zx2]) (st := []) mlRX10_150 mdX10_thingOf (Nat.le_of_ble_eq_true rfl) rfl (by decide) (by decide) rfl rfl rfl (Nat.le_of_ble_eq_true rfl) ⟨Nat.le_refl _, Nat.le_refl _⟩ dX10_thing_20 ?_
      refine cm_mono hF (fun w zH_7 hF => ?_)
      obtain ⟨zr_8, rfl, hF⟩ := hF
      refine rn_goto (tgt := 28) dX10_thing_23 (by decide) ?_
      exact rm_iret rfl dX10_thing_28 hF
theorem cmX10_thing {E : En} {Q : Option Value → Hi → Prop} {H : Hi} {zx1 : Int32} {zx2 : Int32} 
    (hF : Cm E mX10_isThing [rf E 99, .int zx1] H (fun w zH_1 => ∃ zr_2 : Int32, w = some (.int zr_2) ∧ ((zr_2 = 0 → (Q (some (.int (-2 : Int32))) zH_1)) ∧ (¬ zr_2 = 0 → (Cm E mX10_in [.int zx2, .int (0 : Int32), .int (2 : Int32)] zH_1 (fun w zH_4 => ∃ zr_5 : Int32, w = some (.int zr_5) ∧ ((zr_5 = 0 → (Q (some (.int (-2 : Int32))) zH_4)) ∧ (¬ zr_5 = 0 → (Cm E mX10_thingOf [rf E 99, .int zx1, .int zx2] zH_4 (fun w zH_7 => ∃ zr_8 : Int32, w = some (.int zr_8) ∧ (Q (some (.int zr_8)) zH_7))))))))))) :
    Cm E mX10_thing [rf E 99, .int zx1, .int zx2] H Q :=
  cm_of (by decide +kernel : plainName RX10 = true) (Nat.le_of_ble_eq_true rfl) rfl (sgX10_thing_0  hF)
theorem sgX10_cousin_0 {E : En} {Q : Option Value → Hi → Prop} {H : Hi} {zx1 : Int32} {zx2 : Int32} 
    (hF : Cm E mX10_isCousin [rf E 99, .int zx1] H (fun w zH_1 => ∃ zr_2 : Int32, w = some (.int zr_2) ∧ ((zr_2 = 0 → (Q (some (.int (-2 : Int32))) zH_1)) ∧ (¬ zr_2 = 0 → (Cm E mX10_in [.int zx2, .int (0 : Int32), .int (1 : Int32)] zH_1 (fun w zH_4 => ∃ zr_5 : Int32, w = some (.int zr_5) ∧ ((zr_5 = 0 → (Q (some (.int (-2 : Int32))) zH_4)) ∧ (¬ zr_5 = 0 → ((¬ zx2 = 0 → (∃ zj_8 : Nat, (zj_8 < 9 ∧ zx1 = nI zj_8) ∧ (Q (some (.int (zH_4 106 zj_8))) zH_4))) ∧ (zx2 = 0 → (∃ zj_9 : Nat, (zj_9 < 9 ∧ zx1 = nI zj_9) ∧ (Q (some (.int (zH_4 105 zj_9))) zH_4)))))))))))) :
    Rm E mX10_cousin Q 0 [some (rf E 99), some (.int zx1), some (.int zx2)] [] H := by
  refine rn_aload_n dX10_cousin_0 rfl ?_
  refine rn_iload_n dX10_cousin_1 rfl ?_
  refine rm_callV (c0 := 99) (As := [.int zx1]) (st := []) mlRX10_153 mdX10_isCousin (Nat.le_of_ble_eq_true rfl) rfl (by decide) (by decide) rfl rfl rfl (Nat.le_of_ble_eq_true rfl) ⟨Nat.le_refl _, Nat.le_refl _⟩ dX10_cousin_2 ?_
  refine cm_mono hF (fun w zH_1 hF => ?_)
  obtain ⟨zr_2, rfl, hF⟩ := hF
  refine rn_if_eq (tgt := 39) dX10_cousin_5 (by decide) (fun hc_3 => ?_) (fun hc_3 => ?_)
  · replace hF := hF.1 hc_3
    refine rn_bipush (x := (-2 : Int32)) dX10_cousin_39 (by decide) ?_
    exact rm_iret rfl dX10_cousin_41 hF
  · replace hF := hF.2 hc_3
    refine rn_iload_n dX10_cousin_8 rfl ?_
    refine rn_iconst (x := (0 : Int32)) dX10_cousin_9 (by decide) ?_
    refine rn_iconst (x := (1 : Int32)) dX10_cousin_10 (by decide) ?_
    refine rm_callS (As := [.int zx2, .int (0 : Int32), .int (1 : Int32)]) (st := []) mlRX10_110 mdX10_in (Nat.le_of_ble_eq_true rfl) rfl rfl (Nat.le_of_ble_eq_true rfl) ⟨Nat.le_refl _, Nat.le_refl _⟩ dX10_cousin_11 ?_
    refine cm_mono hF (fun w zH_4 hF => ?_)
    obtain ⟨zr_5, rfl, hF⟩ := hF
    refine rn_if_eq (tgt := 39) dX10_cousin_14 (by decide) (fun hc_6 => ?_) (fun hc_6 => ?_)
    · replace hF := hF.1 hc_6
      refine rn_bipush (x := (-2 : Int32)) dX10_cousin_39 (by decide) ?_
      exact rm_iret rfl dX10_cousin_41 hF
    · replace hF := hF.2 hc_6
      refine rn_iload_n dX10_cousin_17 rfl ?_
      refine rn_if_ne (tgt := 30) dX10_cousin_18 (by decide) (fun hc_7 => ?_) (fun hc_7 => ?_)
      · replace hF := hF.1 hc_7
        refine rn_aload_n dX10_cousin_30 rfl ?_
        refine rm_getr (r := 106) flRX10_28 rfl (by decide) rfl dX10_cousin_31 ?_
        refine rn_iload_n dX10_cousin_34 rfl ?_
        obtain ⟨zj_8, hzj_8, hF⟩ := hF
        refine rj_iald (j := zj_8) hzj_8 rfl (by decide) rfl (by decide) dX10_cousin_35 ?_
        refine rn_goto (tgt := 41) dX10_cousin_36 (by decide) ?_
        exact rm_iret rfl dX10_cousin_41 hF
      · replace hF := hF.2 hc_7
        refine rn_aload_n dX10_cousin_21 rfl ?_
        refine rm_getr (r := 105) flRX10_25 rfl (by decide) rfl dX10_cousin_22 ?_
        refine rn_iload_n dX10_cousin_25 rfl ?_
        obtain ⟨zj_9, hzj_9, hF⟩ := hF
        refine rj_iald (j := zj_9) hzj_9 rfl (by decide) rfl (by decide) dX10_cousin_26 ?_
        refine rn_goto (tgt := 41) dX10_cousin_27 (by decide) ?_
        exact rm_iret rfl dX10_cousin_41 hF
theorem cmX10_cousin {E : En} {Q : Option Value → Hi → Prop} {H : Hi} {zx1 : Int32} {zx2 : Int32} 
    (hF : Cm E mX10_isCousin [rf E 99, .int zx1] H (fun w zH_1 => ∃ zr_2 : Int32, w = some (.int zr_2) ∧ ((zr_2 = 0 → (Q (some (.int (-2 : Int32))) zH_1)) ∧ (¬ zr_2 = 0 → (Cm E mX10_in [.int zx2, .int (0 : Int32), .int (1 : Int32)] zH_1 (fun w zH_4 => ∃ zr_5 : Int32, w = some (.int zr_5) ∧ ((zr_5 = 0 → (Q (some (.int (-2 : Int32))) zH_4)) ∧ (¬ zr_5 = 0 → ((¬ zx2 = 0 → (∃ zj_8 : Nat, (zj_8 < 9 ∧ zx1 = nI zj_8) ∧ (Q (some (.int (zH_4 106 zj_8))) zH_4))) ∧ (zx2 = 0 → (∃ zj_9 : Nat, (zj_9 < 9 ∧ zx1 = nI zj_9) ∧ (Q (some (.int (zH_4 105 zj_9))) zH_4)))))))))))) :
    Cm E mX10_cousin [rf E 99, .int zx1, .int zx2] H Q :=
  cm_of (by decide +kernel : plainName RX10 = true) (Nat.le_of_ble_eq_true rfl) rfl (sgX10_cousin_0  hF)
theorem sgX10_room_0 {E : En} {Q : Option Value → Hi → Prop} {H : Hi} {zx1 : Int32} 
    (hF : Cm E mX10_in [.int zx1, .int (1 : Int32), .int (72 : Int32)] H (fun w zH_1 => ∃ zr_2 : Int32, w = some (.int zr_2) ∧ ((¬ zr_2 = 0 → (∀ zx2_4 : Int32, zx2_4 = zH_1 99 9 → (∀ zH_5 : Hi, zH_5 = up zH_1 99 9 zx1 → (Q (some (.int zx2_4)) zH_5)))) ∧ (zr_2 = 0 → (Q (some (.int (-2 : Int32))) zH_1))))) :
    Rm E mX10_room Q 0 [some (rf E 99), some (.int zx1), none] [] H := by
  refine rn_iload_n dX10_room_0 rfl ?_
  refine rn_iconst (x := (1 : Int32)) dX10_room_1 (by decide) ?_
  refine rn_bipush (x := (72 : Int32)) dX10_room_2 (by decide) ?_
  refine rm_callS (As := [.int zx1, .int (1 : Int32), .int (72 : Int32)]) (st := []) mlRX10_110 mdX10_in (Nat.le_of_ble_eq_true rfl) rfl rfl (Nat.le_of_ble_eq_true rfl) ⟨Nat.le_refl _, Nat.le_refl _⟩ dX10_room_4 ?_
  refine cm_mono hF (fun w zH_1 hF => ?_)
  obtain ⟨zr_2, rfl, hF⟩ := hF
  refine rn_if_ne (tgt := 13) dX10_room_7 (by decide) (fun hc_3 => ?_) (fun hc_3 => ?_)
  · replace hF := hF.1 hc_3
    refine rn_aload_n dX10_room_13 rfl ?_
    refine rm_geti flRX10_104 rfl (by decide) rfl dX10_room_14 ?_
    refine rn_istore_n dX10_room_17 rfl (Nat.le_of_ble_eq_true rfl) (fun zx2_4 ezx2_4 => ?_)
    replace hF := hF zx2_4 ezx2_4
    show Rn _ _ _ _ _ _ _ _ [some (rf E 99), some (.int zx1), some (.int zx2_4)] _ _ _
    refine rn_aload_n dX10_room_18 rfl ?_
    refine rn_iload_n dX10_room_19 rfl ?_
    refine rm_puti flRX10_104 rfl (by decide) rfl dX10_room_20 (fun zH_5 ezH_5 => ?_)
    replace hF := hF zH_5 ezH_5
    refine rn_iload_n dX10_room_23 rfl ?_
    exact rm_iret rfl dX10_room_24 hF
  · replace hF := hF.2 hc_3
    refine rn_bipush (x := (-2 : Int32)) dX10_room_10 (by decide) ?_
    exact rm_iret rfl dX10_room_12 hF
theorem cmX10_room {E : En} {Q : Option Value → Hi → Prop} {H : Hi} {zx1 : Int32} 
    (hF : Cm E mX10_in [.int zx1, .int (1 : Int32), .int (72 : Int32)] H (fun w zH_1 => ∃ zr_2 : Int32, w = some (.int zr_2) ∧ ((¬ zr_2 = 0 → (∀ zx2_4 : Int32, zx2_4 = zH_1 99 9 → (∀ zH_5 : Hi, zH_5 = up zH_1 99 9 zx1 → (Q (some (.int zx2_4)) zH_5)))) ∧ (zr_2 = 0 → (Q (some (.int (-2 : Int32))) zH_1))))) :
    Cm E mX10_room [rf E 99, .int zx1] H Q :=
  cm_of (by decide +kernel : plainName RX10 = true) (Nat.le_of_ble_eq_true rfl) rfl (sgX10_room_0  hF)
theorem sgX10_aunt_0 {E : En} {Q : Option Value → Hi → Prop} {H : Hi} {zx1 : Int32} 
    (hF : Cm E mX10_in [.int zx1, .int (0 : Int32), .int (16777215 : Int32)] H (fun w zH_1 => ∃ zr_2 : Int32, w = some (.int zr_2) ∧ ((¬ zr_2 = 0 → (∀ zx2_4 : Int32, zx2_4 = zH_1 99 10 → (∀ zH_5 : Hi, zH_5 = up zH_1 99 10 zx1 → (Q (some (.int zx2_4)) zH_5)))) ∧ (zr_2 = 0 → (Q (some (.int (-2 : Int32))) zH_1))))) :
    Rm E mX10_aunt Q 0 [some (rf E 99), some (.int zx1), none] [] H := by
  refine rn_iload_n dX10_aunt_0 rfl ?_
  refine rn_iconst (x := (0 : Int32)) dX10_aunt_1 (by decide) ?_
  refine rn_ldc coRX10_156 dX10_aunt_2 ?_
  refine rm_callS (As := [.int zx1, .int (0 : Int32), .int (16777215 : Int32)]) (st := []) mlRX10_110 mdX10_in (Nat.le_of_ble_eq_true rfl) rfl rfl (Nat.le_of_ble_eq_true rfl) ⟨Nat.le_refl _, Nat.le_refl _⟩ dX10_aunt_4 ?_
  refine cm_mono hF (fun w zH_1 hF => ?_)
  obtain ⟨zr_2, rfl, hF⟩ := hF
  refine rn_if_ne (tgt := 13) dX10_aunt_7 (by decide) (fun hc_3 => ?_) (fun hc_3 => ?_)
  · replace hF := hF.1 hc_3
    refine rn_aload_n dX10_aunt_13 rfl ?_
    refine rm_geti flRX10_157 rfl (by decide) rfl dX10_aunt_14 ?_
    refine rn_istore_n dX10_aunt_17 rfl (Nat.le_of_ble_eq_true rfl) (fun zx2_4 ezx2_4 => ?_)
    replace hF := hF zx2_4 ezx2_4
    show Rn _ _ _ _ _ _ _ _ [some (rf E 99), some (.int zx1), some (.int zx2_4)] _ _ _
    refine rn_aload_n dX10_aunt_18 rfl ?_
    refine rn_iload_n dX10_aunt_19 rfl ?_
    refine rm_puti flRX10_157 rfl (by decide) rfl dX10_aunt_20 (fun zH_5 ezH_5 => ?_)
    replace hF := hF zH_5 ezH_5
    refine rn_iload_n dX10_aunt_23 rfl ?_
    exact rm_iret rfl dX10_aunt_24 hF
  · replace hF := hF.2 hc_3
    refine rn_bipush (x := (-2 : Int32)) dX10_aunt_10 (by decide) ?_
    exact rm_iret rfl dX10_aunt_12 hF
theorem cmX10_aunt {E : En} {Q : Option Value → Hi → Prop} {H : Hi} {zx1 : Int32} 
    (hF : Cm E mX10_in [.int zx1, .int (0 : Int32), .int (16777215 : Int32)] H (fun w zH_1 => ∃ zr_2 : Int32, w = some (.int zr_2) ∧ ((¬ zr_2 = 0 → (∀ zx2_4 : Int32, zx2_4 = zH_1 99 10 → (∀ zH_5 : Hi, zH_5 = up zH_1 99 10 zx1 → (Q (some (.int zx2_4)) zH_5)))) ∧ (zr_2 = 0 → (Q (some (.int (-2 : Int32))) zH_1))))) :
    Cm E mX10_aunt [rf E 99, .int zx1] H Q :=
  cm_of (by decide +kernel : plainName RX10 = true) (Nat.le_of_ble_eq_true rfl) rfl (sgX10_aunt_0  hF)
theorem sgX10_hand_0 {E : En} {Q : Option Value → Hi → Prop} {H : Hi} {zx1 : Int32} {zx2 : Int32} {zx3 : Int32} {zx4 : Int32} 
    (hF : Cm E mX10_isHour [.int zx1] H (fun w zH_1 => ∃ zr_2 : Int32, w = some (.int zr_2) ∧ ((zr_2 = 0 → (Q (some (.int (-2 : Int32))) zH_1)) ∧ (¬ zr_2 = 0 → (Cm E mX10_isEight [.int zx2] zH_1 (fun w zH_4 => ∃ zr_5 : Int32, w = some (.int zr_5) ∧ ((zr_5 = 0 → (Q (some (.int (-2 : Int32))) zH_4)) ∧ (¬ zr_5 = 0 → (Cm E mX10_isEight [.int zx3] zH_4 (fun w zH_7 => ∃ zr_8 : Int32, w = some (.int zr_8) ∧ ((zr_8 = 0 → (Q (some (.int (-2 : Int32))) zH_7)) ∧ (¬ zr_8 = 0 → (Cm E mX10_in [.int zx4, .int (0 : Int32), .int (1 : Int32)] zH_7 (fun w zH_10 => ∃ zr_11 : Int32, w = some (.int zr_11) ∧ ((¬ zr_11 = 0 → ((¬ (zH_10 99 11) = (20 : Int32) → (∃ zj_14 : Nat, (zj_14 < 44 ∧ zH_10 99 11 = nI zj_14) ∧ (∀ zH_15 : Hi, zH_15 = up zH_10 107 zj_14 zx1 → (∃ zj_16 : Nat, (zj_16 < 44 ∧ zH_15 99 11 = nI zj_16) ∧ (∀ zH_17 : Hi, zH_17 = up zH_15 108 zj_16 ((((64 : Int32) * zx4) + ((8 : Int32) * zx2)) + zx3) → (∀ zH_18 : Hi, zH_18 = up zH_17 99 11 ((zH_17 99 11) + (1 : Int32)) → (Q (some (.int (zH_18 99 11))) zH_18))))))) ∧ ((zH_10 99 11) = (20 : Int32) → (Q (some (.int (-4 : Int32))) zH_10)))) ∧ (zr_11 = 0 → (Q (some (.int (-2 : Int32))) zH_10))))))))))))))))) :
    Rm E mX10_hand Q 0 [some (rf E 99), some (.int zx1), some (.int zx2), some (.int zx3), some (.int zx4)] [] H := by
  refine rn_iload_n dX10_hand_0 rfl ?_
  refine rm_callS (As := [.int zx1]) (st := []) mlRX10_160 mdX10_isHour (Nat.le_of_ble_eq_true rfl) rfl rfl (Nat.le_of_ble_eq_true rfl) ⟨Nat.le_refl _, Nat.le_refl _⟩ dX10_hand_1 ?_
  refine cm_mono hF (fun w zH_1 hF => ?_)
  obtain ⟨zr_2, rfl, hF⟩ := hF
  refine rn_if_eq (tgt := 31) dX10_hand_4 (by decide) (fun hc_3 => ?_) (fun hc_3 => ?_)
  · replace hF := hF.1 hc_3
    refine rn_bipush (x := (-2 : Int32)) dX10_hand_31 (by decide) ?_
    exact rm_iret rfl dX10_hand_33 hF
  · replace hF := hF.2 hc_3
    refine rn_iload_n dX10_hand_7 rfl ?_
    refine rm_callS (As := [.int zx2]) (st := []) mlRX10_122 mdX10_isEight (Nat.le_of_ble_eq_true rfl) rfl rfl (Nat.le_of_ble_eq_true rfl) ⟨Nat.le_refl _, Nat.le_refl _⟩ dX10_hand_8 ?_
    refine cm_mono hF (fun w zH_4 hF => ?_)
    obtain ⟨zr_5, rfl, hF⟩ := hF
    refine rn_if_eq (tgt := 31) dX10_hand_11 (by decide) (fun hc_6 => ?_) (fun hc_6 => ?_)
    · replace hF := hF.1 hc_6
      refine rn_bipush (x := (-2 : Int32)) dX10_hand_31 (by decide) ?_
      exact rm_iret rfl dX10_hand_33 hF
    · replace hF := hF.2 hc_6
      refine rn_iload_n dX10_hand_14 rfl ?_
      refine rm_callS (As := [.int zx3]) (st := []) mlRX10_122 mdX10_isEight (Nat.le_of_ble_eq_true rfl) rfl rfl (Nat.le_of_ble_eq_true rfl) ⟨Nat.le_refl _, Nat.le_refl _⟩ dX10_hand_15 ?_
      refine cm_mono hF (fun w zH_7 hF => ?_)
      obtain ⟨zr_8, rfl, hF⟩ := hF
      refine rn_if_eq (tgt := 31) dX10_hand_18 (by decide) (fun hc_9 => ?_) (fun hc_9 => ?_)
      · replace hF := hF.1 hc_9
        refine rn_bipush (x := (-2 : Int32)) dX10_hand_31 (by decide) ?_
        exact rm_iret rfl dX10_hand_33 hF
      · replace hF := hF.2 hc_9
        refine rn_iload dX10_hand_21 rfl ?_
        refine rn_iconst (x := (0 : Int32)) dX10_hand_23 (by decide) ?_
        refine rn_iconst (x := (1 : Int32)) dX10_hand_24 (by decide) ?_
        refine rm_callS (As := [.int zx4, .int (0 : Int32), .int (1 : Int32)]) (st := []) mlRX10_110 mdX10_in (Nat.le_of_ble_eq_true rfl) rfl rfl (Nat.le_of_ble_eq_true rfl) ⟨Nat.le_refl _, Nat.le_refl _⟩ dX10_hand_25 ?_
        refine cm_mono hF (fun w zH_10 hF => ?_)
        obtain ⟨zr_11, rfl, hF⟩ := hF
        refine rn_if_ne (tgt := 34) dX10_hand_28 (by decide) (fun hc_12 => ?_) (fun hc_12 => ?_)
        · replace hF := hF.1 hc_12
          refine rn_aload_n dX10_hand_34 rfl ?_
          refine rm_geti flRX10_163 rfl (by decide) rfl dX10_hand_35 ?_
          refine rn_bipush (x := (20 : Int32)) dX10_hand_38 (by decide) ?_
          refine rn_icmp_ne (tgt := 46) dX10_hand_40 (by decide) (fun hc_13 => ?_) (fun hc_13 => ?_)
          · replace hF := hF.1 hc_13
            refine rn_aload_n dX10_hand_46 rfl ?_
            refine rm_getr (r := 107) flRX10_31 rfl (by decide) rfl dX10_hand_47 ?_
            refine rn_aload_n dX10_hand_50 rfl ?_
            refine rm_geti flRX10_163 rfl (by decide) rfl dX10_hand_51 ?_
            refine rn_iload_n dX10_hand_54 rfl ?_
            obtain ⟨zj_14, hzj_14, hF⟩ := hF
            refine rj_iast (j := zj_14) hzj_14 rfl (by decide) rfl (by decide) dX10_hand_55 (fun zH_15 ezH_15 => ?_)
            replace hF := hF zH_15 ezH_15
            refine rn_aload_n dX10_hand_56 rfl ?_
            refine rm_getr (r := 108) flRX10_34 rfl (by decide) rfl dX10_hand_57 ?_
            refine rn_aload_n dX10_hand_60 rfl ?_
            refine rm_geti flRX10_163 rfl (by decide) rfl dX10_hand_61 ?_
            refine rn_bipush (x := (64 : Int32)) dX10_hand_64 (by decide) ?_
            refine rn_iload dX10_hand_66 rfl ?_
            refine rn_imul dX10_hand_68 ?_
            refine rn_bipush (x := (8 : Int32)) dX10_hand_69 (by decide) ?_
            refine rn_iload_n dX10_hand_71 rfl ?_
            refine rn_imul dX10_hand_72 ?_
            refine rn_iadd dX10_hand_73 ?_
            refine rn_iload_n dX10_hand_74 rfl ?_
            refine rn_iadd dX10_hand_75 ?_
            obtain ⟨zj_16, hzj_16, hF⟩ := hF
            refine rj_iast (j := zj_16) hzj_16 rfl (by decide) rfl (by decide) dX10_hand_76 (fun zH_17 ezH_17 => ?_)
            replace hF := hF zH_17 ezH_17
            refine rn_aload_n dX10_hand_77 rfl ?_
            refine rn_dup dX10_hand_78 rfl ?_
            refine rm_geti flRX10_163 rfl (by decide) rfl dX10_hand_79 ?_
            refine rn_iconst (x := (1 : Int32)) dX10_hand_82 (by decide) ?_
            refine rn_iadd dX10_hand_83 ?_
            refine rm_puti flRX10_163 rfl (by decide) rfl dX10_hand_84 (fun zH_18 ezH_18 => ?_)
            replace hF := hF zH_18 ezH_18
            refine rn_aload_n dX10_hand_87 rfl ?_
            refine rm_geti flRX10_163 rfl (by decide) rfl dX10_hand_88 ?_
            exact rm_iret rfl dX10_hand_91 hF
          · replace hF := hF.2 hc_13
            refine rn_bipush (x := (-4 : Int32)) dX10_hand_43 (by decide) ?_
            exact rm_iret rfl dX10_hand_45 hF
        · replace hF := hF.2 hc_12
          refine rn_bipush (x := (-2 : Int32)) dX10_hand_31 (by decide) ?_
          exact rm_iret rfl dX10_hand_33 hF
theorem cmX10_hand {E : En} {Q : Option Value → Hi → Prop} {H : Hi} {zx1 : Int32} {zx2 : Int32} {zx3 : Int32} {zx4 : Int32} 
    (hF : Cm E mX10_isHour [.int zx1] H (fun w zH_1 => ∃ zr_2 : Int32, w = some (.int zr_2) ∧ ((zr_2 = 0 → (Q (some (.int (-2 : Int32))) zH_1)) ∧ (¬ zr_2 = 0 → (Cm E mX10_isEight [.int zx2] zH_1 (fun w zH_4 => ∃ zr_5 : Int32, w = some (.int zr_5) ∧ ((zr_5 = 0 → (Q (some (.int (-2 : Int32))) zH_4)) ∧ (¬ zr_5 = 0 → (Cm E mX10_isEight [.int zx3] zH_4 (fun w zH_7 => ∃ zr_8 : Int32, w = some (.int zr_8) ∧ ((zr_8 = 0 → (Q (some (.int (-2 : Int32))) zH_7)) ∧ (¬ zr_8 = 0 → (Cm E mX10_in [.int zx4, .int (0 : Int32), .int (1 : Int32)] zH_7 (fun w zH_10 => ∃ zr_11 : Int32, w = some (.int zr_11) ∧ ((¬ zr_11 = 0 → ((¬ (zH_10 99 11) = (20 : Int32) → (∃ zj_14 : Nat, (zj_14 < 44 ∧ zH_10 99 11 = nI zj_14) ∧ (∀ zH_15 : Hi, zH_15 = up zH_10 107 zj_14 zx1 → (∃ zj_16 : Nat, (zj_16 < 44 ∧ zH_15 99 11 = nI zj_16) ∧ (∀ zH_17 : Hi, zH_17 = up zH_15 108 zj_16 ((((64 : Int32) * zx4) + ((8 : Int32) * zx2)) + zx3) → (∀ zH_18 : Hi, zH_18 = up zH_17 99 11 ((zH_17 99 11) + (1 : Int32)) → (Q (some (.int (zH_18 99 11))) zH_18))))))) ∧ ((zH_10 99 11) = (20 : Int32) → (Q (some (.int (-4 : Int32))) zH_10)))) ∧ (zr_11 = 0 → (Q (some (.int (-2 : Int32))) zH_10))))))))))))))))) :
    Cm E mX10_hand [rf E 99, .int zx1, .int zx2, .int zx3, .int zx4] H Q :=
  cm_of (by decide +kernel : plainName RX10 = true) (Nat.le_of_ble_eq_true rfl) rfl (sgX10_hand_0  hF)
theorem sgX10_hole_0 {E : En} {Q : Option Value → Hi → Prop} {H : Hi} {zx1 : Int32} {zx2 : Int32} 
    (hF : Cm E mX10_isHour [.int zx1] H (fun w zH_1 => ∃ zr_2 : Int32, w = some (.int zr_2) ∧ ((zr_2 = 0 → (Q (some (.int (-2 : Int32))) zH_1)) ∧ (¬ zr_2 = 0 → (Cm E mX10_in [.int zx2, .int (1 : Int32), .int (9 : Int32)] zH_1 (fun w zH_4 => ∃ zr_5 : Int32, w = some (.int zr_5) ∧ ((¬ zr_5 = 0 → ((¬ (zH_4 99 14) = (6 : Int32) → (∃ zj_8 : Nat, (zj_8 < 6 ∧ zH_4 99 14 = nI zj_8) ∧ (∀ zH_9 : Hi, zH_9 = up zH_4 109 zj_8 zx1 → (∃ zj_10 : Nat, (zj_10 < 6 ∧ zH_9 99 14 = nI zj_10) ∧ (∀ zH_11 : Hi, zH_11 = up zH_9 110 zj_10 zx2 → (∀ zH_12 : Hi, zH_12 = up zH_11 99 14 ((zH_11 99 14) + (1 : Int32)) → (Q (some (.int (zH_12 99 14))) zH_12))))))) ∧ ((zH_4 99 14) = (6 : Int32) → (Q (some (.int (-4 : Int32))) zH_4)))) ∧ (zr_5 = 0 → (Q (some (.int (-2 : Int32))) zH_4))))))))) :
    Rm E mX10_hole Q 0 [some (rf E 99), some (.int zx1), some (.int zx2)] [] H := by
  refine rn_iload_n dX10_hole_0 rfl ?_
  refine rm_callS (As := [.int zx1]) (st := []) mlRX10_160 mdX10_isHour (Nat.le_of_ble_eq_true rfl) rfl rfl (Nat.le_of_ble_eq_true rfl) ⟨Nat.le_refl _, Nat.le_refl _⟩ dX10_hole_1 ?_
  refine cm_mono hF (fun w zH_1 hF => ?_)
  obtain ⟨zr_2, rfl, hF⟩ := hF
  refine rn_if_eq (tgt := 17) dX10_hole_4 (by decide) (fun hc_3 => ?_) (fun hc_3 => ?_)
  · replace hF := hF.1 hc_3
    refine rn_bipush (x := (-2 : Int32)) dX10_hole_17 (by decide) ?_
    exact rm_iret rfl dX10_hole_19 hF
  · replace hF := hF.2 hc_3
    refine rn_iload_n dX10_hole_7 rfl ?_
    refine rn_iconst (x := (1 : Int32)) dX10_hole_8 (by decide) ?_
    refine rn_bipush (x := (9 : Int32)) dX10_hole_9 (by decide) ?_
    refine rm_callS (As := [.int zx2, .int (1 : Int32), .int (9 : Int32)]) (st := []) mlRX10_110 mdX10_in (Nat.le_of_ble_eq_true rfl) rfl rfl (Nat.le_of_ble_eq_true rfl) ⟨Nat.le_refl _, Nat.le_refl _⟩ dX10_hole_11 ?_
    refine cm_mono hF (fun w zH_4 hF => ?_)
    obtain ⟨zr_5, rfl, hF⟩ := hF
    refine rn_if_ne (tgt := 20) dX10_hole_14 (by decide) (fun hc_6 => ?_) (fun hc_6 => ?_)
    · replace hF := hF.1 hc_6
      refine rn_aload_n dX10_hole_20 rfl ?_
      refine rm_geti flRX10_166 rfl (by decide) rfl dX10_hole_21 ?_
      refine rn_bipush (x := (6 : Int32)) dX10_hole_24 (by decide) ?_
      refine rn_icmp_ne (tgt := 32) dX10_hole_26 (by decide) (fun hc_7 => ?_) (fun hc_7 => ?_)
      · replace hF := hF.1 hc_7
        refine rn_aload_n dX10_hole_32 rfl ?_
        refine rm_getr (r := 109) flRX10_37 rfl (by decide) rfl dX10_hole_33 ?_
        refine rn_aload_n dX10_hole_36 rfl ?_
        refine rm_geti flRX10_166 rfl (by decide) rfl dX10_hole_37 ?_
        refine rn_iload_n dX10_hole_40 rfl ?_
        obtain ⟨zj_8, hzj_8, hF⟩ := hF
        refine rj_iast (j := zj_8) hzj_8 rfl (by decide) rfl (by decide) dX10_hole_41 (fun zH_9 ezH_9 => ?_)
        replace hF := hF zH_9 ezH_9
        refine rn_aload_n dX10_hole_42 rfl ?_
        refine rm_getr (r := 110) flRX10_40 rfl (by decide) rfl dX10_hole_43 ?_
        refine rn_aload_n dX10_hole_46 rfl ?_
        refine rm_geti flRX10_166 rfl (by decide) rfl dX10_hole_47 ?_
        refine rn_iload_n dX10_hole_50 rfl ?_
        obtain ⟨zj_10, hzj_10, hF⟩ := hF
        refine rj_iast (j := zj_10) hzj_10 rfl (by decide) rfl (by decide) dX10_hole_51 (fun zH_11 ezH_11 => ?_)
        replace hF := hF zH_11 ezH_11
        refine rn_aload_n dX10_hole_52 rfl ?_
        refine rn_dup dX10_hole_53 rfl ?_
        refine rm_geti flRX10_166 rfl (by decide) rfl dX10_hole_54 ?_
        refine rn_iconst (x := (1 : Int32)) dX10_hole_57 (by decide) ?_
        refine rn_iadd dX10_hole_58 ?_
        refine rm_puti flRX10_166 rfl (by decide) rfl dX10_hole_59 (fun zH_12 ezH_12 => ?_)
        replace hF := hF zH_12 ezH_12
        refine rn_aload_n dX10_hole_62 rfl ?_
        refine rm_geti flRX10_166 rfl (by decide) rfl dX10_hole_63 ?_
        exact rm_iret rfl dX10_hole_66 hF
      · replace hF := hF.2 hc_7
        refine rn_bipush (x := (-4 : Int32)) dX10_hole_29 (by decide) ?_
        exact rm_iret rfl dX10_hole_31 hF
    · replace hF := hF.2 hc_6
      refine rn_bipush (x := (-2 : Int32)) dX10_hole_17 (by decide) ?_
      exact rm_iret rfl dX10_hole_19 hF
theorem cmX10_hole {E : En} {Q : Option Value → Hi → Prop} {H : Hi} {zx1 : Int32} {zx2 : Int32} 
    (hF : Cm E mX10_isHour [.int zx1] H (fun w zH_1 => ∃ zr_2 : Int32, w = some (.int zr_2) ∧ ((zr_2 = 0 → (Q (some (.int (-2 : Int32))) zH_1)) ∧ (¬ zr_2 = 0 → (Cm E mX10_in [.int zx2, .int (1 : Int32), .int (9 : Int32)] zH_1 (fun w zH_4 => ∃ zr_5 : Int32, w = some (.int zr_5) ∧ ((¬ zr_5 = 0 → ((¬ (zH_4 99 14) = (6 : Int32) → (∃ zj_8 : Nat, (zj_8 < 6 ∧ zH_4 99 14 = nI zj_8) ∧ (∀ zH_9 : Hi, zH_9 = up zH_4 109 zj_8 zx1 → (∃ zj_10 : Nat, (zj_10 < 6 ∧ zH_9 99 14 = nI zj_10) ∧ (∀ zH_11 : Hi, zH_11 = up zH_9 110 zj_10 zx2 → (∀ zH_12 : Hi, zH_12 = up zH_11 99 14 ((zH_11 99 14) + (1 : Int32)) → (Q (some (.int (zH_12 99 14))) zH_12))))))) ∧ ((zH_4 99 14) = (6 : Int32) → (Q (some (.int (-4 : Int32))) zH_4)))) ∧ (zr_5 = 0 → (Q (some (.int (-2 : Int32))) zH_4))))))))) :
    Cm E mX10_hole [rf E 99, .int zx1, .int zx2] H Q :=
  cm_of (by decide +kernel : plainName RX10 = true) (Nat.le_of_ble_eq_true rfl) rfl (sgX10_hole_0  hF)
theorem sgX10_back_0 {E : En} {Q : Option Value → Hi → Prop} {H : Hi} {zx1 : Int32} 
    (hF : Cm E mX10_in [.int zx1, .int (0 : Int32), .int (1 : Int32)] H (fun w zH_1 => ∃ zr_2 : Int32, w = some (.int zr_2) ∧ ((¬ zr_2 = 0 → ((¬ zx1 = 0 → (∀ zx2_5 : Int32, zx2_5 = zH_1 99 14 → ((¬ zx2_5 = 0 → ((¬ zx1 = 0 → (∀ zH_8 : Hi, zH_8 = up zH_1 99 11 ((zH_1 99 11) - (0 : Int32)) → ((¬ zx1 = (1 : Int32) → (∀ zH_10 : Hi, zH_10 = up zH_8 99 14 ((zH_8 99 14) - (0 : Int32)) → (Q (some (.int (zx2_5 - (1 : Int32)))) zH_10))) ∧ (zx1 = (1 : Int32) → (∀ zH_11 : Hi, zH_11 = up zH_8 99 14 ((zH_8 99 14) - (1 : Int32)) → (Q (some (.int (zx2_5 - (1 : Int32)))) zH_11)))))) ∧ (zx1 = 0 → (∀ zH_12 : Hi, zH_12 = up zH_1 99 11 ((zH_1 99 11) - (1 : Int32)) → ((¬ zx1 = (1 : Int32) → (∀ zH_14 : Hi, zH_14 = up zH_12 99 14 ((zH_12 99 14) - (0 : Int32)) → (Q (some (.int (zx2_5 - (1 : Int32)))) zH_14))) ∧ (zx1 = (1 : Int32) → (∀ zH_15 : Hi, zH_15 = up zH_12 99 14 ((zH_12 99 14) - (1 : Int32)) → (Q (some (.int (zx2_5 - (1 : Int32)))) zH_15)))))))) ∧ (zx2_5 = 0 → (Q (some (.int (-3 : Int32))) zH_1))))) ∧ (zx1 = 0 → (∀ zx2_16 : Int32, zx2_16 = zH_1 99 11 → ((¬ zx2_16 = 0 → ((¬ zx1 = 0 → (∀ zH_19 : Hi, zH_19 = up zH_1 99 11 ((zH_1 99 11) - (0 : Int32)) → ((¬ zx1 = (1 : Int32) → (∀ zH_21 : Hi, zH_21 = up zH_19 99 14 ((zH_19 99 14) - (0 : Int32)) → (Q (some (.int (zx2_16 - (1 : Int32)))) zH_21))) ∧ (zx1 = (1 : Int32) → (∀ zH_22 : Hi, zH_22 = up zH_19 99 14 ((zH_19 99 14) - (1 : Int32)) → (Q (some (.int (zx2_16 - (1 : Int32)))) zH_22)))))) ∧ (zx1 = 0 → (∀ zH_23 : Hi, zH_23 = up zH_1 99 11 ((zH_1 99 11) - (1 : Int32)) → ((¬ zx1 = (1 : Int32) → (∀ zH_25 : Hi, zH_25 = up zH_23 99 14 ((zH_23 99 14) - (0 : Int32)) → (Q (some (.int (zx2_16 - (1 : Int32)))) zH_25))) ∧ (zx1 = (1 : Int32) → (∀ zH_26 : Hi, zH_26 = up zH_23 99 14 ((zH_23 99 14) - (1 : Int32)) → (Q (some (.int (zx2_16 - (1 : Int32)))) zH_26)))))))) ∧ (zx2_16 = 0 → (Q (some (.int (-3 : Int32))) zH_1))))))) ∧ (zr_2 = 0 → (Q (some (.int (-2 : Int32))) zH_1))))) :
    Rm E mX10_back Q 0 [some (rf E 99), some (.int zx1), none] [] H := by
  refine rn_iload_n dX10_back_0 rfl ?_
  refine rn_iconst (x := (0 : Int32)) dX10_back_1 (by decide) ?_
  refine rn_iconst (x := (1 : Int32)) dX10_back_2 (by decide) ?_
  refine rm_callS (As := [.int zx1, .int (0 : Int32), .int (1 : Int32)]) (st := []) mlRX10_110 mdX10_in (Nat.le_of_ble_eq_true rfl) rfl rfl (Nat.le_of_ble_eq_true rfl) ⟨Nat.le_refl _, Nat.le_refl _⟩ dX10_back_3 ?_
  refine cm_mono hF (fun w zH_1 hF => ?_)
  obtain ⟨zr_2, rfl, hF⟩ := hF
  refine rn_if_ne (tgt := 12) dX10_back_6 (by decide) (fun hc_3 => ?_) (fun hc_3 => ?_)
  · replace hF := hF.1 hc_3
    refine rn_iload_n dX10_back_12 rfl ?_
    refine rn_if_ne (tgt := 23) dX10_back_13 (by decide) (fun hc_4 => ?_) (fun hc_4 => ?_)
    · replace hF := hF.1 hc_4
      refine rn_aload_n dX10_back_23 rfl ?_
      refine rm_geti flRX10_166 rfl (by decide) rfl dX10_back_24 ?_
      refine rn_istore_n dX10_back_27 rfl (Nat.le_of_ble_eq_true rfl) (fun zx2_5 ezx2_5 => ?_)
      replace hF := hF zx2_5 ezx2_5
      show Rn _ _ _ _ _ _ _ _ [some (rf E 99), some (.int zx1), some (.int zx2_5)] _ _ _
      refine rn_iload_n dX10_back_28 rfl ?_
      refine rn_if_ne (tgt := 35) dX10_back_29 (by decide) (fun hc_6 => ?_) (fun hc_6 => ?_)
      · replace hF := hF.1 hc_6
        refine rn_aload_n dX10_back_35 rfl ?_
        refine rn_dup dX10_back_36 rfl ?_
        refine rm_geti flRX10_163 rfl (by decide) rfl dX10_back_37 ?_
        refine rn_iload_n dX10_back_40 rfl ?_
        refine rn_if_ne (tgt := 48) dX10_back_41 (by decide) (fun hc_7 => ?_) (fun hc_7 => ?_)
        · replace hF := hF.1 hc_7
          refine rn_iconst (x := (0 : Int32)) dX10_back_48 (by decide) ?_
          refine rn_isub dX10_back_49 ?_
          refine rm_puti flRX10_163 rfl (by decide) rfl dX10_back_50 (fun zH_8 ezH_8 => ?_)
          replace hF := hF zH_8 ezH_8
          refine rn_aload_n dX10_back_53 rfl ?_
          refine rn_dup dX10_back_54 rfl ?_
          refine rm_geti flRX10_166 rfl (by decide) rfl dX10_back_55 ?_
          refine rn_iload_n dX10_back_58 rfl ?_
          refine rn_iconst (x := (1 : Int32)) dX10_back_59 (by decide) ?_
          refine rn_icmp_ne (tgt := 67) dX10_back_60 (by decide) (fun hc_9 => ?_) (fun hc_9 => ?_)
          · replace hF := hF.1 hc_9
            refine rn_iconst (x := (0 : Int32)) dX10_back_67 (by decide) ?_
            refine rn_isub dX10_back_68 ?_
            refine rm_puti flRX10_166 rfl (by decide) rfl dX10_back_69 (fun zH_10 ezH_10 => ?_)
            replace hF := hF zH_10 ezH_10
            refine rn_iload_n dX10_back_72 rfl ?_
            refine rn_iconst (x := (1 : Int32)) dX10_back_73 (by decide) ?_
            refine rn_isub dX10_back_74 ?_
            exact rm_iret rfl dX10_back_75 hF
          · replace hF := hF.2 hc_9
            refine rn_iconst (x := (1 : Int32)) dX10_back_63 (by decide) ?_
            refine rn_goto (tgt := 68) dX10_back_64 (by decide) ?_
            refine rn_isub dX10_back_68 ?_
            refine rm_puti flRX10_166 rfl (by decide) rfl dX10_back_69 (fun zH_11 ezH_11 => ?_)
            replace hF := hF zH_11 ezH_11
            refine rn_iload_n dX10_back_72 rfl ?_
            refine rn_iconst (x := (1 : Int32)) dX10_back_73 (by decide) ?_
            refine rn_isub dX10_back_74 ?_
            exact rm_iret rfl dX10_back_75 hF
        · replace hF := hF.2 hc_7
          refine rn_iconst (x := (1 : Int32)) dX10_back_44 (by decide) ?_
          refine rn_goto (tgt := 49) dX10_back_45 (by decide) ?_
          refine rn_isub dX10_back_49 ?_
          refine rm_puti flRX10_163 rfl (by decide) rfl dX10_back_50 (fun zH_12 ezH_12 => ?_)
          replace hF := hF zH_12 ezH_12
          refine rn_aload_n dX10_back_53 rfl ?_
          refine rn_dup dX10_back_54 rfl ?_
          refine rm_geti flRX10_166 rfl (by decide) rfl dX10_back_55 ?_
          refine rn_iload_n dX10_back_58 rfl ?_
          refine rn_iconst (x := (1 : Int32)) dX10_back_59 (by decide) ?_
          refine rn_icmp_ne (tgt := 67) dX10_back_60 (by decide) (fun hc_13 => ?_) (fun hc_13 => ?_)
          · replace hF := hF.1 hc_13
            refine rn_iconst (x := (0 : Int32)) dX10_back_67 (by decide) ?_
            refine rn_isub dX10_back_68 ?_
            refine rm_puti flRX10_166 rfl (by decide) rfl dX10_back_69 (fun zH_14 ezH_14 => ?_)
            replace hF := hF zH_14 ezH_14
            refine rn_iload_n dX10_back_72 rfl ?_
            refine rn_iconst (x := (1 : Int32)) dX10_back_73 (by decide) ?_
            refine rn_isub dX10_back_74 ?_
            exact rm_iret rfl dX10_back_75 hF
          · replace hF := hF.2 hc_13
            refine rn_iconst (x := (1 : Int32)) dX10_back_63 (by decide) ?_
            refine rn_goto (tgt := 68) dX10_back_64 (by decide) ?_
            refine rn_isub dX10_back_68 ?_
            refine rm_puti flRX10_166 rfl (by decide) rfl dX10_back_69 (fun zH_15 ezH_15 => ?_)
            replace hF := hF zH_15 ezH_15
            refine rn_iload_n dX10_back_72 rfl ?_
            refine rn_iconst (x := (1 : Int32)) dX10_back_73 (by decide) ?_
            refine rn_isub dX10_back_74 ?_
            exact rm_iret rfl dX10_back_75 hF
      · replace hF := hF.2 hc_6
        refine rn_bipush (x := (-3 : Int32)) dX10_back_32 (by decide) ?_
        exact rm_iret rfl dX10_back_34 hF
    · replace hF := hF.2 hc_4
      refine rn_aload_n dX10_back_16 rfl ?_
      refine rm_geti flRX10_163 rfl (by decide) rfl dX10_back_17 ?_
      refine rn_goto (tgt := 27) dX10_back_20 (by decide) ?_
      refine rn_istore_n dX10_back_27 rfl (Nat.le_of_ble_eq_true rfl) (fun zx2_16 ezx2_16 => ?_)
      replace hF := hF zx2_16 ezx2_16
      show Rn _ _ _ _ _ _ _ _ [some (rf E 99), some (.int zx1), some (.int zx2_16)] _ _ _
      refine rn_iload_n dX10_back_28 rfl ?_
      refine rn_if_ne (tgt := 35) dX10_back_29 (by decide) (fun hc_17 => ?_) (fun hc_17 => ?_)
      · replace hF := hF.1 hc_17
        refine rn_aload_n dX10_back_35 rfl ?_
        refine rn_dup dX10_back_36 rfl ?_
        refine rm_geti flRX10_163 rfl (by decide) rfl dX10_back_37 ?_
        refine rn_iload_n dX10_back_40 rfl ?_
        refine rn_if_ne (tgt := 48) dX10_back_41 (by decide) (fun hc_18 => ?_) (fun hc_18 => ?_)
        · replace hF := hF.1 hc_18
          refine rn_iconst (x := (0 : Int32)) dX10_back_48 (by decide) ?_
          refine rn_isub dX10_back_49 ?_
          refine rm_puti flRX10_163 rfl (by decide) rfl dX10_back_50 (fun zH_19 ezH_19 => ?_)
          replace hF := hF zH_19 ezH_19
          refine rn_aload_n dX10_back_53 rfl ?_
          refine rn_dup dX10_back_54 rfl ?_
          refine rm_geti flRX10_166 rfl (by decide) rfl dX10_back_55 ?_
          refine rn_iload_n dX10_back_58 rfl ?_
          refine rn_iconst (x := (1 : Int32)) dX10_back_59 (by decide) ?_
          refine rn_icmp_ne (tgt := 67) dX10_back_60 (by decide) (fun hc_20 => ?_) (fun hc_20 => ?_)
          · replace hF := hF.1 hc_20
            refine rn_iconst (x := (0 : Int32)) dX10_back_67 (by decide) ?_
            refine rn_isub dX10_back_68 ?_
            refine rm_puti flRX10_166 rfl (by decide) rfl dX10_back_69 (fun zH_21 ezH_21 => ?_)
            replace hF := hF zH_21 ezH_21
            refine rn_iload_n dX10_back_72 rfl ?_
            refine rn_iconst (x := (1 : Int32)) dX10_back_73 (by decide) ?_
            refine rn_isub dX10_back_74 ?_
            exact rm_iret rfl dX10_back_75 hF
          · replace hF := hF.2 hc_20
            refine rn_iconst (x := (1 : Int32)) dX10_back_63 (by decide) ?_
            refine rn_goto (tgt := 68) dX10_back_64 (by decide) ?_
            refine rn_isub dX10_back_68 ?_
            refine rm_puti flRX10_166 rfl (by decide) rfl dX10_back_69 (fun zH_22 ezH_22 => ?_)
            replace hF := hF zH_22 ezH_22
            refine rn_iload_n dX10_back_72 rfl ?_
            refine rn_iconst (x := (1 : Int32)) dX10_back_73 (by decide) ?_
            refine rn_isub dX10_back_74 ?_
            exact rm_iret rfl dX10_back_75 hF
        · replace hF := hF.2 hc_18
          refine rn_iconst (x := (1 : Int32)) dX10_back_44 (by decide) ?_
          refine rn_goto (tgt := 49) dX10_back_45 (by decide) ?_
          refine rn_isub dX10_back_49 ?_
          refine rm_puti flRX10_163 rfl (by decide) rfl dX10_back_50 (fun zH_23 ezH_23 => ?_)
          replace hF := hF zH_23 ezH_23
          refine rn_aload_n dX10_back_53 rfl ?_
          refine rn_dup dX10_back_54 rfl ?_
          refine rm_geti flRX10_166 rfl (by decide) rfl dX10_back_55 ?_
          refine rn_iload_n dX10_back_58 rfl ?_
          refine rn_iconst (x := (1 : Int32)) dX10_back_59 (by decide) ?_
          refine rn_icmp_ne (tgt := 67) dX10_back_60 (by decide) (fun hc_24 => ?_) (fun hc_24 => ?_)
          · replace hF := hF.1 hc_24
            refine rn_iconst (x := (0 : Int32)) dX10_back_67 (by decide) ?_
            refine rn_isub dX10_back_68 ?_
            refine rm_puti flRX10_166 rfl (by decide) rfl dX10_back_69 (fun zH_25 ezH_25 => ?_)
            replace hF := hF zH_25 ezH_25
            refine rn_iload_n dX10_back_72 rfl ?_
            refine rn_iconst (x := (1 : Int32)) dX10_back_73 (by decide) ?_
            refine rn_isub dX10_back_74 ?_
            exact rm_iret rfl dX10_back_75 hF
          · replace hF := hF.2 hc_24
            refine rn_iconst (x := (1 : Int32)) dX10_back_63 (by decide) ?_
            refine rn_goto (tgt := 68) dX10_back_64 (by decide) ?_
            refine rn_isub dX10_back_68 ?_
            refine rm_puti flRX10_166 rfl (by decide) rfl dX10_back_69 (fun zH_26 ezH_26 => ?_)
            replace hF := hF zH_26 ezH_26
            refine rn_iload_n dX10_back_72 rfl ?_
            refine rn_iconst (x := (1 : Int32)) dX10_back_73 (by decide) ?_
            refine rn_isub dX10_back_74 ?_
            exact rm_iret rfl dX10_back_75 hF
      · replace hF := hF.2 hc_17
        refine rn_bipush (x := (-3 : Int32)) dX10_back_32 (by decide) ?_
        exact rm_iret rfl dX10_back_34 hF
  · replace hF := hF.2 hc_3
    refine rn_bipush (x := (-2 : Int32)) dX10_back_9 (by decide) ?_
    exact rm_iret rfl dX10_back_11 hF
theorem cmX10_back {E : En} {Q : Option Value → Hi → Prop} {H : Hi} {zx1 : Int32} 
    (hF : Cm E mX10_in [.int zx1, .int (0 : Int32), .int (1 : Int32)] H (fun w zH_1 => ∃ zr_2 : Int32, w = some (.int zr_2) ∧ ((¬ zr_2 = 0 → ((¬ zx1 = 0 → (∀ zx2_5 : Int32, zx2_5 = zH_1 99 14 → ((¬ zx2_5 = 0 → ((¬ zx1 = 0 → (∀ zH_8 : Hi, zH_8 = up zH_1 99 11 ((zH_1 99 11) - (0 : Int32)) → ((¬ zx1 = (1 : Int32) → (∀ zH_10 : Hi, zH_10 = up zH_8 99 14 ((zH_8 99 14) - (0 : Int32)) → (Q (some (.int (zx2_5 - (1 : Int32)))) zH_10))) ∧ (zx1 = (1 : Int32) → (∀ zH_11 : Hi, zH_11 = up zH_8 99 14 ((zH_8 99 14) - (1 : Int32)) → (Q (some (.int (zx2_5 - (1 : Int32)))) zH_11)))))) ∧ (zx1 = 0 → (∀ zH_12 : Hi, zH_12 = up zH_1 99 11 ((zH_1 99 11) - (1 : Int32)) → ((¬ zx1 = (1 : Int32) → (∀ zH_14 : Hi, zH_14 = up zH_12 99 14 ((zH_12 99 14) - (0 : Int32)) → (Q (some (.int (zx2_5 - (1 : Int32)))) zH_14))) ∧ (zx1 = (1 : Int32) → (∀ zH_15 : Hi, zH_15 = up zH_12 99 14 ((zH_12 99 14) - (1 : Int32)) → (Q (some (.int (zx2_5 - (1 : Int32)))) zH_15)))))))) ∧ (zx2_5 = 0 → (Q (some (.int (-3 : Int32))) zH_1))))) ∧ (zx1 = 0 → (∀ zx2_16 : Int32, zx2_16 = zH_1 99 11 → ((¬ zx2_16 = 0 → ((¬ zx1 = 0 → (∀ zH_19 : Hi, zH_19 = up zH_1 99 11 ((zH_1 99 11) - (0 : Int32)) → ((¬ zx1 = (1 : Int32) → (∀ zH_21 : Hi, zH_21 = up zH_19 99 14 ((zH_19 99 14) - (0 : Int32)) → (Q (some (.int (zx2_16 - (1 : Int32)))) zH_21))) ∧ (zx1 = (1 : Int32) → (∀ zH_22 : Hi, zH_22 = up zH_19 99 14 ((zH_19 99 14) - (1 : Int32)) → (Q (some (.int (zx2_16 - (1 : Int32)))) zH_22)))))) ∧ (zx1 = 0 → (∀ zH_23 : Hi, zH_23 = up zH_1 99 11 ((zH_1 99 11) - (1 : Int32)) → ((¬ zx1 = (1 : Int32) → (∀ zH_25 : Hi, zH_25 = up zH_23 99 14 ((zH_23 99 14) - (0 : Int32)) → (Q (some (.int (zx2_16 - (1 : Int32)))) zH_25))) ∧ (zx1 = (1 : Int32) → (∀ zH_26 : Hi, zH_26 = up zH_23 99 14 ((zH_23 99 14) - (1 : Int32)) → (Q (some (.int (zx2_16 - (1 : Int32)))) zH_26)))))))) ∧ (zx2_16 = 0 → (Q (some (.int (-3 : Int32))) zH_1))))))) ∧ (zr_2 = 0 → (Q (some (.int (-2 : Int32))) zH_1))))) :
    Cm E mX10_back [rf E 99, .int zx1] H Q :=
  cm_of (by decide +kernel : plainName RX10 = true) (Nat.le_of_ble_eq_true rfl) rfl (sgX10_back_0  hF)
theorem sgX10_read_0 {E : En} {Q : Option Value → Hi → Prop} {H : Hi} {zx1 : Int32} 
    (hF : Cm E mX10_isSheet [.int zx1] H (fun w zH_1 => ∃ zr_2 : Int32, w = some (.int zr_2) ∧ ((¬ zr_2 = 0 → (∃ zj_4 : Nat, (zj_4 < 4 ∧ zx1 = nI zj_4) ∧ ((¬ (zH_1 126 zj_4) = 0 → (Rm E mX10_read Q 27 [some (rf E 99), some (.int zx1), some (.int (0 : Int32))] [] zH_1)) ∧ ((zH_1 126 zj_4) = 0 → (Cm E mX10_meets [rf E 99, .int (1 : Int32)] zH_1 (fun w zH_7 => ∃ zr_8 : Int32, w = some (.int zr_8) ∧ (Q (some (.int zr_8)) zH_7))))))) ∧ (zr_2 = 0 → (Q (some (.int (-2 : Int32))) zH_1))))) :
    Rm E mX10_read Q 0 [some (rf E 99), some (.int zx1), none] [] H := by
  refine rn_iload_n dX10_read_0 rfl ?_
  refine rm_callS (As := [.int zx1]) (st := []) mlRX10_169 mdX10_isSheet (Nat.le_of_ble_eq_true rfl) rfl rfl (Nat.le_of_ble_eq_true rfl) ⟨Nat.le_refl _, Nat.le_refl _⟩ dX10_read_1 ?_
  refine cm_mono hF (fun w zH_1 hF => ?_)
  obtain ⟨zr_2, rfl, hF⟩ := hF
  refine rn_if_ne (tgt := 10) dX10_read_4 (by decide) (fun hc_3 => ?_) (fun hc_3 => ?_)
  · replace hF := hF.1 hc_3
    refine rn_aload_n dX10_read_10 rfl ?_
    refine rm_getr (r := 126) flRX10_89 rfl (by decide) rfl dX10_read_11 ?_
    refine rn_iload_n dX10_read_14 rfl ?_
    obtain ⟨zj_4, hzj_4, hF⟩ := hF
    refine rj_zald (j := zj_4) hzj_4 rfl (by decide) rfl (by decide) dX10_read_15 ?_
    refine rn_if_ne (tgt := 25) dX10_read_16 (by decide) (fun hc_5 => ?_) (fun hc_5 => ?_)
    · replace hF := hF.1 hc_5
      refine rn_iconst (x := (0 : Int32)) dX10_read_25 (by decide) ?_
      refine ra_istore_n dX10_read_26 rfl (Nat.le_of_ble_eq_true rfl) ?_
      show Rn _ _ _ _ _ _ _ _ [some (rf E 99), some (.int zx1), some (.int (0 : Int32))] _ _ _
      exact rn_wk (L' := [some (rf E 99), some (.int zx1), some (.int (0 : Int32))]) (⟨rfl, ⟨rfl, ⟨rfl, trivial⟩⟩⟩) hF
    · replace hF := hF.2 hc_5
      refine rn_aload_n dX10_read_19 rfl ?_
      refine rn_iconst (x := (1 : Int32)) dX10_read_20 (by decide) ?_
      refine rm_callV (c0 := 99) (As := [.int (1 : Int32)]) (st := []) mlRX10_172 mdX10_meets (Nat.le_of_ble_eq_true rfl) rfl (by decide) (by decide) rfl rfl rfl (Nat.le_of_ble_eq_true rfl) ⟨Nat.le_refl _, Nat.le_refl _⟩ dX10_read_21 ?_
      refine cm_mono hF (fun w zH_7 hF => ?_)
      obtain ⟨zr_8, rfl, hF⟩ := hF
      exact rm_iret rfl dX10_read_24 hF
  · replace hF := hF.2 hc_3
    refine rn_bipush (x := (-2 : Int32)) dX10_read_7 (by decide) ?_
    exact rm_iret rfl dX10_read_9 hF
theorem cmX10_read {E : En} {Q : Option Value → Hi → Prop} {H : Hi} {zx1 : Int32} 
    (hF : Cm E mX10_isSheet [.int zx1] H (fun w zH_1 => ∃ zr_2 : Int32, w = some (.int zr_2) ∧ ((¬ zr_2 = 0 → (∃ zj_4 : Nat, (zj_4 < 4 ∧ zx1 = nI zj_4) ∧ ((¬ (zH_1 126 zj_4) = 0 → (Rm E mX10_read Q 27 [some (rf E 99), some (.int zx1), some (.int (0 : Int32))] [] zH_1)) ∧ ((zH_1 126 zj_4) = 0 → (Cm E mX10_meets [rf E 99, .int (1 : Int32)] zH_1 (fun w zH_7 => ∃ zr_8 : Int32, w = some (.int zr_8) ∧ (Q (some (.int zr_8)) zH_7))))))) ∧ (zr_2 = 0 → (Q (some (.int (-2 : Int32))) zH_1))))) :
    Cm E mX10_read [rf E 99, .int zx1] H Q :=
  cm_of (by decide +kernel : plainName RX10 = true) (Nat.le_of_ble_eq_true rfl) rfl (sgX10_read_0  hF)
theorem sgX10_read_27 {E : En} {Q : Option Value → Hi → Prop} {H : Hi} {zx1 : Int32} {zx2 : Int32} 
    (hF : ∃ zj_1 : Nat, (zj_1 < 4 ∧ zx1 = nI zj_1) ∧ (((H 128 zj_1) ≤ (((4 : Int32) * zx2) + (3 : Int32)) → (Q (some (.int zx2)) H)) ∧ (¬ (H 128 zj_1) ≤ (((4 : Int32) * zx2) + (3 : Int32)) → (∃ zj_3 : Nat, (zj_3 < 240 ∧ ((60 : Int32) * zx1) + ((4 : Int32) * zx2) = nI zj_3) ∧ (∃ zj_4 : Nat, (zj_4 < 240 ∧ (((60 : Int32) * zx1) + ((4 : Int32) * zx2)) + (1 : Int32) = nI zj_4) ∧ (∃ zj_5 : Nat, (zj_5 < 240 ∧ (((60 : Int32) * zx1) + ((4 : Int32) * zx2)) + (2 : Int32) = nI zj_5) ∧ (∃ zj_6 : Nat, (zj_6 < 240 ∧ (((60 : Int32) * zx1) + ((4 : Int32) * zx2)) + (3 : Int32) = nI zj_6) ∧ (Cm E mX10_hand [rf E 99, .int (H 129 zj_3), .int (H 129 zj_4), .int (H 129 zj_5), .int (H 129 zj_6)] H (fun w zH_7 => ∃ zr_8 : Int32, w = some (.int zr_8) ∧ ((zr_8 ≤ 0 → (Q (some (.int zx2)) zH_7)) ∧ (¬ zr_8 ≤ 0 → (∀ zx2_10 : Int32, zx2_10 = zx2 + (1 : Int32) → (Rm E mX10_read Q 27 [some (rf E 99), some (.int zx1), some (.int zx2_10)] [] zH_7))))))))))))) :
    Rm E mX10_read Q 27 [some (rf E 99), some (.int zx1), some (.int zx2)] [] H := by
  refine rn_iconst (x := (4 : Int32)) dX10_read_27 (by decide) ?_
  refine rn_iload_n dX10_read_28 rfl ?_
  refine rn_imul dX10_read_29 ?_
  refine rn_iconst (x := (3 : Int32)) dX10_read_30 (by decide) ?_
  refine rn_iadd dX10_read_31 ?_
  refine rn_aload_n dX10_read_32 rfl ?_
  refine rm_getr (r := 128) flRX10_95 rfl (by decide) rfl dX10_read_33 ?_
  refine rn_iload_n dX10_read_36 rfl ?_
  obtain ⟨zj_1, hzj_1, hF⟩ := hF
  refine rj_iald (j := zj_1) hzj_1 rfl (by decide) rfl (by decide) dX10_read_37 ?_
  refine rn_icmp_ge (tgt := 112) dX10_read_38 (by decide) (fun hc_2 => ?_) (fun hc_2 => ?_)
  · replace hF := hF.1 hc_2
    refine rn_iload_n dX10_read_112 rfl ?_
    exact rm_iret rfl dX10_read_113 hF
  · replace hF := hF.2 hc_2
    refine rn_aload_n dX10_read_41 rfl ?_
    refine rn_aload_n dX10_read_42 rfl ?_
    refine rm_getr (r := 129) flRX10_98 rfl (by decide) rfl dX10_read_43 ?_
    refine rn_bipush (x := (60 : Int32)) dX10_read_46 (by decide) ?_
    refine rn_iload_n dX10_read_48 rfl ?_
    refine rn_imul dX10_read_49 ?_
    refine rn_iconst (x := (4 : Int32)) dX10_read_50 (by decide) ?_
    refine rn_iload_n dX10_read_51 rfl ?_
    refine rn_imul dX10_read_52 ?_
    refine rn_iadd dX10_read_53 ?_
    obtain ⟨zj_3, hzj_3, hF⟩ := hF
    refine rj_iald (j := zj_3) hzj_3 rfl (by decide) rfl (by decide) dX10_read_54 ?_
    refine rn_aload_n dX10_read_55 rfl ?_
    refine rm_getr (r := 129) flRX10_98 rfl (by decide) rfl dX10_read_56 ?_
    refine rn_bipush (x := (60 : Int32)) dX10_read_59 (by decide) ?_
    refine rn_iload_n dX10_read_61 rfl ?_
    refine rn_imul dX10_read_62 ?_
    refine rn_iconst (x := (4 : Int32)) dX10_read_63 (by decide) ?_
    refine rn_iload_n dX10_read_64 rfl ?_
    refine rn_imul dX10_read_65 ?_
    refine rn_iadd dX10_read_66 ?_
    refine rn_iconst (x := (1 : Int32)) dX10_read_67 (by decide) ?_
    refine rn_iadd dX10_read_68 ?_
    obtain ⟨zj_4, hzj_4, hF⟩ := hF
    refine rj_iald (j := zj_4) hzj_4 rfl (by decide) rfl (by decide) dX10_read_69 ?_
    refine rn_aload_n dX10_read_70 rfl ?_
    refine rm_getr (r := 129) flRX10_98 rfl (by decide) rfl dX10_read_71 ?_
    refine rn_bipush (x := (60 : Int32)) dX10_read_74 (by decide) ?_
    refine rn_iload_n dX10_read_76 rfl ?_
    refine rn_imul dX10_read_77 ?_
    refine rn_iconst (x := (4 : Int32)) dX10_read_78 (by decide) ?_
    refine rn_iload_n dX10_read_79 rfl ?_
    refine rn_imul dX10_read_80 ?_
    refine rn_iadd dX10_read_81 ?_
    refine rn_iconst (x := (2 : Int32)) dX10_read_82 (by decide) ?_
    refine rn_iadd dX10_read_83 ?_
    obtain ⟨zj_5, hzj_5, hF⟩ := hF
    refine rj_iald (j := zj_5) hzj_5 rfl (by decide) rfl (by decide) dX10_read_84 ?_
    refine rn_aload_n dX10_read_85 rfl ?_
    refine rm_getr (r := 129) flRX10_98 rfl (by decide) rfl dX10_read_86 ?_
    refine rn_bipush (x := (60 : Int32)) dX10_read_89 (by decide) ?_
    refine rn_iload_n dX10_read_91 rfl ?_
    refine rn_imul dX10_read_92 ?_
    refine rn_iconst (x := (4 : Int32)) dX10_read_93 (by decide) ?_
    refine rn_iload_n dX10_read_94 rfl ?_
    refine rn_imul dX10_read_95 ?_
    refine rn_iadd dX10_read_96 ?_
    refine rn_iconst (x := (3 : Int32)) dX10_read_97 (by decide) ?_
    refine rn_iadd dX10_read_98 ?_
    obtain ⟨zj_6, hzj_6, hF⟩ := hF
    refine rj_iald (j := zj_6) hzj_6 rfl (by decide) rfl (by decide) dX10_read_99 ?_
    refine rm_callV (c0 := 99) (As := [.int (H 129 zj_3), .int (H 129 zj_4), .int (H 129 zj_5), .int (H 129 zj_6)]) (st := []) mlRX10_175 mdX10_hand (Nat.le_of_ble_eq_true rfl) rfl (by decide) (by decide) rfl rfl rfl (Nat.le_of_ble_eq_true rfl) ⟨Nat.le_refl _, Nat.le_refl _⟩ dX10_read_100 ?_
    refine cm_mono hF (fun w zH_7 hF => ?_)
    obtain ⟨zr_8, rfl, hF⟩ := hF
    refine rn_if_le (tgt := 112) dX10_read_103 (by decide) (fun hc_9 => ?_) (fun hc_9 => ?_)
    · replace hF := hF.1 hc_9
      refine rn_iload_n dX10_read_112 rfl ?_
      exact rm_iret rfl dX10_read_113 hF
    · replace hF := hF.2 hc_9
      refine rn_iinc (w := (1 : Int32)) dX10_read_106 rfl (by decide) rfl (Nat.le_of_ble_eq_true rfl) (fun zx2_10 ezx2_10 => ?_)
      replace hF := hF zx2_10 ezx2_10
      show Rn _ _ _ _ _ _ _ _ [some (rf E 99), some (.int zx1), some (.int zx2_10)] _ _ _
      refine rn_goto (tgt := 27) dX10_read_109 (by decide) ?_
      exact rn_wk (L' := [some (rf E 99), some (.int zx1), some (.int zx2_10)]) (⟨rfl, ⟨rfl, ⟨rfl, trivial⟩⟩⟩) hF
theorem sgX10_asTold_0 {E : En} {Q : Option Value → Hi → Prop} {H : Hi}  
    (hF : ∀ zH_1 : Hi, zH_1 = up H 99 22 (H 99 11) → (∀ zH_2 : Hi, zH_2 = up zH_1 99 23 (zH_1 99 10) → (Q none zH_2))) :
    Rm E mX10_asTold Q 0 [some (rf E 99)] [] H := by
  refine rn_aload_n dX10_asTold_0 rfl ?_
  refine rn_aload_n dX10_asTold_1 rfl ?_
  refine rm_geti flRX10_163 rfl (by decide) rfl dX10_asTold_2 ?_
  refine rm_puti flRX10_179 rfl (by decide) rfl dX10_asTold_5 (fun zH_1 ezH_1 => ?_)
  replace hF := hF zH_1 ezH_1
  refine rn_aload_n dX10_asTold_8 rfl ?_
  refine rn_aload_n dX10_asTold_9 rfl ?_
  refine rm_geti flRX10_157 rfl (by decide) rfl dX10_asTold_10 ?_
  refine rm_puti flRX10_182 rfl (by decide) rfl dX10_asTold_13 (fun zH_2 ezH_2 => ?_)
  replace hF := hF zH_2 ezH_2
  exact rm_vret rfl dX10_asTold_16 hF
theorem cmX10_asTold {E : En} {Q : Option Value → Hi → Prop} {H : Hi}  
    (hF : ∀ zH_1 : Hi, zH_1 = up H 99 22 (H 99 11) → (∀ zH_2 : Hi, zH_2 = up zH_1 99 23 (zH_1 99 10) → (Q none zH_2))) :
    Cm E mX10_asTold [rf E 99] H Q :=
  cm_of (by decide +kernel : plainName RX10 = true) (Nat.le_of_ble_eq_true rfl) rfl (sgX10_asTold_0  hF)
theorem sgX10_loadNow_0 {E : En} {Q : Option Value → Hi → Prop} {H : Hi}  
    (hF : Rm E mX10_loadNow Q 4 [some (rf E 99), some (.int (0 : Int32)), some (.int (0 : Int32))] [] H) :
    Rm E mX10_loadNow Q 0 [some (rf E 99), none, none] [] H := by
  refine rn_iconst (x := (0 : Int32)) dX10_loadNow_0 (by decide) ?_
  refine ra_istore_n dX10_loadNow_1 rfl (Nat.le_of_ble_eq_true rfl) ?_
  show Rn _ _ _ _ _ _ _ _ [some (rf E 99), some (.int (0 : Int32)), none] _ _ _
  refine rn_iconst (x := (0 : Int32)) dX10_loadNow_2 (by decide) ?_
  refine ra_istore_n dX10_loadNow_3 rfl (Nat.le_of_ble_eq_true rfl) ?_
  show Rn _ _ _ _ _ _ _ _ [some (rf E 99), some (.int (0 : Int32)), some (.int (0 : Int32))] _ _ _
  exact rn_wk (L' := [some (rf E 99), some (.int (0 : Int32)), some (.int (0 : Int32))]) (⟨rfl, ⟨rfl, ⟨rfl, trivial⟩⟩⟩) hF
theorem cmX10_loadNow {E : En} {Q : Option Value → Hi → Prop} {H : Hi}  
    (hF : Rm E mX10_loadNow Q 4 [some (rf E 99), some (.int (0 : Int32)), some (.int (0 : Int32))] [] H) :
    Cm E mX10_loadNow [rf E 99] H Q :=
  cm_of (by decide +kernel : plainName RX10 = true) (Nat.le_of_ble_eq_true rfl) rfl (sgX10_loadNow_0  hF)
theorem sgX10_loadNow_4 {E : En} {Q : Option Value → Hi → Prop} {H : Hi} {zx1 : Int32} {zx2 : Int32} 
    (hF : ((H 99 2) ≤ zx2 → (Q (some (.int zx1)) H)) ∧ (¬ (H 99 2) ≤ zx2 → (∃ zj_2 : Nat, (zj_2 < 8 ∧ zx2 = nI zj_2) ∧ ((¬ (H 111 zj_2) = (8 : Int32) → (∀ zx1_4 : Int32, zx1_4 = zx1 + (0 : Int32) → (∀ zx2_5 : Int32, zx2_5 = zx2 + (1 : Int32) → (Rm E mX10_loadNow Q 4 [some (rf E 99), some (.int zx1_4), some (.int zx2_5)] [] H)))) ∧ ((H 111 zj_2) = (8 : Int32) → (∃ zj_6 : Nat, (zj_6 < 9 ∧ zx2 = nI zj_6) ∧ (∀ zx1_7 : Int32, zx1_7 = zx1 + (H 102 zj_6) → (∀ zx2_8 : Int32, zx2_8 = zx2 + (1 : Int32) → (Rm E mX10_loadNow Q 4 [some (rf E 99), some (.int zx1_7), some (.int zx2_8)] [] H))))))))) :
    Rm E mX10_loadNow Q 4 [some (rf E 99), some (.int zx1), some (.int zx2)] [] H := by
  refine rn_iload_n dX10_loadNow_4 rfl ?_
  refine rn_aload_n dX10_loadNow_5 rfl ?_
  refine rm_geti flRX10_125 rfl (by decide) rfl dX10_loadNow_6 ?_
  refine rn_icmp_ge (tgt := 42) dX10_loadNow_9 (by decide) (fun hc_1 => ?_) (fun hc_1 => ?_)
  · replace hF := hF.1 hc_1
    refine rn_iload_n dX10_loadNow_42 rfl ?_
    exact rm_iret rfl dX10_loadNow_43 hF
  · replace hF := hF.2 hc_1
    refine rn_iload_n dX10_loadNow_12 rfl ?_
    refine rn_aload_n dX10_loadNow_13 rfl ?_
    refine rm_getr (r := 111) flRX10_43 rfl (by decide) rfl dX10_loadNow_14 ?_
    refine rn_iload_n dX10_loadNow_17 rfl ?_
    obtain ⟨zj_2, hzj_2, hF⟩ := hF
    refine rj_iald (j := zj_2) hzj_2 rfl (by decide) rfl (by decide) dX10_loadNow_18 ?_
    refine rn_bipush (x := (8 : Int32)) dX10_loadNow_19 (by decide) ?_
    refine rn_icmp_ne (tgt := 33) dX10_loadNow_21 (by decide) (fun hc_3 => ?_) (fun hc_3 => ?_)
    · replace hF := hF.1 hc_3
      refine rn_iconst (x := (0 : Int32)) dX10_loadNow_33 (by decide) ?_
      refine rn_iadd dX10_loadNow_34 ?_
      refine rn_istore_n dX10_loadNow_35 rfl (Nat.le_of_ble_eq_true rfl) (fun zx1_4 ezx1_4 => ?_)
      replace hF := hF zx1_4 ezx1_4
      show Rn _ _ _ _ _ _ _ _ [some (rf E 99), some (.int zx1_4), some (.int zx2)] _ _ _
      refine rn_iinc (w := (1 : Int32)) dX10_loadNow_36 rfl (by decide) rfl (Nat.le_of_ble_eq_true rfl) (fun zx2_5 ezx2_5 => ?_)
      replace hF := hF zx2_5 ezx2_5
      show Rn _ _ _ _ _ _ _ _ [some (rf E 99), some (.int zx1_4), some (.int zx2_5)] _ _ _
      refine rn_goto (tgt := 4) dX10_loadNow_39 (by decide) ?_
      exact rn_wk (L' := [some (rf E 99), some (.int zx1_4), some (.int zx2_5)]) (⟨rfl, ⟨rfl, ⟨rfl, trivial⟩⟩⟩) hF
    · replace hF := hF.2 hc_3
      refine rn_aload_n dX10_loadNow_24 rfl ?_
      refine rm_getr (r := 102) flRX10_16 rfl (by decide) rfl dX10_loadNow_25 ?_
      refine rn_iload_n dX10_loadNow_28 rfl ?_
      obtain ⟨zj_6, hzj_6, hF⟩ := hF
      refine rj_iald (j := zj_6) hzj_6 rfl (by decide) rfl (by decide) dX10_loadNow_29 ?_
      refine rn_goto (tgt := 34) dX10_loadNow_30 (by decide) ?_
      refine rn_iadd dX10_loadNow_34 ?_
      refine rn_istore_n dX10_loadNow_35 rfl (Nat.le_of_ble_eq_true rfl) (fun zx1_7 ezx1_7 => ?_)
      replace hF := hF zx1_7 ezx1_7
      show Rn _ _ _ _ _ _ _ _ [some (rf E 99), some (.int zx1_7), some (.int zx2)] _ _ _
      refine rn_iinc (w := (1 : Int32)) dX10_loadNow_36 rfl (by decide) rfl (Nat.le_of_ble_eq_true rfl) (fun zx2_8 ezx2_8 => ?_)
      replace hF := hF zx2_8 ezx2_8
      show Rn _ _ _ _ _ _ _ _ [some (rf E 99), some (.int zx1_7), some (.int zx2_8)] _ _ _
      refine rn_goto (tgt := 4) dX10_loadNow_39 (by decide) ?_
      exact rn_wk (L' := [some (rf E 99), some (.int zx1_7), some (.int zx2_8)]) (⟨rfl, ⟨rfl, ⟨rfl, trivial⟩⟩⟩) hF
