theorem sgX10_in_0 {E : En} {Q : Option Value → Hi → Prop} {H : Hi} {x0 : Int32} {x1 : Int32} {x2 : Int32} 
    (hF : (x0 < x1 → (Q (some (.int (0 : Int32))) H)) ∧ (¬ x0 < x1 → ((x2 < x0 → (Q (some (.int (0 : Int32))) H)) ∧ (¬ x2 < x0 → (Q (some (.int (1 : Int32))) H))))) :
    Rm E mX10_in Q 0 [some (.int x0), some (.int x1), some (.int x2)] [] H := by
  refine rn_iload_n dX10_in_0 rfl ?_
  refine rn_iload_n dX10_in_1 rfl ?_
  refine rn_icmp_lt (tgt := 14) dX10_in_2 (by decide) (fun hc_1 => ?_) (fun hc_1 => ?_)
  · replace hF := hF.1 hc_1
    refine rn_iconst (x := (0 : Int32)) dX10_in_14 (by decide) ?_
    exact rm_zret rfl rfl dX10_in_15 hF
  · replace hF := hF.2 hc_1
    refine rn_iload_n dX10_in_5 rfl ?_
    refine rn_iload_n dX10_in_6 rfl ?_
    refine rn_icmp_gt (tgt := 14) dX10_in_7 (by decide) (fun hc_2 => ?_) (fun hc_2 => ?_)
    · replace hF := hF.1 hc_2
      refine rn_iconst (x := (0 : Int32)) dX10_in_14 (by decide) ?_
      exact rm_zret rfl rfl dX10_in_15 hF
    · replace hF := hF.2 hc_2
      refine rn_iconst (x := (1 : Int32)) dX10_in_10 (by decide) ?_
      refine rn_goto (tgt := 15) dX10_in_11 (by decide) ?_
      exact rm_zret rfl rfl dX10_in_15 hF
theorem cmX10_in {E : En} {Q : Option Value → Hi → Prop} {H : Hi} {x0 : Int32} {x1 : Int32} {x2 : Int32} 
    (hF : (x0 < x1 → (Q (some (.int (0 : Int32))) H)) ∧ (¬ x0 < x1 → ((x2 < x0 → (Q (some (.int (0 : Int32))) H)) ∧ (¬ x2 < x0 → (Q (some (.int (1 : Int32))) H))))) :
    Cm E mX10_in [.int x0, .int x1, .int x2] H Q :=
  cm_of (by decide +kernel) (Nat.le_of_ble_eq_true rfl) rfl (sgX10_in_0  hF)
theorem sgX10_isIn_0 {E : En} {Q : Option Value → Hi → Prop} {H : Hi} {x0 : Int32} {x1 : Int32} 
    (hF : (¬ ((x0 >>> (x1 &&& 31)) &&& (1 : Int32)) = (1 : Int32) → (Q (some (.int (0 : Int32))) H)) ∧ (((x0 >>> (x1 &&& 31)) &&& (1 : Int32)) = (1 : Int32) → (Q (some (.int (1 : Int32))) H))) :
    Rm E mX10_isIn Q 0 [some (.int x0), some (.int x1)] [] H := by
  refine rn_iload_n dX10_isIn_0 rfl ?_
  refine rn_iload_n dX10_isIn_1 rfl ?_
  refine rn_ishr dX10_isIn_2 ?_
  refine rn_iconst (x := (1 : Int32)) dX10_isIn_3 (by decide) ?_
  refine rn_iand dX10_isIn_4 ?_
  refine rn_iconst (x := (1 : Int32)) dX10_isIn_5 (by decide) ?_
  refine rn_icmp_ne (tgt := 13) dX10_isIn_6 (by decide) (fun hc_1 => ?_) (fun hc_1 => ?_)
  · replace hF := hF.1 hc_1
    refine rn_iconst (x := (0 : Int32)) dX10_isIn_13 (by decide) ?_
    exact rm_zret rfl rfl dX10_isIn_14 hF
  · replace hF := hF.2 hc_1
    refine rn_iconst (x := (1 : Int32)) dX10_isIn_9 (by decide) ?_
    refine rn_goto (tgt := 14) dX10_isIn_10 (by decide) ?_
    exact rm_zret rfl rfl dX10_isIn_14 hF
theorem cmX10_isIn {E : En} {Q : Option Value → Hi → Prop} {H : Hi} {x0 : Int32} {x1 : Int32} 
    (hF : (¬ ((x0 >>> (x1 &&& 31)) &&& (1 : Int32)) = (1 : Int32) → (Q (some (.int (0 : Int32))) H)) ∧ (((x0 >>> (x1 &&& 31)) &&& (1 : Int32)) = (1 : Int32) → (Q (some (.int (1 : Int32))) H))) :
    Cm E mX10_isIn [.int x0, .int x1] H Q :=
  cm_of (by decide +kernel) (Nat.le_of_ble_eq_true rfl) rfl (sgX10_isIn_0  hF)
theorem sgX10_no_0 {E : En} {Q : Option Value → Hi → Prop} {H : Hi} {x0 : Int32} 
    (hF : Q (some (.long ((-9223372036854775808 : Int64) - (x0.toInt64)))) H) :
    Rm E mX10_no Q 0 [some (.int x0)] [] H := by
  refine rn_ldc2 coRX10_108 dX10_no_0 ?_
  refine rn_iload_n dX10_no_3 rfl ?_
  refine rn_i2l dX10_no_4 ?_
  refine rn_lsub dX10_no_5 ?_
  exact rm_lret rfl dX10_no_6 hF
theorem cmX10_no {E : En} {Q : Option Value → Hi → Prop} {H : Hi} {x0 : Int32} 
    (hF : Q (some (.long ((-9223372036854775808 : Int64) - (x0.toInt64)))) H) :
    Cm E mX10_no [.int x0] H Q :=
  cm_of (by decide +kernel) (Nat.le_of_ble_eq_true rfl) rfl (sgX10_no_0  hF)
theorem sgX10_lowest_0 {E : En} {Q : Option Value → Hi → Prop} {H : Hi} {y0 : Int64} {y2 : Int64} {x4 : Int32} 
    (hF : Rm E mX10_lowest Q 6 [some (.long y0), none, some (.long y2), none, some (.int x4), some (.long y0), none, some (.long y2), none, none, none] [] H) :
    Rm E mX10_lowest Q 0 [some (.long y0), none, some (.long y2), none, some (.int x4), none, none, none, none, none, none] [] H := by
  refine rn_lload_n dX10_lowest_0 rfl ?_
  refine rn_lstore dX10_lowest_1 rfl (by decide) (fun x5_1 ex5_1 => ?_)
  subst ex5_1
  refine rn_lload_n dX10_lowest_3 rfl ?_
  refine rn_lstore dX10_lowest_4 rfl (by decide) (fun x7_2 ex7_2 => ?_)
  subst ex7_2
  exact rn_wk (L' := [some (.long y0), none, some (.long y2), none, some (.int x4), some (.long y0), none, some (.long y2), none, none, none]) (⟨rfl, ⟨rfl, ⟨rfl, ⟨rfl, ⟨rfl, trivial⟩⟩⟩⟩⟩) hF
theorem cmX10_lowest {E : En} {Q : Option Value → Hi → Prop} {H : Hi} {y0 : Int64} {y2 : Int64} {x4 : Int32} 
    (hF : Rm E mX10_lowest Q 6 [some (.long y0), none, some (.long y2), none, some (.int x4), some (.long y0), none, some (.long y2), none, none, none] [] H) :
    Cm E mX10_lowest [.long y0, .long y2, .int x4] H Q :=
  cm_of (by decide +kernel) (Nat.le_of_ble_eq_true rfl) rfl (sgX10_lowest_0  hF)
theorem sgX10_lowest_6 {E : En} {Q : Option Value → Hi → Prop} {H : Hi} {y0 : Int64} {y2 : Int64} {x4 : Int32} {y5 : Int64} {y7 : Int64} 
    (hF : ((lg_cmp y7 (0 : Int64)) = 0 → ((¬ x4 = 0 → ((¬ y5 = 0) ∧ (Q (some (.long (y2 / y5))) H))) ∧ (x4 = 0 → ((¬ y5 = 0) ∧ (Q (some (.long (y0 / y5))) H))))) ∧ (¬ (lg_cmp y7 (0 : Int64)) = 0 → ((¬ y7 = 0) ∧ (∀ x9_6 : Int64, x9_6 = y5 - y5 / y7 * y7 → (Rm E mX10_lowest Q 6 [some (.long y0), none, some (.long y2), none, some (.int x4), some (.long y7), none, some (.long x9_6), none, none, none] [] H))))) :
    Rm E mX10_lowest Q 6 [some (.long y0), none, some (.long y2), none, some (.int x4), some (.long y5), none, some (.long y7), none, none, none] [] H := by
  refine rn_lload dX10_lowest_6 rfl ?_
  refine rn_lconst (x := (0 : Int64)) dX10_lowest_8 (by decide) ?_
  refine rn_lcmp dX10_lowest_9 ?_
  refine rn_if_eq (tgt := 31) dX10_lowest_10 (by decide) (fun hc_1 => ?_) (fun hc_1 => ?_)
  · replace hF := hF.1 hc_1
    refine rn_iload dX10_lowest_31 rfl ?_
    refine rn_if_ne (tgt := 43) dX10_lowest_33 (by decide) (fun hc_2 => ?_) (fun hc_2 => ?_)
    · replace hF := hF.1 hc_2
      refine rn_lload_n dX10_lowest_43 rfl ?_
      refine rn_lload dX10_lowest_44 rfl ?_
      obtain ⟨hz_3, hF⟩ := hF
      refine rn_ldiv dX10_lowest_46 hz_3 ?_
      exact rm_lret rfl dX10_lowest_47 hF
    · replace hF := hF.2 hc_2
      refine rn_lload_n dX10_lowest_36 rfl ?_
      refine rn_lload dX10_lowest_37 rfl ?_
      obtain ⟨hz_4, hF⟩ := hF
      refine rn_ldiv dX10_lowest_39 hz_4 ?_
      refine rn_goto (tgt := 47) dX10_lowest_40 (by decide) ?_
      exact rm_lret rfl dX10_lowest_47 hF
  · replace hF := hF.2 hc_1
    refine rn_lload dX10_lowest_13 rfl ?_
    refine rn_lload dX10_lowest_15 rfl ?_
    obtain ⟨hz_5, hF⟩ := hF
    refine rn_lrem dX10_lowest_17 hz_5 ?_
    refine rn_lstore dX10_lowest_18 rfl (by decide) (fun x9_6 ex9_6 => ?_)
    replace hF := hF x9_6 ex9_6
    refine rn_lload dX10_lowest_20 rfl ?_
    refine rn_lstore dX10_lowest_22 rfl (by decide) (fun x5_7 ex5_7 => ?_)
    subst ex5_7
    refine rn_lload dX10_lowest_24 rfl ?_
    refine rn_lstore dX10_lowest_26 rfl (by decide) (fun x7_8 ex7_8 => ?_)
    subst ex7_8
    refine rn_goto (tgt := 6) dX10_lowest_28 (by decide) ?_
    exact rn_wk (L' := [some (.long y0), none, some (.long y2), none, some (.int x4), some (.long y7), none, some (.long x9_6), none, none, none]) (⟨rfl, ⟨rfl, ⟨rfl, ⟨rfl, ⟨rfl, trivial⟩⟩⟩⟩⟩) hF
theorem sgX10_isText_0 {E : En} {Q : Option Value → Hi → Prop} {H : Hi} {x0 : Int32} 
    (hF : Cm E mX10_in [.int x0, .int (0 : Int32), .int (1 : Int32)] H (fun w H_1 => ∃ r_2 : Int32, w = some (.int r_2) ∧ (narrow .boolean (.int r_2) = .int r_2 ∧ Q (some (.int r_2)) H_1))) :
    Rm E mX10_isText Q 0 [some (.int x0)] [] H := by
  refine rn_iload_n dX10_isText_0 rfl ?_
  refine rn_iconst (x := (0 : Int32)) dX10_isText_1 (by decide) ?_
  refine rn_iconst (x := (1 : Int32)) dX10_isText_2 (by decide) ?_
  refine rm_callS (As := [.int x0, .int (0 : Int32), .int (1 : Int32)]) (st := []) mlRX10_110 mdX10_in (Nat.le_of_ble_eq_true rfl) rfl rfl (Nat.le_of_ble_eq_true rfl) ⟨Nat.le_refl _, Nat.le_refl _⟩ dX10_isText_3 ?_
  refine cm_mono hF (fun w H_1 hF => ?_)
  obtain ⟨r_2, rfl, hF⟩ := hF
  exact rm_zret rfl hF.1 dX10_isText_6 hF.2
theorem cmX10_isText {E : En} {Q : Option Value → Hi → Prop} {H : Hi} {x0 : Int32} 
    (hF : Cm E mX10_in [.int x0, .int (0 : Int32), .int (1 : Int32)] H (fun w H_1 => ∃ r_2 : Int32, w = some (.int r_2) ∧ (narrow .boolean (.int r_2) = .int r_2 ∧ Q (some (.int r_2)) H_1))) :
    Cm E mX10_isText [.int x0] H Q :=
  cm_of (by decide +kernel) (Nat.le_of_ble_eq_true rfl) rfl (sgX10_isText_0  hF)
theorem sgX10_isEight_0 {E : En} {Q : Option Value → Hi → Prop} {H : Hi} {x0 : Int32} 
    (hF : Cm E mX10_in [.int x0, .int (0 : Int32), .int (7 : Int32)] H (fun w H_1 => ∃ r_2 : Int32, w = some (.int r_2) ∧ (narrow .boolean (.int r_2) = .int r_2 ∧ Q (some (.int r_2)) H_1))) :
    Rm E mX10_isEight Q 0 [some (.int x0)] [] H := by
  refine rn_iload_n dX10_isEight_0 rfl ?_
  refine rn_iconst (x := (0 : Int32)) dX10_isEight_1 (by decide) ?_
  refine rn_bipush (x := (7 : Int32)) dX10_isEight_2 (by decide) ?_
  refine rm_callS (As := [.int x0, .int (0 : Int32), .int (7 : Int32)]) (st := []) mlRX10_110 mdX10_in (Nat.le_of_ble_eq_true rfl) rfl rfl (Nat.le_of_ble_eq_true rfl) ⟨Nat.le_refl _, Nat.le_refl _⟩ dX10_isEight_4 ?_
  refine cm_mono hF (fun w H_1 hF => ?_)
  obtain ⟨r_2, rfl, hF⟩ := hF
  exact rm_zret rfl hF.1 dX10_isEight_7 hF.2
theorem cmX10_isEight {E : En} {Q : Option Value → Hi → Prop} {H : Hi} {x0 : Int32} 
    (hF : Cm E mX10_in [.int x0, .int (0 : Int32), .int (7 : Int32)] H (fun w H_1 => ∃ r_2 : Int32, w = some (.int r_2) ∧ (narrow .boolean (.int r_2) = .int r_2 ∧ Q (some (.int r_2)) H_1))) :
    Cm E mX10_isEight [.int x0] H Q :=
  cm_of (by decide +kernel) (Nat.le_of_ble_eq_true rfl) rfl (sgX10_isEight_0  hF)
theorem sgX10_isHour_0 {E : En} {Q : Option Value → Hi → Prop} {H : Hi} {x0 : Int32} 
    (hF : Cm E mX10_in [.int x0, .int (0 : Int32), .int (23 : Int32)] H (fun w H_1 => ∃ r_2 : Int32, w = some (.int r_2) ∧ (narrow .boolean (.int r_2) = .int r_2 ∧ Q (some (.int r_2)) H_1))) :
    Rm E mX10_isHour Q 0 [some (.int x0)] [] H := by
  refine rn_iload_n dX10_isHour_0 rfl ?_
  refine rn_iconst (x := (0 : Int32)) dX10_isHour_1 (by decide) ?_
  refine rn_bipush (x := (23 : Int32)) dX10_isHour_2 (by decide) ?_
  refine rm_callS (As := [.int x0, .int (0 : Int32), .int (23 : Int32)]) (st := []) mlRX10_110 mdX10_in (Nat.le_of_ble_eq_true rfl) rfl rfl (Nat.le_of_ble_eq_true rfl) ⟨Nat.le_refl _, Nat.le_refl _⟩ dX10_isHour_4 ?_
  refine cm_mono hF (fun w H_1 hF => ?_)
  obtain ⟨r_2, rfl, hF⟩ := hF
  exact rm_zret rfl hF.1 dX10_isHour_7 hF.2
theorem cmX10_isHour {E : En} {Q : Option Value → Hi → Prop} {H : Hi} {x0 : Int32} 
    (hF : Cm E mX10_in [.int x0, .int (0 : Int32), .int (23 : Int32)] H (fun w H_1 => ∃ r_2 : Int32, w = some (.int r_2) ∧ (narrow .boolean (.int r_2) = .int r_2 ∧ Q (some (.int r_2)) H_1))) :
    Cm E mX10_isHour [.int x0] H Q :=
  cm_of (by decide +kernel) (Nat.le_of_ble_eq_true rfl) rfl (sgX10_isHour_0  hF)
theorem sgX10_type_0 {E : En} {Q : Option Value → Hi → Prop} {H : Hi} {x1 : Int32} {x2 : Int32} 
    (hF : Cm E mX10_isText [.int x1] H (fun w H_1 => ∃ r_2 : Int32, w = some (.int r_2) ∧ ((r_2 = 0 → (Q (some (.int (-2 : Int32))) H_1)) ∧ (¬ r_2 = 0 → (Cm E mX10_in [.int x2, .int (0 : Int32), .int (255 : Int32)] H_1 (fun w H_4 => ∃ r_5 : Int32, w = some (.int r_5) ∧ ((¬ r_5 = 0 → (∃ j_7 : Nat, (j_7 < 2 ∧ x1 = nI j_7) ∧ ((¬ x1 = 0 → ((¬ (H_4 100 j_7) = (23 : Int32) → (∃ j_10 : Nat, (j_10 < 2 ∧ x1 = nI j_10) ∧ (∃ j_11 : Nat, (j_11 < 62 ∧ ((31 : Int32) * x1) + (H_4 100 j_10) = nI j_11) ∧ (∀ H_12 : Hi, H_12 = up H_4 101 j_11 x2 → (∃ j_13 : Nat, (j_13 < 2 ∧ x1 = nI j_13) ∧ (∃ j_14 : Nat, (j_14 < 2 ∧ x1 = nI j_14) ∧ (∀ H_15 : Hi, H_15 = up H_12 100 j_14 ((H_12 100 j_13) + (1 : Int32)) → (∃ j_16 : Nat, (j_16 < 2 ∧ x1 = nI j_16) ∧ (Q (some (.int (H_15 100 j_16))) H_15))))))))) ∧ ((H_4 100 j_7) = (23 : Int32) → (Q (some (.int (-4 : Int32))) H_4)))) ∧ (x1 = 0 → ((¬ (H_4 100 j_7) = (31 : Int32) → (∃ j_18 : Nat, (j_18 < 2 ∧ x1 = nI j_18) ∧ (∃ j_19 : Nat, (j_19 < 62 ∧ ((31 : Int32) * x1) + (H_4 100 j_18) = nI j_19) ∧ (∀ H_20 : Hi, H_20 = up H_4 101 j_19 x2 → (∃ j_21 : Nat, (j_21 < 2 ∧ x1 = nI j_21) ∧ (∃ j_22 : Nat, (j_22 < 2 ∧ x1 = nI j_22) ∧ (∀ H_23 : Hi, H_23 = up H_20 100 j_22 ((H_20 100 j_21) + (1 : Int32)) → (∃ j_24 : Nat, (j_24 < 2 ∧ x1 = nI j_24) ∧ (Q (some (.int (H_23 100 j_24))) H_23))))))))) ∧ ((H_4 100 j_7) = (31 : Int32) → (Q (some (.int (-4 : Int32))) H_4))))))) ∧ (r_5 = 0 → (Q (some (.int (-2 : Int32))) H_4))))))))) :
    Rm E mX10_type Q 0 [some (rf E 99), some (.int x1), some (.int x2)] [] H := by
  refine rn_iload_n dX10_type_0 rfl ?_
  refine rm_callS (As := [.int x1]) (st := []) mlRX10_114 mdX10_isText (Nat.le_of_ble_eq_true rfl) rfl rfl (Nat.le_of_ble_eq_true rfl) ⟨Nat.le_refl _, Nat.le_refl _⟩ dX10_type_1 ?_
  refine cm_mono hF (fun w H_1 hF => ?_)
  obtain ⟨r_2, rfl, hF⟩ := hF
  refine rn_if_eq (tgt := 18) dX10_type_4 (by decide) (fun hc_3 => ?_) (fun hc_3 => ?_)
  · replace hF := hF.1 hc_3
    refine rn_bipush (x := (-2 : Int32)) dX10_type_18 (by decide) ?_
    exact rm_iret rfl dX10_type_20 hF
  · replace hF := hF.2 hc_3
    refine rn_iload_n dX10_type_7 rfl ?_
    refine rn_iconst (x := (0 : Int32)) dX10_type_8 (by decide) ?_
    refine rn_sipush (x := (255 : Int32)) dX10_type_9 (by decide) ?_
    refine rm_callS (As := [.int x2, .int (0 : Int32), .int (255 : Int32)]) (st := []) mlRX10_110 mdX10_in (Nat.le_of_ble_eq_true rfl) rfl rfl (Nat.le_of_ble_eq_true rfl) ⟨Nat.le_refl _, Nat.le_refl _⟩ dX10_type_12 ?_
    refine cm_mono hF (fun w H_4 hF => ?_)
    obtain ⟨r_5, rfl, hF⟩ := hF
    refine rn_if_ne (tgt := 21) dX10_type_15 (by decide) (fun hc_6 => ?_) (fun hc_6 => ?_)
    · replace hF := hF.1 hc_6
      refine rn_aload_n dX10_type_21 rfl ?_
      refine rm_getr (r := 100) flRX10_7 rfl (by decide) rfl dX10_type_22 ?_
      refine rn_iload_n dX10_type_25 rfl ?_
      obtain ⟨j_7, hj_7, hF⟩ := hF
      refine rj_iald hj_7 rfl (by decide) rfl (by decide) dX10_type_26 ?_
      refine rn_iload_n dX10_type_27 rfl ?_
      refine rn_if_ne (tgt := 36) dX10_type_28 (by decide) (fun hc_8 => ?_) (fun hc_8 => ?_)
      · replace hF := hF.1 hc_8
        refine rn_bipush (x := (23 : Int32)) dX10_type_36 (by decide) ?_
        refine rn_icmp_ne (tgt := 44) dX10_type_38 (by decide) (fun hc_9 => ?_) (fun hc_9 => ?_)
        · replace hF := hF.1 hc_9
          refine rn_aload_n dX10_type_44 rfl ?_
          refine rm_getr (r := 101) flRX10_13 rfl (by decide) rfl dX10_type_45 ?_
          refine rn_bipush (x := (31 : Int32)) dX10_type_48 (by decide) ?_
          refine rn_iload_n dX10_type_50 rfl ?_
          refine rn_imul dX10_type_51 ?_
          refine rn_aload_n dX10_type_52 rfl ?_
          refine rm_getr (r := 100) flRX10_7 rfl (by decide) rfl dX10_type_53 ?_
          refine rn_iload_n dX10_type_56 rfl ?_
          obtain ⟨j_10, hj_10, hF⟩ := hF
          refine rj_iald hj_10 rfl (by decide) rfl (by decide) dX10_type_57 ?_
          refine rn_iadd dX10_type_58 ?_
          refine rn_iload_n dX10_type_59 rfl ?_
          obtain ⟨j_11, hj_11, hF⟩ := hF
          refine rj_iast hj_11 rfl (by decide) rfl (by decide) dX10_type_60 (fun H_12 eH_12 => ?_)
          replace hF := hF H_12 eH_12
          refine rn_aload_n dX10_type_61 rfl ?_
          refine rm_getr (r := 100) flRX10_7 rfl (by decide) rfl dX10_type_62 ?_
          refine rn_iload_n dX10_type_65 rfl ?_
          refine rn_dup2 dX10_type_66 rfl rfl ?_
          obtain ⟨j_13, hj_13, hF⟩ := hF
          refine rj_iald hj_13 rfl (by decide) rfl (by decide) dX10_type_67 ?_
          refine rn_iconst (x := (1 : Int32)) dX10_type_68 (by decide) ?_
          refine rn_iadd dX10_type_69 ?_
          obtain ⟨j_14, hj_14, hF⟩ := hF
          refine rj_iast hj_14 rfl (by decide) rfl (by decide) dX10_type_70 (fun H_15 eH_15 => ?_)
          replace hF := hF H_15 eH_15
          refine rn_aload_n dX10_type_71 rfl ?_
          refine rm_getr (r := 100) flRX10_7 rfl (by decide) rfl dX10_type_72 ?_
          refine rn_iload_n dX10_type_75 rfl ?_
          obtain ⟨j_16, hj_16, hF⟩ := hF
          refine rj_iald hj_16 rfl (by decide) rfl (by decide) dX10_type_76 ?_
          exact rm_iret rfl dX10_type_77 hF
        · replace hF := hF.2 hc_9
          refine rn_bipush (x := (-4 : Int32)) dX10_type_41 (by decide) ?_
          exact rm_iret rfl dX10_type_43 hF
      · replace hF := hF.2 hc_8
        refine rn_bipush (x := (31 : Int32)) dX10_type_31 (by decide) ?_
        refine rn_goto (tgt := 38) dX10_type_33 (by decide) ?_
        refine rn_icmp_ne (tgt := 44) dX10_type_38 (by decide) (fun hc_17 => ?_) (fun hc_17 => ?_)
        · replace hF := hF.1 hc_17
          refine rn_aload_n dX10_type_44 rfl ?_
          refine rm_getr (r := 101) flRX10_13 rfl (by decide) rfl dX10_type_45 ?_
          refine rn_bipush (x := (31 : Int32)) dX10_type_48 (by decide) ?_
          refine rn_iload_n dX10_type_50 rfl ?_
          refine rn_imul dX10_type_51 ?_
          refine rn_aload_n dX10_type_52 rfl ?_
          refine rm_getr (r := 100) flRX10_7 rfl (by decide) rfl dX10_type_53 ?_
          refine rn_iload_n dX10_type_56 rfl ?_
          obtain ⟨j_18, hj_18, hF⟩ := hF
          refine rj_iald hj_18 rfl (by decide) rfl (by decide) dX10_type_57 ?_
          refine rn_iadd dX10_type_58 ?_
          refine rn_iload_n dX10_type_59 rfl ?_
          obtain ⟨j_19, hj_19, hF⟩ := hF
          refine rj_iast hj_19 rfl (by decide) rfl (by decide) dX10_type_60 (fun H_20 eH_20 => ?_)
          replace hF := hF H_20 eH_20
          refine rn_aload_n dX10_type_61 rfl ?_
          refine rm_getr (r := 100) flRX10_7 rfl (by decide) rfl dX10_type_62 ?_
          refine rn_iload_n dX10_type_65 rfl ?_
          refine rn_dup2 dX10_type_66 rfl rfl ?_
          obtain ⟨j_21, hj_21, hF⟩ := hF
          refine rj_iald hj_21 rfl (by decide) rfl (by decide) dX10_type_67 ?_
          refine rn_iconst (x := (1 : Int32)) dX10_type_68 (by decide) ?_
          refine rn_iadd dX10_type_69 ?_
          obtain ⟨j_22, hj_22, hF⟩ := hF
          refine rj_iast hj_22 rfl (by decide) rfl (by decide) dX10_type_70 (fun H_23 eH_23 => ?_)
          replace hF := hF H_23 eH_23
          refine rn_aload_n dX10_type_71 rfl ?_
          refine rm_getr (r := 100) flRX10_7 rfl (by decide) rfl dX10_type_72 ?_
          refine rn_iload_n dX10_type_75 rfl ?_
          obtain ⟨j_24, hj_24, hF⟩ := hF
          refine rj_iald hj_24 rfl (by decide) rfl (by decide) dX10_type_76 ?_
          exact rm_iret rfl dX10_type_77 hF
        · replace hF := hF.2 hc_17
          refine rn_bipush (x := (-4 : Int32)) dX10_type_41 (by decide) ?_
          exact rm_iret rfl dX10_type_43 hF
    · replace hF := hF.2 hc_6
      refine rn_bipush (x := (-2 : Int32)) dX10_type_18 (by decide) ?_
      exact rm_iret rfl dX10_type_20 hF
theorem cmX10_type {E : En} {Q : Option Value → Hi → Prop} {H : Hi} {x1 : Int32} {x2 : Int32} 
    (hF : Cm E mX10_isText [.int x1] H (fun w H_1 => ∃ r_2 : Int32, w = some (.int r_2) ∧ ((r_2 = 0 → (Q (some (.int (-2 : Int32))) H_1)) ∧ (¬ r_2 = 0 → (Cm E mX10_in [.int x2, .int (0 : Int32), .int (255 : Int32)] H_1 (fun w H_4 => ∃ r_5 : Int32, w = some (.int r_5) ∧ ((¬ r_5 = 0 → (∃ j_7 : Nat, (j_7 < 2 ∧ x1 = nI j_7) ∧ ((¬ x1 = 0 → ((¬ (H_4 100 j_7) = (23 : Int32) → (∃ j_10 : Nat, (j_10 < 2 ∧ x1 = nI j_10) ∧ (∃ j_11 : Nat, (j_11 < 62 ∧ ((31 : Int32) * x1) + (H_4 100 j_10) = nI j_11) ∧ (∀ H_12 : Hi, H_12 = up H_4 101 j_11 x2 → (∃ j_13 : Nat, (j_13 < 2 ∧ x1 = nI j_13) ∧ (∃ j_14 : Nat, (j_14 < 2 ∧ x1 = nI j_14) ∧ (∀ H_15 : Hi, H_15 = up H_12 100 j_14 ((H_12 100 j_13) + (1 : Int32)) → (∃ j_16 : Nat, (j_16 < 2 ∧ x1 = nI j_16) ∧ (Q (some (.int (H_15 100 j_16))) H_15))))))))) ∧ ((H_4 100 j_7) = (23 : Int32) → (Q (some (.int (-4 : Int32))) H_4)))) ∧ (x1 = 0 → ((¬ (H_4 100 j_7) = (31 : Int32) → (∃ j_18 : Nat, (j_18 < 2 ∧ x1 = nI j_18) ∧ (∃ j_19 : Nat, (j_19 < 62 ∧ ((31 : Int32) * x1) + (H_4 100 j_18) = nI j_19) ∧ (∀ H_20 : Hi, H_20 = up H_4 101 j_19 x2 → (∃ j_21 : Nat, (j_21 < 2 ∧ x1 = nI j_21) ∧ (∃ j_22 : Nat, (j_22 < 2 ∧ x1 = nI j_22) ∧ (∀ H_23 : Hi, H_23 = up H_20 100 j_22 ((H_20 100 j_21) + (1 : Int32)) → (∃ j_24 : Nat, (j_24 < 2 ∧ x1 = nI j_24) ∧ (Q (some (.int (H_23 100 j_24))) H_23))))))))) ∧ ((H_4 100 j_7) = (31 : Int32) → (Q (some (.int (-4 : Int32))) H_4))))))) ∧ (r_5 = 0 → (Q (some (.int (-2 : Int32))) H_4))))))))) :
    Cm E mX10_type [rf E 99, .int x1, .int x2] H Q :=
  cm_of (by decide +kernel) (Nat.le_of_ble_eq_true rfl) rfl (sgX10_type_0  hF)
theorem sgX10_wipe_0 {E : En} {Q : Option Value → Hi → Prop} {H : Hi} {x1 : Int32} 
    (hF : Cm E mX10_isText [.int x1] H (fun w H_1 => ∃ r_2 : Int32, w = some (.int r_2) ∧ ((¬ r_2 = 0 → (∃ j_4 : Nat, (j_4 < 2 ∧ x1 = nI j_4) ∧ (∀ x2_5 : Int32, x2_5 = H_1 100 j_4 → (∃ j_6 : Nat, (j_6 < 2 ∧ x1 = nI j_6) ∧ (∀ H_7 : Hi, H_7 = up H_1 100 j_6 (0 : Int32) → (Q (some (.int x2_5)) H_7)))))) ∧ (r_2 = 0 → (Q (some (.int (-2 : Int32))) H_1))))) :
    Rm E mX10_wipe Q 0 [some (rf E 99), some (.int x1), none] [] H := by
  refine rn_iload_n dX10_wipe_0 rfl ?_
  refine rm_callS (As := [.int x1]) (st := []) mlRX10_114 mdX10_isText (Nat.le_of_ble_eq_true rfl) rfl rfl (Nat.le_of_ble_eq_true rfl) ⟨Nat.le_refl _, Nat.le_refl _⟩ dX10_wipe_1 ?_
  refine cm_mono hF (fun w H_1 hF => ?_)
  obtain ⟨r_2, rfl, hF⟩ := hF
  refine rn_if_ne (tgt := 10) dX10_wipe_4 (by decide) (fun hc_3 => ?_) (fun hc_3 => ?_)
  · replace hF := hF.1 hc_3
    refine rn_aload_n dX10_wipe_10 rfl ?_
    refine rm_getr (r := 100) flRX10_7 rfl (by decide) rfl dX10_wipe_11 ?_
    refine rn_iload_n dX10_wipe_14 rfl ?_
    obtain ⟨j_4, hj_4, hF⟩ := hF
    refine rj_iald hj_4 rfl (by decide) rfl (by decide) dX10_wipe_15 ?_
    refine rn_istore_n dX10_wipe_16 rfl (by decide) (fun x2_5 ex2_5 => ?_)
    replace hF := hF x2_5 ex2_5
    refine rn_aload_n dX10_wipe_17 rfl ?_
    refine rm_getr (r := 100) flRX10_7 rfl (by decide) rfl dX10_wipe_18 ?_
    refine rn_iload_n dX10_wipe_21 rfl ?_
    refine rn_iconst (x := (0 : Int32)) dX10_wipe_22 (by decide) ?_
    obtain ⟨j_6, hj_6, hF⟩ := hF
    refine rj_iast hj_6 rfl (by decide) rfl (by decide) dX10_wipe_23 (fun H_7 eH_7 => ?_)
    replace hF := hF H_7 eH_7
    refine rn_iload_n dX10_wipe_24 rfl ?_
    exact rm_iret rfl dX10_wipe_25 hF
  · replace hF := hF.2 hc_3
    refine rn_bipush (x := (-2 : Int32)) dX10_wipe_7 (by decide) ?_
    exact rm_iret rfl dX10_wipe_9 hF
theorem cmX10_wipe {E : En} {Q : Option Value → Hi → Prop} {H : Hi} {x1 : Int32} 
    (hF : Cm E mX10_isText [.int x1] H (fun w H_1 => ∃ r_2 : Int32, w = some (.int r_2) ∧ ((¬ r_2 = 0 → (∃ j_4 : Nat, (j_4 < 2 ∧ x1 = nI j_4) ∧ (∀ x2_5 : Int32, x2_5 = H_1 100 j_4 → (∃ j_6 : Nat, (j_6 < 2 ∧ x1 = nI j_6) ∧ (∀ H_7 : Hi, H_7 = up H_1 100 j_6 (0 : Int32) → (Q (some (.int x2_5)) H_7)))))) ∧ (r_2 = 0 → (Q (some (.int (-2 : Int32))) H_1))))) :
    Cm E mX10_wipe [rf E 99, .int x1] H Q :=
  cm_of (by decide +kernel) (Nat.le_of_ble_eq_true rfl) rfl (sgX10_wipe_0  hF)
theorem sgX10_undo_0 {E : En} {Q : Option Value → Hi → Prop} {H : Hi} {x1 : Int32} 
    (hF : Cm E mX10_isText [.int x1] H (fun w H_1 => ∃ r_2 : Int32, w = some (.int r_2) ∧ ((¬ r_2 = 0 → (∃ j_4 : Nat, (j_4 < 2 ∧ x1 = nI j_4) ∧ ((¬ (H_1 100 j_4) = 0 → (∃ j_6 : Nat, (j_6 < 2 ∧ x1 = nI j_6) ∧ (∃ j_7 : Nat, (j_7 < 2 ∧ x1 = nI j_7) ∧ (∀ H_8 : Hi, H_8 = up H_1 100 j_7 ((H_1 100 j_6) - (1 : Int32)) → (∃ j_9 : Nat, (j_9 < 2 ∧ x1 = nI j_9) ∧ (Q (some (.int (H_8 100 j_9))) H_8)))))) ∧ ((H_1 100 j_4) = 0 → (Q (some (.int (-3 : Int32))) H_1))))) ∧ (r_2 = 0 → (Q (some (.int (-2 : Int32))) H_1))))) :
    Rm E mX10_undo Q 0 [some (rf E 99), some (.int x1)] [] H := by
  refine rn_iload_n dX10_undo_0 rfl ?_
  refine rm_callS (As := [.int x1]) (st := []) mlRX10_114 mdX10_isText (Nat.le_of_ble_eq_true rfl) rfl rfl (Nat.le_of_ble_eq_true rfl) ⟨Nat.le_refl _, Nat.le_refl _⟩ dX10_undo_1 ?_
  refine cm_mono hF (fun w H_1 hF => ?_)
  obtain ⟨r_2, rfl, hF⟩ := hF
  refine rn_if_ne (tgt := 10) dX10_undo_4 (by decide) (fun hc_3 => ?_) (fun hc_3 => ?_)
  · replace hF := hF.1 hc_3
    refine rn_aload_n dX10_undo_10 rfl ?_
    refine rm_getr (r := 100) flRX10_7 rfl (by decide) rfl dX10_undo_11 ?_
    refine rn_iload_n dX10_undo_14 rfl ?_
    obtain ⟨j_4, hj_4, hF⟩ := hF
    refine rj_iald hj_4 rfl (by decide) rfl (by decide) dX10_undo_15 ?_
    refine rn_if_ne (tgt := 22) dX10_undo_16 (by decide) (fun hc_5 => ?_) (fun hc_5 => ?_)
    · replace hF := hF.1 hc_5
      refine rn_aload_n dX10_undo_22 rfl ?_
      refine rm_getr (r := 100) flRX10_7 rfl (by decide) rfl dX10_undo_23 ?_
      refine rn_iload_n dX10_undo_26 rfl ?_
      refine rn_dup2 dX10_undo_27 rfl rfl ?_
      obtain ⟨j_6, hj_6, hF⟩ := hF
      refine rj_iald hj_6 rfl (by decide) rfl (by decide) dX10_undo_28 ?_
      refine rn_iconst (x := (1 : Int32)) dX10_undo_29 (by decide) ?_
      refine rn_isub dX10_undo_30 ?_
      obtain ⟨j_7, hj_7, hF⟩ := hF
      refine rj_iast hj_7 rfl (by decide) rfl (by decide) dX10_undo_31 (fun H_8 eH_8 => ?_)
      replace hF := hF H_8 eH_8
      refine rn_aload_n dX10_undo_32 rfl ?_
      refine rm_getr (r := 100) flRX10_7 rfl (by decide) rfl dX10_undo_33 ?_
      refine rn_iload_n dX10_undo_36 rfl ?_
      obtain ⟨j_9, hj_9, hF⟩ := hF
      refine rj_iald hj_9 rfl (by decide) rfl (by decide) dX10_undo_37 ?_
      exact rm_iret rfl dX10_undo_38 hF
    · replace hF := hF.2 hc_5
      refine rn_bipush (x := (-3 : Int32)) dX10_undo_19 (by decide) ?_
      exact rm_iret rfl dX10_undo_21 hF
  · replace hF := hF.2 hc_3
    refine rn_bipush (x := (-2 : Int32)) dX10_undo_7 (by decide) ?_
    exact rm_iret rfl dX10_undo_9 hF
theorem cmX10_undo {E : En} {Q : Option Value → Hi → Prop} {H : Hi} {x1 : Int32} 
    (hF : Cm E mX10_isText [.int x1] H (fun w H_1 => ∃ r_2 : Int32, w = some (.int r_2) ∧ ((¬ r_2 = 0 → (∃ j_4 : Nat, (j_4 < 2 ∧ x1 = nI j_4) ∧ ((¬ (H_1 100 j_4) = 0 → (∃ j_6 : Nat, (j_6 < 2 ∧ x1 = nI j_6) ∧ (∃ j_7 : Nat, (j_7 < 2 ∧ x1 = nI j_7) ∧ (∀ H_8 : Hi, H_8 = up H_1 100 j_7 ((H_1 100 j_6) - (1 : Int32)) → (∃ j_9 : Nat, (j_9 < 2 ∧ x1 = nI j_9) ∧ (Q (some (.int (H_8 100 j_9))) H_8)))))) ∧ ((H_1 100 j_4) = 0 → (Q (some (.int (-3 : Int32))) H_1))))) ∧ (r_2 = 0 → (Q (some (.int (-2 : Int32))) H_1))))) :
    Cm E mX10_undo [rf E 99, .int x1] H Q :=
  cm_of (by decide +kernel) (Nat.le_of_ble_eq_true rfl) rfl (sgX10_undo_0  hF)
theorem sgX10_byteAt_0 {E : En} {Q : Option Value → Hi → Prop} {H : Hi} {x1 : Int32} {x2 : Int32} 
    (hF : ∃ j_1 : Nat, (j_1 < 2 ∧ x1 = nI j_1) ∧ (((H 100 j_1) ≤ x2 → (Q (some (.int (-1 : Int32))) H)) ∧ (¬ (H 100 j_1) ≤ x2 → (∃ j_3 : Nat, (j_3 < 62 ∧ ((31 : Int32) * x1) + x2 = nI j_3) ∧ (Q (some (.int (H 101 j_3))) H))))) :
    Rm E mX10_byteAt Q 0 [some (rf E 99), some (.int x1), some (.int x2)] [] H := by
  refine rn_iload_n dX10_byteAt_0 rfl ?_
  refine rn_aload_n dX10_byteAt_1 rfl ?_
  refine rm_getr (r := 100) flRX10_7 rfl (by decide) rfl dX10_byteAt_2 ?_
  refine rn_iload_n dX10_byteAt_5 rfl ?_
  obtain ⟨j_1, hj_1, hF⟩ := hF
  refine rj_iald hj_1 rfl (by decide) rfl (by decide) dX10_byteAt_6 ?_
  refine rn_icmp_ge (tgt := 24) dX10_byteAt_7 (by decide) (fun hc_2 => ?_) (fun hc_2 => ?_)
  · replace hF := hF.1 hc_2
    refine rn_iconst (x := (-1 : Int32)) dX10_byteAt_24 (by decide) ?_
    exact rm_iret rfl dX10_byteAt_25 hF
  · replace hF := hF.2 hc_2
    refine rn_aload_n dX10_byteAt_10 rfl ?_
    refine rm_getr (r := 101) flRX10_13 rfl (by decide) rfl dX10_byteAt_11 ?_
    refine rn_bipush (x := (31 : Int32)) dX10_byteAt_14 (by decide) ?_
    refine rn_iload_n dX10_byteAt_16 rfl ?_
    refine rn_imul dX10_byteAt_17 ?_
    refine rn_iload_n dX10_byteAt_18 rfl ?_
    refine rn_iadd dX10_byteAt_19 ?_
    obtain ⟨j_3, hj_3, hF⟩ := hF
    refine rj_iald hj_3 rfl (by decide) rfl (by decide) dX10_byteAt_20 ?_
    refine rn_goto (tgt := 25) dX10_byteAt_21 (by decide) ?_
    exact rm_iret rfl dX10_byteAt_25 hF
theorem cmX10_byteAt {E : En} {Q : Option Value → Hi → Prop} {H : Hi} {x1 : Int32} {x2 : Int32} 
    (hF : ∃ j_1 : Nat, (j_1 < 2 ∧ x1 = nI j_1) ∧ (((H 100 j_1) ≤ x2 → (Q (some (.int (-1 : Int32))) H)) ∧ (¬ (H 100 j_1) ≤ x2 → (∃ j_3 : Nat, (j_3 < 62 ∧ ((31 : Int32) * x1) + x2 = nI j_3) ∧ (Q (some (.int (H 101 j_3))) H))))) :
    Cm E mX10_byteAt [rf E 99, .int x1, .int x2] H Q :=
  cm_of (by decide +kernel) (Nat.le_of_ble_eq_true rfl) rfl (sgX10_byteAt_0  hF)
theorem sgX10_readsThing_0 {E : En} {Q : Option Value → Hi → Prop} {H : Hi} {x1 : Int32} {x2 : Int32} 
    (hF : Cm E mX10_byteAt [rf E 99, .int (0 : Int32), .int x2] H (fun w H_1 => ∃ r_2 : Int32, w = some (.int r_2) ∧ (∀ x3_3 : Int32, x3_3 = r_2 - (48 : Int32) → (Cm E mX10_byteAt [rf E 99, .int (0 : Int32), .int (x2 + (1 : Int32))] H_1 (fun w H_4 => ∃ r_5 : Int32, w = some (.int r_5) ∧ (∀ x4_6 : Int32, x4_6 = r_5 - (48 : Int32) → (Cm E mX10_byteAt [rf E 99, .int (0 : Int32), .int (x2 + (2 : Int32))] H_4 (fun w H_7 => ∃ r_8 : Int32, w = some (.int r_8) ∧ ((¬ r_8 = (111 : Int32) → ((¬ r_8 = (115 : Int32) → ((¬ r_8 = (102 : Int32) → (Cm E mX10_in [.int x3_3, .int (1 : Int32), .int (9 : Int32)] H_7 (fun w H_14 => ∃ r_15 : Int32, w = some (.int r_15) ∧ ((¬ r_15 = 0 → (Cm E mX10_isEight [.int x4_6] H_14 (fun w H_17 => ∃ r_18 : Int32, w = some (.int r_18) ∧ ((¬ r_18 = 0 → ((¬ (-1 : Int32) = (-1 : Int32) → (∃ j_21 : Nat, (j_21 < 9 ∧ x1 = nI j_21) ∧ (∀ H_22 : Hi, H_22 = up H_17 102 j_21 x3_3 → (∃ j_23 : Nat, (j_23 < 9 ∧ x1 = nI j_23) ∧ (∀ H_24 : Hi, H_24 = up H_22 103 j_23 x4_6 → (∃ j_25 : Nat, (j_25 < 9 ∧ x1 = nI j_25) ∧ (∀ H_26 : Hi, H_26 = up H_24 104 j_25 (-1 : Int32) → (Q (some (.int (3 : Int32))) H_26)))))))) ∧ ((-1 : Int32) = (-1 : Int32) → (Q (some (.int (2 : Int32))) H_17)))) ∧ (r_18 = 0 → (Q (some (.int (1 : Int32))) H_17)))))) ∧ (r_15 = 0 → (Q (some (.int (0 : Int32))) H_14)))))) ∧ (r_8 = (102 : Int32) → (Cm E mX10_in [.int x3_3, .int (1 : Int32), .int (9 : Int32)] H_7 (fun w H_28 => ∃ r_29 : Int32, w = some (.int r_29) ∧ ((¬ r_29 = 0 → (Cm E mX10_isEight [.int x4_6] H_28 (fun w H_31 => ∃ r_32 : Int32, w = some (.int r_32) ∧ ((¬ r_32 = 0 → ((¬ (2 : Int32) = (-1 : Int32) → (∃ j_35 : Nat, (j_35 < 9 ∧ x1 = nI j_35) ∧ (∀ H_36 : Hi, H_36 = up H_31 102 j_35 x3_3 → (∃ j_37 : Nat, (j_37 < 9 ∧ x1 = nI j_37) ∧ (∀ H_38 : Hi, H_38 = up H_36 103 j_37 x4_6 → (∃ j_39 : Nat, (j_39 < 9 ∧ x1 = nI j_39) ∧ (∀ H_40 : Hi, H_40 = up H_38 104 j_39 (2 : Int32) → (Q (some (.int (3 : Int32))) H_40)))))))) ∧ ((2 : Int32) = (-1 : Int32) → (Q (some (.int (2 : Int32))) H_31)))) ∧ (r_32 = 0 → (Q (some (.int (1 : Int32))) H_31)))))) ∧ (r_29 = 0 → (Q (some (.int (0 : Int32))) H_28)))))))) ∧ (r_8 = (115 : Int32) → (Cm E mX10_in [.int x3_3, .int (1 : Int32), .int (9 : Int32)] H_7 (fun w H_42 => ∃ r_43 : Int32, w = some (.int r_43) ∧ ((¬ r_43 = 0 → (Cm E mX10_isEight [.int x4_6] H_42 (fun w H_45 => ∃ r_46 : Int32, w = some (.int r_46) ∧ ((¬ r_46 = 0 → ((¬ (1 : Int32) = (-1 : Int32) → (∃ j_49 : Nat, (j_49 < 9 ∧ x1 = nI j_49) ∧ (∀ H_50 : Hi, H_50 = up H_45 102 j_49 x3_3 → (∃ j_51 : Nat, (j_51 < 9 ∧ x1 = nI j_51) ∧ (∀ H_52 : Hi, H_52 = up H_50 103 j_51 x4_6 → (∃ j_53 : Nat, (j_53 < 9 ∧ x1 = nI j_53) ∧ (∀ H_54 : Hi, H_54 = up H_52 104 j_53 (1 : Int32) → (Q (some (.int (3 : Int32))) H_54)))))))) ∧ ((1 : Int32) = (-1 : Int32) → (Q (some (.int (2 : Int32))) H_45)))) ∧ (r_46 = 0 → (Q (some (.int (1 : Int32))) H_45)))))) ∧ (r_43 = 0 → (Q (some (.int (0 : Int32))) H_42)))))))) ∧ (r_8 = (111 : Int32) → (Cm E mX10_in [.int x3_3, .int (1 : Int32), .int (9 : Int32)] H_7 (fun w H_56 => ∃ r_57 : Int32, w = some (.int r_57) ∧ ((¬ r_57 = 0 → (Cm E mX10_isEight [.int x4_6] H_56 (fun w H_59 => ∃ r_60 : Int32, w = some (.int r_60) ∧ ((¬ r_60 = 0 → ((¬ (0 : Int32) = (-1 : Int32) → (∃ j_63 : Nat, (j_63 < 9 ∧ x1 = nI j_63) ∧ (∀ H_64 : Hi, H_64 = up H_59 102 j_63 x3_3 → (∃ j_65 : Nat, (j_65 < 9 ∧ x1 = nI j_65) ∧ (∀ H_66 : Hi, H_66 = up H_64 103 j_65 x4_6 → (∃ j_67 : Nat, (j_67 < 9 ∧ x1 = nI j_67) ∧ (∀ H_68 : Hi, H_68 = up H_66 104 j_67 (0 : Int32) → (Q (some (.int (3 : Int32))) H_68)))))))) ∧ ((0 : Int32) = (-1 : Int32) → (Q (some (.int (2 : Int32))) H_59)))) ∧ (r_60 = 0 → (Q (some (.int (1 : Int32))) H_59)))))) ∧ (r_57 = 0 → (Q (some (.int (0 : Int32))) H_56))))))))))))))) :
    Rm E mX10_readsThing Q 0 [some (rf E 99), some (.int x1), some (.int x2), none, none, none, none] [] H := by
  refine rn_aload_n dX10_readsThing_0 rfl ?_
  refine rn_iconst (x := (0 : Int32)) dX10_readsThing_1 (by decide) ?_
  refine rn_iload_n dX10_readsThing_2 rfl ?_
  refine rm_callV (c0 := 99) (As := [.int (0 : Int32), .int x2]) (st := []) mlRX10_118 mdX10_byteAt (Nat.le_of_ble_eq_true rfl) rfl (by decide) (by decide) rfl rfl rfl (Nat.le_of_ble_eq_true rfl) ⟨Nat.le_refl _, Nat.le_refl _⟩ dX10_readsThing_3 ?_
  refine cm_mono hF (fun w H_1 hF => ?_)
  obtain ⟨r_2, rfl, hF⟩ := hF
  refine rn_bipush (x := (48 : Int32)) dX10_readsThing_6 (by decide) ?_
  refine rn_isub dX10_readsThing_8 ?_
  refine rn_istore_n dX10_readsThing_9 rfl (by decide) (fun x3_3 ex3_3 => ?_)
  replace hF := hF x3_3 ex3_3
  refine rn_aload_n dX10_readsThing_10 rfl ?_
  refine rn_iconst (x := (0 : Int32)) dX10_readsThing_11 (by decide) ?_
  refine rn_iload_n dX10_readsThing_12 rfl ?_
  refine rn_iconst (x := (1 : Int32)) dX10_readsThing_13 (by decide) ?_
  refine rn_iadd dX10_readsThing_14 ?_
  refine rm_callV (c0 := 99) (As := [.int (0 : Int32), .int (x2 + (1 : Int32))]) (st := []) mlRX10_118 mdX10_byteAt (Nat.le_of_ble_eq_true rfl) rfl (by decide) (by decide) rfl rfl rfl (Nat.le_of_ble_eq_true rfl) ⟨Nat.le_refl _, Nat.le_refl _⟩ dX10_readsThing_15 ?_
  refine cm_mono hF (fun w H_4 hF => ?_)
  obtain ⟨r_5, rfl, hF⟩ := hF
  refine rn_bipush (x := (48 : Int32)) dX10_readsThing_18 (by decide) ?_
  refine rn_isub dX10_readsThing_20 ?_
  refine rn_istore dX10_readsThing_21 rfl (by decide) (fun x4_6 ex4_6 => ?_)
  replace hF := hF x4_6 ex4_6
  refine rn_aload_n dX10_readsThing_23 rfl ?_
  refine rn_iconst (x := (0 : Int32)) dX10_readsThing_24 (by decide) ?_
  refine rn_iload_n dX10_readsThing_25 rfl ?_
  refine rn_iconst (x := (2 : Int32)) dX10_readsThing_26 (by decide) ?_
  refine rn_iadd dX10_readsThing_27 ?_
  refine rm_callV (c0 := 99) (As := [.int (0 : Int32), .int (x2 + (2 : Int32))]) (st := []) mlRX10_118 mdX10_byteAt (Nat.le_of_ble_eq_true rfl) rfl (by decide) (by decide) rfl rfl rfl (Nat.le_of_ble_eq_true rfl) ⟨Nat.le_refl _, Nat.le_refl _⟩ dX10_readsThing_28 ?_
  refine cm_mono hF (fun w H_7 hF => ?_)
  obtain ⟨r_8, rfl, hF⟩ := hF
  refine rn_istore dX10_readsThing_31 rfl (by decide) (fun x5_9 ex5_9 => ?_)
  subst ex5_9
  refine rn_iload dX10_readsThing_33 rfl ?_
  refine rn_bipush (x := (111 : Int32)) dX10_readsThing_35 (by decide) ?_
  refine rn_icmp_ne (tgt := 44) dX10_readsThing_37 (by decide) (fun hc_10 => ?_) (fun hc_10 => ?_)
  · replace hF := hF.1 hc_10
    refine rn_iload dX10_readsThing_44 rfl ?_
    refine rn_bipush (x := (115 : Int32)) dX10_readsThing_46 (by decide) ?_
    refine rn_icmp_ne (tgt := 55) dX10_readsThing_48 (by decide) (fun hc_11 => ?_) (fun hc_11 => ?_)
    · replace hF := hF.1 hc_11
      refine rn_iload dX10_readsThing_55 rfl ?_
      refine rn_bipush (x := (102 : Int32)) dX10_readsThing_57 (by decide) ?_
      refine rn_icmp_ne (tgt := 66) dX10_readsThing_59 (by decide) (fun hc_12 => ?_) (fun hc_12 => ?_)
      · replace hF := hF.1 hc_12
        refine rn_iconst (x := (-1 : Int32)) dX10_readsThing_66 (by decide) ?_
        refine rn_istore dX10_readsThing_67 rfl (by decide) (fun x6_13 ex6_13 => ?_)
        subst ex6_13
        refine rn_iload_n dX10_readsThing_69 rfl ?_
        refine rn_iconst (x := (1 : Int32)) dX10_readsThing_70 (by decide) ?_
        refine rn_bipush (x := (9 : Int32)) dX10_readsThing_71 (by decide) ?_
        refine rm_callS (As := [.int x3_3, .int (1 : Int32), .int (9 : Int32)]) (st := []) mlRX10_110 mdX10_in (Nat.le_of_ble_eq_true rfl) rfl rfl (Nat.le_of_ble_eq_true rfl) ⟨Nat.le_refl _, Nat.le_refl _⟩ dX10_readsThing_73 ?_
        refine cm_mono hF (fun w H_14 hF => ?_)
        obtain ⟨r_15, rfl, hF⟩ := hF
        refine rn_if_ne (tgt := 81) dX10_readsThing_76 (by decide) (fun hc_16 => ?_) (fun hc_16 => ?_)
        · replace hF := hF.1 hc_16
          refine rn_iload dX10_readsThing_81 rfl ?_
          refine rm_callS (As := [.int x4_6]) (st := []) mlRX10_122 mdX10_isEight (Nat.le_of_ble_eq_true rfl) rfl rfl (Nat.le_of_ble_eq_true rfl) ⟨Nat.le_refl _, Nat.le_refl _⟩ dX10_readsThing_83 ?_
          refine cm_mono hF (fun w H_17 hF => ?_)
          obtain ⟨r_18, rfl, hF⟩ := hF
          refine rn_if_ne (tgt := 91) dX10_readsThing_86 (by decide) (fun hc_19 => ?_) (fun hc_19 => ?_)
          · replace hF := hF.1 hc_19
            refine rn_iload dX10_readsThing_91 rfl ?_
            refine rn_iconst (x := (-1 : Int32)) dX10_readsThing_93 (by decide) ?_
            refine rn_icmp_ne (tgt := 99) dX10_readsThing_94 (by decide) (fun hc_20 => ?_) (fun hc_20 => ?_)
            · replace hF := hF.1 hc_20
              refine rn_aload_n dX10_readsThing_99 rfl ?_
              refine rm_getr (r := 102) flRX10_16 rfl (by decide) rfl dX10_readsThing_100 ?_
              refine rn_iload_n dX10_readsThing_103 rfl ?_
              refine rn_iload_n dX10_readsThing_104 rfl ?_
              obtain ⟨j_21, hj_21, hF⟩ := hF
              refine rj_iast hj_21 rfl (by decide) rfl (by decide) dX10_readsThing_105 (fun H_22 eH_22 => ?_)
              replace hF := hF H_22 eH_22
              refine rn_aload_n dX10_readsThing_106 rfl ?_
              refine rm_getr (r := 103) flRX10_19 rfl (by decide) rfl dX10_readsThing_107 ?_
              refine rn_iload_n dX10_readsThing_110 rfl ?_
              refine rn_iload dX10_readsThing_111 rfl ?_
              obtain ⟨j_23, hj_23, hF⟩ := hF
              refine rj_iast hj_23 rfl (by decide) rfl (by decide) dX10_readsThing_113 (fun H_24 eH_24 => ?_)
              replace hF := hF H_24 eH_24
              refine rn_aload_n dX10_readsThing_114 rfl ?_
              refine rm_getr (r := 104) flRX10_22 rfl (by decide) rfl dX10_readsThing_115 ?_
              refine rn_iload_n dX10_readsThing_118 rfl ?_
              refine rn_iload dX10_readsThing_119 rfl ?_
              obtain ⟨j_25, hj_25, hF⟩ := hF
              refine rj_iast hj_25 rfl (by decide) rfl (by decide) dX10_readsThing_121 (fun H_26 eH_26 => ?_)
              replace hF := hF H_26 eH_26
              refine rn_iconst (x := (3 : Int32)) dX10_readsThing_122 (by decide) ?_
              exact rm_iret rfl dX10_readsThing_123 hF
            · replace hF := hF.2 hc_20
              refine rn_iconst (x := (2 : Int32)) dX10_readsThing_97 (by decide) ?_
              exact rm_iret rfl dX10_readsThing_98 hF
          · replace hF := hF.2 hc_19
            refine rn_iconst (x := (1 : Int32)) dX10_readsThing_89 (by decide) ?_
            exact rm_iret rfl dX10_readsThing_90 hF
        · replace hF := hF.2 hc_16
          refine rn_iconst (x := (0 : Int32)) dX10_readsThing_79 (by decide) ?_
          exact rm_iret rfl dX10_readsThing_80 hF
      · replace hF := hF.2 hc_12
        refine rn_iconst (x := (2 : Int32)) dX10_readsThing_62 (by decide) ?_
        refine rn_goto (tgt := 67) dX10_readsThing_63 (by decide) ?_
        refine rn_istore dX10_readsThing_67 rfl (by decide) (fun x6_27 ex6_27 => ?_)
        subst ex6_27
        refine rn_iload_n dX10_readsThing_69 rfl ?_
        refine rn_iconst (x := (1 : Int32)) dX10_readsThing_70 (by decide) ?_
        refine rn_bipush (x := (9 : Int32)) dX10_readsThing_71 (by decide) ?_
        refine rm_callS (As := [.int x3_3, .int (1 : Int32), .int (9 : Int32)]) (st := []) mlRX10_110 mdX10_in (Nat.le_of_ble_eq_true rfl) rfl rfl (Nat.le_of_ble_eq_true rfl) ⟨Nat.le_refl _, Nat.le_refl _⟩ dX10_readsThing_73 ?_
        refine cm_mono hF (fun w H_28 hF => ?_)
        obtain ⟨r_29, rfl, hF⟩ := hF
        refine rn_if_ne (tgt := 81) dX10_readsThing_76 (by decide) (fun hc_30 => ?_) (fun hc_30 => ?_)
        · replace hF := hF.1 hc_30
          refine rn_iload dX10_readsThing_81 rfl ?_
          refine rm_callS (As := [.int x4_6]) (st := []) mlRX10_122 mdX10_isEight (Nat.le_of_ble_eq_true rfl) rfl rfl (Nat.le_of_ble_eq_true rfl) ⟨Nat.le_refl _, Nat.le_refl _⟩ dX10_readsThing_83 ?_
          refine cm_mono hF (fun w H_31 hF => ?_)
          obtain ⟨r_32, rfl, hF⟩ := hF
          refine rn_if_ne (tgt := 91) dX10_readsThing_86 (by decide) (fun hc_33 => ?_) (fun hc_33 => ?_)
          · replace hF := hF.1 hc_33
            refine rn_iload dX10_readsThing_91 rfl ?_
            refine rn_iconst (x := (-1 : Int32)) dX10_readsThing_93 (by decide) ?_
            refine rn_icmp_ne (tgt := 99) dX10_readsThing_94 (by decide) (fun hc_34 => ?_) (fun hc_34 => ?_)
            · replace hF := hF.1 hc_34
              refine rn_aload_n dX10_readsThing_99 rfl ?_
              refine rm_getr (r := 102) flRX10_16 rfl (by decide) rfl dX10_readsThing_100 ?_
              refine rn_iload_n dX10_readsThing_103 rfl ?_
              refine rn_iload_n dX10_readsThing_104 rfl ?_
              obtain ⟨j_35, hj_35, hF⟩ := hF
              refine rj_iast hj_35 rfl (by decide) rfl (by decide) dX10_readsThing_105 (fun H_36 eH_36 => ?_)
              replace hF := hF H_36 eH_36
              refine rn_aload_n dX10_readsThing_106 rfl ?_
              refine rm_getr (r := 103) flRX10_19 rfl (by decide) rfl dX10_readsThing_107 ?_
              refine rn_iload_n dX10_readsThing_110 rfl ?_
              refine rn_iload dX10_readsThing_111 rfl ?_
              obtain ⟨j_37, hj_37, hF⟩ := hF
              refine rj_iast hj_37 rfl (by decide) rfl (by decide) dX10_readsThing_113 (fun H_38 eH_38 => ?_)
              replace hF := hF H_38 eH_38
              refine rn_aload_n dX10_readsThing_114 rfl ?_
              refine rm_getr (r := 104) flRX10_22 rfl (by decide) rfl dX10_readsThing_115 ?_
              refine rn_iload_n dX10_readsThing_118 rfl ?_
              refine rn_iload dX10_readsThing_119 rfl ?_
              obtain ⟨j_39, hj_39, hF⟩ := hF
              refine rj_iast hj_39 rfl (by decide) rfl (by decide) dX10_readsThing_121 (fun H_40 eH_40 => ?_)
              replace hF := hF H_40 eH_40
              refine rn_iconst (x := (3 : Int32)) dX10_readsThing_122 (by decide) ?_
              exact rm_iret rfl dX10_readsThing_123 hF
            · replace hF := hF.2 hc_34
              refine rn_iconst (x := (2 : Int32)) dX10_readsThing_97 (by decide) ?_
              exact rm_iret rfl dX10_readsThing_98 hF
          · replace hF := hF.2 hc_33
            refine rn_iconst (x := (1 : Int32)) dX10_readsThing_89 (by decide) ?_
            exact rm_iret rfl dX10_readsThing_90 hF
        · replace hF := hF.2 hc_30
          refine rn_iconst (x := (0 : Int32)) dX10_readsThing_79 (by decide) ?_
          exact rm_iret rfl dX10_readsThing_80 hF
    · replace hF := hF.2 hc_11
      refine rn_iconst (x := (1 : Int32)) dX10_readsThing_51 (by decide) ?_
      refine rn_goto (tgt := 67) dX10_readsThing_52 (by decide) ?_
      refine rn_istore dX10_readsThing_67 rfl (by decide) (fun x6_41 ex6_41 => ?_)
      subst ex6_41
      refine rn_iload_n dX10_readsThing_69 rfl ?_
      refine rn_iconst (x := (1 : Int32)) dX10_readsThing_70 (by decide) ?_
      refine rn_bipush (x := (9 : Int32)) dX10_readsThing_71 (by decide) ?_
      refine rm_callS (As := [.int x3_3, .int (1 : Int32), .int (9 : Int32)]) (st := []) mlRX10_110 mdX10_in (Nat.le_of_ble_eq_true rfl) rfl rfl (Nat.le_of_ble_eq_true rfl) ⟨Nat.le_refl _, Nat.le_refl _⟩ dX10_readsThing_73 ?_
      refine cm_mono hF (fun w H_42 hF => ?_)
      obtain ⟨r_43, rfl, hF⟩ := hF
      refine rn_if_ne (tgt := 81) dX10_readsThing_76 (by decide) (fun hc_44 => ?_) (fun hc_44 => ?_)
      · replace hF := hF.1 hc_44
        refine rn_iload dX10_readsThing_81 rfl ?_
        refine rm_callS (As := [.int x4_6]) (st := []) mlRX10_122 mdX10_isEight (Nat.le_of_ble_eq_true rfl) rfl rfl (Nat.le_of_ble_eq_true rfl) ⟨Nat.le_refl _, Nat.le_refl _⟩ dX10_readsThing_83 ?_
        refine cm_mono hF (fun w H_45 hF => ?_)
        obtain ⟨r_46, rfl, hF⟩ := hF
        refine rn_if_ne (tgt := 91) dX10_readsThing_86 (by decide) (fun hc_47 => ?_) (fun hc_47 => ?_)
        · replace hF := hF.1 hc_47
          refine rn_iload dX10_readsThing_91 rfl ?_
          refine rn_iconst (x := (-1 : Int32)) dX10_readsThing_93 (by decide) ?_
          refine rn_icmp_ne (tgt := 99) dX10_readsThing_94 (by decide) (fun hc_48 => ?_) (fun hc_48 => ?_)
          · replace hF := hF.1 hc_48
            refine rn_aload_n dX10_readsThing_99 rfl ?_
            refine rm_getr (r := 102) flRX10_16 rfl (by decide) rfl dX10_readsThing_100 ?_
            refine rn_iload_n dX10_readsThing_103 rfl ?_
            refine rn_iload_n dX10_readsThing_104 rfl ?_
            obtain ⟨j_49, hj_49, hF⟩ := hF
            refine rj_iast hj_49 rfl (by decide) rfl (by decide) dX10_readsThing_105 (fun H_50 eH_50 => ?_)
            replace hF := hF H_50 eH_50
            refine rn_aload_n dX10_readsThing_106 rfl ?_
            refine rm_getr (r := 103) flRX10_19 rfl (by decide) rfl dX10_readsThing_107 ?_
            refine rn_iload_n dX10_readsThing_110 rfl ?_
            refine rn_iload dX10_readsThing_111 rfl ?_
            obtain ⟨j_51, hj_51, hF⟩ := hF
            refine rj_iast hj_51 rfl (by decide) rfl (by decide) dX10_readsThing_113 (fun H_52 eH_52 => ?_)
            replace hF := hF H_52 eH_52
            refine rn_aload_n dX10_readsThing_114 rfl ?_
            refine rm_getr (r := 104) flRX10_22 rfl (by decide) rfl dX10_readsThing_115 ?_
            refine rn_iload_n dX10_readsThing_118 rfl ?_
            refine rn_iload dX10_readsThing_119 rfl ?_
            obtain ⟨j_53, hj_53, hF⟩ := hF
            refine rj_iast hj_53 rfl (by decide) rfl (by decide) dX10_readsThing_121 (fun H_54 eH_54 => ?_)
            replace hF := hF H_54 eH_54
            refine rn_iconst (x := (3 : Int32)) dX10_readsThing_122 (by decide) ?_
            exact rm_iret rfl dX10_readsThing_123 hF
          · replace hF := hF.2 hc_48
            refine rn_iconst (x := (2 : Int32)) dX10_readsThing_97 (by decide) ?_
            exact rm_iret rfl dX10_readsThing_98 hF
        · replace hF := hF.2 hc_47
          refine rn_iconst (x := (1 : Int32)) dX10_readsThing_89 (by decide) ?_
          exact rm_iret rfl dX10_readsThing_90 hF
      · replace hF := hF.2 hc_44
        refine rn_iconst (x := (0 : Int32)) dX10_readsThing_79 (by decide) ?_
        exact rm_iret rfl dX10_readsThing_80 hF
  · replace hF := hF.2 hc_10
    refine rn_iconst (x := (0 : Int32)) dX10_readsThing_40 (by decide) ?_
    refine rn_goto (tgt := 67) dX10_readsThing_41 (by decide) ?_
    refine rn_istore dX10_readsThing_67 rfl (by decide) (fun x6_55 ex6_55 => ?_)
    subst ex6_55
    refine rn_iload_n dX10_readsThing_69 rfl ?_
    refine rn_iconst (x := (1 : Int32)) dX10_readsThing_70 (by decide) ?_
    refine rn_bipush (x := (9 : Int32)) dX10_readsThing_71 (by decide) ?_
    refine rm_callS (As := [.int x3_3, .int (1 : Int32), .int (9 : Int32)]) (st := []) mlRX10_110 mdX10_in (Nat.le_of_ble_eq_true rfl) rfl rfl (Nat.le_of_ble_eq_true rfl) ⟨Nat.le_refl _, Nat.le_refl _⟩ dX10_readsThing_73 ?_
    refine cm_mono hF (fun w H_56 hF => ?_)
    obtain ⟨r_57, rfl, hF⟩ := hF
    refine rn_if_ne (tgt := 81) dX10_readsThing_76 (by decide) (fun hc_58 => ?_) (fun hc_58 => ?_)
    · replace hF := hF.1 hc_58
      refine rn_iload dX10_readsThing_81 rfl ?_
      refine rm_callS (As := [.int x4_6]) (st := []) mlRX10_122 mdX10_isEight (Nat.le_of_ble_eq_true rfl) rfl rfl (Nat.le_of_ble_eq_true rfl) ⟨Nat.le_refl _, Nat.le_refl _⟩ dX10_readsThing_83 ?_
      refine cm_mono hF (fun w H_59 hF => ?_)
      obtain ⟨r_60, rfl, hF⟩ := hF
      refine rn_if_ne (tgt := 91) dX10_readsThing_86 (by decide) (fun hc_61 => ?_) (fun hc_61 => ?_)
      · replace hF := hF.1 hc_61
        refine rn_iload dX10_readsThing_91 rfl ?_
        refine rn_iconst (x := (-1 : Int32)) dX10_readsThing_93 (by decide) ?_
        refine rn_icmp_ne (tgt := 99) dX10_readsThing_94 (by decide) (fun hc_62 => ?_) (fun hc_62 => ?_)
        · replace hF := hF.1 hc_62
          refine rn_aload_n dX10_readsThing_99 rfl ?_
          refine rm_getr (r := 102) flRX10_16 rfl (by decide) rfl dX10_readsThing_100 ?_
          refine rn_iload_n dX10_readsThing_103 rfl ?_
          refine rn_iload_n dX10_readsThing_104 rfl ?_
          obtain ⟨j_63, hj_63, hF⟩ := hF
          refine rj_iast hj_63 rfl (by decide) rfl (by decide) dX10_readsThing_105 (fun H_64 eH_64 => ?_)
          replace hF := hF H_64 eH_64
          refine rn_aload_n dX10_readsThing_106 rfl ?_
          refine rm_getr (r := 103) flRX10_19 rfl (by decide) rfl dX10_readsThing_107 ?_
          refine rn_iload_n dX10_readsThing_110 rfl ?_
          refine rn_iload dX10_readsThing_111 rfl ?_
          obtain ⟨j_65, hj_65, hF⟩ := hF
          refine rj_iast hj_65 rfl (by decide) rfl (by decide) dX10_readsThing_113 (fun H_66 eH_66 => ?_)
          replace hF := hF H_66 eH_66
          refine rn_aload_n dX10_readsThing_114 rfl ?_
          refine rm_getr (r := 104) flRX10_22 rfl (by decide) rfl dX10_readsThing_115 ?_
          refine rn_iload_n dX10_readsThing_118 rfl ?_
          refine rn_iload dX10_readsThing_119 rfl ?_
          obtain ⟨j_67, hj_67, hF⟩ := hF
          refine rj_iast hj_67 rfl (by decide) rfl (by decide) dX10_readsThing_121 (fun H_68 eH_68 => ?_)
          replace hF := hF H_68 eH_68
          refine rn_iconst (x := (3 : Int32)) dX10_readsThing_122 (by decide) ?_
          exact rm_iret rfl dX10_readsThing_123 hF
        · replace hF := hF.2 hc_62
          refine rn_iconst (x := (2 : Int32)) dX10_readsThing_97 (by decide) ?_
          exact rm_iret rfl dX10_readsThing_98 hF
      · replace hF := hF.2 hc_61
        refine rn_iconst (x := (1 : Int32)) dX10_readsThing_89 (by decide) ?_
        exact rm_iret rfl dX10_readsThing_90 hF
    · replace hF := hF.2 hc_58
      refine rn_iconst (x := (0 : Int32)) dX10_readsThing_79 (by decide) ?_
      exact rm_iret rfl dX10_readsThing_80 hF
theorem cmX10_readsThing {E : En} {Q : Option Value → Hi → Prop} {H : Hi} {x1 : Int32} {x2 : Int32} 
    (hF : Cm E mX10_byteAt [rf E 99, .int (0 : Int32), .int x2] H (fun w H_1 => ∃ r_2 : Int32, w = some (.int r_2) ∧ (∀ x3_3 : Int32, x3_3 = r_2 - (48 : Int32) → (Cm E mX10_byteAt [rf E 99, .int (0 : Int32), .int (x2 + (1 : Int32))] H_1 (fun w H_4 => ∃ r_5 : Int32, w = some (.int r_5) ∧ (∀ x4_6 : Int32, x4_6 = r_5 - (48 : Int32) → (Cm E mX10_byteAt [rf E 99, .int (0 : Int32), .int (x2 + (2 : Int32))] H_4 (fun w H_7 => ∃ r_8 : Int32, w = some (.int r_8) ∧ ((¬ r_8 = (111 : Int32) → ((¬ r_8 = (115 : Int32) → ((¬ r_8 = (102 : Int32) → (Cm E mX10_in [.int x3_3, .int (1 : Int32), .int (9 : Int32)] H_7 (fun w H_14 => ∃ r_15 : Int32, w = some (.int r_15) ∧ ((¬ r_15 = 0 → (Cm E mX10_isEight [.int x4_6] H_14 (fun w H_17 => ∃ r_18 : Int32, w = some (.int r_18) ∧ ((¬ r_18 = 0 → ((¬ (-1 : Int32) = (-1 : Int32) → (∃ j_21 : Nat, (j_21 < 9 ∧ x1 = nI j_21) ∧ (∀ H_22 : Hi, H_22 = up H_17 102 j_21 x3_3 → (∃ j_23 : Nat, (j_23 < 9 ∧ x1 = nI j_23) ∧ (∀ H_24 : Hi, H_24 = up H_22 103 j_23 x4_6 → (∃ j_25 : Nat, (j_25 < 9 ∧ x1 = nI j_25) ∧ (∀ H_26 : Hi, H_26 = up H_24 104 j_25 (-1 : Int32) → (Q (some (.int (3 : Int32))) H_26)))))))) ∧ ((-1 : Int32) = (-1 : Int32) → (Q (some (.int (2 : Int32))) H_17)))) ∧ (r_18 = 0 → (Q (some (.int (1 : Int32))) H_17)))))) ∧ (r_15 = 0 → (Q (some (.int (0 : Int32))) H_14)))))) ∧ (r_8 = (102 : Int32) → (Cm E mX10_in [.int x3_3, .int (1 : Int32), .int (9 : Int32)] H_7 (fun w H_28 => ∃ r_29 : Int32, w = some (.int r_29) ∧ ((¬ r_29 = 0 → (Cm E mX10_isEight [.int x4_6] H_28 (fun w H_31 => ∃ r_32 : Int32, w = some (.int r_32) ∧ ((¬ r_32 = 0 → ((¬ (2 : Int32) = (-1 : Int32) → (∃ j_35 : Nat, (j_35 < 9 ∧ x1 = nI j_35) ∧ (∀ H_36 : Hi, H_36 = up H_31 102 j_35 x3_3 → (∃ j_37 : Nat, (j_37 < 9 ∧ x1 = nI j_37) ∧ (∀ H_38 : Hi, H_38 = up H_36 103 j_37 x4_6 → (∃ j_39 : Nat, (j_39 < 9 ∧ x1 = nI j_39) ∧ (∀ H_40 : Hi, H_40 = up H_38 104 j_39 (2 : Int32) → (Q (some (.int (3 : Int32))) H_40)))))))) ∧ ((2 : Int32) = (-1 : Int32) → (Q (some (.int (2 : Int32))) H_31)))) ∧ (r_32 = 0 → (Q (some (.int (1 : Int32))) H_31)))))) ∧ (r_29 = 0 → (Q (some (.int (0 : Int32))) H_28)))))))) ∧ (r_8 = (115 : Int32) → (Cm E mX10_in [.int x3_3, .int (1 : Int32), .int (9 : Int32)] H_7 (fun w H_42 => ∃ r_43 : Int32, w = some (.int r_43) ∧ ((¬ r_43 = 0 → (Cm E mX10_isEight [.int x4_6] H_42 (fun w H_45 => ∃ r_46 : Int32, w = some (.int r_46) ∧ ((¬ r_46 = 0 → ((¬ (1 : Int32) = (-1 : Int32) → (∃ j_49 : Nat, (j_49 < 9 ∧ x1 = nI j_49) ∧ (∀ H_50 : Hi, H_50 = up H_45 102 j_49 x3_3 → (∃ j_51 : Nat, (j_51 < 9 ∧ x1 = nI j_51) ∧ (∀ H_52 : Hi, H_52 = up H_50 103 j_51 x4_6 → (∃ j_53 : Nat, (j_53 < 9 ∧ x1 = nI j_53) ∧ (∀ H_54 : Hi, H_54 = up H_52 104 j_53 (1 : Int32) → (Q (some (.int (3 : Int32))) H_54)))))))) ∧ ((1 : Int32) = (-1 : Int32) → (Q (some (.int (2 : Int32))) H_45)))) ∧ (r_46 = 0 → (Q (some (.int (1 : Int32))) H_45)))))) ∧ (r_43 = 0 → (Q (some (.int (0 : Int32))) H_42)))))))) ∧ (r_8 = (111 : Int32) → (Cm E mX10_in [.int x3_3, .int (1 : Int32), .int (9 : Int32)] H_7 (fun w H_56 => ∃ r_57 : Int32, w = some (.int r_57) ∧ ((¬ r_57 = 0 → (Cm E mX10_isEight [.int x4_6] H_56 (fun w H_59 => ∃ r_60 : Int32, w = some (.int r_60) ∧ ((¬ r_60 = 0 → ((¬ (0 : Int32) = (-1 : Int32) → (∃ j_63 : Nat, (j_63 < 9 ∧ x1 = nI j_63) ∧ (∀ H_64 : Hi, H_64 = up H_59 102 j_63 x3_3 → (∃ j_65 : Nat, (j_65 < 9 ∧ x1 = nI j_65) ∧ (∀ H_66 : Hi, H_66 = up H_64 103 j_65 x4_6 → (∃ j_67 : Nat, (j_67 < 9 ∧ x1 = nI j_67) ∧ (∀ H_68 : Hi, H_68 = up H_66 104 j_67 (0 : Int32) → (Q (some (.int (3 : Int32))) H_68)))))))) ∧ ((0 : Int32) = (-1 : Int32) → (Q (some (.int (2 : Int32))) H_59)))) ∧ (r_60 = 0 → (Q (some (.int (1 : Int32))) H_59)))))) ∧ (r_57 = 0 → (Q (some (.int (0 : Int32))) H_56))))))))))))))) :
    Cm E mX10_readsThing [rf E 99, .int x1, .int x2] H Q :=
  cm_of (by decide +kernel) (Nat.le_of_ble_eq_true rfl) rfl (sgX10_readsThing_0  hF)
theorem sgX10_readsCousin_0 {E : En} {Q : Option Value → Hi → Prop} {H : Hi} {x1 : Int32} {x2 : Int32} 
    (hF : Cm E mX10_byteAt [rf E 99, .int (1 : Int32), .int x2] H (fun w H_1 => ∃ r_2 : Int32, w = some (.int r_2) ∧ (Cm E mX10_byteAt [rf E 99, .int (1 : Int32), .int (x2 + (1 : Int32))] H_1 (fun w H_4 => ∃ r_5 : Int32, w = some (.int r_5) ∧ ((r_2 = (111 : Int32) → ((r_5 = (46 : Int32) → ((¬ r_2 = (104 : Int32) → (Rm E mX10_readsCousin Q 68 [some (rf E 99), some (.int x1), none, none, some (.int r_5)] [.int (0 : Int32), .int x1, rf E 105] H_4)) ∧ (r_2 = (104 : Int32) → (Rm E mX10_readsCousin Q 68 [some (rf E 99), some (.int x1), none, none, some (.int r_5)] [.int (1 : Int32), .int x1, rf E 105] H_4)))) ∧ (¬ r_5 = (46 : Int32) → (Cm E mX10_in [.int r_5, .int (48 : Int32), .int (55 : Int32)] H_4 (fun w H_10 => ∃ r_11 : Int32, w = some (.int r_11) ∧ ((¬ r_11 = 0 → ((¬ r_2 = (104 : Int32) → (Rm E mX10_readsCousin Q 68 [some (rf E 99), some (.int x1), none, none, some (.int r_5)] [.int (0 : Int32), .int x1, rf E 105] H_10)) ∧ (r_2 = (104 : Int32) → (Rm E mX10_readsCousin Q 68 [some (rf E 99), some (.int x1), none, none, some (.int r_5)] [.int (1 : Int32), .int x1, rf E 105] H_10)))) ∧ (r_11 = 0 → (Q (some (.int (1 : Int32))) H_10)))))))) ∧ (¬ r_2 = (111 : Int32) → ((r_2 = (104 : Int32) → ((r_5 = (46 : Int32) → ((¬ r_2 = (104 : Int32) → (Rm E mX10_readsCousin Q 68 [some (rf E 99), some (.int x1), none, none, some (.int r_5)] [.int (0 : Int32), .int x1, rf E 105] H_4)) ∧ (r_2 = (104 : Int32) → (Rm E mX10_readsCousin Q 68 [some (rf E 99), some (.int x1), none, none, some (.int r_5)] [.int (1 : Int32), .int x1, rf E 105] H_4)))) ∧ (¬ r_5 = (46 : Int32) → (Cm E mX10_in [.int r_5, .int (48 : Int32), .int (55 : Int32)] H_4 (fun w H_17 => ∃ r_18 : Int32, w = some (.int r_18) ∧ ((¬ r_18 = 0 → ((¬ r_2 = (104 : Int32) → (Rm E mX10_readsCousin Q 68 [some (rf E 99), some (.int x1), none, none, some (.int r_5)] [.int (0 : Int32), .int x1, rf E 105] H_17)) ∧ (r_2 = (104 : Int32) → (Rm E mX10_readsCousin Q 68 [some (rf E 99), some (.int x1), none, none, some (.int r_5)] [.int (1 : Int32), .int x1, rf E 105] H_17)))) ∧ (r_18 = 0 → (Q (some (.int (1 : Int32))) H_17)))))))) ∧ (¬ r_2 = (104 : Int32) → (Q (some (.int (0 : Int32))) H_4))))))))) :
    Rm E mX10_readsCousin Q 0 [some (rf E 99), some (.int x1), some (.int x2), none, none] [] H := by
  refine rn_aload_n dX10_readsCousin_0 rfl ?_
  refine rn_iconst (x := (1 : Int32)) dX10_readsCousin_1 (by decide) ?_
  refine rn_iload_n dX10_readsCousin_2 rfl ?_
  refine rm_callV (c0 := 99) (As := [.int (1 : Int32), .int x2]) (st := []) mlRX10_118 mdX10_byteAt (Nat.le_of_ble_eq_true rfl) rfl (by decide) (by decide) rfl rfl rfl (Nat.le_of_ble_eq_true rfl) ⟨Nat.le_refl _, Nat.le_refl _⟩ dX10_readsCousin_3 ?_
  refine cm_mono hF (fun w H_1 hF => ?_)
  obtain ⟨r_2, rfl, hF⟩ := hF
  refine rn_istore_n dX10_readsCousin_6 rfl (by decide) (fun x3_3 ex3_3 => ?_)
  subst ex3_3
  refine rn_aload_n dX10_readsCousin_7 rfl ?_
  refine rn_iconst (x := (1 : Int32)) dX10_readsCousin_8 (by decide) ?_
  refine rn_iload_n dX10_readsCousin_9 rfl ?_
  refine rn_iconst (x := (1 : Int32)) dX10_readsCousin_10 (by decide) ?_
  refine rn_iadd dX10_readsCousin_11 ?_
  refine rm_callV (c0 := 99) (As := [.int (1 : Int32), .int (x2 + (1 : Int32))]) (st := []) mlRX10_118 mdX10_byteAt (Nat.le_of_ble_eq_true rfl) rfl (by decide) (by decide) rfl rfl rfl (Nat.le_of_ble_eq_true rfl) ⟨Nat.le_refl _, Nat.le_refl _⟩ dX10_readsCousin_12 ?_
  refine cm_mono hF (fun w H_4 hF => ?_)
  obtain ⟨r_5, rfl, hF⟩ := hF
  refine rn_istore dX10_readsCousin_15 rfl (by decide) (fun x4_6 ex4_6 => ?_)
  subst ex4_6
  refine rn_iload_n dX10_readsCousin_17 rfl ?_
  refine rn_bipush (x := (111 : Int32)) dX10_readsCousin_18 (by decide) ?_
  refine rn_icmp_eq (tgt := 31) dX10_readsCousin_20 (by decide) (fun hc_7 => ?_) (fun hc_7 => ?_)
  · replace hF := hF.1 hc_7
    refine rn_iload dX10_readsCousin_31 rfl ?_
    refine rn_bipush (x := (46 : Int32)) dX10_readsCousin_33 (by decide) ?_
    refine rn_icmp_eq (tgt := 52) dX10_readsCousin_35 (by decide) (fun hc_8 => ?_) (fun hc_8 => ?_)
    · replace hF := hF.1 hc_8
      refine rn_aload_n dX10_readsCousin_52 rfl ?_
      refine rm_getr (r := 105) flRX10_25 rfl (by decide) rfl dX10_readsCousin_53 ?_
      refine rn_iload_n dX10_readsCousin_56 rfl ?_
      refine rn_iload_n dX10_readsCousin_57 rfl ?_
      refine rn_bipush (x := (104 : Int32)) dX10_readsCousin_58 (by decide) ?_
      refine rn_icmp_ne (tgt := 67) dX10_readsCousin_60 (by decide) (fun hc_9 => ?_) (fun hc_9 => ?_)
      · replace hF := hF.1 hc_9
        refine rn_iconst (x := (0 : Int32)) dX10_readsCousin_67 (by decide) ?_
        exact rn_wk (L' := [some (rf E 99), some (.int x1), none, none, some (.int r_5)]) (⟨rfl, ⟨rfl, ⟨rfl, trivial⟩⟩⟩) hF
      · replace hF := hF.2 hc_9
        refine rn_iconst (x := (1 : Int32)) dX10_readsCousin_63 (by decide) ?_
        refine rn_goto (tgt := 68) dX10_readsCousin_64 (by decide) ?_
        exact rn_wk (L' := [some (rf E 99), some (.int x1), none, none, some (.int r_5)]) (⟨rfl, ⟨rfl, ⟨rfl, trivial⟩⟩⟩) hF
    · replace hF := hF.2 hc_8
      refine rn_iload dX10_readsCousin_38 rfl ?_
      refine rn_bipush (x := (48 : Int32)) dX10_readsCousin_40 (by decide) ?_
      refine rn_bipush (x := (55 : Int32)) dX10_readsCousin_42 (by decide) ?_
      refine rm_callS (As := [.int r_5, .int (48 : Int32), .int (55 : Int32)]) (st := []) mlRX10_110 mdX10_in (Nat.le_of_ble_eq_true rfl) rfl rfl (Nat.le_of_ble_eq_true rfl) ⟨Nat.le_refl _, Nat.le_refl _⟩ dX10_readsCousin_44 ?_
      refine cm_mono hF (fun w H_10 hF => ?_)
      obtain ⟨r_11, rfl, hF⟩ := hF
      refine rn_if_ne (tgt := 52) dX10_readsCousin_47 (by decide) (fun hc_12 => ?_) (fun hc_12 => ?_)
      · replace hF := hF.1 hc_12
        refine rn_aload_n dX10_readsCousin_52 rfl ?_
        refine rm_getr (r := 105) flRX10_25 rfl (by decide) rfl dX10_readsCousin_53 ?_
        refine rn_iload_n dX10_readsCousin_56 rfl ?_
        refine rn_iload_n dX10_readsCousin_57 rfl ?_
        refine rn_bipush (x := (104 : Int32)) dX10_readsCousin_58 (by decide) ?_
        refine rn_icmp_ne (tgt := 67) dX10_readsCousin_60 (by decide) (fun hc_13 => ?_) (fun hc_13 => ?_)
        · replace hF := hF.1 hc_13
          refine rn_iconst (x := (0 : Int32)) dX10_readsCousin_67 (by decide) ?_
          exact rn_wk (L' := [some (rf E 99), some (.int x1), none, none, some (.int r_5)]) (⟨rfl, ⟨rfl, ⟨rfl, trivial⟩⟩⟩) hF
        · replace hF := hF.2 hc_13
          refine rn_iconst (x := (1 : Int32)) dX10_readsCousin_63 (by decide) ?_
          refine rn_goto (tgt := 68) dX10_readsCousin_64 (by decide) ?_
          exact rn_wk (L' := [some (rf E 99), some (.int x1), none, none, some (.int r_5)]) (⟨rfl, ⟨rfl, ⟨rfl, trivial⟩⟩⟩) hF
      · replace hF := hF.2 hc_12
        refine rn_iconst (x := (1 : Int32)) dX10_readsCousin_50 (by decide) ?_
        exact rm_iret rfl dX10_readsCousin_51 hF
  · replace hF := hF.2 hc_7
    refine rn_iload_n dX10_readsCousin_23 rfl ?_
    refine rn_bipush (x := (104 : Int32)) dX10_readsCousin_24 (by decide) ?_
    refine rn_icmp_eq (tgt := 31) dX10_readsCousin_26 (by decide) (fun hc_14 => ?_) (fun hc_14 => ?_)
    · replace hF := hF.1 hc_14
      refine rn_iload dX10_readsCousin_31 rfl ?_
      refine rn_bipush (x := (46 : Int32)) dX10_readsCousin_33 (by decide) ?_
      refine rn_icmp_eq (tgt := 52) dX10_readsCousin_35 (by decide) (fun hc_15 => ?_) (fun hc_15 => ?_)
      · replace hF := hF.1 hc_15
        refine rn_aload_n dX10_readsCousin_52 rfl ?_
        refine rm_getr (r := 105) flRX10_25 rfl (by decide) rfl dX10_readsCousin_53 ?_
        refine rn_iload_n dX10_readsCousin_56 rfl ?_
        refine rn_iload_n dX10_readsCousin_57 rfl ?_
        refine rn_bipush (x := (104 : Int32)) dX10_readsCousin_58 (by decide) ?_
        refine rn_icmp_ne (tgt := 67) dX10_readsCousin_60 (by decide) (fun hc_16 => ?_) (fun hc_16 => ?_)
        · replace hF := hF.1 hc_16
          refine rn_iconst (x := (0 : Int32)) dX10_readsCousin_67 (by decide) ?_
          exact rn_wk (L' := [some (rf E 99), some (.int x1), none, none, some (.int r_5)]) (⟨rfl, ⟨rfl, ⟨rfl, trivial⟩⟩⟩) hF
        · replace hF := hF.2 hc_16
          refine rn_iconst (x := (1 : Int32)) dX10_readsCousin_63 (by decide) ?_
          refine rn_goto (tgt := 68) dX10_readsCousin_64 (by decide) ?_
          exact rn_wk (L' := [some (rf E 99), some (.int x1), none, none, some (.int r_5)]) (⟨rfl, ⟨rfl, ⟨rfl, trivial⟩⟩⟩) hF
      · replace hF := hF.2 hc_15
        refine rn_iload dX10_readsCousin_38 rfl ?_
        refine rn_bipush (x := (48 : Int32)) dX10_readsCousin_40 (by decide) ?_
        refine rn_bipush (x := (55 : Int32)) dX10_readsCousin_42 (by decide) ?_
        refine rm_callS (As := [.int r_5, .int (48 : Int32), .int (55 : Int32)]) (st := []) mlRX10_110 mdX10_in (Nat.le_of_ble_eq_true rfl) rfl rfl (Nat.le_of_ble_eq_true rfl) ⟨Nat.le_refl _, Nat.le_refl _⟩ dX10_readsCousin_44 ?_
        refine cm_mono hF (fun w H_17 hF => ?_)
        obtain ⟨r_18, rfl, hF⟩ := hF
        refine rn_if_ne (tgt := 52) dX10_readsCousin_47 (by decide) (fun hc_19 => ?_) (fun hc_19 => ?_)
        · replace hF := hF.1 hc_19
          refine rn_aload_n dX10_readsCousin_52 rfl ?_
          refine rm_getr (r := 105) flRX10_25 rfl (by decide) rfl dX10_readsCousin_53 ?_
          refine rn_iload_n dX10_readsCousin_56 rfl ?_
          refine rn_iload_n dX10_readsCousin_57 rfl ?_
          refine rn_bipush (x := (104 : Int32)) dX10_readsCousin_58 (by decide) ?_
          refine rn_icmp_ne (tgt := 67) dX10_readsCousin_60 (by decide) (fun hc_20 => ?_) (fun hc_20 => ?_)
          · replace hF := hF.1 hc_20
            refine rn_iconst (x := (0 : Int32)) dX10_readsCousin_67 (by decide) ?_
            exact rn_wk (L' := [some (rf E 99), some (.int x1), none, none, some (.int r_5)]) (⟨rfl, ⟨rfl, ⟨rfl, trivial⟩⟩⟩) hF
          · replace hF := hF.2 hc_20
            refine rn_iconst (x := (1 : Int32)) dX10_readsCousin_63 (by decide) ?_
            refine rn_goto (tgt := 68) dX10_readsCousin_64 (by decide) ?_
            exact rn_wk (L' := [some (rf E 99), some (.int x1), none, none, some (.int r_5)]) (⟨rfl, ⟨rfl, ⟨rfl, trivial⟩⟩⟩) hF
        · replace hF := hF.2 hc_19
          refine rn_iconst (x := (1 : Int32)) dX10_readsCousin_50 (by decide) ?_
          exact rm_iret rfl dX10_readsCousin_51 hF
    · replace hF := hF.2 hc_14
      refine rn_iconst (x := (0 : Int32)) dX10_readsCousin_29 (by decide) ?_
      exact rm_iret rfl dX10_readsCousin_30 hF
theorem cmX10_readsCousin {E : En} {Q : Option Value → Hi → Prop} {H : Hi} {x1 : Int32} {x2 : Int32} 
    (hF : Cm E mX10_byteAt [rf E 99, .int (1 : Int32), .int x2] H (fun w H_1 => ∃ r_2 : Int32, w = some (.int r_2) ∧ (Cm E mX10_byteAt [rf E 99, .int (1 : Int32), .int (x2 + (1 : Int32))] H_1 (fun w H_4 => ∃ r_5 : Int32, w = some (.int r_5) ∧ ((r_2 = (111 : Int32) → ((r_5 = (46 : Int32) → ((¬ r_2 = (104 : Int32) → (Rm E mX10_readsCousin Q 68 [some (rf E 99), some (.int x1), none, none, some (.int r_5)] [.int (0 : Int32), .int x1, rf E 105] H_4)) ∧ (r_2 = (104 : Int32) → (Rm E mX10_readsCousin Q 68 [some (rf E 99), some (.int x1), none, none, some (.int r_5)] [.int (1 : Int32), .int x1, rf E 105] H_4)))) ∧ (¬ r_5 = (46 : Int32) → (Cm E mX10_in [.int r_5, .int (48 : Int32), .int (55 : Int32)] H_4 (fun w H_10 => ∃ r_11 : Int32, w = some (.int r_11) ∧ ((¬ r_11 = 0 → ((¬ r_2 = (104 : Int32) → (Rm E mX10_readsCousin Q 68 [some (rf E 99), some (.int x1), none, none, some (.int r_5)] [.int (0 : Int32), .int x1, rf E 105] H_10)) ∧ (r_2 = (104 : Int32) → (Rm E mX10_readsCousin Q 68 [some (rf E 99), some (.int x1), none, none, some (.int r_5)] [.int (1 : Int32), .int x1, rf E 105] H_10)))) ∧ (r_11 = 0 → (Q (some (.int (1 : Int32))) H_10)))))))) ∧ (¬ r_2 = (111 : Int32) → ((r_2 = (104 : Int32) → ((r_5 = (46 : Int32) → ((¬ r_2 = (104 : Int32) → (Rm E mX10_readsCousin Q 68 [some (rf E 99), some (.int x1), none, none, some (.int r_5)] [.int (0 : Int32), .int x1, rf E 105] H_4)) ∧ (r_2 = (104 : Int32) → (Rm E mX10_readsCousin Q 68 [some (rf E 99), some (.int x1), none, none, some (.int r_5)] [.int (1 : Int32), .int x1, rf E 105] H_4)))) ∧ (¬ r_5 = (46 : Int32) → (Cm E mX10_in [.int r_5, .int (48 : Int32), .int (55 : Int32)] H_4 (fun w H_17 => ∃ r_18 : Int32, w = some (.int r_18) ∧ ((¬ r_18 = 0 → ((¬ r_2 = (104 : Int32) → (Rm E mX10_readsCousin Q 68 [some (rf E 99), some (.int x1), none, none, some (.int r_5)] [.int (0 : Int32), .int x1, rf E 105] H_17)) ∧ (r_2 = (104 : Int32) → (Rm E mX10_readsCousin Q 68 [some (rf E 99), some (.int x1), none, none, some (.int r_5)] [.int (1 : Int32), .int x1, rf E 105] H_17)))) ∧ (r_18 = 0 → (Q (some (.int (1 : Int32))) H_17)))))))) ∧ (¬ r_2 = (104 : Int32) → (Q (some (.int (0 : Int32))) H_4))))))))) :
    Cm E mX10_readsCousin [rf E 99, .int x1, .int x2] H Q :=
  cm_of (by decide +kernel) (Nat.le_of_ble_eq_true rfl) rfl (sgX10_readsCousin_0  hF)
theorem sgX10_readsCousin_68 {E : En} {Q : Option Value → Hi → Prop} {H : Hi} {x1 : Int32} {x4 : Int32} {t1 : Int32} {t2 : Int32} 
    (hF : ∃ j_1 : Nat, (j_1 < 9 ∧ t1 = nI j_1) ∧ (∀ H_2 : Hi, H_2 = up H 105 j_1 t2 → ((¬ x4 = (46 : Int32) → (Rm E mX10_readsCousin Q 90 [none, none, none, none, none] [.int (x4 - (48 : Int32)), .int x1, rf E 106] H_2)) ∧ (x4 = (46 : Int32) → (Rm E mX10_readsCousin Q 90 [none, none, none, none, none] [.int (-1 : Int32), .int x1, rf E 106] H_2))))) :
    Rm E mX10_readsCousin Q 68 [some (rf E 99), some (.int x1), none, none, some (.int x4)] [.int t2, .int t1, rf E 105] H := by
  obtain ⟨j_1, hj_1, hF⟩ := hF
  refine rj_iast hj_1 rfl (by decide) rfl (by decide) dX10_readsCousin_68 (fun H_2 eH_2 => ?_)
  replace hF := hF H_2 eH_2
  refine rn_aload_n dX10_readsCousin_69 rfl ?_
  refine rm_getr (r := 106) flRX10_28 rfl (by decide) rfl dX10_readsCousin_70 ?_
  refine rn_iload_n dX10_readsCousin_73 rfl ?_
  refine rn_iload dX10_readsCousin_74 rfl ?_
  refine rn_bipush (x := (46 : Int32)) dX10_readsCousin_76 (by decide) ?_
  refine rn_icmp_ne (tgt := 85) dX10_readsCousin_78 (by decide) (fun hc_3 => ?_) (fun hc_3 => ?_)
  · replace hF := hF.1 hc_3
    refine rn_iload dX10_readsCousin_85 rfl ?_
    refine rn_bipush (x := (48 : Int32)) dX10_readsCousin_87 (by decide) ?_
    refine rn_isub dX10_readsCousin_89 ?_
    exact rn_wk (L' := [none, none, none, none, none]) (trivial) hF
  · replace hF := hF.2 hc_3
    refine rn_iconst (x := (-1 : Int32)) dX10_readsCousin_81 (by decide) ?_
    refine rn_goto (tgt := 90) dX10_readsCousin_82 (by decide) ?_
    exact rn_wk (L' := [none, none, none, none, none]) (trivial) hF
theorem sgX10_readsCousin_90 {E : En} {Q : Option Value → Hi → Prop} {H : Hi} {t1 : Int32} {t2 : Int32} 
    (hF : ∃ j_1 : Nat, (j_1 < 9 ∧ t1 = nI j_1) ∧ (∀ H_2 : Hi, H_2 = up H 106 j_1 t2 → (Q (some (.int (2 : Int32))) H_2))) :
    Rm E mX10_readsCousin Q 90 [none, none, none, none, none] [.int t2, .int t1, rf E 106] H := by
  obtain ⟨j_1, hj_1, hF⟩ := hF
  refine rj_iast hj_1 rfl (by decide) rfl (by decide) dX10_readsCousin_90 (fun H_2 eH_2 => ?_)
  replace hF := hF H_2 eH_2
  refine rn_iconst (x := (2 : Int32)) dX10_readsCousin_91 (by decide) ?_
  exact rm_iret rfl dX10_readsCousin_92 hF
theorem sgX10_readsText_0 {E : En} {Q : Option Value → Hi → Prop} {H : Hi} {x1 : Int32} 
    (hF : (¬ x1 = 0 → (Rm E mX10_readsText Q 9 [some (rf E 99), some (.int x1), none, none, none, none] [.int (2 : Int32)] H)) ∧ (x1 = 0 → (Rm E mX10_readsText Q 9 [some (rf E 99), some (.int x1), none, none, none, none] [.int (3 : Int32)] H))) :
    Rm E mX10_readsText Q 0 [some (rf E 99), some (.int x1), none, none, none, none] [] H := by
  refine rn_iload_n dX10_readsText_0 rfl ?_
  refine rn_if_ne (tgt := 8) dX10_readsText_1 (by decide) (fun hc_1 => ?_) (fun hc_1 => ?_)
  · replace hF := hF.1 hc_1
    refine rn_iconst (x := (2 : Int32)) dX10_readsText_8 (by decide) ?_
    exact rn_wk (L' := [some (rf E 99), some (.int x1), none, none, none, none]) (⟨rfl, ⟨rfl, trivial⟩⟩) hF
  · replace hF := hF.2 hc_1
    refine rn_iconst (x := (3 : Int32)) dX10_readsText_4 (by decide) ?_
    refine rn_goto (tgt := 9) dX10_readsText_5 (by decide) ?_
    exact rn_wk (L' := [some (rf E 99), some (.int x1), none, none, none, none]) (⟨rfl, ⟨rfl, trivial⟩⟩) hF
theorem cmX10_readsText {E : En} {Q : Option Value → Hi → Prop} {H : Hi} {x1 : Int32} 
    (hF : (¬ x1 = 0 → (Rm E mX10_readsText Q 9 [some (rf E 99), some (.int x1), none, none, none, none] [.int (2 : Int32)] H)) ∧ (x1 = 0 → (Rm E mX10_readsText Q 9 [some (rf E 99), some (.int x1), none, none, none, none] [.int (3 : Int32)] H))) :
    Cm E mX10_readsText [rf E 99, .int x1] H Q :=
  cm_of (by decide +kernel) (Nat.le_of_ble_eq_true rfl) rfl (sgX10_readsText_0  hF)
theorem sgX10_readsText_9 {E : En} {Q : Option Value → Hi → Prop} {H : Hi} {x1 : Int32} {t0 : Int32} 
    (hF : (¬ x1 = 0 → (Rm E mX10_readsText Q 28 [some (rf E 99), some (.int x1), some (.int t0), some (.int (0 : Int32)), some (.int (0 : Int32)), none] [.int (H 99 2), rf E 99] H)) ∧ (x1 = 0 → (Rm E mX10_readsText Q 28 [some (rf E 99), some (.int x1), some (.int t0), some (.int (0 : Int32)), some (.int (0 : Int32)), none] [.int (0 : Int32), rf E 99] H))) :
    Rm E mX10_readsText Q 9 [some (rf E 99), some (.int x1), none, none, none, none] [.int t0] H := by
  refine rn_istore_n dX10_readsText_9 rfl (by decide) (fun x2_1 ex2_1 => ?_)
  subst ex2_1
  refine rn_iconst (x := (0 : Int32)) dX10_readsText_10 (by decide) ?_
  refine rn_istore_n dX10_readsText_11 rfl (by decide) (fun x3_2 ex3_2 => ?_)
  subst ex3_2
  refine rn_iconst (x := (0 : Int32)) dX10_readsText_12 (by decide) ?_
  refine rn_istore dX10_readsText_13 rfl (by decide) (fun x4_3 ex4_3 => ?_)
  subst ex4_3
  refine rn_aload_n dX10_readsText_15 rfl ?_
  refine rn_iload_n dX10_readsText_16 rfl ?_
  refine rn_if_ne (tgt := 24) dX10_readsText_17 (by decide) (fun hc_4 => ?_) (fun hc_4 => ?_)
  · replace hF := hF.1 hc_4
    refine rn_aload_n dX10_readsText_24 rfl ?_
    refine rm_geti flRX10_125 rfl (by decide) rfl dX10_readsText_25 ?_
    exact rn_wk (L' := [some (rf E 99), some (.int x1), some (.int t0), some (.int (0 : Int32)), some (.int (0 : Int32)), none]) (⟨rfl, ⟨rfl, ⟨rfl, ⟨rfl, ⟨rfl, trivial⟩⟩⟩⟩⟩) hF
  · replace hF := hF.2 hc_4
    refine rn_iconst (x := (0 : Int32)) dX10_readsText_20 (by decide) ?_
    refine rn_goto (tgt := 28) dX10_readsText_21 (by decide) ?_
    exact rn_wk (L' := [some (rf E 99), some (.int x1), some (.int t0), some (.int (0 : Int32)), some (.int (0 : Int32)), none]) (⟨rfl, ⟨rfl, ⟨rfl, ⟨rfl, ⟨rfl, trivial⟩⟩⟩⟩⟩) hF
theorem sgX10_readsText_28 {E : En} {Q : Option Value → Hi → Prop} {H : Hi} {x1 : Int32} {x2 : Int32} {x3 : Int32} {x4 : Int32} {t1 : Int32} 
    (hF : ∀ H_1 : Hi, H_1 = up H 99 2 t1 → ((¬ x1 = (1 : Int32) → (Rm E mX10_readsText Q 45 [some (rf E 99), some (.int x1), some (.int x2), some (.int x3), some (.int x4), none] [.int (H_1 99 6), rf E 99] H_1)) ∧ (x1 = (1 : Int32) → (Rm E mX10_readsText Q 45 [some (rf E 99), some (.int x1), some (.int x2), some (.int x3), some (.int x4), none] [.int (0 : Int32), rf E 99] H_1)))) :
    Rm E mX10_readsText Q 28 [some (rf E 99), some (.int x1), some (.int x2), some (.int x3), some (.int x4), none] [.int t1, rf E 99] H := by
  refine rm_puti flRX10_125 rfl (by decide) rfl dX10_readsText_28 (fun H_1 eH_1 => ?_)
  replace hF := hF H_1 eH_1
  refine rn_aload_n dX10_readsText_31 rfl ?_
  refine rn_iload_n dX10_readsText_32 rfl ?_
  refine rn_iconst (x := (1 : Int32)) dX10_readsText_33 (by decide) ?_
  refine rn_icmp_ne (tgt := 41) dX10_readsText_34 (by decide) (fun hc_2 => ?_) (fun hc_2 => ?_)
  · replace hF := hF.1 hc_2
    refine rn_aload_n dX10_readsText_41 rfl ?_
    refine rm_geti flRX10_128 rfl (by decide) rfl dX10_readsText_42 ?_
    exact rn_wk (L' := [some (rf E 99), some (.int x1), some (.int x2), some (.int x3), some (.int x4), none]) (⟨rfl, ⟨rfl, ⟨rfl, ⟨rfl, ⟨rfl, trivial⟩⟩⟩⟩⟩) hF
  · replace hF := hF.2 hc_2
    refine rn_iconst (x := (0 : Int32)) dX10_readsText_37 (by decide) ?_
    refine rn_goto (tgt := 45) dX10_readsText_38 (by decide) ?_
    exact rn_wk (L' := [some (rf E 99), some (.int x1), some (.int x2), some (.int x3), some (.int x4), none]) (⟨rfl, ⟨rfl, ⟨rfl, ⟨rfl, ⟨rfl, trivial⟩⟩⟩⟩⟩) hF
theorem sgX10_readsText_45 {E : En} {Q : Option Value → Hi → Prop} {H : Hi} {x1 : Int32} {x2 : Int32} {x3 : Int32} {x4 : Int32} {t1 : Int32} 
    (hF : ∀ H_1 : Hi, H_1 = up H 99 6 t1 → (Rm E mX10_readsText Q 48 [some (rf E 99), some (.int x1), some (.int x2), some (.int x3), some (.int x4), none] [] H_1)) :
    Rm E mX10_readsText Q 45 [some (rf E 99), some (.int x1), some (.int x2), some (.int x3), some (.int x4), none] [.int t1, rf E 99] H := by
  refine rm_puti flRX10_128 rfl (by decide) rfl dX10_readsText_45 (fun H_1 eH_1 => ?_)
  replace hF := hF H_1 eH_1
  exact rn_wk (L' := [some (rf E 99), some (.int x1), some (.int x2), some (.int x3), some (.int x4), none]) (⟨rfl, ⟨rfl, ⟨rfl, ⟨rfl, ⟨rfl, trivial⟩⟩⟩⟩⟩) hF
theorem sgX10_readsText_48 {E : En} {Q : Option Value → Hi → Prop} {H : Hi} {x1 : Int32} {x2 : Int32} {x3 : Int32} {x4 : Int32} 
    (hF : ∃ j_1 : Nat, (j_1 < 2 ∧ x1 = nI j_1) ∧ ((x4 < (H 100 j_1) → ((¬ x3 = (8 : Int32) → ((¬ x1 = 0 → (Cm E mX10_readsCousin [rf E 99, .int x3, .int x4] H (fun w H_5 => ∃ r_6 : Int32, w = some (.int r_6) ∧ (Rm E mX10_readsText Q 95 [some (rf E 99), some (.int x1), some (.int x2), some (.int x3), some (.int x4), none] [.int r_6] H_5)))) ∧ (x1 = 0 → (Cm E mX10_readsThing [rf E 99, .int x3, .int x4] H (fun w H_7 => ∃ r_8 : Int32, w = some (.int r_8) ∧ (Rm E mX10_readsText Q 95 [some (rf E 99), some (.int x1), some (.int x2), some (.int x3), some (.int x4), none] [.int r_8] H_7)))))) ∧ (x3 = (8 : Int32) → (Rm E mX10_readsText Q 95 [some (rf E 99), some (.int x1), some (.int x2), some (.int x3), some (.int x4), none] [.int (0 : Int32)] H)))) ∧ (¬ x4 < (H 100 j_1) → ((x4 ≤ 0 → (Q (some (.int (-1 : Int32))) H)) ∧ (¬ x4 ≤ 0 → ((¬ x3 = (8 : Int32) → ((¬ x1 = 0 → (Cm E mX10_readsCousin [rf E 99, .int x3, .int x4] H (fun w H_12 => ∃ r_13 : Int32, w = some (.int r_13) ∧ (Rm E mX10_readsText Q 95 [some (rf E 99), some (.int x1), some (.int x2), some (.int x3), some (.int x4), none] [.int r_13] H_12)))) ∧ (x1 = 0 → (Cm E mX10_readsThing [rf E 99, .int x3, .int x4] H (fun w H_14 => ∃ r_15 : Int32, w = some (.int r_15) ∧ (Rm E mX10_readsText Q 95 [some (rf E 99), some (.int x1), some (.int x2), some (.int x3), some (.int x4), none] [.int r_15] H_14)))))) ∧ (x3 = (8 : Int32) → (Rm E mX10_readsText Q 95 [some (rf E 99), some (.int x1), some (.int x2), some (.int x3), some (.int x4), none] [.int (0 : Int32)] H)))))))) :
    Rm E mX10_readsText Q 48 [some (rf E 99), some (.int x1), some (.int x2), some (.int x3), some (.int x4), none] [] H := by
  refine rn_iload dX10_readsText_48 rfl ?_
  refine rn_aload_n dX10_readsText_50 rfl ?_
  refine rm_getr (r := 100) flRX10_7 rfl (by decide) rfl dX10_readsText_51 ?_
  refine rn_iload_n dX10_readsText_54 rfl ?_
  obtain ⟨j_1, hj_1, hF⟩ := hF
  refine rj_iald hj_1 rfl (by decide) rfl (by decide) dX10_readsText_55 ?_
  refine rn_icmp_lt (tgt := 64) dX10_readsText_56 (by decide) (fun hc_2 => ?_) (fun hc_2 => ?_)
  · replace hF := hF.1 hc_2
    refine rn_iload_n dX10_readsText_64 rfl ?_
    refine rn_bipush (x := (8 : Int32)) dX10_readsText_65 (by decide) ?_
    refine rn_icmp_ne (tgt := 74) dX10_readsText_67 (by decide) (fun hc_3 => ?_) (fun hc_3 => ?_)
    · replace hF := hF.1 hc_3
      refine rn_iload_n dX10_readsText_74 rfl ?_
      refine rn_if_ne (tgt := 88) dX10_readsText_75 (by decide) (fun hc_4 => ?_) (fun hc_4 => ?_)
      · replace hF := hF.1 hc_4
        refine rn_aload_n dX10_readsText_88 rfl ?_
        refine rn_iload_n dX10_readsText_89 rfl ?_
        refine rn_iload dX10_readsText_90 rfl ?_
        refine rm_callV (c0 := 99) (As := [.int x3, .int x4]) (st := []) mlRX10_134 mdX10_readsCousin (Nat.le_of_ble_eq_true rfl) rfl (by decide) (by decide) rfl rfl rfl (Nat.le_of_ble_eq_true rfl) ⟨Nat.le_refl _, Nat.le_refl _⟩ dX10_readsText_92 ?_
        refine cm_mono hF (fun w H_5 hF => ?_)
        obtain ⟨r_6, rfl, hF⟩ := hF
        exact rn_wk (L' := [some (rf E 99), some (.int x1), some (.int x2), some (.int x3), some (.int x4), none]) (⟨rfl, ⟨rfl, ⟨rfl, ⟨rfl, ⟨rfl, trivial⟩⟩⟩⟩⟩) hF
      · replace hF := hF.2 hc_4
        refine rn_aload_n dX10_readsText_78 rfl ?_
        refine rn_iload_n dX10_readsText_79 rfl ?_
        refine rn_iload dX10_readsText_80 rfl ?_
        refine rm_callV (c0 := 99) (As := [.int x3, .int x4]) (st := []) mlRX10_131 mdX10_readsThing (Nat.le_of_ble_eq_true rfl) rfl (by decide) (by decide) rfl rfl rfl (Nat.le_of_ble_eq_true rfl) ⟨Nat.le_refl _, Nat.le_refl _⟩ dX10_readsText_82 ?_
        refine cm_mono hF (fun w H_7 hF => ?_)
        obtain ⟨r_8, rfl, hF⟩ := hF
        refine rn_goto (tgt := 95) dX10_readsText_85 (by decide) ?_
        exact rn_wk (L' := [some (rf E 99), some (.int x1), some (.int x2), some (.int x3), some (.int x4), none]) (⟨rfl, ⟨rfl, ⟨rfl, ⟨rfl, ⟨rfl, trivial⟩⟩⟩⟩⟩) hF
    · replace hF := hF.2 hc_3
      refine rn_iconst (x := (0 : Int32)) dX10_readsText_70 (by decide) ?_
      refine rn_goto (tgt := 95) dX10_readsText_71 (by decide) ?_
      exact rn_wk (L' := [some (rf E 99), some (.int x1), some (.int x2), some (.int x3), some (.int x4), none]) (⟨rfl, ⟨rfl, ⟨rfl, ⟨rfl, ⟨rfl, trivial⟩⟩⟩⟩⟩) hF
  · replace hF := hF.2 hc_2
    refine rn_iload dX10_readsText_59 rfl ?_
    refine rn_if_le (tgt := 185) dX10_readsText_61 (by decide) (fun hc_9 => ?_) (fun hc_9 => ?_)
    · replace hF := hF.1 hc_9
      refine rn_iconst (x := (-1 : Int32)) dX10_readsText_185 (by decide) ?_
      exact rm_iret rfl dX10_readsText_186 hF
    · replace hF := hF.2 hc_9
      refine rn_iload_n dX10_readsText_64 rfl ?_
      refine rn_bipush (x := (8 : Int32)) dX10_readsText_65 (by decide) ?_
      refine rn_icmp_ne (tgt := 74) dX10_readsText_67 (by decide) (fun hc_10 => ?_) (fun hc_10 => ?_)
      · replace hF := hF.1 hc_10
        refine rn_iload_n dX10_readsText_74 rfl ?_
        refine rn_if_ne (tgt := 88) dX10_readsText_75 (by decide) (fun hc_11 => ?_) (fun hc_11 => ?_)
        · replace hF := hF.1 hc_11
          refine rn_aload_n dX10_readsText_88 rfl ?_
          refine rn_iload_n dX10_readsText_89 rfl ?_
          refine rn_iload dX10_readsText_90 rfl ?_
          refine rm_callV (c0 := 99) (As := [.int x3, .int x4]) (st := []) mlRX10_134 mdX10_readsCousin (Nat.le_of_ble_eq_true rfl) rfl (by decide) (by decide) rfl rfl rfl (Nat.le_of_ble_eq_true rfl) ⟨Nat.le_refl _, Nat.le_refl _⟩ dX10_readsText_92 ?_
          refine cm_mono hF (fun w H_12 hF => ?_)
          obtain ⟨r_13, rfl, hF⟩ := hF
          exact rn_wk (L' := [some (rf E 99), some (.int x1), some (.int x2), some (.int x3), some (.int x4), none]) (⟨rfl, ⟨rfl, ⟨rfl, ⟨rfl, ⟨rfl, trivial⟩⟩⟩⟩⟩) hF
        · replace hF := hF.2 hc_11
          refine rn_aload_n dX10_readsText_78 rfl ?_
          refine rn_iload_n dX10_readsText_79 rfl ?_
          refine rn_iload dX10_readsText_80 rfl ?_
          refine rm_callV (c0 := 99) (As := [.int x3, .int x4]) (st := []) mlRX10_131 mdX10_readsThing (Nat.le_of_ble_eq_true rfl) rfl (by decide) (by decide) rfl rfl rfl (Nat.le_of_ble_eq_true rfl) ⟨Nat.le_refl _, Nat.le_refl _⟩ dX10_readsText_82 ?_
          refine cm_mono hF (fun w H_14 hF => ?_)
          obtain ⟨r_15, rfl, hF⟩ := hF
          refine rn_goto (tgt := 95) dX10_readsText_85 (by decide) ?_
          exact rn_wk (L' := [some (rf E 99), some (.int x1), some (.int x2), some (.int x3), some (.int x4), none]) (⟨rfl, ⟨rfl, ⟨rfl, ⟨rfl, ⟨rfl, trivial⟩⟩⟩⟩⟩) hF
      · replace hF := hF.2 hc_10
        refine rn_iconst (x := (0 : Int32)) dX10_readsText_70 (by decide) ?_
        refine rn_goto (tgt := 95) dX10_readsText_71 (by decide) ?_
        exact rn_wk (L' := [some (rf E 99), some (.int x1), some (.int x2), some (.int x3), some (.int x4), none]) (⟨rfl, ⟨rfl, ⟨rfl, ⟨rfl, ⟨rfl, trivial⟩⟩⟩⟩⟩) hF
theorem sgX10_readsText_95 {E : En} {Q : Option Value → Hi → Prop} {H : Hi} {x1 : Int32} {x2 : Int32} {x3 : Int32} {x4 : Int32} {t0 : Int32} 
    (hF : (x2 ≤ t0 → (∀ x3_3 : Int32, x3_3 = x3 + (1 : Int32) → (∀ x4_4 : Int32, x4_4 = x4 + x2 → (∃ j_5 : Nat, (j_5 < 2 ∧ x1 = nI j_5) ∧ ((¬ x4_4 = (H 100 j_5) → (Cm E mX10_byteAt [rf E 99, .int x1, .int x4_4] H (fun w H_7 => ∃ r_8 : Int32, w = some (.int r_8) ∧ ((r_8 = (59 : Int32) → (∀ x4_10 : Int32, x4_10 = x4_4 + (1 : Int32) → (Rm E mX10_readsText Q 48 [some (rf E 99), some (.int x1), some (.int x2), some (.int x3_3), some (.int x4_10), none] [] H_7))) ∧ (¬ r_8 = (59 : Int32) → (Q (some (.int x4_4)) H_7)))))) ∧ (x4_4 = (H 100 j_5) → ((¬ x1 = 0 → (Rm E mX10_readsText Q 142 [some (rf E 99), some (.int x1), none, some (.int x3_3), none, none] [.int (H 99 2), rf E 99] H)) ∧ (x1 = 0 → (Rm E mX10_readsText Q 142 [some (rf E 99), some (.int x1), none, some (.int x3_3), none, none] [.int x3_3, rf E 99] H))))))))) ∧ (¬ x2 ≤ t0 → (Q (some (.int (x4 + t0))) H))) :
    Rm E mX10_readsText Q 95 [some (rf E 99), some (.int x1), some (.int x2), some (.int x3), some (.int x4), none] [.int t0] H := by
  refine rn_istore dX10_readsText_95 rfl (by decide) (fun x5_1 ex5_1 => ?_)
  subst ex5_1
  refine rn_iload dX10_readsText_97 rfl ?_
  refine rn_iload_n dX10_readsText_99 rfl ?_
  refine rn_icmp_ge (tgt := 109) dX10_readsText_100 (by decide) (fun hc_2 => ?_) (fun hc_2 => ?_)
  · replace hF := hF.1 hc_2
    refine rn_iinc (w := (1 : Int32)) dX10_readsText_109 rfl (by decide) rfl (by decide) (fun x3_3 ex3_3 => ?_)
    replace hF := hF x3_3 ex3_3
    refine rn_iload dX10_readsText_112 rfl ?_
    refine rn_iload_n dX10_readsText_114 rfl ?_
    refine rn_iadd dX10_readsText_115 ?_
    refine rn_istore dX10_readsText_116 rfl (by decide) (fun x4_4 ex4_4 => ?_)
    replace hF := hF x4_4 ex4_4
    refine rn_iload dX10_readsText_118 rfl ?_
    refine rn_aload_n dX10_readsText_120 rfl ?_
    refine rm_getr (r := 100) flRX10_7 rfl (by decide) rfl dX10_readsText_121 ?_
    refine rn_iload_n dX10_readsText_124 rfl ?_
    obtain ⟨j_5, hj_5, hF⟩ := hF
    refine rj_iald hj_5 rfl (by decide) rfl (by decide) dX10_readsText_125 ?_
    refine rn_icmp_ne (tgt := 164) dX10_readsText_126 (by decide) (fun hc_6 => ?_) (fun hc_6 => ?_)
    · replace hF := hF.1 hc_6
      refine rn_aload_n dX10_readsText_164 rfl ?_
      refine rn_iload_n dX10_readsText_165 rfl ?_
      refine rn_iload dX10_readsText_166 rfl ?_
      refine rm_callV (c0 := 99) (As := [.int x1, .int x4_4]) (st := []) mlRX10_118 mdX10_byteAt (Nat.le_of_ble_eq_true rfl) rfl (by decide) (by decide) rfl rfl rfl (Nat.le_of_ble_eq_true rfl) ⟨Nat.le_refl _, Nat.le_refl _⟩ dX10_readsText_168 ?_
      refine cm_mono hF (fun w H_7 hF => ?_)
      obtain ⟨r_8, rfl, hF⟩ := hF
      refine rn_bipush (x := (59 : Int32)) dX10_readsText_171 (by decide) ?_
      refine rn_icmp_eq (tgt := 179) dX10_readsText_173 (by decide) (fun hc_9 => ?_) (fun hc_9 => ?_)
      · replace hF := hF.1 hc_9
        refine rn_iinc (w := (1 : Int32)) dX10_readsText_179 rfl (by decide) rfl (by decide) (fun x4_10 ex4_10 => ?_)
        replace hF := hF x4_10 ex4_10
        refine rn_goto (tgt := 48) dX10_readsText_182 (by decide) ?_
        exact rn_wk (L' := [some (rf E 99), some (.int x1), some (.int x2), some (.int x3_3), some (.int x4_10), none]) (⟨rfl, ⟨rfl, ⟨rfl, ⟨rfl, ⟨rfl, trivial⟩⟩⟩⟩⟩) hF
      · replace hF := hF.2 hc_9
        refine rn_iload dX10_readsText_176 rfl ?_
        exact rm_iret rfl dX10_readsText_178 hF
    · replace hF := hF.2 hc_6
      refine rn_aload_n dX10_readsText_129 rfl ?_
      refine rn_iload_n dX10_readsText_130 rfl ?_
      refine rn_if_ne (tgt := 138) dX10_readsText_131 (by decide) (fun hc_11 => ?_) (fun hc_11 => ?_)
      · replace hF := hF.1 hc_11
        refine rn_aload_n dX10_readsText_138 rfl ?_
        refine rm_geti flRX10_125 rfl (by decide) rfl dX10_readsText_139 ?_
        exact rn_wk (L' := [some (rf E 99), some (.int x1), none, some (.int x3_3), none, none]) (⟨rfl, ⟨rfl, ⟨rfl, trivial⟩⟩⟩) hF
      · replace hF := hF.2 hc_11
        refine rn_iload_n dX10_readsText_134 rfl ?_
        refine rn_goto (tgt := 142) dX10_readsText_135 (by decide) ?_
        exact rn_wk (L' := [some (rf E 99), some (.int x1), none, some (.int x3_3), none, none]) (⟨rfl, ⟨rfl, ⟨rfl, trivial⟩⟩⟩) hF
  · replace hF := hF.2 hc_2
    refine rn_iload dX10_readsText_103 rfl ?_
    refine rn_iload dX10_readsText_105 rfl ?_
    refine rn_iadd dX10_readsText_107 ?_
    exact rm_iret rfl dX10_readsText_108 hF
theorem sgX10_readsText_142 {E : En} {Q : Option Value → Hi → Prop} {H : Hi} {x1 : Int32} {x3 : Int32} {t1 : Int32} 
    (hF : ∀ H_1 : Hi, H_1 = up H 99 2 t1 → ((¬ x1 = (1 : Int32) → (Rm E mX10_readsText Q 159 [none, none, none, none, none, none] [.int (H_1 99 6), rf E 99] H_1)) ∧ (x1 = (1 : Int32) → (Rm E mX10_readsText Q 159 [none, none, none, none, none, none] [.int x3, rf E 99] H_1)))) :
    Rm E mX10_readsText Q 142 [some (rf E 99), some (.int x1), none, some (.int x3), none, none] [.int t1, rf E 99] H := by
  refine rm_puti flRX10_125 rfl (by decide) rfl dX10_readsText_142 (fun H_1 eH_1 => ?_)
  replace hF := hF H_1 eH_1
  refine rn_aload_n dX10_readsText_145 rfl ?_
  refine rn_iload_n dX10_readsText_146 rfl ?_
  refine rn_iconst (x := (1 : Int32)) dX10_readsText_147 (by decide) ?_
  refine rn_icmp_ne (tgt := 155) dX10_readsText_148 (by decide) (fun hc_2 => ?_) (fun hc_2 => ?_)
  · replace hF := hF.1 hc_2
    refine rn_aload_n dX10_readsText_155 rfl ?_
    refine rm_geti flRX10_128 rfl (by decide) rfl dX10_readsText_156 ?_
    exact rn_wk (L' := [none, none, none, none, none, none]) (trivial) hF
  · replace hF := hF.2 hc_2
    refine rn_iload_n dX10_readsText_151 rfl ?_
    refine rn_goto (tgt := 159) dX10_readsText_152 (by decide) ?_
    exact rn_wk (L' := [none, none, none, none, none, none]) (trivial) hF
theorem sgX10_readsText_159 {E : En} {Q : Option Value → Hi → Prop} {H : Hi} {t1 : Int32} 
    (hF : ∀ H_1 : Hi, H_1 = up H 99 6 t1 → (Q (some (.int (-1 : Int32))) H_1)) :
    Rm E mX10_readsText Q 159 [none, none, none, none, none, none] [.int t1, rf E 99] H := by
  refine rm_puti flRX10_128 rfl (by decide) rfl dX10_readsText_159 (fun H_1 eH_1 => ?_)
  replace hF := hF H_1 eH_1
  refine rn_iconst (x := (-1 : Int32)) dX10_readsText_162 (by decide) ?_
  exact rm_iret rfl dX10_readsText_163 hF
theorem sgX10_faultOf_0 {E : En} {Q : Option Value → Hi → Prop} {H : Hi} {x1 : Int32} 
    (hF : Cm E mX10_readsText [rf E 99, .int (0 : Int32)] H (fun w H_1 => ∃ r_2 : Int32, w = some (.int r_2) ∧ (Cm E mX10_readsText [rf E 99, .int (1 : Int32)] H_1 (fun w H_4 => ∃ r_5 : Int32, w = some (.int r_5) ∧ ((¬ x1 = 0 → (Q (some (.int r_5)) H_4)) ∧ (x1 = 0 → (Q (some (.int r_2)) H_4))))))) :
    Rm E mX10_faultOf Q 0 [some (rf E 99), some (.int x1), none, none] [] H := by
  refine rn_aload_n dX10_faultOf_0 rfl ?_
  refine rn_iconst (x := (0 : Int32)) dX10_faultOf_1 (by decide) ?_
  refine rm_callV (c0 := 99) (As := [.int (0 : Int32)]) (st := []) mlRX10_137 mdX10_readsText (Nat.le_of_ble_eq_true rfl) rfl (by decide) (by decide) rfl rfl rfl (Nat.le_of_ble_eq_true rfl) ⟨Nat.le_refl _, Nat.le_refl _⟩ dX10_faultOf_2 ?_
  refine cm_mono hF (fun w H_1 hF => ?_)
  obtain ⟨r_2, rfl, hF⟩ := hF
  refine rn_istore_n dX10_faultOf_5 rfl (by decide) (fun x2_3 ex2_3 => ?_)
  subst ex2_3
  refine rn_aload_n dX10_faultOf_6 rfl ?_
  refine rn_iconst (x := (1 : Int32)) dX10_faultOf_7 (by decide) ?_
  refine rm_callV (c0 := 99) (As := [.int (1 : Int32)]) (st := []) mlRX10_137 mdX10_readsText (Nat.le_of_ble_eq_true rfl) rfl (by decide) (by decide) rfl rfl rfl (Nat.le_of_ble_eq_true rfl) ⟨Nat.le_refl _, Nat.le_refl _⟩ dX10_faultOf_8 ?_
  refine cm_mono hF (fun w H_4 hF => ?_)
  obtain ⟨r_5, rfl, hF⟩ := hF
  refine rn_istore_n dX10_faultOf_11 rfl (by decide) (fun x3_6 ex3_6 => ?_)
  subst ex3_6
  refine rn_iload_n dX10_faultOf_12 rfl ?_
  refine rn_if_ne (tgt := 20) dX10_faultOf_13 (by decide) (fun hc_7 => ?_) (fun hc_7 => ?_)
  · replace hF := hF.1 hc_7
    refine rn_iload_n dX10_faultOf_20 rfl ?_
    exact rm_iret rfl dX10_faultOf_21 hF
  · replace hF := hF.2 hc_7
    refine rn_iload_n dX10_faultOf_16 rfl ?_
    refine rn_goto (tgt := 21) dX10_faultOf_17 (by decide) ?_
    exact rm_iret rfl dX10_faultOf_21 hF
theorem cmX10_faultOf {E : En} {Q : Option Value → Hi → Prop} {H : Hi} {x1 : Int32} 
    (hF : Cm E mX10_readsText [rf E 99, .int (0 : Int32)] H (fun w H_1 => ∃ r_2 : Int32, w = some (.int r_2) ∧ (Cm E mX10_readsText [rf E 99, .int (1 : Int32)] H_1 (fun w H_4 => ∃ r_5 : Int32, w = some (.int r_5) ∧ ((¬ x1 = 0 → (Q (some (.int r_5)) H_4)) ∧ (x1 = 0 → (Q (some (.int r_2)) H_4))))))) :
    Cm E mX10_faultOf [rf E 99, .int x1] H Q :=
  cm_of (by decide +kernel) (Nat.le_of_ble_eq_true rfl) rfl (sgX10_faultOf_0  hF)
theorem sgX10_reads_0 {E : En} {Q : Option Value → Hi → Prop} {H : Hi}  
    (hF : Cm E mX10_faultOf [rf E 99, .int (0 : Int32)] H (fun w H_1 => ∃ r_2 : Int32, w = some (.int r_2) ∧ (Q none H_1))) :
    Rm E mX10_reads Q 0 [some (rf E 99), none] [] H := by
  refine rn_aload_n dX10_reads_0 rfl ?_
  refine rn_iconst (x := (0 : Int32)) dX10_reads_1 (by decide) ?_
  refine rm_callV (c0 := 99) (As := [.int (0 : Int32)]) (st := []) mlRX10_141 mdX10_faultOf (Nat.le_of_ble_eq_true rfl) rfl (by decide) (by decide) rfl rfl rfl (Nat.le_of_ble_eq_true rfl) ⟨Nat.le_refl _, Nat.le_refl _⟩ dX10_reads_2 ?_
  refine cm_mono hF (fun w H_1 hF => ?_)
  obtain ⟨r_2, rfl, hF⟩ := hF
  refine rn_istore_n dX10_reads_5 rfl (by decide) (fun x1_3 ex1_3 => ?_)
  subst ex1_3
  exact rm_vret rfl dX10_reads_6 hF
theorem cmX10_reads {E : En} {Q : Option Value → Hi → Prop} {H : Hi}  
    (hF : Cm E mX10_faultOf [rf E 99, .int (0 : Int32)] H (fun w H_1 => ∃ r_2 : Int32, w = some (.int r_2) ∧ (Q none H_1))) :
    Cm E mX10_reads [rf E 99] H Q :=
  cm_of (by decide +kernel) (Nat.le_of_ble_eq_true rfl) rfl (sgX10_reads_0  hF)
theorem sgX10_fault_0 {E : En} {Q : Option Value → Hi → Prop} {H : Hi} {x1 : Int32} 
    (hF : Cm E mX10_isText [.int x1] H (fun w H_1 => ∃ r_2 : Int32, w = some (.int r_2) ∧ ((r_2 = 0 → (Q (some (.int (-2 : Int32))) H_1)) ∧ (¬ r_2 = 0 → (Cm E mX10_faultOf [rf E 99, .int x1] H_1 (fun w H_4 => ∃ r_5 : Int32, w = some (.int r_5) ∧ (Q (some (.int r_5)) H_4))))))) :
    Rm E mX10_fault Q 0 [some (rf E 99), some (.int x1)] [] H := by
  refine rn_iload_n dX10_fault_0 rfl ?_
  refine rm_callS (As := [.int x1]) (st := []) mlRX10_114 mdX10_isText (Nat.le_of_ble_eq_true rfl) rfl rfl (Nat.le_of_ble_eq_true rfl) ⟨Nat.le_refl _, Nat.le_refl _⟩ dX10_fault_1 ?_
  refine cm_mono hF (fun w H_1 hF => ?_)
  obtain ⟨r_2, rfl, hF⟩ := hF
  refine rn_if_eq (tgt := 15) dX10_fault_4 (by decide) (fun hc_3 => ?_) (fun hc_3 => ?_)
  · replace hF := hF.1 hc_3
    refine rn_bipush (x := (-2 : Int32)) dX10_fault_15 (by decide) ?_
    exact rm_iret rfl dX10_fault_17 hF
  · replace hF := hF.2 hc_3
    refine rn_aload_n dX10_fault_7 rfl ?_
    refine rn_iload_n dX10_fault_8 rfl ?_
    refine rm_callV (c0 := 99) (As := [.int x1]) (st := []) mlRX10_141 mdX10_faultOf (Nat.le_of_ble_eq_true rfl) rfl (by decide) (by decide) rfl rfl rfl (Nat.le_of_ble_eq_true rfl) ⟨Nat.le_refl _, Nat.le_refl _⟩ dX10_fault_9 ?_
    refine cm_mono hF (fun w H_4 hF => ?_)
    obtain ⟨r_5, rfl, hF⟩ := hF
    refine rn_goto (tgt := 17) dX10_fault_12 (by decide) ?_
    exact rm_iret rfl dX10_fault_17 hF
theorem cmX10_fault {E : En} {Q : Option Value → Hi → Prop} {H : Hi} {x1 : Int32} 
    (hF : Cm E mX10_isText [.int x1] H (fun w H_1 => ∃ r_2 : Int32, w = some (.int r_2) ∧ ((r_2 = 0 → (Q (some (.int (-2 : Int32))) H_1)) ∧ (¬ r_2 = 0 → (Cm E mX10_faultOf [rf E 99, .int x1] H_1 (fun w H_4 => ∃ r_5 : Int32, w = some (.int r_5) ∧ (Q (some (.int r_5)) H_4))))))) :
    Cm E mX10_fault [rf E 99, .int x1] H Q :=
  cm_of (by decide +kernel) (Nat.le_of_ble_eq_true rfl) rfl (sgX10_fault_0  hF)
theorem sgX10_isThing_0 {E : En} {Q : Option Value → Hi → Prop} {H : Hi} {x1 : Int32} 
    (hF : Cm E mX10_reads [rf E 99] H (fun w H_1 => w = none ∧ (Cm E mX10_in [.int x1, .int (0 : Int32), .int ((H_1 99 2) - (1 : Int32))] H_1 (fun w H_2 => ∃ r_3 : Int32, w = some (.int r_3) ∧ (narrow .boolean (.int r_3) = .int r_3 ∧ Q (some (.int r_3)) H_2))))) :
    Rm E mX10_isThing Q 0 [some (rf E 99), some (.int x1)] [] H := by
  refine rn_aload_n dX10_isThing_0 rfl ?_
  refine rm_callV (c0 := 99) (As := []) (st := []) mlRX10_144 mdX10_reads (Nat.le_of_ble_eq_true rfl) rfl (by decide) (by decide) rfl rfl rfl (Nat.le_of_ble_eq_true rfl) ⟨Nat.le_refl _, Nat.le_refl _⟩ dX10_isThing_1 ?_
  refine cm_mono hF (fun w H_1 hF => ?_)
  obtain ⟨rfl, hF⟩ := hF
  refine rn_iload_n dX10_isThing_4 rfl ?_
  refine rn_iconst (x := (0 : Int32)) dX10_isThing_5 (by decide) ?_
  refine rn_aload_n dX10_isThing_6 rfl ?_
  refine rm_geti flRX10_125 rfl (by decide) rfl dX10_isThing_7 ?_
  refine rn_iconst (x := (1 : Int32)) dX10_isThing_10 (by decide) ?_
  refine rn_isub dX10_isThing_11 ?_
  refine rm_callS (As := [.int x1, .int (0 : Int32), .int ((H_1 99 2) - (1 : Int32))]) (st := []) mlRX10_110 mdX10_in (Nat.le_of_ble_eq_true rfl) rfl rfl (Nat.le_of_ble_eq_true rfl) ⟨Nat.le_refl _, Nat.le_refl _⟩ dX10_isThing_12 ?_
  refine cm_mono hF (fun w H_2 hF => ?_)
  obtain ⟨r_3, rfl, hF⟩ := hF
  exact rm_zret rfl hF.1 dX10_isThing_15 hF.2
theorem cmX10_isThing {E : En} {Q : Option Value → Hi → Prop} {H : Hi} {x1 : Int32} 
    (hF : Cm E mX10_reads [rf E 99] H (fun w H_1 => w = none ∧ (Cm E mX10_in [.int x1, .int (0 : Int32), .int ((H_1 99 2) - (1 : Int32))] H_1 (fun w H_2 => ∃ r_3 : Int32, w = some (.int r_3) ∧ (narrow .boolean (.int r_3) = .int r_3 ∧ Q (some (.int r_3)) H_2))))) :
    Cm E mX10_isThing [rf E 99, .int x1] H Q :=
  cm_of (by decide +kernel) (Nat.le_of_ble_eq_true rfl) rfl (sgX10_isThing_0  hF)
theorem sgX10_isCousin_0 {E : En} {Q : Option Value → Hi → Prop} {H : Hi} {x1 : Int32} 
    (hF : Cm E mX10_reads [rf E 99] H (fun w H_1 => w = none ∧ (Cm E mX10_in [.int x1, .int (0 : Int32), .int ((H_1 99 6) - (1 : Int32))] H_1 (fun w H_2 => ∃ r_3 : Int32, w = some (.int r_3) ∧ (narrow .boolean (.int r_3) = .int r_3 ∧ Q (some (.int r_3)) H_2))))) :
    Rm E mX10_isCousin Q 0 [some (rf E 99), some (.int x1)] [] H := by
  refine rn_aload_n dX10_isCousin_0 rfl ?_
  refine rm_callV (c0 := 99) (As := []) (st := []) mlRX10_144 mdX10_reads (Nat.le_of_ble_eq_true rfl) rfl (by decide) (by decide) rfl rfl rfl (Nat.le_of_ble_eq_true rfl) ⟨Nat.le_refl _, Nat.le_refl _⟩ dX10_isCousin_1 ?_
  refine cm_mono hF (fun w H_1 hF => ?_)
  obtain ⟨rfl, hF⟩ := hF
  refine rn_iload_n dX10_isCousin_4 rfl ?_
  refine rn_iconst (x := (0 : Int32)) dX10_isCousin_5 (by decide) ?_
  refine rn_aload_n dX10_isCousin_6 rfl ?_
  refine rm_geti flRX10_128 rfl (by decide) rfl dX10_isCousin_7 ?_
  refine rn_iconst (x := (1 : Int32)) dX10_isCousin_10 (by decide) ?_
  refine rn_isub dX10_isCousin_11 ?_
  refine rm_callS (As := [.int x1, .int (0 : Int32), .int ((H_1 99 6) - (1 : Int32))]) (st := []) mlRX10_110 mdX10_in (Nat.le_of_ble_eq_true rfl) rfl rfl (Nat.le_of_ble_eq_true rfl) ⟨Nat.le_refl _, Nat.le_refl _⟩ dX10_isCousin_12 ?_
  refine cm_mono hF (fun w H_2 hF => ?_)
  obtain ⟨r_3, rfl, hF⟩ := hF
  exact rm_zret rfl hF.1 dX10_isCousin_15 hF.2
theorem cmX10_isCousin {E : En} {Q : Option Value → Hi → Prop} {H : Hi} {x1 : Int32} 
    (hF : Cm E mX10_reads [rf E 99] H (fun w H_1 => w = none ∧ (Cm E mX10_in [.int x1, .int (0 : Int32), .int ((H_1 99 6) - (1 : Int32))] H_1 (fun w H_2 => ∃ r_3 : Int32, w = some (.int r_3) ∧ (narrow .boolean (.int r_3) = .int r_3 ∧ Q (some (.int r_3)) H_2))))) :
    Cm E mX10_isCousin [rf E 99, .int x1] H Q :=
  cm_of (by decide +kernel) (Nat.le_of_ble_eq_true rfl) rfl (sgX10_isCousin_0  hF)
theorem sgX10_thingOf_0 {E : En} {Q : Option Value → Hi → Prop} {H : Hi} {x1 : Int32} {x2 : Int32} 
    (hF : (¬ x2 = 0 → ((¬ x2 = (1 : Int32) → (∃ j_3 : Nat, (j_3 < 9 ∧ x1 = nI j_3) ∧ (Q (some (.int (H 104 j_3))) H))) ∧ (x2 = (1 : Int32) → (∃ j_4 : Nat, (j_4 < 9 ∧ x1 = nI j_4) ∧ (Q (some (.int (H 103 j_4))) H))))) ∧ (x2 = 0 → (∃ j_5 : Nat, (j_5 < 9 ∧ x1 = nI j_5) ∧ (Q (some (.int (H 102 j_5))) H)))) :
    Rm E mX10_thingOf Q 0 [some (rf E 99), some (.int x1), some (.int x2)] [] H := by
  refine rn_iload_n dX10_thingOf_0 rfl ?_
  refine rn_if_ne (tgt := 13) dX10_thingOf_1 (by decide) (fun hc_1 => ?_) (fun hc_1 => ?_)
  · replace hF := hF.1 hc_1
    refine rn_iload_n dX10_thingOf_13 rfl ?_
    refine rn_iconst (x := (1 : Int32)) dX10_thingOf_14 (by decide) ?_
    refine rn_icmp_ne (tgt := 27) dX10_thingOf_15 (by decide) (fun hc_2 => ?_) (fun hc_2 => ?_)
    · replace hF := hF.1 hc_2
      refine rn_aload_n dX10_thingOf_27 rfl ?_
      refine rm_getr (r := 104) flRX10_22 rfl (by decide) rfl dX10_thingOf_28 ?_
      refine rn_iload_n dX10_thingOf_31 rfl ?_
      obtain ⟨j_3, hj_3, hF⟩ := hF
      refine rj_iald hj_3 rfl (by decide) rfl (by decide) dX10_thingOf_32 ?_
      exact rm_iret rfl dX10_thingOf_33 hF
    · replace hF := hF.2 hc_2
      refine rn_aload_n dX10_thingOf_18 rfl ?_
      refine rm_getr (r := 103) flRX10_19 rfl (by decide) rfl dX10_thingOf_19 ?_
      refine rn_iload_n dX10_thingOf_22 rfl ?_
      obtain ⟨j_4, hj_4, hF⟩ := hF
      refine rj_iald hj_4 rfl (by decide) rfl (by decide) dX10_thingOf_23 ?_
      refine rn_goto (tgt := 33) dX10_thingOf_24 (by decide) ?_
      exact rm_iret rfl dX10_thingOf_33 hF
  · replace hF := hF.2 hc_1
    refine rn_aload_n dX10_thingOf_4 rfl ?_
    refine rm_getr (r := 102) flRX10_16 rfl (by decide) rfl dX10_thingOf_5 ?_
    refine rn_iload_n dX10_thingOf_8 rfl ?_
    obtain ⟨j_5, hj_5, hF⟩ := hF
    refine rj_iald hj_5 rfl (by decide) rfl (by decide) dX10_thingOf_9 ?_
    refine rn_goto (tgt := 33) dX10_thingOf_10 (by decide) ?_
    exact rm_iret rfl dX10_thingOf_33 hF
theorem cmX10_thingOf {E : En} {Q : Option Value → Hi → Prop} {H : Hi} {x1 : Int32} {x2 : Int32} 
    (hF : (¬ x2 = 0 → ((¬ x2 = (1 : Int32) → (∃ j_3 : Nat, (j_3 < 9 ∧ x1 = nI j_3) ∧ (Q (some (.int (H 104 j_3))) H))) ∧ (x2 = (1 : Int32) → (∃ j_4 : Nat, (j_4 < 9 ∧ x1 = nI j_4) ∧ (Q (some (.int (H 103 j_4))) H))))) ∧ (x2 = 0 → (∃ j_5 : Nat, (j_5 < 9 ∧ x1 = nI j_5) ∧ (Q (some (.int (H 102 j_5))) H)))) :
    Cm E mX10_thingOf [rf E 99, .int x1, .int x2] H Q :=
  cm_of (by decide +kernel) (Nat.le_of_ble_eq_true rfl) rfl (sgX10_thingOf_0  hF)
theorem sgX10_thing_0 {E : En} {Q : Option Value → Hi → Prop} {H : Hi} {x1 : Int32} {x2 : Int32} 
    (hF : Cm E mX10_isThing [rf E 99, .int x1] H (fun w H_1 => ∃ r_2 : Int32, w = some (.int r_2) ∧ ((r_2 = 0 → (Q (some (.int (-2 : Int32))) H_1)) ∧ (¬ r_2 = 0 → (Cm E mX10_in [.int x2, .int (0 : Int32), .int (2 : Int32)] H_1 (fun w H_4 => ∃ r_5 : Int32, w = some (.int r_5) ∧ ((r_5 = 0 → (Q (some (.int (-2 : Int32))) H_4)) ∧ (¬ r_5 = 0 → (Cm E mX10_thingOf [rf E 99, .int x1, .int x2] H_4 (fun w H_7 => ∃ r_8 : Int32, w = some (.int r_8) ∧ (Q (some (.int r_8)) H_7))))))))))) :
    Rm E mX10_thing Q 0 [some (rf E 99), some (.int x1), some (.int x2)] [] H := by
  refine rn_aload_n dX10_thing_0 rfl ?_
  refine rn_iload_n dX10_thing_1 rfl ?_
  refine rm_callV (c0 := 99) (As := [.int x1]) (st := []) mlRX10_147 mdX10_isThing (Nat.le_of_ble_eq_true rfl) rfl (by decide) (by decide) rfl rfl rfl (Nat.le_of_ble_eq_true rfl) ⟨Nat.le_refl _, Nat.le_refl _⟩ dX10_thing_2 ?_
  refine cm_mono hF (fun w H_1 hF => ?_)
  obtain ⟨r_2, rfl, hF⟩ := hF
  refine rn_if_eq (tgt := 26) dX10_thing_5 (by decide) (fun hc_3 => ?_) (fun hc_3 => ?_)
  · replace hF := hF.1 hc_3
    refine rn_bipush (x := (-2 : Int32)) dX10_thing_26 (by decide) ?_
    exact rm_iret rfl dX10_thing_28 hF
  · replace hF := hF.2 hc_3
    refine rn_iload_n dX10_thing_8 rfl ?_
    refine rn_iconst (x := (0 : Int32)) dX10_thing_9 (by decide) ?_
    refine rn_iconst (x := (2 : Int32)) dX10_thing_10 (by decide) ?_
    refine rm_callS (As := [.int x2, .int (0 : Int32), .int (2 : Int32)]) (st := []) mlRX10_110 mdX10_in (Nat.le_of_ble_eq_true rfl) rfl rfl (Nat.le_of_ble_eq_true rfl) ⟨Nat.le_refl _, Nat.le_refl _⟩ dX10_thing_11 ?_
    refine cm_mono hF (fun w H_4 hF => ?_)
    obtain ⟨r_5, rfl, hF⟩ := hF
    refine rn_if_eq (tgt := 26) dX10_thing_14 (by decide) (fun hc_6 => ?_) (fun hc_6 => ?_)
    · replace hF := hF.1 hc_6
      refine rn_bipush (x := (-2 : Int32)) dX10_thing_26 (by decide) ?_
      exact rm_iret rfl dX10_thing_28 hF
    · replace hF := hF.2 hc_6
      refine rn_aload_n dX10_thing_17 rfl ?_
      refine rn_iload_n dX10_thing_18 rfl ?_
      refine rn_iload_n dX10_thing_19 rfl ?_
      refine rm_callV (c0 := 99) (As := [.int x1, .int x2]) (st := []) mlRX10_150 mdX10_thingOf (Nat.le_of_ble_eq_true rfl) rfl (by decide) (by decide) rfl rfl rfl (Nat.le_of_ble_eq_true rfl) ⟨Nat.le_refl _, Nat.le_refl _⟩ dX10_thing_20 ?_
      refine cm_mono hF (fun w H_7 hF => ?_)
      obtain ⟨r_8, rfl, hF⟩ := hF
      refine rn_goto (tgt := 28) dX10_thing_23 (by decide) ?_
      exact rm_iret rfl dX10_thing_28 hF
theorem cmX10_thing {E : En} {Q : Option Value → Hi → Prop} {H : Hi} {x1 : Int32} {x2 : Int32} 
    (hF : Cm E mX10_isThing [rf E 99, .int x1] H (fun w H_1 => ∃ r_2 : Int32, w = some (.int r_2) ∧ ((r_2 = 0 → (Q (some (.int (-2 : Int32))) H_1)) ∧ (¬ r_2 = 0 → (Cm E mX10_in [.int x2, .int (0 : Int32), .int (2 : Int32)] H_1 (fun w H_4 => ∃ r_5 : Int32, w = some (.int r_5) ∧ ((r_5 = 0 → (Q (some (.int (-2 : Int32))) H_4)) ∧ (¬ r_5 = 0 → (Cm E mX10_thingOf [rf E 99, .int x1, .int x2] H_4 (fun w H_7 => ∃ r_8 : Int32, w = some (.int r_8) ∧ (Q (some (.int r_8)) H_7))))))))))) :
    Cm E mX10_thing [rf E 99, .int x1, .int x2] H Q :=
  cm_of (by decide +kernel) (Nat.le_of_ble_eq_true rfl) rfl (sgX10_thing_0  hF)
theorem sgX10_cousin_0 {E : En} {Q : Option Value → Hi → Prop} {H : Hi} {x1 : Int32} {x2 : Int32} 
    (hF : Cm E mX10_isCousin [rf E 99, .int x1] H (fun w H_1 => ∃ r_2 : Int32, w = some (.int r_2) ∧ ((r_2 = 0 → (Q (some (.int (-2 : Int32))) H_1)) ∧ (¬ r_2 = 0 → (Cm E mX10_in [.int x2, .int (0 : Int32), .int (1 : Int32)] H_1 (fun w H_4 => ∃ r_5 : Int32, w = some (.int r_5) ∧ ((r_5 = 0 → (Q (some (.int (-2 : Int32))) H_4)) ∧ (¬ r_5 = 0 → ((¬ x2 = 0 → (∃ j_8 : Nat, (j_8 < 9 ∧ x1 = nI j_8) ∧ (Q (some (.int (H_4 106 j_8))) H_4))) ∧ (x2 = 0 → (∃ j_9 : Nat, (j_9 < 9 ∧ x1 = nI j_9) ∧ (Q (some (.int (H_4 105 j_9))) H_4)))))))))))) :
    Rm E mX10_cousin Q 0 [some (rf E 99), some (.int x1), some (.int x2)] [] H := by
  refine rn_aload_n dX10_cousin_0 rfl ?_
  refine rn_iload_n dX10_cousin_1 rfl ?_
  refine rm_callV (c0 := 99) (As := [.int x1]) (st := []) mlRX10_153 mdX10_isCousin (Nat.le_of_ble_eq_true rfl) rfl (by decide) (by decide) rfl rfl rfl (Nat.le_of_ble_eq_true rfl) ⟨Nat.le_refl _, Nat.le_refl _⟩ dX10_cousin_2 ?_
  refine cm_mono hF (fun w H_1 hF => ?_)
  obtain ⟨r_2, rfl, hF⟩ := hF
  refine rn_if_eq (tgt := 39) dX10_cousin_5 (by decide) (fun hc_3 => ?_) (fun hc_3 => ?_)
  · replace hF := hF.1 hc_3
    refine rn_bipush (x := (-2 : Int32)) dX10_cousin_39 (by decide) ?_
    exact rm_iret rfl dX10_cousin_41 hF
  · replace hF := hF.2 hc_3
    refine rn_iload_n dX10_cousin_8 rfl ?_
    refine rn_iconst (x := (0 : Int32)) dX10_cousin_9 (by decide) ?_
    refine rn_iconst (x := (1 : Int32)) dX10_cousin_10 (by decide) ?_
    refine rm_callS (As := [.int x2, .int (0 : Int32), .int (1 : Int32)]) (st := []) mlRX10_110 mdX10_in (Nat.le_of_ble_eq_true rfl) rfl rfl (Nat.le_of_ble_eq_true rfl) ⟨Nat.le_refl _, Nat.le_refl _⟩ dX10_cousin_11 ?_
    refine cm_mono hF (fun w H_4 hF => ?_)
    obtain ⟨r_5, rfl, hF⟩ := hF
    refine rn_if_eq (tgt := 39) dX10_cousin_14 (by decide) (fun hc_6 => ?_) (fun hc_6 => ?_)
    · replace hF := hF.1 hc_6
      refine rn_bipush (x := (-2 : Int32)) dX10_cousin_39 (by decide) ?_
      exact rm_iret rfl dX10_cousin_41 hF
    · replace hF := hF.2 hc_6
      refine rn_iload_n dX10_cousin_17 rfl ?_
      refine rn_if_ne (tgt := 30) dX10_cousin_18 (by decide) (fun hc_7 => ?_) (fun hc_7 => ?_)
      · replace hF := hF.1 hc_7
        refine rn_aload_n dX10_cousin_30 rfl ?_
        refine rm_getr (r := 106) flRX10_28 rfl (by decide) rfl dX10_cousin_31 ?_
        refine rn_iload_n dX10_cousin_34 rfl ?_
        obtain ⟨j_8, hj_8, hF⟩ := hF
        refine rj_iald hj_8 rfl (by decide) rfl (by decide) dX10_cousin_35 ?_
        refine rn_goto (tgt := 41) dX10_cousin_36 (by decide) ?_
        exact rm_iret rfl dX10_cousin_41 hF
      · replace hF := hF.2 hc_7
        refine rn_aload_n dX10_cousin_21 rfl ?_
        refine rm_getr (r := 105) flRX10_25 rfl (by decide) rfl dX10_cousin_22 ?_
        refine rn_iload_n dX10_cousin_25 rfl ?_
        obtain ⟨j_9, hj_9, hF⟩ := hF
        refine rj_iald hj_9 rfl (by decide) rfl (by decide) dX10_cousin_26 ?_
        refine rn_goto (tgt := 41) dX10_cousin_27 (by decide) ?_
        exact rm_iret rfl dX10_cousin_41 hF
theorem cmX10_cousin {E : En} {Q : Option Value → Hi → Prop} {H : Hi} {x1 : Int32} {x2 : Int32} 
    (hF : Cm E mX10_isCousin [rf E 99, .int x1] H (fun w H_1 => ∃ r_2 : Int32, w = some (.int r_2) ∧ ((r_2 = 0 → (Q (some (.int (-2 : Int32))) H_1)) ∧ (¬ r_2 = 0 → (Cm E mX10_in [.int x2, .int (0 : Int32), .int (1 : Int32)] H_1 (fun w H_4 => ∃ r_5 : Int32, w = some (.int r_5) ∧ ((r_5 = 0 → (Q (some (.int (-2 : Int32))) H_4)) ∧ (¬ r_5 = 0 → ((¬ x2 = 0 → (∃ j_8 : Nat, (j_8 < 9 ∧ x1 = nI j_8) ∧ (Q (some (.int (H_4 106 j_8))) H_4))) ∧ (x2 = 0 → (∃ j_9 : Nat, (j_9 < 9 ∧ x1 = nI j_9) ∧ (Q (some (.int (H_4 105 j_9))) H_4)))))))))))) :
    Cm E mX10_cousin [rf E 99, .int x1, .int x2] H Q :=
  cm_of (by decide +kernel) (Nat.le_of_ble_eq_true rfl) rfl (sgX10_cousin_0  hF)
theorem sgX10_room_0 {E : En} {Q : Option Value → Hi → Prop} {H : Hi} {x1 : Int32} 
    (hF : Cm E mX10_in [.int x1, .int (1 : Int32), .int (72 : Int32)] H (fun w H_1 => ∃ r_2 : Int32, w = some (.int r_2) ∧ ((¬ r_2 = 0 → (∀ x2_4 : Int32, x2_4 = H_1 99 9 → (∀ H_5 : Hi, H_5 = up H_1 99 9 x1 → (Q (some (.int x2_4)) H_5)))) ∧ (r_2 = 0 → (Q (some (.int (-2 : Int32))) H_1))))) :
    Rm E mX10_room Q 0 [some (rf E 99), some (.int x1), none] [] H := by
  refine rn_iload_n dX10_room_0 rfl ?_
  refine rn_iconst (x := (1 : Int32)) dX10_room_1 (by decide) ?_
  refine rn_bipush (x := (72 : Int32)) dX10_room_2 (by decide) ?_
  refine rm_callS (As := [.int x1, .int (1 : Int32), .int (72 : Int32)]) (st := []) mlRX10_110 mdX10_in (Nat.le_of_ble_eq_true rfl) rfl rfl (Nat.le_of_ble_eq_true rfl) ⟨Nat.le_refl _, Nat.le_refl _⟩ dX10_room_4 ?_
  refine cm_mono hF (fun w H_1 hF => ?_)
  obtain ⟨r_2, rfl, hF⟩ := hF
  refine rn_if_ne (tgt := 13) dX10_room_7 (by decide) (fun hc_3 => ?_) (fun hc_3 => ?_)
  · replace hF := hF.1 hc_3
    refine rn_aload_n dX10_room_13 rfl ?_
    refine rm_geti flRX10_104 rfl (by decide) rfl dX10_room_14 ?_
    refine rn_istore_n dX10_room_17 rfl (by decide) (fun x2_4 ex2_4 => ?_)
    replace hF := hF x2_4 ex2_4
    refine rn_aload_n dX10_room_18 rfl ?_
    refine rn_iload_n dX10_room_19 rfl ?_
    refine rm_puti flRX10_104 rfl (by decide) rfl dX10_room_20 (fun H_5 eH_5 => ?_)
    replace hF := hF H_5 eH_5
    refine rn_iload_n dX10_room_23 rfl ?_
    exact rm_iret rfl dX10_room_24 hF
  · replace hF := hF.2 hc_3
    refine rn_bipush (x := (-2 : Int32)) dX10_room_10 (by decide) ?_
    exact rm_iret rfl dX10_room_12 hF
theorem cmX10_room {E : En} {Q : Option Value → Hi → Prop} {H : Hi} {x1 : Int32} 
    (hF : Cm E mX10_in [.int x1, .int (1 : Int32), .int (72 : Int32)] H (fun w H_1 => ∃ r_2 : Int32, w = some (.int r_2) ∧ ((¬ r_2 = 0 → (∀ x2_4 : Int32, x2_4 = H_1 99 9 → (∀ H_5 : Hi, H_5 = up H_1 99 9 x1 → (Q (some (.int x2_4)) H_5)))) ∧ (r_2 = 0 → (Q (some (.int (-2 : Int32))) H_1))))) :
    Cm E mX10_room [rf E 99, .int x1] H Q :=
  cm_of (by decide +kernel) (Nat.le_of_ble_eq_true rfl) rfl (sgX10_room_0  hF)
theorem sgX10_aunt_0 {E : En} {Q : Option Value → Hi → Prop} {H : Hi} {x1 : Int32} 
    (hF : Cm E mX10_in [.int x1, .int (0 : Int32), .int (16777215 : Int32)] H (fun w H_1 => ∃ r_2 : Int32, w = some (.int r_2) ∧ ((¬ r_2 = 0 → (∀ x2_4 : Int32, x2_4 = H_1 99 10 → (∀ H_5 : Hi, H_5 = up H_1 99 10 x1 → (Q (some (.int x2_4)) H_5)))) ∧ (r_2 = 0 → (Q (some (.int (-2 : Int32))) H_1))))) :
    Rm E mX10_aunt Q 0 [some (rf E 99), some (.int x1), none] [] H := by
  refine rn_iload_n dX10_aunt_0 rfl ?_
  refine rn_iconst (x := (0 : Int32)) dX10_aunt_1 (by decide) ?_
  refine rn_ldc coRX10_156 dX10_aunt_2 ?_
  refine rm_callS (As := [.int x1, .int (0 : Int32), .int (16777215 : Int32)]) (st := []) mlRX10_110 mdX10_in (Nat.le_of_ble_eq_true rfl) rfl rfl (Nat.le_of_ble_eq_true rfl) ⟨Nat.le_refl _, Nat.le_refl _⟩ dX10_aunt_4 ?_
  refine cm_mono hF (fun w H_1 hF => ?_)
  obtain ⟨r_2, rfl, hF⟩ := hF
  refine rn_if_ne (tgt := 13) dX10_aunt_7 (by decide) (fun hc_3 => ?_) (fun hc_3 => ?_)
  · replace hF := hF.1 hc_3
    refine rn_aload_n dX10_aunt_13 rfl ?_
    refine rm_geti flRX10_157 rfl (by decide) rfl dX10_aunt_14 ?_
    refine rn_istore_n dX10_aunt_17 rfl (by decide) (fun x2_4 ex2_4 => ?_)
    replace hF := hF x2_4 ex2_4
    refine rn_aload_n dX10_aunt_18 rfl ?_
    refine rn_iload_n dX10_aunt_19 rfl ?_
    refine rm_puti flRX10_157 rfl (by decide) rfl dX10_aunt_20 (fun H_5 eH_5 => ?_)
    replace hF := hF H_5 eH_5
    refine rn_iload_n dX10_aunt_23 rfl ?_
    exact rm_iret rfl dX10_aunt_24 hF
  · replace hF := hF.2 hc_3
    refine rn_bipush (x := (-2 : Int32)) dX10_aunt_10 (by decide) ?_
    exact rm_iret rfl dX10_aunt_12 hF
theorem cmX10_aunt {E : En} {Q : Option Value → Hi → Prop} {H : Hi} {x1 : Int32} 
    (hF : Cm E mX10_in [.int x1, .int (0 : Int32), .int (16777215 : Int32)] H (fun w H_1 => ∃ r_2 : Int32, w = some (.int r_2) ∧ ((¬ r_2 = 0 → (∀ x2_4 : Int32, x2_4 = H_1 99 10 → (∀ H_5 : Hi, H_5 = up H_1 99 10 x1 → (Q (some (.int x2_4)) H_5)))) ∧ (r_2 = 0 → (Q (some (.int (-2 : Int32))) H_1))))) :
    Cm E mX10_aunt [rf E 99, .int x1] H Q :=
  cm_of (by decide +kernel) (Nat.le_of_ble_eq_true rfl) rfl (sgX10_aunt_0  hF)
theorem sgX10_hand_0 {E : En} {Q : Option Value → Hi → Prop} {H : Hi} {x1 : Int32} {x2 : Int32} {x3 : Int32} {x4 : Int32} 
    (hF : Cm E mX10_isHour [.int x1] H (fun w H_1 => ∃ r_2 : Int32, w = some (.int r_2) ∧ ((r_2 = 0 → (Q (some (.int (-2 : Int32))) H_1)) ∧ (¬ r_2 = 0 → (Cm E mX10_isEight [.int x2] H_1 (fun w H_4 => ∃ r_5 : Int32, w = some (.int r_5) ∧ ((r_5 = 0 → (Q (some (.int (-2 : Int32))) H_4)) ∧ (¬ r_5 = 0 → (Cm E mX10_isEight [.int x3] H_4 (fun w H_7 => ∃ r_8 : Int32, w = some (.int r_8) ∧ ((r_8 = 0 → (Q (some (.int (-2 : Int32))) H_7)) ∧ (¬ r_8 = 0 → (Cm E mX10_in [.int x4, .int (0 : Int32), .int (1 : Int32)] H_7 (fun w H_10 => ∃ r_11 : Int32, w = some (.int r_11) ∧ ((¬ r_11 = 0 → ((¬ (H_10 99 11) = (20 : Int32) → (∃ j_14 : Nat, (j_14 < 44 ∧ H_10 99 11 = nI j_14) ∧ (∀ H_15 : Hi, H_15 = up H_10 107 j_14 x1 → (∃ j_16 : Nat, (j_16 < 44 ∧ H_15 99 11 = nI j_16) ∧ (∀ H_17 : Hi, H_17 = up H_15 108 j_16 ((((64 : Int32) * x4) + ((8 : Int32) * x2)) + x3) → (∀ H_18 : Hi, H_18 = up H_17 99 11 ((H_17 99 11) + (1 : Int32)) → (Q (some (.int (H_18 99 11))) H_18))))))) ∧ ((H_10 99 11) = (20 : Int32) → (Q (some (.int (-4 : Int32))) H_10)))) ∧ (r_11 = 0 → (Q (some (.int (-2 : Int32))) H_10))))))))))))))))) :
    Rm E mX10_hand Q 0 [some (rf E 99), some (.int x1), some (.int x2), some (.int x3), some (.int x4)] [] H := by
  refine rn_iload_n dX10_hand_0 rfl ?_
  refine rm_callS (As := [.int x1]) (st := []) mlRX10_160 mdX10_isHour (Nat.le_of_ble_eq_true rfl) rfl rfl (Nat.le_of_ble_eq_true rfl) ⟨Nat.le_refl _, Nat.le_refl _⟩ dX10_hand_1 ?_
  refine cm_mono hF (fun w H_1 hF => ?_)
  obtain ⟨r_2, rfl, hF⟩ := hF
  refine rn_if_eq (tgt := 31) dX10_hand_4 (by decide) (fun hc_3 => ?_) (fun hc_3 => ?_)
  · replace hF := hF.1 hc_3
    refine rn_bipush (x := (-2 : Int32)) dX10_hand_31 (by decide) ?_
    exact rm_iret rfl dX10_hand_33 hF
  · replace hF := hF.2 hc_3
    refine rn_iload_n dX10_hand_7 rfl ?_
    refine rm_callS (As := [.int x2]) (st := []) mlRX10_122 mdX10_isEight (Nat.le_of_ble_eq_true rfl) rfl rfl (Nat.le_of_ble_eq_true rfl) ⟨Nat.le_refl _, Nat.le_refl _⟩ dX10_hand_8 ?_
    refine cm_mono hF (fun w H_4 hF => ?_)
    obtain ⟨r_5, rfl, hF⟩ := hF
    refine rn_if_eq (tgt := 31) dX10_hand_11 (by decide) (fun hc_6 => ?_) (fun hc_6 => ?_)
    · replace hF := hF.1 hc_6
      refine rn_bipush (x := (-2 : Int32)) dX10_hand_31 (by decide) ?_
      exact rm_iret rfl dX10_hand_33 hF
    · replace hF := hF.2 hc_6
      refine rn_iload_n dX10_hand_14 rfl ?_
      refine rm_callS (As := [.int x3]) (st := []) mlRX10_122 mdX10_isEight (Nat.le_of_ble_eq_true rfl) rfl rfl (Nat.le_of_ble_eq_true rfl) ⟨Nat.le_refl _, Nat.le_refl _⟩ dX10_hand_15 ?_
      refine cm_mono hF (fun w H_7 hF => ?_)
      obtain ⟨r_8, rfl, hF⟩ := hF
      refine rn_if_eq (tgt := 31) dX10_hand_18 (by decide) (fun hc_9 => ?_) (fun hc_9 => ?_)
      · replace hF := hF.1 hc_9
        refine rn_bipush (x := (-2 : Int32)) dX10_hand_31 (by decide) ?_
        exact rm_iret rfl dX10_hand_33 hF
      · replace hF := hF.2 hc_9
        refine rn_iload dX10_hand_21 rfl ?_
        refine rn_iconst (x := (0 : Int32)) dX10_hand_23 (by decide) ?_
        refine rn_iconst (x := (1 : Int32)) dX10_hand_24 (by decide) ?_
        refine rm_callS (As := [.int x4, .int (0 : Int32), .int (1 : Int32)]) (st := []) mlRX10_110 mdX10_in (Nat.le_of_ble_eq_true rfl) rfl rfl (Nat.le_of_ble_eq_true rfl) ⟨Nat.le_refl _, Nat.le_refl _⟩ dX10_hand_25 ?_
        refine cm_mono hF (fun w H_10 hF => ?_)
        obtain ⟨r_11, rfl, hF⟩ := hF
        refine rn_if_ne (tgt := 34) dX10_hand_28 (by decide) (fun hc_12 => ?_) (fun hc_12 => ?_)
        · replace hF := hF.1 hc_12
          refine rn_aload_n dX10_hand_34 rfl ?_
          refine rm_geti flRX10_163 rfl (by decide) rfl dX10_hand_35 ?_
          refine rn_bipush (x := (20 : Int32)) dX10_hand_38 (by decide) ?_
          refine rn_icmp_ne (tgt := 46) dX10_hand_40 (by decide) (fun hc_13 => ?_) (fun hc_13 => ?_)
          · replace hF := hF.1 hc_13
            refine rn_aload_n dX10_hand_46 rfl ?_
            refine rm_getr (r := 107) flRX10_31 rfl (by decide) rfl dX10_hand_47 ?_
            refine rn_aload_n dX10_hand_50 rfl ?_
            refine rm_geti flRX10_163 rfl (by decide) rfl dX10_hand_51 ?_
            refine rn_iload_n dX10_hand_54 rfl ?_
            obtain ⟨j_14, hj_14, hF⟩ := hF
            refine rj_iast hj_14 rfl (by decide) rfl (by decide) dX10_hand_55 (fun H_15 eH_15 => ?_)
            replace hF := hF H_15 eH_15
            refine rn_aload_n dX10_hand_56 rfl ?_
            refine rm_getr (r := 108) flRX10_34 rfl (by decide) rfl dX10_hand_57 ?_
            refine rn_aload_n dX10_hand_60 rfl ?_
            refine rm_geti flRX10_163 rfl (by decide) rfl dX10_hand_61 ?_
            refine rn_bipush (x := (64 : Int32)) dX10_hand_64 (by decide) ?_
            refine rn_iload dX10_hand_66 rfl ?_
            refine rn_imul dX10_hand_68 ?_
            refine rn_bipush (x := (8 : Int32)) dX10_hand_69 (by decide) ?_
            refine rn_iload_n dX10_hand_71 rfl ?_
            refine rn_imul dX10_hand_72 ?_
            refine rn_iadd dX10_hand_73 ?_
            refine rn_iload_n dX10_hand_74 rfl ?_
            refine rn_iadd dX10_hand_75 ?_
            obtain ⟨j_16, hj_16, hF⟩ := hF
            refine rj_iast hj_16 rfl (by decide) rfl (by decide) dX10_hand_76 (fun H_17 eH_17 => ?_)
            replace hF := hF H_17 eH_17
            refine rn_aload_n dX10_hand_77 rfl ?_
            refine rn_dup dX10_hand_78 rfl ?_
            refine rm_geti flRX10_163 rfl (by decide) rfl dX10_hand_79 ?_
            refine rn_iconst (x := (1 : Int32)) dX10_hand_82 (by decide) ?_
            refine rn_iadd dX10_hand_83 ?_
            refine rm_puti flRX10_163 rfl (by decide) rfl dX10_hand_84 (fun H_18 eH_18 => ?_)
            replace hF := hF H_18 eH_18
            refine rn_aload_n dX10_hand_87 rfl ?_
            refine rm_geti flRX10_163 rfl (by decide) rfl dX10_hand_88 ?_
            exact rm_iret rfl dX10_hand_91 hF
          · replace hF := hF.2 hc_13
            refine rn_bipush (x := (-4 : Int32)) dX10_hand_43 (by decide) ?_
            exact rm_iret rfl dX10_hand_45 hF
        · replace hF := hF.2 hc_12
          refine rn_bipush (x := (-2 : Int32)) dX10_hand_31 (by decide) ?_
          exact rm_iret rfl dX10_hand_33 hF
theorem cmX10_hand {E : En} {Q : Option Value → Hi → Prop} {H : Hi} {x1 : Int32} {x2 : Int32} {x3 : Int32} {x4 : Int32} 
    (hF : Cm E mX10_isHour [.int x1] H (fun w H_1 => ∃ r_2 : Int32, w = some (.int r_2) ∧ ((r_2 = 0 → (Q (some (.int (-2 : Int32))) H_1)) ∧ (¬ r_2 = 0 → (Cm E mX10_isEight [.int x2] H_1 (fun w H_4 => ∃ r_5 : Int32, w = some (.int r_5) ∧ ((r_5 = 0 → (Q (some (.int (-2 : Int32))) H_4)) ∧ (¬ r_5 = 0 → (Cm E mX10_isEight [.int x3] H_4 (fun w H_7 => ∃ r_8 : Int32, w = some (.int r_8) ∧ ((r_8 = 0 → (Q (some (.int (-2 : Int32))) H_7)) ∧ (¬ r_8 = 0 → (Cm E mX10_in [.int x4, .int (0 : Int32), .int (1 : Int32)] H_7 (fun w H_10 => ∃ r_11 : Int32, w = some (.int r_11) ∧ ((¬ r_11 = 0 → ((¬ (H_10 99 11) = (20 : Int32) → (∃ j_14 : Nat, (j_14 < 44 ∧ H_10 99 11 = nI j_14) ∧ (∀ H_15 : Hi, H_15 = up H_10 107 j_14 x1 → (∃ j_16 : Nat, (j_16 < 44 ∧ H_15 99 11 = nI j_16) ∧ (∀ H_17 : Hi, H_17 = up H_15 108 j_16 ((((64 : Int32) * x4) + ((8 : Int32) * x2)) + x3) → (∀ H_18 : Hi, H_18 = up H_17 99 11 ((H_17 99 11) + (1 : Int32)) → (Q (some (.int (H_18 99 11))) H_18))))))) ∧ ((H_10 99 11) = (20 : Int32) → (Q (some (.int (-4 : Int32))) H_10)))) ∧ (r_11 = 0 → (Q (some (.int (-2 : Int32))) H_10))))))))))))))))) :
    Cm E mX10_hand [rf E 99, .int x1, .int x2, .int x3, .int x4] H Q :=
  cm_of (by decide +kernel) (Nat.le_of_ble_eq_true rfl) rfl (sgX10_hand_0  hF)
theorem sgX10_hole_0 {E : En} {Q : Option Value → Hi → Prop} {H : Hi} {x1 : Int32} {x2 : Int32} 
    (hF : Cm E mX10_isHour [.int x1] H (fun w H_1 => ∃ r_2 : Int32, w = some (.int r_2) ∧ ((r_2 = 0 → (Q (some (.int (-2 : Int32))) H_1)) ∧ (¬ r_2 = 0 → (Cm E mX10_in [.int x2, .int (1 : Int32), .int (9 : Int32)] H_1 (fun w H_4 => ∃ r_5 : Int32, w = some (.int r_5) ∧ ((¬ r_5 = 0 → ((¬ (H_4 99 14) = (6 : Int32) → (∃ j_8 : Nat, (j_8 < 6 ∧ H_4 99 14 = nI j_8) ∧ (∀ H_9 : Hi, H_9 = up H_4 109 j_8 x1 → (∃ j_10 : Nat, (j_10 < 6 ∧ H_9 99 14 = nI j_10) ∧ (∀ H_11 : Hi, H_11 = up H_9 110 j_10 x2 → (∀ H_12 : Hi, H_12 = up H_11 99 14 ((H_11 99 14) + (1 : Int32)) → (Q (some (.int (H_12 99 14))) H_12))))))) ∧ ((H_4 99 14) = (6 : Int32) → (Q (some (.int (-4 : Int32))) H_4)))) ∧ (r_5 = 0 → (Q (some (.int (-2 : Int32))) H_4))))))))) :
    Rm E mX10_hole Q 0 [some (rf E 99), some (.int x1), some (.int x2)] [] H := by
  refine rn_iload_n dX10_hole_0 rfl ?_
  refine rm_callS (As := [.int x1]) (st := []) mlRX10_160 mdX10_isHour (Nat.le_of_ble_eq_true rfl) rfl rfl (Nat.le_of_ble_eq_true rfl) ⟨Nat.le_refl _, Nat.le_refl _⟩ dX10_hole_1 ?_
  refine cm_mono hF (fun w H_1 hF => ?_)
  obtain ⟨r_2, rfl, hF⟩ := hF
  refine rn_if_eq (tgt := 17) dX10_hole_4 (by decide) (fun hc_3 => ?_) (fun hc_3 => ?_)
  · replace hF := hF.1 hc_3
    refine rn_bipush (x := (-2 : Int32)) dX10_hole_17 (by decide) ?_
    exact rm_iret rfl dX10_hole_19 hF
  · replace hF := hF.2 hc_3
    refine rn_iload_n dX10_hole_7 rfl ?_
    refine rn_iconst (x := (1 : Int32)) dX10_hole_8 (by decide) ?_
    refine rn_bipush (x := (9 : Int32)) dX10_hole_9 (by decide) ?_
    refine rm_callS (As := [.int x2, .int (1 : Int32), .int (9 : Int32)]) (st := []) mlRX10_110 mdX10_in (Nat.le_of_ble_eq_true rfl) rfl rfl (Nat.le_of_ble_eq_true rfl) ⟨Nat.le_refl _, Nat.le_refl _⟩ dX10_hole_11 ?_
    refine cm_mono hF (fun w H_4 hF => ?_)
    obtain ⟨r_5, rfl, hF⟩ := hF
    refine rn_if_ne (tgt := 20) dX10_hole_14 (by decide) (fun hc_6 => ?_) (fun hc_6 => ?_)
    · replace hF := hF.1 hc_6
      refine rn_aload_n dX10_hole_20 rfl ?_
      refine rm_geti flRX10_166 rfl (by decide) rfl dX10_hole_21 ?_
      refine rn_bipush (x := (6 : Int32)) dX10_hole_24 (by decide) ?_
      refine rn_icmp_ne (tgt := 32) dX10_hole_26 (by decide) (fun hc_7 => ?_) (fun hc_7 => ?_)
      · replace hF := hF.1 hc_7
        refine rn_aload_n dX10_hole_32 rfl ?_
        refine rm_getr (r := 109) flRX10_37 rfl (by decide) rfl dX10_hole_33 ?_
        refine rn_aload_n dX10_hole_36 rfl ?_
        refine rm_geti flRX10_166 rfl (by decide) rfl dX10_hole_37 ?_
        refine rn_iload_n dX10_hole_40 rfl ?_
        obtain ⟨j_8, hj_8, hF⟩ := hF
        refine rj_iast hj_8 rfl (by decide) rfl (by decide) dX10_hole_41 (fun H_9 eH_9 => ?_)
        replace hF := hF H_9 eH_9
        refine rn_aload_n dX10_hole_42 rfl ?_
        refine rm_getr (r := 110) flRX10_40 rfl (by decide) rfl dX10_hole_43 ?_
        refine rn_aload_n dX10_hole_46 rfl ?_
        refine rm_geti flRX10_166 rfl (by decide) rfl dX10_hole_47 ?_
        refine rn_iload_n dX10_hole_50 rfl ?_
        obtain ⟨j_10, hj_10, hF⟩ := hF
        refine rj_iast hj_10 rfl (by decide) rfl (by decide) dX10_hole_51 (fun H_11 eH_11 => ?_)
        replace hF := hF H_11 eH_11
        refine rn_aload_n dX10_hole_52 rfl ?_
        refine rn_dup dX10_hole_53 rfl ?_
        refine rm_geti flRX10_166 rfl (by decide) rfl dX10_hole_54 ?_
        refine rn_iconst (x := (1 : Int32)) dX10_hole_57 (by decide) ?_
        refine rn_iadd dX10_hole_58 ?_
        refine rm_puti flRX10_166 rfl (by decide) rfl dX10_hole_59 (fun H_12 eH_12 => ?_)
        replace hF := hF H_12 eH_12
        refine rn_aload_n dX10_hole_62 rfl ?_
        refine rm_geti flRX10_166 rfl (by decide) rfl dX10_hole_63 ?_
        exact rm_iret rfl dX10_hole_66 hF
      · replace hF := hF.2 hc_7
        refine rn_bipush (x := (-4 : Int32)) dX10_hole_29 (by decide) ?_
        exact rm_iret rfl dX10_hole_31 hF
    · replace hF := hF.2 hc_6
      refine rn_bipush (x := (-2 : Int32)) dX10_hole_17 (by decide) ?_
      exact rm_iret rfl dX10_hole_19 hF
theorem cmX10_hole {E : En} {Q : Option Value → Hi → Prop} {H : Hi} {x1 : Int32} {x2 : Int32} 
    (hF : Cm E mX10_isHour [.int x1] H (fun w H_1 => ∃ r_2 : Int32, w = some (.int r_2) ∧ ((r_2 = 0 → (Q (some (.int (-2 : Int32))) H_1)) ∧ (¬ r_2 = 0 → (Cm E mX10_in [.int x2, .int (1 : Int32), .int (9 : Int32)] H_1 (fun w H_4 => ∃ r_5 : Int32, w = some (.int r_5) ∧ ((¬ r_5 = 0 → ((¬ (H_4 99 14) = (6 : Int32) → (∃ j_8 : Nat, (j_8 < 6 ∧ H_4 99 14 = nI j_8) ∧ (∀ H_9 : Hi, H_9 = up H_4 109 j_8 x1 → (∃ j_10 : Nat, (j_10 < 6 ∧ H_9 99 14 = nI j_10) ∧ (∀ H_11 : Hi, H_11 = up H_9 110 j_10 x2 → (∀ H_12 : Hi, H_12 = up H_11 99 14 ((H_11 99 14) + (1 : Int32)) → (Q (some (.int (H_12 99 14))) H_12))))))) ∧ ((H_4 99 14) = (6 : Int32) → (Q (some (.int (-4 : Int32))) H_4)))) ∧ (r_5 = 0 → (Q (some (.int (-2 : Int32))) H_4))))))))) :
    Cm E mX10_hole [rf E 99, .int x1, .int x2] H Q :=
  cm_of (by decide +kernel) (Nat.le_of_ble_eq_true rfl) rfl (sgX10_hole_0  hF)
theorem sgX10_back_0 {E : En} {Q : Option Value → Hi → Prop} {H : Hi} {x1 : Int32} 
    (hF : Cm E mX10_in [.int x1, .int (0 : Int32), .int (1 : Int32)] H (fun w H_1 => ∃ r_2 : Int32, w = some (.int r_2) ∧ ((¬ r_2 = 0 → ((¬ x1 = 0 → (∀ x2_5 : Int32, x2_5 = H_1 99 14 → ((¬ x2_5 = 0 → ((¬ x1 = 0 → (∀ H_8 : Hi, H_8 = up H_1 99 11 ((H_1 99 11) - (0 : Int32)) → ((¬ x1 = (1 : Int32) → (∀ H_10 : Hi, H_10 = up H_8 99 14 ((H_8 99 14) - (0 : Int32)) → (Q (some (.int (x2_5 - (1 : Int32)))) H_10))) ∧ (x1 = (1 : Int32) → (∀ H_11 : Hi, H_11 = up H_8 99 14 ((H_8 99 14) - (1 : Int32)) → (Q (some (.int (x2_5 - (1 : Int32)))) H_11)))))) ∧ (x1 = 0 → (∀ H_12 : Hi, H_12 = up H_1 99 11 ((H_1 99 11) - (1 : Int32)) → ((¬ x1 = (1 : Int32) → (∀ H_14 : Hi, H_14 = up H_12 99 14 ((H_12 99 14) - (0 : Int32)) → (Q (some (.int (x2_5 - (1 : Int32)))) H_14))) ∧ (x1 = (1 : Int32) → (∀ H_15 : Hi, H_15 = up H_12 99 14 ((H_12 99 14) - (1 : Int32)) → (Q (some (.int (x2_5 - (1 : Int32)))) H_15)))))))) ∧ (x2_5 = 0 → (Q (some (.int (-3 : Int32))) H_1))))) ∧ (x1 = 0 → (∀ x2_16 : Int32, x2_16 = H_1 99 11 → ((¬ x2_16 = 0 → ((¬ x1 = 0 → (∀ H_19 : Hi, H_19 = up H_1 99 11 ((H_1 99 11) - (0 : Int32)) → ((¬ x1 = (1 : Int32) → (∀ H_21 : Hi, H_21 = up H_19 99 14 ((H_19 99 14) - (0 : Int32)) → (Q (some (.int (x2_16 - (1 : Int32)))) H_21))) ∧ (x1 = (1 : Int32) → (∀ H_22 : Hi, H_22 = up H_19 99 14 ((H_19 99 14) - (1 : Int32)) → (Q (some (.int (x2_16 - (1 : Int32)))) H_22)))))) ∧ (x1 = 0 → (∀ H_23 : Hi, H_23 = up H_1 99 11 ((H_1 99 11) - (1 : Int32)) → ((¬ x1 = (1 : Int32) → (∀ H_25 : Hi, H_25 = up H_23 99 14 ((H_23 99 14) - (0 : Int32)) → (Q (some (.int (x2_16 - (1 : Int32)))) H_25))) ∧ (x1 = (1 : Int32) → (∀ H_26 : Hi, H_26 = up H_23 99 14 ((H_23 99 14) - (1 : Int32)) → (Q (some (.int (x2_16 - (1 : Int32)))) H_26)))))))) ∧ (x2_16 = 0 → (Q (some (.int (-3 : Int32))) H_1))))))) ∧ (r_2 = 0 → (Q (some (.int (-2 : Int32))) H_1))))) :
    Rm E mX10_back Q 0 [some (rf E 99), some (.int x1), none] [] H := by
  refine rn_iload_n dX10_back_0 rfl ?_
  refine rn_iconst (x := (0 : Int32)) dX10_back_1 (by decide) ?_
  refine rn_iconst (x := (1 : Int32)) dX10_back_2 (by decide) ?_
  refine rm_callS (As := [.int x1, .int (0 : Int32), .int (1 : Int32)]) (st := []) mlRX10_110 mdX10_in (Nat.le_of_ble_eq_true rfl) rfl rfl (Nat.le_of_ble_eq_true rfl) ⟨Nat.le_refl _, Nat.le_refl _⟩ dX10_back_3 ?_
  refine cm_mono hF (fun w H_1 hF => ?_)
  obtain ⟨r_2, rfl, hF⟩ := hF
  refine rn_if_ne (tgt := 12) dX10_back_6 (by decide) (fun hc_3 => ?_) (fun hc_3 => ?_)
  · replace hF := hF.1 hc_3
    refine rn_iload_n dX10_back_12 rfl ?_
    refine rn_if_ne (tgt := 23) dX10_back_13 (by decide) (fun hc_4 => ?_) (fun hc_4 => ?_)
    · replace hF := hF.1 hc_4
      refine rn_aload_n dX10_back_23 rfl ?_
      refine rm_geti flRX10_166 rfl (by decide) rfl dX10_back_24 ?_
      refine rn_istore_n dX10_back_27 rfl (by decide) (fun x2_5 ex2_5 => ?_)
      replace hF := hF x2_5 ex2_5
      refine rn_iload_n dX10_back_28 rfl ?_
      refine rn_if_ne (tgt := 35) dX10_back_29 (by decide) (fun hc_6 => ?_) (fun hc_6 => ?_)
      · replace hF := hF.1 hc_6
        refine rn_aload_n dX10_back_35 rfl ?_
        refine rn_dup dX10_back_36 rfl ?_
        refine rm_geti flRX10_163 rfl (by decide) rfl dX10_back_37 ?_
        refine rn_iload_n dX10_back_40 rfl ?_
        refine rn_if_ne (tgt := 48) dX10_back_41 (by decide) (fun hc_7 => ?_) (fun hc_7 => ?_)
        · replace hF := hF.1 hc_7
          refine rn_iconst (x := (0 : Int32)) dX10_back_48 (by decide) ?_
          refine rn_isub dX10_back_49 ?_
          refine rm_puti flRX10_163 rfl (by decide) rfl dX10_back_50 (fun H_8 eH_8 => ?_)
          replace hF := hF H_8 eH_8
          refine rn_aload_n dX10_back_53 rfl ?_
          refine rn_dup dX10_back_54 rfl ?_
          refine rm_geti flRX10_166 rfl (by decide) rfl dX10_back_55 ?_
          refine rn_iload_n dX10_back_58 rfl ?_
          refine rn_iconst (x := (1 : Int32)) dX10_back_59 (by decide) ?_
          refine rn_icmp_ne (tgt := 67) dX10_back_60 (by decide) (fun hc_9 => ?_) (fun hc_9 => ?_)
          · replace hF := hF.1 hc_9
            refine rn_iconst (x := (0 : Int32)) dX10_back_67 (by decide) ?_
            refine rn_isub dX10_back_68 ?_
            refine rm_puti flRX10_166 rfl (by decide) rfl dX10_back_69 (fun H_10 eH_10 => ?_)
            replace hF := hF H_10 eH_10
            refine rn_iload_n dX10_back_72 rfl ?_
            refine rn_iconst (x := (1 : Int32)) dX10_back_73 (by decide) ?_
            refine rn_isub dX10_back_74 ?_
            exact rm_iret rfl dX10_back_75 hF
          · replace hF := hF.2 hc_9
            refine rn_iconst (x := (1 : Int32)) dX10_back_63 (by decide) ?_
            refine rn_goto (tgt := 68) dX10_back_64 (by decide) ?_
            refine rn_isub dX10_back_68 ?_
            refine rm_puti flRX10_166 rfl (by decide) rfl dX10_back_69 (fun H_11 eH_11 => ?_)
            replace hF := hF H_11 eH_11
            refine rn_iload_n dX10_back_72 rfl ?_
            refine rn_iconst (x := (1 : Int32)) dX10_back_73 (by decide) ?_
            refine rn_isub dX10_back_74 ?_
            exact rm_iret rfl dX10_back_75 hF
        · replace hF := hF.2 hc_7
          refine rn_iconst (x := (1 : Int32)) dX10_back_44 (by decide) ?_
          refine rn_goto (tgt := 49) dX10_back_45 (by decide) ?_
          refine rn_isub dX10_back_49 ?_
          refine rm_puti flRX10_163 rfl (by decide) rfl dX10_back_50 (fun H_12 eH_12 => ?_)
          replace hF := hF H_12 eH_12
          refine rn_aload_n dX10_back_53 rfl ?_
          refine rn_dup dX10_back_54 rfl ?_
          refine rm_geti flRX10_166 rfl (by decide) rfl dX10_back_55 ?_
          refine rn_iload_n dX10_back_58 rfl ?_
          refine rn_iconst (x := (1 : Int32)) dX10_back_59 (by decide) ?_
          refine rn_icmp_ne (tgt := 67) dX10_back_60 (by decide) (fun hc_13 => ?_) (fun hc_13 => ?_)
          · replace hF := hF.1 hc_13
            refine rn_iconst (x := (0 : Int32)) dX10_back_67 (by decide) ?_
            refine rn_isub dX10_back_68 ?_
            refine rm_puti flRX10_166 rfl (by decide) rfl dX10_back_69 (fun H_14 eH_14 => ?_)
            replace hF := hF H_14 eH_14
            refine rn_iload_n dX10_back_72 rfl ?_
            refine rn_iconst (x := (1 : Int32)) dX10_back_73 (by decide) ?_
            refine rn_isub dX10_back_74 ?_
            exact rm_iret rfl dX10_back_75 hF
          · replace hF := hF.2 hc_13
            refine rn_iconst (x := (1 : Int32)) dX10_back_63 (by decide) ?_
            refine rn_goto (tgt := 68) dX10_back_64 (by decide) ?_
            refine rn_isub dX10_back_68 ?_
            refine rm_puti flRX10_166 rfl (by decide) rfl dX10_back_69 (fun H_15 eH_15 => ?_)
            replace hF := hF H_15 eH_15
            refine rn_iload_n dX10_back_72 rfl ?_
            refine rn_iconst (x := (1 : Int32)) dX10_back_73 (by decide) ?_
            refine rn_isub dX10_back_74 ?_
            exact rm_iret rfl dX10_back_75 hF
      · replace hF := hF.2 hc_6
        refine rn_bipush (x := (-3 : Int32)) dX10_back_32 (by decide) ?_
        exact rm_iret rfl dX10_back_34 hF
    · replace hF := hF.2 hc_4
      refine rn_aload_n dX10_back_16 rfl ?_
      refine rm_geti flRX10_163 rfl (by decide) rfl dX10_back_17 ?_
      refine rn_goto (tgt := 27) dX10_back_20 (by decide) ?_
      refine rn_istore_n dX10_back_27 rfl (by decide) (fun x2_16 ex2_16 => ?_)
      replace hF := hF x2_16 ex2_16
      refine rn_iload_n dX10_back_28 rfl ?_
      refine rn_if_ne (tgt := 35) dX10_back_29 (by decide) (fun hc_17 => ?_) (fun hc_17 => ?_)
      · replace hF := hF.1 hc_17
        refine rn_aload_n dX10_back_35 rfl ?_
        refine rn_dup dX10_back_36 rfl ?_
        refine rm_geti flRX10_163 rfl (by decide) rfl dX10_back_37 ?_
        refine rn_iload_n dX10_back_40 rfl ?_
        refine rn_if_ne (tgt := 48) dX10_back_41 (by decide) (fun hc_18 => ?_) (fun hc_18 => ?_)
        · replace hF := hF.1 hc_18
          refine rn_iconst (x := (0 : Int32)) dX10_back_48 (by decide) ?_
          refine rn_isub dX10_back_49 ?_
          refine rm_puti flRX10_163 rfl (by decide) rfl dX10_back_50 (fun H_19 eH_19 => ?_)
          replace hF := hF H_19 eH_19
          refine rn_aload_n dX10_back_53 rfl ?_
          refine rn_dup dX10_back_54 rfl ?_
          refine rm_geti flRX10_166 rfl (by decide) rfl dX10_back_55 ?_
          refine rn_iload_n dX10_back_58 rfl ?_
          refine rn_iconst (x := (1 : Int32)) dX10_back_59 (by decide) ?_
          refine rn_icmp_ne (tgt := 67) dX10_back_60 (by decide) (fun hc_20 => ?_) (fun hc_20 => ?_)
          · replace hF := hF.1 hc_20
            refine rn_iconst (x := (0 : Int32)) dX10_back_67 (by decide) ?_
            refine rn_isub dX10_back_68 ?_
            refine rm_puti flRX10_166 rfl (by decide) rfl dX10_back_69 (fun H_21 eH_21 => ?_)
            replace hF := hF H_21 eH_21
            refine rn_iload_n dX10_back_72 rfl ?_
            refine rn_iconst (x := (1 : Int32)) dX10_back_73 (by decide) ?_
            refine rn_isub dX10_back_74 ?_
            exact rm_iret rfl dX10_back_75 hF
          · replace hF := hF.2 hc_20
            refine rn_iconst (x := (1 : Int32)) dX10_back_63 (by decide) ?_
            refine rn_goto (tgt := 68) dX10_back_64 (by decide) ?_
            refine rn_isub dX10_back_68 ?_
            refine rm_puti flRX10_166 rfl (by decide) rfl dX10_back_69 (fun H_22 eH_22 => ?_)
            replace hF := hF H_22 eH_22
            refine rn_iload_n dX10_back_72 rfl ?_
            refine rn_iconst (x := (1 : Int32)) dX10_back_73 (by decide) ?_
            refine rn_isub dX10_back_74 ?_
            exact rm_iret rfl dX10_back_75 hF
        · replace hF := hF.2 hc_18
          refine rn_iconst (x := (1 : Int32)) dX10_back_44 (by decide) ?_
          refine rn_goto (tgt := 49) dX10_back_45 (by decide) ?_
          refine rn_isub dX10_back_49 ?_
          refine rm_puti flRX10_163 rfl (by decide) rfl dX10_back_50 (fun H_23 eH_23 => ?_)
          replace hF := hF H_23 eH_23
          refine rn_aload_n dX10_back_53 rfl ?_
          refine rn_dup dX10_back_54 rfl ?_
          refine rm_geti flRX10_166 rfl (by decide) rfl dX10_back_55 ?_
          refine rn_iload_n dX10_back_58 rfl ?_
          refine rn_iconst (x := (1 : Int32)) dX10_back_59 (by decide) ?_
          refine rn_icmp_ne (tgt := 67) dX10_back_60 (by decide) (fun hc_24 => ?_) (fun hc_24 => ?_)
          · replace hF := hF.1 hc_24
            refine rn_iconst (x := (0 : Int32)) dX10_back_67 (by decide) ?_
            refine rn_isub dX10_back_68 ?_
            refine rm_puti flRX10_166 rfl (by decide) rfl dX10_back_69 (fun H_25 eH_25 => ?_)
            replace hF := hF H_25 eH_25
            refine rn_iload_n dX10_back_72 rfl ?_
            refine rn_iconst (x := (1 : Int32)) dX10_back_73 (by decide) ?_
            refine rn_isub dX10_back_74 ?_
            exact rm_iret rfl dX10_back_75 hF
          · replace hF := hF.2 hc_24
            refine rn_iconst (x := (1 : Int32)) dX10_back_63 (by decide) ?_
            refine rn_goto (tgt := 68) dX10_back_64 (by decide) ?_
            refine rn_isub dX10_back_68 ?_
            refine rm_puti flRX10_166 rfl (by decide) rfl dX10_back_69 (fun H_26 eH_26 => ?_)
            replace hF := hF H_26 eH_26
            refine rn_iload_n dX10_back_72 rfl ?_
            refine rn_iconst (x := (1 : Int32)) dX10_back_73 (by decide) ?_
            refine rn_isub dX10_back_74 ?_
            exact rm_iret rfl dX10_back_75 hF
      · replace hF := hF.2 hc_17
        refine rn_bipush (x := (-3 : Int32)) dX10_back_32 (by decide) ?_
        exact rm_iret rfl dX10_back_34 hF
  · replace hF := hF.2 hc_3
    refine rn_bipush (x := (-2 : Int32)) dX10_back_9 (by decide) ?_
    exact rm_iret rfl dX10_back_11 hF
theorem cmX10_back {E : En} {Q : Option Value → Hi → Prop} {H : Hi} {x1 : Int32} 
    (hF : Cm E mX10_in [.int x1, .int (0 : Int32), .int (1 : Int32)] H (fun w H_1 => ∃ r_2 : Int32, w = some (.int r_2) ∧ ((¬ r_2 = 0 → ((¬ x1 = 0 → (∀ x2_5 : Int32, x2_5 = H_1 99 14 → ((¬ x2_5 = 0 → ((¬ x1 = 0 → (∀ H_8 : Hi, H_8 = up H_1 99 11 ((H_1 99 11) - (0 : Int32)) → ((¬ x1 = (1 : Int32) → (∀ H_10 : Hi, H_10 = up H_8 99 14 ((H_8 99 14) - (0 : Int32)) → (Q (some (.int (x2_5 - (1 : Int32)))) H_10))) ∧ (x1 = (1 : Int32) → (∀ H_11 : Hi, H_11 = up H_8 99 14 ((H_8 99 14) - (1 : Int32)) → (Q (some (.int (x2_5 - (1 : Int32)))) H_11)))))) ∧ (x1 = 0 → (∀ H_12 : Hi, H_12 = up H_1 99 11 ((H_1 99 11) - (1 : Int32)) → ((¬ x1 = (1 : Int32) → (∀ H_14 : Hi, H_14 = up H_12 99 14 ((H_12 99 14) - (0 : Int32)) → (Q (some (.int (x2_5 - (1 : Int32)))) H_14))) ∧ (x1 = (1 : Int32) → (∀ H_15 : Hi, H_15 = up H_12 99 14 ((H_12 99 14) - (1 : Int32)) → (Q (some (.int (x2_5 - (1 : Int32)))) H_15)))))))) ∧ (x2_5 = 0 → (Q (some (.int (-3 : Int32))) H_1))))) ∧ (x1 = 0 → (∀ x2_16 : Int32, x2_16 = H_1 99 11 → ((¬ x2_16 = 0 → ((¬ x1 = 0 → (∀ H_19 : Hi, H_19 = up H_1 99 11 ((H_1 99 11) - (0 : Int32)) → ((¬ x1 = (1 : Int32) → (∀ H_21 : Hi, H_21 = up H_19 99 14 ((H_19 99 14) - (0 : Int32)) → (Q (some (.int (x2_16 - (1 : Int32)))) H_21))) ∧ (x1 = (1 : Int32) → (∀ H_22 : Hi, H_22 = up H_19 99 14 ((H_19 99 14) - (1 : Int32)) → (Q (some (.int (x2_16 - (1 : Int32)))) H_22)))))) ∧ (x1 = 0 → (∀ H_23 : Hi, H_23 = up H_1 99 11 ((H_1 99 11) - (1 : Int32)) → ((¬ x1 = (1 : Int32) → (∀ H_25 : Hi, H_25 = up H_23 99 14 ((H_23 99 14) - (0 : Int32)) → (Q (some (.int (x2_16 - (1 : Int32)))) H_25))) ∧ (x1 = (1 : Int32) → (∀ H_26 : Hi, H_26 = up H_23 99 14 ((H_23 99 14) - (1 : Int32)) → (Q (some (.int (x2_16 - (1 : Int32)))) H_26)))))))) ∧ (x2_16 = 0 → (Q (some (.int (-3 : Int32))) H_1))))))) ∧ (r_2 = 0 → (Q (some (.int (-2 : Int32))) H_1))))) :
    Cm E mX10_back [rf E 99, .int x1] H Q :=
  cm_of (by decide +kernel) (Nat.le_of_ble_eq_true rfl) rfl (sgX10_back_0  hF)
theorem sgX10_read_0 {E : En} {Q : Option Value → Hi → Prop} {H : Hi} {x1 : Int32} 
    (hF : Cm E mX10_isSheet [.int x1] H (fun w H_1 => ∃ r_2 : Int32, w = some (.int r_2) ∧ ((¬ r_2 = 0 → (∃ j_4 : Nat, (j_4 < 4 ∧ x1 = nI j_4) ∧ ((¬ (H_1 126 j_4) = 0 → (Rm E mX10_read Q 27 [some (rf E 99), some (.int x1), some (.int (0 : Int32))] [] H_1)) ∧ ((H_1 126 j_4) = 0 → (Cm E mX10_meets [rf E 99, .int (1 : Int32)] H_1 (fun w H_7 => ∃ r_8 : Int32, w = some (.int r_8) ∧ (Q (some (.int r_8)) H_7))))))) ∧ (r_2 = 0 → (Q (some (.int (-2 : Int32))) H_1))))) :
    Rm E mX10_read Q 0 [some (rf E 99), some (.int x1), none] [] H := by
  refine rn_iload_n dX10_read_0 rfl ?_
  refine rm_callS (As := [.int x1]) (st := []) mlRX10_169 mdX10_isSheet (Nat.le_of_ble_eq_true rfl) rfl rfl (Nat.le_of_ble_eq_true rfl) ⟨Nat.le_refl _, Nat.le_refl _⟩ dX10_read_1 ?_
  refine cm_mono hF (fun w H_1 hF => ?_)
  obtain ⟨r_2, rfl, hF⟩ := hF
  refine rn_if_ne (tgt := 10) dX10_read_4 (by decide) (fun hc_3 => ?_) (fun hc_3 => ?_)
  · replace hF := hF.1 hc_3
    refine rn_aload_n dX10_read_10 rfl ?_
    refine rm_getr (r := 126) flRX10_89 rfl (by decide) rfl dX10_read_11 ?_
    refine rn_iload_n dX10_read_14 rfl ?_
    obtain ⟨j_4, hj_4, hF⟩ := hF
    refine rj_zald hj_4 rfl (by decide) rfl (by decide) dX10_read_15 ?_
    refine rn_if_ne (tgt := 25) dX10_read_16 (by decide) (fun hc_5 => ?_) (fun hc_5 => ?_)
    · replace hF := hF.1 hc_5
      refine rn_iconst (x := (0 : Int32)) dX10_read_25 (by decide) ?_
      refine rn_istore_n dX10_read_26 rfl (by decide) (fun x2_6 ex2_6 => ?_)
      subst ex2_6
      exact rn_wk (L' := [some (rf E 99), some (.int x1), some (.int (0 : Int32))]) (⟨rfl, ⟨rfl, ⟨rfl, trivial⟩⟩⟩) hF
    · replace hF := hF.2 hc_5
      refine rn_aload_n dX10_read_19 rfl ?_
      refine rn_iconst (x := (1 : Int32)) dX10_read_20 (by decide) ?_
      refine rm_callV (c0 := 99) (As := [.int (1 : Int32)]) (st := []) mlRX10_172 mdX10_meets (Nat.le_of_ble_eq_true rfl) rfl (by decide) (by decide) rfl rfl rfl (Nat.le_of_ble_eq_true rfl) ⟨Nat.le_refl _, Nat.le_refl _⟩ dX10_read_21 ?_
      refine cm_mono hF (fun w H_7 hF => ?_)
      obtain ⟨r_8, rfl, hF⟩ := hF
      exact rm_iret rfl dX10_read_24 hF
  · replace hF := hF.2 hc_3
    refine rn_bipush (x := (-2 : Int32)) dX10_read_7 (by decide) ?_
    exact rm_iret rfl dX10_read_9 hF
theorem cmX10_read {E : En} {Q : Option Value → Hi → Prop} {H : Hi} {x1 : Int32} 
    (hF : Cm E mX10_isSheet [.int x1] H (fun w H_1 => ∃ r_2 : Int32, w = some (.int r_2) ∧ ((¬ r_2 = 0 → (∃ j_4 : Nat, (j_4 < 4 ∧ x1 = nI j_4) ∧ ((¬ (H_1 126 j_4) = 0 → (Rm E mX10_read Q 27 [some (rf E 99), some (.int x1), some (.int (0 : Int32))] [] H_1)) ∧ ((H_1 126 j_4) = 0 → (Cm E mX10_meets [rf E 99, .int (1 : Int32)] H_1 (fun w H_7 => ∃ r_8 : Int32, w = some (.int r_8) ∧ (Q (some (.int r_8)) H_7))))))) ∧ (r_2 = 0 → (Q (some (.int (-2 : Int32))) H_1))))) :
    Cm E mX10_read [rf E 99, .int x1] H Q :=
  cm_of (by decide +kernel) (Nat.le_of_ble_eq_true rfl) rfl (sgX10_read_0  hF)
theorem sgX10_read_27 {E : En} {Q : Option Value → Hi → Prop} {H : Hi} {x1 : Int32} {x2 : Int32} 
    (hF : ∃ j_1 : Nat, (j_1 < 4 ∧ x1 = nI j_1) ∧ (((H 128 j_1) ≤ (((4 : Int32) * x2) + (3 : Int32)) → (Q (some (.int x2)) H)) ∧ (¬ (H 128 j_1) ≤ (((4 : Int32) * x2) + (3 : Int32)) → (∃ j_3 : Nat, (j_3 < 240 ∧ ((60 : Int32) * x1) + ((4 : Int32) * x2) = nI j_3) ∧ (∃ j_4 : Nat, (j_4 < 240 ∧ (((60 : Int32) * x1) + ((4 : Int32) * x2)) + (1 : Int32) = nI j_4) ∧ (∃ j_5 : Nat, (j_5 < 240 ∧ (((60 : Int32) * x1) + ((4 : Int32) * x2)) + (2 : Int32) = nI j_5) ∧ (∃ j_6 : Nat, (j_6 < 240 ∧ (((60 : Int32) * x1) + ((4 : Int32) * x2)) + (3 : Int32) = nI j_6) ∧ (Cm E mX10_hand [rf E 99, .int (H 129 j_3), .int (H 129 j_4), .int (H 129 j_5), .int (H 129 j_6)] H (fun w H_7 => ∃ r_8 : Int32, w = some (.int r_8) ∧ ((r_8 ≤ 0 → (Q (some (.int x2)) H_7)) ∧ (¬ r_8 ≤ 0 → (∀ x2_10 : Int32, x2_10 = x2 + (1 : Int32) → (Rm E mX10_read Q 27 [some (rf E 99), some (.int x1), some (.int x2_10)] [] H_7))))))))))))) :
    Rm E mX10_read Q 27 [some (rf E 99), some (.int x1), some (.int x2)] [] H := by
  refine rn_iconst (x := (4 : Int32)) dX10_read_27 (by decide) ?_
  refine rn_iload_n dX10_read_28 rfl ?_
  refine rn_imul dX10_read_29 ?_
  refine rn_iconst (x := (3 : Int32)) dX10_read_30 (by decide) ?_
  refine rn_iadd dX10_read_31 ?_
  refine rn_aload_n dX10_read_32 rfl ?_
  refine rm_getr (r := 128) flRX10_95 rfl (by decide) rfl dX10_read_33 ?_
  refine rn_iload_n dX10_read_36 rfl ?_
  obtain ⟨j_1, hj_1, hF⟩ := hF
  refine rj_iald hj_1 rfl (by decide) rfl (by decide) dX10_read_37 ?_
  refine rn_icmp_ge (tgt := 112) dX10_read_38 (by decide) (fun hc_2 => ?_) (fun hc_2 => ?_)
  · replace hF := hF.1 hc_2
    refine rn_iload_n dX10_read_112 rfl ?_
    exact rm_iret rfl dX10_read_113 hF
  · replace hF := hF.2 hc_2
    refine rn_aload_n dX10_read_41 rfl ?_
    refine rn_aload_n dX10_read_42 rfl ?_
    refine rm_getr (r := 129) flRX10_98 rfl (by decide) rfl dX10_read_43 ?_
    refine rn_bipush (x := (60 : Int32)) dX10_read_46 (by decide) ?_
    refine rn_iload_n dX10_read_48 rfl ?_
    refine rn_imul dX10_read_49 ?_
    refine rn_iconst (x := (4 : Int32)) dX10_read_50 (by decide) ?_
    refine rn_iload_n dX10_read_51 rfl ?_
    refine rn_imul dX10_read_52 ?_
    refine rn_iadd dX10_read_53 ?_
    obtain ⟨j_3, hj_3, hF⟩ := hF
    refine rj_iald hj_3 rfl (by decide) rfl (by decide) dX10_read_54 ?_
    refine rn_aload_n dX10_read_55 rfl ?_
    refine rm_getr (r := 129) flRX10_98 rfl (by decide) rfl dX10_read_56 ?_
    refine rn_bipush (x := (60 : Int32)) dX10_read_59 (by decide) ?_
    refine rn_iload_n dX10_read_61 rfl ?_
    refine rn_imul dX10_read_62 ?_
    refine rn_iconst (x := (4 : Int32)) dX10_read_63 (by decide) ?_
    refine rn_iload_n dX10_read_64 rfl ?_
    refine rn_imul dX10_read_65 ?_
    refine rn_iadd dX10_read_66 ?_
    refine rn_iconst (x := (1 : Int32)) dX10_read_67 (by decide) ?_
    refine rn_iadd dX10_read_68 ?_
    obtain ⟨j_4, hj_4, hF⟩ := hF
    refine rj_iald hj_4 rfl (by decide) rfl (by decide) dX10_read_69 ?_
    refine rn_aload_n dX10_read_70 rfl ?_
    refine rm_getr (r := 129) flRX10_98 rfl (by decide) rfl dX10_read_71 ?_
    refine rn_bipush (x := (60 : Int32)) dX10_read_74 (by decide) ?_
    refine rn_iload_n dX10_read_76 rfl ?_
    refine rn_imul dX10_read_77 ?_
    refine rn_iconst (x := (4 : Int32)) dX10_read_78 (by decide) ?_
    refine rn_iload_n dX10_read_79 rfl ?_
    refine rn_imul dX10_read_80 ?_
    refine rn_iadd dX10_read_81 ?_
    refine rn_iconst (x := (2 : Int32)) dX10_read_82 (by decide) ?_
    refine rn_iadd dX10_read_83 ?_
    obtain ⟨j_5, hj_5, hF⟩ := hF
    refine rj_iald hj_5 rfl (by decide) rfl (by decide) dX10_read_84 ?_
    refine rn_aload_n dX10_read_85 rfl ?_
    refine rm_getr (r := 129) flRX10_98 rfl (by decide) rfl dX10_read_86 ?_
    refine rn_bipush (x := (60 : Int32)) dX10_read_89 (by decide) ?_
    refine rn_iload_n dX10_read_91 rfl ?_
    refine rn_imul dX10_read_92 ?_
    refine rn_iconst (x := (4 : Int32)) dX10_read_93 (by decide) ?_
    refine rn_iload_n dX10_read_94 rfl ?_
    refine rn_imul dX10_read_95 ?_
    refine rn_iadd dX10_read_96 ?_
    refine rn_iconst (x := (3 : Int32)) dX10_read_97 (by decide) ?_
    refine rn_iadd dX10_read_98 ?_
    obtain ⟨j_6, hj_6, hF⟩ := hF
    refine rj_iald hj_6 rfl (by decide) rfl (by decide) dX10_read_99 ?_
    refine rm_callV (c0 := 99) (As := [.int (H 129 j_3), .int (H 129 j_4), .int (H 129 j_5), .int (H 129 j_6)]) (st := []) mlRX10_175 mdX10_hand (Nat.le_of_ble_eq_true rfl) rfl (by decide) (by decide) rfl rfl rfl (Nat.le_of_ble_eq_true rfl) ⟨Nat.le_refl _, Nat.le_refl _⟩ dX10_read_100 ?_
    refine cm_mono hF (fun w H_7 hF => ?_)
    obtain ⟨r_8, rfl, hF⟩ := hF
    refine rn_if_le (tgt := 112) dX10_read_103 (by decide) (fun hc_9 => ?_) (fun hc_9 => ?_)
    · replace hF := hF.1 hc_9
      refine rn_iload_n dX10_read_112 rfl ?_
      exact rm_iret rfl dX10_read_113 hF
    · replace hF := hF.2 hc_9
      refine rn_iinc (w := (1 : Int32)) dX10_read_106 rfl (by decide) rfl (by decide) (fun x2_10 ex2_10 => ?_)
      replace hF := hF x2_10 ex2_10
      refine rn_goto (tgt := 27) dX10_read_109 (by decide) ?_
      exact rn_wk (L' := [some (rf E 99), some (.int x1), some (.int x2_10)]) (⟨rfl, ⟨rfl, ⟨rfl, trivial⟩⟩⟩) hF
theorem sgX10_asTold_0 {E : En} {Q : Option Value → Hi → Prop} {H : Hi}  
    (hF : ∀ H_1 : Hi, H_1 = up H 99 22 (H 99 11) → (∀ H_2 : Hi, H_2 = up H_1 99 23 (H_1 99 10) → (Q none H_2))) :
    Rm E mX10_asTold Q 0 [some (rf E 99)] [] H := by
  refine rn_aload_n dX10_asTold_0 rfl ?_
  refine rn_aload_n dX10_asTold_1 rfl ?_
  refine rm_geti flRX10_163 rfl (by decide) rfl dX10_asTold_2 ?_
  refine rm_puti flRX10_179 rfl (by decide) rfl dX10_asTold_5 (fun H_1 eH_1 => ?_)
  replace hF := hF H_1 eH_1
  refine rn_aload_n dX10_asTold_8 rfl ?_
  refine rn_aload_n dX10_asTold_9 rfl ?_
  refine rm_geti flRX10_157 rfl (by decide) rfl dX10_asTold_10 ?_
  refine rm_puti flRX10_182 rfl (by decide) rfl dX10_asTold_13 (fun H_2 eH_2 => ?_)
  replace hF := hF H_2 eH_2
  exact rm_vret rfl dX10_asTold_16 hF
theorem cmX10_asTold {E : En} {Q : Option Value → Hi → Prop} {H : Hi}  
    (hF : ∀ H_1 : Hi, H_1 = up H 99 22 (H 99 11) → (∀ H_2 : Hi, H_2 = up H_1 99 23 (H_1 99 10) → (Q none H_2))) :
    Cm E mX10_asTold [rf E 99] H Q :=
  cm_of (by decide +kernel) (Nat.le_of_ble_eq_true rfl) rfl (sgX10_asTold_0  hF)
theorem sgX10_loadNow_0 {E : En} {Q : Option Value → Hi → Prop} {H : Hi}  
    (hF : Rm E mX10_loadNow Q 4 [some (rf E 99), some (.int (0 : Int32)), some (.int (0 : Int32))] [] H) :
    Rm E mX10_loadNow Q 0 [some (rf E 99), none, none] [] H := by
  refine rn_iconst (x := (0 : Int32)) dX10_loadNow_0 (by decide) ?_
  refine rn_istore_n dX10_loadNow_1 rfl (by decide) (fun x1_1 ex1_1 => ?_)
  subst ex1_1
  refine rn_iconst (x := (0 : Int32)) dX10_loadNow_2 (by decide) ?_
  refine rn_istore_n dX10_loadNow_3 rfl (by decide) (fun x2_2 ex2_2 => ?_)
  subst ex2_2
  exact rn_wk (L' := [some (rf E 99), some (.int (0 : Int32)), some (.int (0 : Int32))]) (⟨rfl, ⟨rfl, ⟨rfl, trivial⟩⟩⟩) hF
theorem cmX10_loadNow {E : En} {Q : Option Value → Hi → Prop} {H : Hi}  
    (hF : Rm E mX10_loadNow Q 4 [some (rf E 99), some (.int (0 : Int32)), some (.int (0 : Int32))] [] H) :
    Cm E mX10_loadNow [rf E 99] H Q :=
  cm_of (by decide +kernel) (Nat.le_of_ble_eq_true rfl) rfl (sgX10_loadNow_0  hF)
theorem sgX10_loadNow_4 {E : En} {Q : Option Value → Hi → Prop} {H : Hi} {x1 : Int32} {x2 : Int32} 
    (hF : ((H 99 2) ≤ x2 → (Q (some (.int x1)) H)) ∧ (¬ (H 99 2) ≤ x2 → (∃ j_2 : Nat, (j_2 < 8 ∧ x2 = nI j_2) ∧ ((¬ (H 111 j_2) = (8 : Int32) → (∀ x1_4 : Int32, x1_4 = x1 + (0 : Int32) → (∀ x2_5 : Int32, x2_5 = x2 + (1 : Int32) → (Rm E mX10_loadNow Q 4 [some (rf E 99), some (.int x1_4), some (.int x2_5)] [] H)))) ∧ ((H 111 j_2) = (8 : Int32) → (∃ j_6 : Nat, (j_6 < 9 ∧ x2 = nI j_6) ∧ (∀ x1_7 : Int32, x1_7 = x1 + (H 102 j_6) → (∀ x2_8 : Int32, x2_8 = x2 + (1 : Int32) → (Rm E mX10_loadNow Q 4 [some (rf E 99), some (.int x1_7), some (.int x2_8)] [] H))))))))) :
    Rm E mX10_loadNow Q 4 [some (rf E 99), some (.int x1), some (.int x2)] [] H := by
  refine rn_iload_n dX10_loadNow_4 rfl ?_
  refine rn_aload_n dX10_loadNow_5 rfl ?_
  refine rm_geti flRX10_125 rfl (by decide) rfl dX10_loadNow_6 ?_
  refine rn_icmp_ge (tgt := 42) dX10_loadNow_9 (by decide) (fun hc_1 => ?_) (fun hc_1 => ?_)
  · replace hF := hF.1 hc_1
    refine rn_iload_n dX10_loadNow_42 rfl ?_
    exact rm_iret rfl dX10_loadNow_43 hF
  · replace hF := hF.2 hc_1
    refine rn_iload_n dX10_loadNow_12 rfl ?_
    refine rn_aload_n dX10_loadNow_13 rfl ?_
    refine rm_getr (r := 111) flRX10_43 rfl (by decide) rfl dX10_loadNow_14 ?_
    refine rn_iload_n dX10_loadNow_17 rfl ?_
    obtain ⟨j_2, hj_2, hF⟩ := hF
    refine rj_iald hj_2 rfl (by decide) rfl (by decide) dX10_loadNow_18 ?_
    refine rn_bipush (x := (8 : Int32)) dX10_loadNow_19 (by decide) ?_
    refine rn_icmp_ne (tgt := 33) dX10_loadNow_21 (by decide) (fun hc_3 => ?_) (fun hc_3 => ?_)
    · replace hF := hF.1 hc_3
      refine rn_iconst (x := (0 : Int32)) dX10_loadNow_33 (by decide) ?_
      refine rn_iadd dX10_loadNow_34 ?_
      refine rn_istore_n dX10_loadNow_35 rfl (by decide) (fun x1_4 ex1_4 => ?_)
      replace hF := hF x1_4 ex1_4
      refine rn_iinc (w := (1 : Int32)) dX10_loadNow_36 rfl (by decide) rfl (by decide) (fun x2_5 ex2_5 => ?_)
      replace hF := hF x2_5 ex2_5
      refine rn_goto (tgt := 4) dX10_loadNow_39 (by decide) ?_
      exact rn_wk (L' := [some (rf E 99), some (.int x1_4), some (.int x2_5)]) (⟨rfl, ⟨rfl, ⟨rfl, trivial⟩⟩⟩) hF
    · replace hF := hF.2 hc_3
      refine rn_aload_n dX10_loadNow_24 rfl ?_
      refine rm_getr (r := 102) flRX10_16 rfl (by decide) rfl dX10_loadNow_25 ?_
      refine rn_iload_n dX10_loadNow_28 rfl ?_
      obtain ⟨j_6, hj_6, hF⟩ := hF
      refine rj_iald hj_6 rfl (by decide) rfl (by decide) dX10_loadNow_29 ?_
      refine rn_goto (tgt := 34) dX10_loadNow_30 (by decide) ?_
      refine rn_iadd dX10_loadNow_34 ?_
      refine rn_istore_n dX10_loadNow_35 rfl (by decide) (fun x1_7 ex1_7 => ?_)
      replace hF := hF x1_7 ex1_7
      refine rn_iinc (w := (1 : Int32)) dX10_loadNow_36 rfl (by decide) rfl (by decide) (fun x2_8 ex2_8 => ?_)
      replace hF := hF x2_8 ex2_8
      refine rn_goto (tgt := 4) dX10_loadNow_39 (by decide) ?_
      exact rn_wk (L' := [some (rf E 99), some (.int x1_7), some (.int x2_8)]) (⟨rfl, ⟨rfl, ⟨rfl, trivial⟩⟩⟩) hF
theorem sgX10_putsIn_0 {E : En} {Q : Option Value → Hi → Prop} {H : Hi} {x1 : Int32} 
    (hF : Cm E mX10_loadNow [rf E 99] H (fun w H_1 => ∃ r_2 : Int32, w = some (.int r_2) ∧ (∃ j_3 : Nat, (j_3 < 9 ∧ x1 = nI j_3) ∧ (((H_1 99 9) < (r_2 + (H_1 102 j_3)) → (((0 : Int32) = 0 → (∃ j_7 : Nat, (j_7 < 8 ∧ x1 = nI j_7) ∧ (∃ j_8 : Nat, (j_8 < 8 ∧ x1 = nI j_8) ∧ (∀ H_9 : Hi, H_9 = up H_1 111 j_8 (H_1 111 j_7) → (Q (some (.int (0 : Int32))) H_9))))) ∧ (¬ (0 : Int32) = 0 → (∃ j_10 : Nat, (j_10 < 8 ∧ x1 = nI j_10) ∧ (∀ H_11 : Hi, H_11 = up H_1 111 j_10 (8 : Int32) → (Q (some (.int (0 : Int32))) H_11)))))) ∧ (¬ (H_1 99 9) < (r_2 + (H_1 102 j_3)) → (((1 : Int32) = 0 → (∃ j_14 : Nat, (j_14 < 8 ∧ x1 = nI j_14) ∧ (∃ j_15 : Nat, (j_15 < 8 ∧ x1 = nI j_15) ∧ (∀ H_16 : Hi, H_16 = up H_1 111 j_15 (H_1 111 j_14) → (Q (some (.int (1 : Int32))) H_16))))) ∧ (¬ (1 : Int32) = 0 → (∃ j_17 : Nat, (j_17 < 8 ∧ x1 = nI j_17) ∧ (∀ H_18 : Hi, H_18 = up H_1 111 j_17 (8 : Int32) → (Q (some (.int (1 : Int32))) H_18)))))))))) :
    Rm E mX10_putsIn Q 0 [some (rf E 99), some (.int x1), none] [] H := by
  refine rn_aload_n dX10_putsIn_0 rfl ?_
  refine rm_callV (c0 := 99) (As := []) (st := []) mlRX10_185 mdX10_loadNow (Nat.le_of_ble_eq_true rfl) rfl (by decide) (by decide) rfl rfl rfl (Nat.le_of_ble_eq_true rfl) ⟨Nat.le_refl _, Nat.le_refl _⟩ dX10_putsIn_1 ?_
  refine cm_mono hF (fun w H_1 hF => ?_)
  obtain ⟨r_2, rfl, hF⟩ := hF
  refine rn_aload_n dX10_putsIn_4 rfl ?_
  refine rm_getr (r := 102) flRX10_16 rfl (by decide) rfl dX10_putsIn_5 ?_
  refine rn_iload_n dX10_putsIn_8 rfl ?_
  obtain ⟨j_3, hj_3, hF⟩ := hF
  refine rj_iald hj_3 rfl (by decide) rfl (by decide) dX10_putsIn_9 ?_
  refine rn_iadd dX10_putsIn_10 ?_
  refine rn_aload_n dX10_putsIn_11 rfl ?_
  refine rm_geti flRX10_104 rfl (by decide) rfl dX10_putsIn_12 ?_
  refine rn_icmp_gt (tgt := 22) dX10_putsIn_15 (by decide) (fun hc_4 => ?_) (fun hc_4 => ?_)
  · replace hF := hF.1 hc_4
    refine rn_iconst (x := (0 : Int32)) dX10_putsIn_22 (by decide) ?_
    refine rn_istore_n dX10_putsIn_23 rfl (by decide) (fun x2_5 ex2_5 => ?_)
    subst ex2_5
    refine rn_aload_n dX10_putsIn_24 rfl ?_
    refine rm_getr (r := 111) flRX10_43 rfl (by decide) rfl dX10_putsIn_25 ?_
    refine rn_iload_n dX10_putsIn_28 rfl ?_
    refine rn_iload_n dX10_putsIn_29 rfl ?_
    refine rn_if_eq (tgt := 38) dX10_putsIn_30 (by decide) (fun hc_6 => ?_) (fun hc_6 => ?_)
    · replace hF := hF.1 hc_6
      refine rn_aload_n dX10_putsIn_38 rfl ?_
      refine rm_getr (r := 111) flRX10_43 rfl (by decide) rfl dX10_putsIn_39 ?_
      refine rn_iload_n dX10_putsIn_42 rfl ?_
      obtain ⟨j_7, hj_7, hF⟩ := hF
      refine rj_iald hj_7 rfl (by decide) rfl (by decide) dX10_putsIn_43 ?_
      obtain ⟨j_8, hj_8, hF⟩ := hF
      refine rj_iast hj_8 rfl (by decide) rfl (by decide) dX10_putsIn_44 (fun H_9 eH_9 => ?_)
      replace hF := hF H_9 eH_9
      refine rn_iload_n dX10_putsIn_45 rfl ?_
      exact rm_zret rfl rfl dX10_putsIn_46 hF
    · replace hF := hF.2 hc_6
      refine rn_bipush (x := (8 : Int32)) dX10_putsIn_33 (by decide) ?_
      refine rn_goto (tgt := 44) dX10_putsIn_35 (by decide) ?_
      obtain ⟨j_10, hj_10, hF⟩ := hF
      refine rj_iast hj_10 rfl (by decide) rfl (by decide) dX10_putsIn_44 (fun H_11 eH_11 => ?_)
      replace hF := hF H_11 eH_11
      refine rn_iload_n dX10_putsIn_45 rfl ?_
      exact rm_zret rfl rfl dX10_putsIn_46 hF
  · replace hF := hF.2 hc_4
    refine rn_iconst (x := (1 : Int32)) dX10_putsIn_18 (by decide) ?_
    refine rn_goto (tgt := 23) dX10_putsIn_19 (by decide) ?_
    refine rn_istore_n dX10_putsIn_23 rfl (by decide) (fun x2_12 ex2_12 => ?_)
    subst ex2_12
    refine rn_aload_n dX10_putsIn_24 rfl ?_
    refine rm_getr (r := 111) flRX10_43 rfl (by decide) rfl dX10_putsIn_25 ?_
    refine rn_iload_n dX10_putsIn_28 rfl ?_
    refine rn_iload_n dX10_putsIn_29 rfl ?_
    refine rn_if_eq (tgt := 38) dX10_putsIn_30 (by decide) (fun hc_13 => ?_) (fun hc_13 => ?_)
    · replace hF := hF.1 hc_13
      refine rn_aload_n dX10_putsIn_38 rfl ?_
      refine rm_getr (r := 111) flRX10_43 rfl (by decide) rfl dX10_putsIn_39 ?_
      refine rn_iload_n dX10_putsIn_42 rfl ?_
      obtain ⟨j_14, hj_14, hF⟩ := hF
      refine rj_iald hj_14 rfl (by decide) rfl (by decide) dX10_putsIn_43 ?_
      obtain ⟨j_15, hj_15, hF⟩ := hF
      refine rj_iast hj_15 rfl (by decide) rfl (by decide) dX10_putsIn_44 (fun H_16 eH_16 => ?_)
      replace hF := hF H_16 eH_16
      refine rn_iload_n dX10_putsIn_45 rfl ?_
      exact rm_zret rfl rfl dX10_putsIn_46 hF
    · replace hF := hF.2 hc_13
      refine rn_bipush (x := (8 : Int32)) dX10_putsIn_33 (by decide) ?_
      refine rn_goto (tgt := 44) dX10_putsIn_35 (by decide) ?_
      obtain ⟨j_17, hj_17, hF⟩ := hF
      refine rj_iast hj_17 rfl (by decide) rfl (by decide) dX10_putsIn_44 (fun H_18 eH_18 => ?_)
      replace hF := hF H_18 eH_18
      refine rn_iload_n dX10_putsIn_45 rfl ?_
      exact rm_zret rfl rfl dX10_putsIn_46 hF
theorem cmX10_putsIn {E : En} {Q : Option Value → Hi → Prop} {H : Hi} {x1 : Int32} 
    (hF : Cm E mX10_loadNow [rf E 99] H (fun w H_1 => ∃ r_2 : Int32, w = some (.int r_2) ∧ (∃ j_3 : Nat, (j_3 < 9 ∧ x1 = nI j_3) ∧ (((H_1 99 9) < (r_2 + (H_1 102 j_3)) → (((0 : Int32) = 0 → (∃ j_7 : Nat, (j_7 < 8 ∧ x1 = nI j_7) ∧ (∃ j_8 : Nat, (j_8 < 8 ∧ x1 = nI j_8) ∧ (∀ H_9 : Hi, H_9 = up H_1 111 j_8 (H_1 111 j_7) → (Q (some (.int (0 : Int32))) H_9))))) ∧ (¬ (0 : Int32) = 0 → (∃ j_10 : Nat, (j_10 < 8 ∧ x1 = nI j_10) ∧ (∀ H_11 : Hi, H_11 = up H_1 111 j_10 (8 : Int32) → (Q (some (.int (0 : Int32))) H_11)))))) ∧ (¬ (H_1 99 9) < (r_2 + (H_1 102 j_3)) → (((1 : Int32) = 0 → (∃ j_14 : Nat, (j_14 < 8 ∧ x1 = nI j_14) ∧ (∃ j_15 : Nat, (j_15 < 8 ∧ x1 = nI j_15) ∧ (∀ H_16 : Hi, H_16 = up H_1 111 j_15 (H_1 111 j_14) → (Q (some (.int (1 : Int32))) H_16))))) ∧ (¬ (1 : Int32) = 0 → (∃ j_17 : Nat, (j_17 < 8 ∧ x1 = nI j_17) ∧ (∀ H_18 : Hi, H_18 = up H_1 111 j_17 (8 : Int32) → (Q (some (.int (1 : Int32))) H_18)))))))))) :
    Cm E mX10_putsIn [rf E 99, .int x1] H Q :=
  cm_of (by decide +kernel) (Nat.le_of_ble_eq_true rfl) rfl (sgX10_putsIn_0  hF)
