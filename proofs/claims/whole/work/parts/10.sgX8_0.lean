theorem sgX8_addHand_0 {E : En} {Q : Option Value → Hi → Prop} {H : Hi} {zx1 : Int32} {zx2 : Int32} {zx3 : Int32} {zx4 : Int32} 
    (hF : Cm E mX9_isHour [.int zx1] H (fun w zH_1 => ∃ zr_2 : Int32, w = some (.int zr_2) ∧ ((zr_2 = 0 → (Q (some (.int (-2 : Int32))) zH_1)) ∧ (¬ zr_2 = 0 → (Cm E mX9_isEighth [.int zx2] zH_1 (fun w zH_4 => ∃ zr_5 : Int32, w = some (.int zr_5) ∧ ((zr_5 = 0 → (Q (some (.int (-2 : Int32))) zH_4)) ∧ (¬ zr_5 = 0 → (Cm E mX9_isEighth [.int zx3] zH_4 (fun w zH_7 => ∃ zr_8 : Int32, w = some (.int zr_8) ∧ ((zr_8 = 0 → (Q (some (.int (-2 : Int32))) zH_7)) ∧ (¬ zr_8 = 0 → (Cm E mX9_isBit [.int zx4] zH_7 (fun w zH_10 => ∃ zr_11 : Int32, w = some (.int zr_11) ∧ ((¬ zr_11 = 0 → (((zH_10 11 2) < (20 : Int32) → (∃ zj_14 : Nat, (zj_14 < 20 ∧ zH_10 11 2 = nI zj_14) ∧ (∀ zH_15 : Hi, zH_15 = up zH_10 12 zj_14 zx1 → (∃ zj_16 : Nat, (zj_16 < 20 ∧ zH_15 11 2 = nI zj_16) ∧ (∀ zH_17 : Hi, zH_17 = up zH_15 13 zj_16 ((((64 : Int32) * zx4) + ((8 : Int32) * zx2)) + zx3) → (∀ zH_18 : Hi, zH_18 = up zH_17 11 2 ((zH_17 11 2) + (1 : Int32)) → (Q (some (.int (zH_18 11 2))) zH_18))))))) ∧ (¬ (zH_10 11 2) < (20 : Int32) → (Q (some (.int (-4 : Int32))) zH_10)))) ∧ (zr_11 = 0 → (Q (some (.int (-2 : Int32))) zH_10))))))))))))))))) :
    Rm E mX8_addHand Q 0 [some (rf E 11), some (.int zx1), some (.int zx2), some (.int zx3), some (.int zx4)] [] H := by
  refine rn_iload_n dX8_addHand_0 rfl ?_
  refine rm_callSN (As := [.int zx1]) (st := []) mlRX8_46 mdX9_isHour (Nat.le_of_ble_eq_true rfl) rfl rfl (Nat.le_of_ble_eq_true rfl) ⟨Nat.le_refl _, Nat.le_refl _⟩ dX8_addHand_1 ?_
  refine cm_mono hF (fun w zH_1 hF => ?_)
  obtain ⟨zr_2, rfl, hF⟩ := hF
  refine rn_if_eq (tgt := 29) dX8_addHand_4 (by decide) (fun hc_3 => ?_) (fun hc_3 => ?_)
  · replace hF := hF.1 hc_3
    refine rn_bipush (x := (-2 : Int32)) dX8_addHand_29 (by decide) ?_
    exact rm_iret rfl dX8_addHand_31 hF
  · replace hF := hF.2 hc_3
    refine rn_iload_n dX8_addHand_7 rfl ?_
    refine rm_callSN (As := [.int zx2]) (st := []) mlRX8_50 mdX9_isEighth (Nat.le_of_ble_eq_true rfl) rfl rfl (Nat.le_of_ble_eq_true rfl) ⟨Nat.le_refl _, Nat.le_refl _⟩ dX8_addHand_8 ?_
    refine cm_mono hF (fun w zH_4 hF => ?_)
    obtain ⟨zr_5, rfl, hF⟩ := hF
    refine rn_if_eq (tgt := 29) dX8_addHand_11 (by decide) (fun hc_6 => ?_) (fun hc_6 => ?_)
    · replace hF := hF.1 hc_6
      refine rn_bipush (x := (-2 : Int32)) dX8_addHand_29 (by decide) ?_
      exact rm_iret rfl dX8_addHand_31 hF
    · replace hF := hF.2 hc_6
      refine rn_iload_n dX8_addHand_14 rfl ?_
      refine rm_callSN (As := [.int zx3]) (st := []) mlRX8_50 mdX9_isEighth (Nat.le_of_ble_eq_true rfl) rfl rfl (Nat.le_of_ble_eq_true rfl) ⟨Nat.le_refl _, Nat.le_refl _⟩ dX8_addHand_15 ?_
      refine cm_mono hF (fun w zH_7 hF => ?_)
      obtain ⟨zr_8, rfl, hF⟩ := hF
      refine rn_if_eq (tgt := 29) dX8_addHand_18 (by decide) (fun hc_9 => ?_) (fun hc_9 => ?_)
      · replace hF := hF.1 hc_9
        refine rn_bipush (x := (-2 : Int32)) dX8_addHand_29 (by decide) ?_
        exact rm_iret rfl dX8_addHand_31 hF
      · replace hF := hF.2 hc_9
        refine rn_iload dX8_addHand_21 rfl ?_
        refine rm_callSN (As := [.int zx4]) (st := []) mlRX8_53 mdX9_isBit (Nat.le_of_ble_eq_true rfl) rfl rfl (Nat.le_of_ble_eq_true rfl) ⟨Nat.le_refl _, Nat.le_refl _⟩ dX8_addHand_23 ?_
        refine cm_mono hF (fun w zH_10 hF => ?_)
        obtain ⟨zr_11, rfl, hF⟩ := hF
        refine rn_if_ne (tgt := 32) dX8_addHand_26 (by decide) (fun hc_12 => ?_) (fun hc_12 => ?_)
        · replace hF := hF.1 hc_12
          refine rn_aload_n dX8_addHand_32 rfl ?_
          refine rm_geti flRX8_56 rfl (by decide) rfl dX8_addHand_33 ?_
          refine rn_aload_n dX8_addHand_36 rfl ?_
          refine rm_getr (r := 12) flRX8_15 rfl (by decide) rfl dX8_addHand_37 ?_
          refine rn_alen (ty := .int) (x := (20 : Int32)) rfl (by decide) (by decide) rfl (by decide) dX8_addHand_40 ?_
          refine rn_icmp_lt (tgt := 47) dX8_addHand_41 (by decide) (fun hc_13 => ?_) (fun hc_13 => ?_)
          · replace hF := hF.1 hc_13
            refine rn_aload_n dX8_addHand_47 rfl ?_
            refine rm_getr (r := 12) flRX8_15 rfl (by decide) rfl dX8_addHand_48 ?_
            refine rn_aload_n dX8_addHand_51 rfl ?_
            refine rm_geti flRX8_56 rfl (by decide) rfl dX8_addHand_52 ?_
            refine rn_iload_n dX8_addHand_55 rfl ?_
            obtain ⟨zj_14, hzj_14, hF⟩ := hF
            refine rj_iast (j := zj_14) hzj_14 rfl (by decide) rfl (by decide) dX8_addHand_56 (fun zH_15 ezH_15 => ?_)
            replace hF := hF zH_15 ezH_15
            refine rn_aload_n dX8_addHand_57 rfl ?_
            refine rm_getr (r := 13) flRX8_19 rfl (by decide) rfl dX8_addHand_58 ?_
            refine rn_aload_n dX8_addHand_61 rfl ?_
            refine rm_geti flRX8_56 rfl (by decide) rfl dX8_addHand_62 ?_
            refine rn_bipush (x := (64 : Int32)) dX8_addHand_65 (by decide) ?_
            refine rn_iload dX8_addHand_67 rfl ?_
            refine rn_imul dX8_addHand_69 ?_
            refine rn_bipush (x := (8 : Int32)) dX8_addHand_70 (by decide) ?_
            refine rn_iload_n dX8_addHand_72 rfl ?_
            refine rn_imul dX8_addHand_73 ?_
            refine rn_iadd dX8_addHand_74 ?_
            refine rn_iload_n dX8_addHand_75 rfl ?_
            refine rn_iadd dX8_addHand_76 ?_
            obtain ⟨zj_16, hzj_16, hF⟩ := hF
            refine rj_iast (j := zj_16) hzj_16 rfl (by decide) rfl (by decide) dX8_addHand_77 (fun zH_17 ezH_17 => ?_)
            replace hF := hF zH_17 ezH_17
            refine rn_aload_n dX8_addHand_78 rfl ?_
            refine rn_dup dX8_addHand_79 rfl ?_
            refine rm_geti flRX8_56 rfl (by decide) rfl dX8_addHand_80 ?_
            refine rn_iconst (x := (1 : Int32)) dX8_addHand_83 (by decide) ?_
            refine rn_iadd dX8_addHand_84 ?_
            refine rm_puti flRX8_56 rfl (by decide) rfl dX8_addHand_85 (fun zH_18 ezH_18 => ?_)
            replace hF := hF zH_18 ezH_18
            refine rn_aload_n dX8_addHand_88 rfl ?_
            refine rm_geti flRX8_56 rfl (by decide) rfl dX8_addHand_89 ?_
            exact rm_iret rfl dX8_addHand_92 hF
          · replace hF := hF.2 hc_13
            refine rn_bipush (x := (-4 : Int32)) dX8_addHand_44 (by decide) ?_
            exact rm_iret rfl dX8_addHand_46 hF
        · replace hF := hF.2 hc_12
          refine rn_bipush (x := (-2 : Int32)) dX8_addHand_29 (by decide) ?_
          exact rm_iret rfl dX8_addHand_31 hF
theorem cmX8_addHand {E : En} {Q : Option Value → Hi → Prop} {H : Hi} {zx1 : Int32} {zx2 : Int32} {zx3 : Int32} {zx4 : Int32} 
    (hF : Cm E mX9_isHour [.int zx1] H (fun w zH_1 => ∃ zr_2 : Int32, w = some (.int zr_2) ∧ ((zr_2 = 0 → (Q (some (.int (-2 : Int32))) zH_1)) ∧ (¬ zr_2 = 0 → (Cm E mX9_isEighth [.int zx2] zH_1 (fun w zH_4 => ∃ zr_5 : Int32, w = some (.int zr_5) ∧ ((zr_5 = 0 → (Q (some (.int (-2 : Int32))) zH_4)) ∧ (¬ zr_5 = 0 → (Cm E mX9_isEighth [.int zx3] zH_4 (fun w zH_7 => ∃ zr_8 : Int32, w = some (.int zr_8) ∧ ((zr_8 = 0 → (Q (some (.int (-2 : Int32))) zH_7)) ∧ (¬ zr_8 = 0 → (Cm E mX9_isBit [.int zx4] zH_7 (fun w zH_10 => ∃ zr_11 : Int32, w = some (.int zr_11) ∧ ((¬ zr_11 = 0 → (((zH_10 11 2) < (20 : Int32) → (∃ zj_14 : Nat, (zj_14 < 20 ∧ zH_10 11 2 = nI zj_14) ∧ (∀ zH_15 : Hi, zH_15 = up zH_10 12 zj_14 zx1 → (∃ zj_16 : Nat, (zj_16 < 20 ∧ zH_15 11 2 = nI zj_16) ∧ (∀ zH_17 : Hi, zH_17 = up zH_15 13 zj_16 ((((64 : Int32) * zx4) + ((8 : Int32) * zx2)) + zx3) → (∀ zH_18 : Hi, zH_18 = up zH_17 11 2 ((zH_17 11 2) + (1 : Int32)) → (Q (some (.int (zH_18 11 2))) zH_18))))))) ∧ (¬ (zH_10 11 2) < (20 : Int32) → (Q (some (.int (-4 : Int32))) zH_10)))) ∧ (zr_11 = 0 → (Q (some (.int (-2 : Int32))) zH_10))))))))))))))))) :
    Cm E mX8_addHand [rf E 11, .int zx1, .int zx2, .int zx3, .int zx4] H Q :=
  cm_of (by decide +kernel : plainName RX8 = true) (Nat.le_of_ble_eq_true rfl) rfl (sgX8_addHand_0  hF)
theorem sgX8_addHole_0 {E : En} {Q : Option Value → Hi → Prop} {H : Hi} {zx1 : Int32} {zx2 : Int32} 
    (hF : Cm E mX9_isHour [.int zx1] H (fun w zH_1 => ∃ zr_2 : Int32, w = some (.int zr_2) ∧ ((zr_2 = 0 → (Q (some (.int (-2 : Int32))) zH_1)) ∧ (¬ zr_2 = 0 → ((zx2 < (1 : Int32) → (Q (some (.int (-2 : Int32))) zH_1)) ∧ (¬ zx2 < (1 : Int32) → ((zx2 ≤ (9 : Int32) → (((zH_1 11 5) < (6 : Int32) → (∃ zj_7 : Nat, (zj_7 < 6 ∧ zH_1 11 5 = nI zj_7) ∧ (∀ zH_8 : Hi, zH_8 = up zH_1 14 zj_7 zx1 → (∃ zj_9 : Nat, (zj_9 < 6 ∧ zH_8 11 5 = nI zj_9) ∧ (∀ zH_10 : Hi, zH_10 = up zH_8 15 zj_9 zx2 → (∀ zH_11 : Hi, zH_11 = up zH_10 11 5 ((zH_10 11 5) + (1 : Int32)) → (Q (some (.int (zH_11 11 5))) zH_11))))))) ∧ (¬ (zH_1 11 5) < (6 : Int32) → (Q (some (.int (-4 : Int32))) zH_1)))) ∧ (¬ zx2 ≤ (9 : Int32) → (Q (some (.int (-2 : Int32))) zH_1))))))))) :
    Rm E mX8_addHole Q 0 [some (rf E 11), some (.int zx1), some (.int zx2)] [] H := by
  refine rn_iload_n dX8_addHole_0 rfl ?_
  refine rm_callSN (As := [.int zx1]) (st := []) mlRX8_46 mdX9_isHour (Nat.le_of_ble_eq_true rfl) rfl rfl (Nat.le_of_ble_eq_true rfl) ⟨Nat.le_refl _, Nat.le_refl _⟩ dX8_addHole_1 ?_
  refine cm_mono hF (fun w zH_1 hF => ?_)
  obtain ⟨zr_2, rfl, hF⟩ := hF
  refine rn_if_eq (tgt := 18) dX8_addHole_4 (by decide) (fun hc_3 => ?_) (fun hc_3 => ?_)
  · replace hF := hF.1 hc_3
    refine rn_bipush (x := (-2 : Int32)) dX8_addHole_18 (by decide) ?_
    exact rm_iret rfl dX8_addHole_20 hF
  · replace hF := hF.2 hc_3
    refine rn_iload_n dX8_addHole_7 rfl ?_
    refine rn_iconst (x := (1 : Int32)) dX8_addHole_8 (by decide) ?_
    refine rn_icmp_lt (tgt := 18) dX8_addHole_9 (by decide) (fun hc_4 => ?_) (fun hc_4 => ?_)
    · replace hF := hF.1 hc_4
      refine rn_bipush (x := (-2 : Int32)) dX8_addHole_18 (by decide) ?_
      exact rm_iret rfl dX8_addHole_20 hF
    · replace hF := hF.2 hc_4
      refine rn_iload_n dX8_addHole_12 rfl ?_
      refine rn_bipush (x := (9 : Int32)) dX8_addHole_13 (by decide) ?_
      refine rn_icmp_le (tgt := 21) dX8_addHole_15 (by decide) (fun hc_5 => ?_) (fun hc_5 => ?_)
      · replace hF := hF.1 hc_5
        refine rn_aload_n dX8_addHole_21 rfl ?_
        refine rm_geti flRX8_59 rfl (by decide) rfl dX8_addHole_22 ?_
        refine rn_aload_n dX8_addHole_25 rfl ?_
        refine rm_getr (r := 14) flRX8_22 rfl (by decide) rfl dX8_addHole_26 ?_
        refine rn_alen (ty := .int) (x := (6 : Int32)) rfl (by decide) (by decide) rfl (by decide) dX8_addHole_29 ?_
        refine rn_icmp_lt (tgt := 36) dX8_addHole_30 (by decide) (fun hc_6 => ?_) (fun hc_6 => ?_)
        · replace hF := hF.1 hc_6
          refine rn_aload_n dX8_addHole_36 rfl ?_
          refine rm_getr (r := 14) flRX8_22 rfl (by decide) rfl dX8_addHole_37 ?_
          refine rn_aload_n dX8_addHole_40 rfl ?_
          refine rm_geti flRX8_59 rfl (by decide) rfl dX8_addHole_41 ?_
          refine rn_iload_n dX8_addHole_44 rfl ?_
          obtain ⟨zj_7, hzj_7, hF⟩ := hF
          refine rj_iast (j := zj_7) hzj_7 rfl (by decide) rfl (by decide) dX8_addHole_45 (fun zH_8 ezH_8 => ?_)
          replace hF := hF zH_8 ezH_8
          refine rn_aload_n dX8_addHole_46 rfl ?_
          refine rm_getr (r := 15) flRX8_25 rfl (by decide) rfl dX8_addHole_47 ?_
          refine rn_aload_n dX8_addHole_50 rfl ?_
          refine rm_geti flRX8_59 rfl (by decide) rfl dX8_addHole_51 ?_
          refine rn_iload_n dX8_addHole_54 rfl ?_
          obtain ⟨zj_9, hzj_9, hF⟩ := hF
          refine rj_iast (j := zj_9) hzj_9 rfl (by decide) rfl (by decide) dX8_addHole_55 (fun zH_10 ezH_10 => ?_)
          replace hF := hF zH_10 ezH_10
          refine rn_aload_n dX8_addHole_56 rfl ?_
          refine rn_dup dX8_addHole_57 rfl ?_
          refine rm_geti flRX8_59 rfl (by decide) rfl dX8_addHole_58 ?_
          refine rn_iconst (x := (1 : Int32)) dX8_addHole_61 (by decide) ?_
          refine rn_iadd dX8_addHole_62 ?_
          refine rm_puti flRX8_59 rfl (by decide) rfl dX8_addHole_63 (fun zH_11 ezH_11 => ?_)
          replace hF := hF zH_11 ezH_11
          refine rn_aload_n dX8_addHole_66 rfl ?_
          refine rm_geti flRX8_59 rfl (by decide) rfl dX8_addHole_67 ?_
          exact rm_iret rfl dX8_addHole_70 hF
        · replace hF := hF.2 hc_6
          refine rn_bipush (x := (-4 : Int32)) dX8_addHole_33 (by decide) ?_
          exact rm_iret rfl dX8_addHole_35 hF
      · replace hF := hF.2 hc_5
        refine rn_bipush (x := (-2 : Int32)) dX8_addHole_18 (by decide) ?_
        exact rm_iret rfl dX8_addHole_20 hF
theorem cmX8_addHole {E : En} {Q : Option Value → Hi → Prop} {H : Hi} {zx1 : Int32} {zx2 : Int32} 
    (hF : Cm E mX9_isHour [.int zx1] H (fun w zH_1 => ∃ zr_2 : Int32, w = some (.int zr_2) ∧ ((zr_2 = 0 → (Q (some (.int (-2 : Int32))) zH_1)) ∧ (¬ zr_2 = 0 → ((zx2 < (1 : Int32) → (Q (some (.int (-2 : Int32))) zH_1)) ∧ (¬ zx2 < (1 : Int32) → ((zx2 ≤ (9 : Int32) → (((zH_1 11 5) < (6 : Int32) → (∃ zj_7 : Nat, (zj_7 < 6 ∧ zH_1 11 5 = nI zj_7) ∧ (∀ zH_8 : Hi, zH_8 = up zH_1 14 zj_7 zx1 → (∃ zj_9 : Nat, (zj_9 < 6 ∧ zH_8 11 5 = nI zj_9) ∧ (∀ zH_10 : Hi, zH_10 = up zH_8 15 zj_9 zx2 → (∀ zH_11 : Hi, zH_11 = up zH_10 11 5 ((zH_10 11 5) + (1 : Int32)) → (Q (some (.int (zH_11 11 5))) zH_11))))))) ∧ (¬ (zH_1 11 5) < (6 : Int32) → (Q (some (.int (-4 : Int32))) zH_1)))) ∧ (¬ zx2 ≤ (9 : Int32) → (Q (some (.int (-2 : Int32))) zH_1))))))))) :
    Cm E mX8_addHole [rf E 11, .int zx1, .int zx2] H Q :=
  cm_of (by decide +kernel : plainName RX8 = true) (Nat.le_of_ble_eq_true rfl) rfl (sgX8_addHole_0  hF)
theorem sgX8_addFelt_0 {E : En} {Q : Option Value → Hi → Prop} {H : Hi} {zx1 : Int32} {zx2 : Int32} {zx3 : Int32} 
    (hF : Cm E mX9_isHour [.int zx1] H (fun w zH_1 => ∃ zr_2 : Int32, w = some (.int zr_2) ∧ ((zr_2 = 0 → (Q (some (.int (-2 : Int32))) zH_1)) ∧ (¬ zr_2 = 0 → (Cm E mX9_isEighth [.int zx2] zH_1 (fun w zH_4 => ∃ zr_5 : Int32, w = some (.int zr_5) ∧ ((zr_5 = 0 → (Q (some (.int (-2 : Int32))) zH_4)) ∧ (¬ zr_5 = 0 → (Cm E mX9_isBit [.int zx3] zH_4 (fun w zH_7 => ∃ zr_8 : Int32, w = some (.int zr_8) ∧ ((¬ zr_8 = 0 → (((zH_7 11 8) < (8 : Int32) → (∃ zj_11 : Nat, (zj_11 < 8 ∧ zH_7 11 8 = nI zj_11) ∧ (∀ zH_12 : Hi, zH_12 = up zH_7 16 zj_11 zx1 → (∃ zj_13 : Nat, (zj_13 < 8 ∧ zH_12 11 8 = nI zj_13) ∧ (∀ zH_14 : Hi, zH_14 = up zH_12 17 zj_13 zx2 → (∃ zj_15 : Nat, (zj_15 < 8 ∧ zH_14 11 8 = nI zj_15) ∧ (∀ zH_16 : Hi, zH_16 = up zH_14 18 zj_15 zx3 → (∀ zH_17 : Hi, zH_17 = up zH_16 11 8 ((zH_16 11 8) + (1 : Int32)) → (Q (some (.int (zH_17 11 8))) zH_17))))))))) ∧ (¬ (zH_7 11 8) < (8 : Int32) → (Q (some (.int (-4 : Int32))) zH_7)))) ∧ (zr_8 = 0 → (Q (some (.int (-2 : Int32))) zH_7))))))))))))) :
    Rm E mX8_addFelt Q 0 [some (rf E 11), some (.int zx1), some (.int zx2), some (.int zx3)] [] H := by
  refine rn_iload_n dX8_addFelt_0 rfl ?_
  refine rm_callSN (As := [.int zx1]) (st := []) mlRX8_46 mdX9_isHour (Nat.le_of_ble_eq_true rfl) rfl rfl (Nat.le_of_ble_eq_true rfl) ⟨Nat.le_refl _, Nat.le_refl _⟩ dX8_addFelt_1 ?_
  refine cm_mono hF (fun w zH_1 hF => ?_)
  obtain ⟨zr_2, rfl, hF⟩ := hF
  refine rn_if_eq (tgt := 21) dX8_addFelt_4 (by decide) (fun hc_3 => ?_) (fun hc_3 => ?_)
  · replace hF := hF.1 hc_3
    refine rn_bipush (x := (-2 : Int32)) dX8_addFelt_21 (by decide) ?_
    exact rm_iret rfl dX8_addFelt_23 hF
  · replace hF := hF.2 hc_3
    refine rn_iload_n dX8_addFelt_7 rfl ?_
    refine rm_callSN (As := [.int zx2]) (st := []) mlRX8_50 mdX9_isEighth (Nat.le_of_ble_eq_true rfl) rfl rfl (Nat.le_of_ble_eq_true rfl) ⟨Nat.le_refl _, Nat.le_refl _⟩ dX8_addFelt_8 ?_
    refine cm_mono hF (fun w zH_4 hF => ?_)
    obtain ⟨zr_5, rfl, hF⟩ := hF
    refine rn_if_eq (tgt := 21) dX8_addFelt_11 (by decide) (fun hc_6 => ?_) (fun hc_6 => ?_)
    · replace hF := hF.1 hc_6
      refine rn_bipush (x := (-2 : Int32)) dX8_addFelt_21 (by decide) ?_
      exact rm_iret rfl dX8_addFelt_23 hF
    · replace hF := hF.2 hc_6
      refine rn_iload_n dX8_addFelt_14 rfl ?_
      refine rm_callSN (As := [.int zx3]) (st := []) mlRX8_53 mdX9_isBit (Nat.le_of_ble_eq_true rfl) rfl rfl (Nat.le_of_ble_eq_true rfl) ⟨Nat.le_refl _, Nat.le_refl _⟩ dX8_addFelt_15 ?_
      refine cm_mono hF (fun w zH_7 hF => ?_)
      obtain ⟨zr_8, rfl, hF⟩ := hF
      refine rn_if_ne (tgt := 24) dX8_addFelt_18 (by decide) (fun hc_9 => ?_) (fun hc_9 => ?_)
      · replace hF := hF.1 hc_9
        refine rn_aload_n dX8_addFelt_24 rfl ?_
        refine rm_geti flRX8_62 rfl (by decide) rfl dX8_addFelt_25 ?_
        refine rn_aload_n dX8_addFelt_28 rfl ?_
        refine rm_getr (r := 16) flRX8_28 rfl (by decide) rfl dX8_addFelt_29 ?_
        refine rn_alen (ty := .int) (x := (8 : Int32)) rfl (by decide) (by decide) rfl (by decide) dX8_addFelt_32 ?_
        refine rn_icmp_lt (tgt := 39) dX8_addFelt_33 (by decide) (fun hc_10 => ?_) (fun hc_10 => ?_)
        · replace hF := hF.1 hc_10
          refine rn_aload_n dX8_addFelt_39 rfl ?_
          refine rm_getr (r := 16) flRX8_28 rfl (by decide) rfl dX8_addFelt_40 ?_
          refine rn_aload_n dX8_addFelt_43 rfl ?_
          refine rm_geti flRX8_62 rfl (by decide) rfl dX8_addFelt_44 ?_
          refine rn_iload_n dX8_addFelt_47 rfl ?_
          obtain ⟨zj_11, hzj_11, hF⟩ := hF
          refine rj_iast (j := zj_11) hzj_11 rfl (by decide) rfl (by decide) dX8_addFelt_48 (fun zH_12 ezH_12 => ?_)
          replace hF := hF zH_12 ezH_12
          refine rn_aload_n dX8_addFelt_49 rfl ?_
          refine rm_getr (r := 17) flRX8_31 rfl (by decide) rfl dX8_addFelt_50 ?_
          refine rn_aload_n dX8_addFelt_53 rfl ?_
          refine rm_geti flRX8_62 rfl (by decide) rfl dX8_addFelt_54 ?_
          refine rn_iload_n dX8_addFelt_57 rfl ?_
          obtain ⟨zj_13, hzj_13, hF⟩ := hF
          refine rj_iast (j := zj_13) hzj_13 rfl (by decide) rfl (by decide) dX8_addFelt_58 (fun zH_14 ezH_14 => ?_)
          replace hF := hF zH_14 ezH_14
          refine rn_aload_n dX8_addFelt_59 rfl ?_
          refine rm_getr (r := 18) flRX8_34 rfl (by decide) rfl dX8_addFelt_60 ?_
          refine rn_aload_n dX8_addFelt_63 rfl ?_
          refine rm_geti flRX8_62 rfl (by decide) rfl dX8_addFelt_64 ?_
          refine rn_iload_n dX8_addFelt_67 rfl ?_
          obtain ⟨zj_15, hzj_15, hF⟩ := hF
          refine rj_iast (j := zj_15) hzj_15 rfl (by decide) rfl (by decide) dX8_addFelt_68 (fun zH_16 ezH_16 => ?_)
          replace hF := hF zH_16 ezH_16
          refine rn_aload_n dX8_addFelt_69 rfl ?_
          refine rn_dup dX8_addFelt_70 rfl ?_
          refine rm_geti flRX8_62 rfl (by decide) rfl dX8_addFelt_71 ?_
          refine rn_iconst (x := (1 : Int32)) dX8_addFelt_74 (by decide) ?_
          refine rn_iadd dX8_addFelt_75 ?_
          refine rm_puti flRX8_62 rfl (by decide) rfl dX8_addFelt_76 (fun zH_17 ezH_17 => ?_)
          replace hF := hF zH_17 ezH_17
          refine rn_aload_n dX8_addFelt_79 rfl ?_
          refine rm_geti flRX8_62 rfl (by decide) rfl dX8_addFelt_80 ?_
          exact rm_iret rfl dX8_addFelt_83 hF
        · replace hF := hF.2 hc_10
          refine rn_bipush (x := (-4 : Int32)) dX8_addFelt_36 (by decide) ?_
          exact rm_iret rfl dX8_addFelt_38 hF
      · replace hF := hF.2 hc_9
        refine rn_bipush (x := (-2 : Int32)) dX8_addFelt_21 (by decide) ?_
        exact rm_iret rfl dX8_addFelt_23 hF
theorem cmX8_addFelt {E : En} {Q : Option Value → Hi → Prop} {H : Hi} {zx1 : Int32} {zx2 : Int32} {zx3 : Int32} 
    (hF : Cm E mX9_isHour [.int zx1] H (fun w zH_1 => ∃ zr_2 : Int32, w = some (.int zr_2) ∧ ((zr_2 = 0 → (Q (some (.int (-2 : Int32))) zH_1)) ∧ (¬ zr_2 = 0 → (Cm E mX9_isEighth [.int zx2] zH_1 (fun w zH_4 => ∃ zr_5 : Int32, w = some (.int zr_5) ∧ ((zr_5 = 0 → (Q (some (.int (-2 : Int32))) zH_4)) ∧ (¬ zr_5 = 0 → (Cm E mX9_isBit [.int zx3] zH_4 (fun w zH_7 => ∃ zr_8 : Int32, w = some (.int zr_8) ∧ ((¬ zr_8 = 0 → (((zH_7 11 8) < (8 : Int32) → (∃ zj_11 : Nat, (zj_11 < 8 ∧ zH_7 11 8 = nI zj_11) ∧ (∀ zH_12 : Hi, zH_12 = up zH_7 16 zj_11 zx1 → (∃ zj_13 : Nat, (zj_13 < 8 ∧ zH_12 11 8 = nI zj_13) ∧ (∀ zH_14 : Hi, zH_14 = up zH_12 17 zj_13 zx2 → (∃ zj_15 : Nat, (zj_15 < 8 ∧ zH_14 11 8 = nI zj_15) ∧ (∀ zH_16 : Hi, zH_16 = up zH_14 18 zj_15 zx3 → (∀ zH_17 : Hi, zH_17 = up zH_16 11 8 ((zH_16 11 8) + (1 : Int32)) → (Q (some (.int (zH_17 11 8))) zH_17))))))))) ∧ (¬ (zH_7 11 8) < (8 : Int32) → (Q (some (.int (-4 : Int32))) zH_7)))) ∧ (zr_8 = 0 → (Q (some (.int (-2 : Int32))) zH_7))))))))))))) :
    Cm E mX8_addFelt [rf E 11, .int zx1, .int zx2, .int zx3] H Q :=
  cm_of (by decide +kernel : plainName RX8 = true) (Nat.le_of_ble_eq_true rfl) rfl (sgX8_addFelt_0  hF)
theorem sgX8_arrange_0 {E : En} {Q : Option Value → Hi → Prop} {H : Hi}  
    (hF : Rm E mX8_arrange Q 4 [some (rf E 11), some (.int (0 : Int32)), some (.int (0 : Int32)), none] [] H) :
    Rm E mX8_arrange Q 0 [some (rf E 11), none, none, none] [] H := by
  refine rn_iconst (x := (0 : Int32)) dX8_arrange_0 (by decide) ?_
  refine ra_istore_n dX8_arrange_1 rfl (Nat.le_of_ble_eq_true rfl) ?_
  show Rn _ _ _ _ _ _ _ _ [some (rf E 11), some (.int (0 : Int32)), none, none] _ _ _
  refine rn_iconst (x := (0 : Int32)) dX8_arrange_2 (by decide) ?_
  refine ra_istore_n dX8_arrange_3 rfl (Nat.le_of_ble_eq_true rfl) ?_
  show Rn _ _ _ _ _ _ _ _ [some (rf E 11), some (.int (0 : Int32)), some (.int (0 : Int32)), none] _ _ _
  exact rn_wk (L' := [some (rf E 11), some (.int (0 : Int32)), some (.int (0 : Int32)), none]) (⟨rfl, ⟨rfl, ⟨rfl, trivial⟩⟩⟩) hF
theorem cmX8_arrange {E : En} {Q : Option Value → Hi → Prop} {H : Hi}  
    (hF : Rm E mX8_arrange Q 4 [some (rf E 11), some (.int (0 : Int32)), some (.int (0 : Int32)), none] [] H) :
    Cm E mX8_arrange [rf E 11] H Q :=
  cm_of (by decide +kernel : plainName RX8 = true) (Nat.le_of_ble_eq_true rfl) rfl (sgX8_arrange_0  hF)
theorem sgX8_arrange_4 {E : En} {Q : Option Value → Hi → Prop} {H : Hi} {zx1 : Int32} {zx2 : Int32} 
    (hF : ((24 : Int32) ≤ zx2 → (∀ zH_2 : Hi, zH_2 = up H 20 24 zx1 → (Cm E mJ7_fill_53178 [rf E 21, .int (0 : Int32)] zH_2 (fun w zH_3 => w = none ∧ (Rm E mX8_arrange Q 77 [some (rf E 11), none, some (.int (0 : Int32)), none] [] zH_3))))) ∧ (¬ (24 : Int32) ≤ zx2 → (∃ zj_5 : Nat, (zj_5 < 25 ∧ zx2 = nI zj_5) ∧ (∀ zH_6 : Hi, zH_6 = up H 20 zj_5 zx1 → (Rm E mX8_arrange Q 19 [some (rf E 11), some (.int zx1), some (.int zx2), some (.int (0 : Int32))] [] zH_6))))) :
    Rm E mX8_arrange Q 4 [some (rf E 11), some (.int zx1), some (.int zx2), none] [] H := by
  refine rn_iload_n dX8_arrange_4 rfl ?_
  refine rn_bipush (x := (24 : Int32)) dX8_arrange_5 (by decide) ?_
  refine rn_icmp_ge (tgt := 59) dX8_arrange_7 (by decide) (fun hc_1 => ?_) (fun hc_1 => ?_)
  · replace hF := hF.1 hc_1
    refine rn_aload_n dX8_arrange_59 rfl ?_
    refine rm_getr (r := 20) flRX8_40 rfl (by decide) rfl dX8_arrange_60 ?_
    refine rn_bipush (x := (24 : Int32)) dX8_arrange_63 (by decide) ?_
    refine rn_iload_n dX8_arrange_65 rfl ?_
    refine rj_iast (j := 24) ⟨by decide, by decide⟩ rfl (by decide) rfl (by decide) dX8_arrange_66 (fun zH_2 ezH_2 => ?_)
    replace hF := hF zH_2 ezH_2
    refine rn_aload_n dX8_arrange_67 rfl ?_
    refine rm_getr (r := 21) flRX8_43 rfl (by decide) rfl dX8_arrange_68 ?_
    refine rn_iconst (x := (0 : Int32)) dX8_arrange_71 (by decide) ?_
    refine rm_callS (As := [rf E 21, .int (0 : Int32)]) (st := []) mlRX8_65 mdJ7_fill_53178 (Nat.le_of_ble_eq_true rfl) rfl rfl (Nat.le_of_ble_eq_true rfl) ⟨Nat.le_refl _, Nat.le_refl _⟩ dX8_arrange_72 ?_
    refine cm_mono hF (fun w zH_3 hF => ?_)
    obtain ⟨rfl, hF⟩ := hF
    refine rn_iconst (x := (0 : Int32)) dX8_arrange_75 (by decide) ?_
    refine ra_istore_n dX8_arrange_76 rfl (Nat.le_of_ble_eq_true rfl) ?_
    show Rn _ _ _ _ _ _ _ _ [some (rf E 11), some (.int zx1), some (.int (0 : Int32)), none] _ _ _
    exact rn_wk (L' := [some (rf E 11), none, some (.int (0 : Int32)), none]) (⟨rfl, ⟨rfl, trivial⟩⟩) hF
  · replace hF := hF.2 hc_1
    refine rn_aload_n dX8_arrange_10 rfl ?_
    refine rm_getr (r := 20) flRX8_40 rfl (by decide) rfl dX8_arrange_11 ?_
    refine rn_iload_n dX8_arrange_14 rfl ?_
    refine rn_iload_n dX8_arrange_15 rfl ?_
    obtain ⟨zj_5, hzj_5, hF⟩ := hF
    refine rj_iast (j := zj_5) hzj_5 rfl (by decide) rfl (by decide) dX8_arrange_16 (fun zH_6 ezH_6 => ?_)
    replace hF := hF zH_6 ezH_6
    refine rn_iconst (x := (0 : Int32)) dX8_arrange_17 (by decide) ?_
    refine ra_istore_n dX8_arrange_18 rfl (Nat.le_of_ble_eq_true rfl) ?_
    show Rn _ _ _ _ _ _ _ _ [some (rf E 11), some (.int zx1), some (.int zx2), some (.int (0 : Int32))] _ _ _
    exact rn_wk (L' := [some (rf E 11), some (.int zx1), some (.int zx2), some (.int (0 : Int32))]) (⟨rfl, ⟨rfl, ⟨rfl, ⟨rfl, trivial⟩⟩⟩⟩) hF
theorem sgX8_arrange_77 {E : En} {Q : Option Value → Hi → Prop} {H : Hi} {zx2 : Int32} 
    (hF : ((H 11 5) ≤ zx2 → (Q none H)) ∧ (¬ (H 11 5) ≤ zx2 → (∃ zj_2 : Nat, (zj_2 < 6 ∧ zx2 = nI zj_2) ∧ (∀ zx3_3 : Int32, zx3_3 = H 14 zj_2 → (∃ zj_4 : Nat, (zj_4 < 24 ∧ zx3_3 = nI zj_4) ∧ (∃ zj_5 : Nat, (zj_5 < 6 ∧ zx2 = nI zj_5) ∧ (∃ zj_6 : Nat, (zj_6 < 24 ∧ zx3_3 = nI zj_6) ∧ (∀ zH_7 : Hi, zH_7 = up H 21 zj_6 (mmax (H 21 zj_4) (H 15 zj_5)) → (∀ zx2_8 : Int32, zx2_8 = zx2 + (1 : Int32) → (Rm E mX8_arrange Q 77 [some (rf E 11), none, some (.int zx2_8), none] [] zH_7)))))))))) :
    Rm E mX8_arrange Q 77 [some (rf E 11), none, some (.int zx2), none] [] H := by
  refine rn_iload_n dX8_arrange_77 rfl ?_
  refine rn_aload_n dX8_arrange_78 rfl ?_
  refine rm_geti flRX8_59 rfl (by decide) rfl dX8_arrange_79 ?_
  refine rn_icmp_ge (tgt := 119) dX8_arrange_82 (by decide) (fun hc_1 => ?_) (fun hc_1 => ?_)
  · replace hF := hF.1 hc_1
    exact rm_vret rfl dX8_arrange_119 hF
  · replace hF := hF.2 hc_1
    refine rn_aload_n dX8_arrange_85 rfl ?_
    refine rm_getr (r := 14) flRX8_22 rfl (by decide) rfl dX8_arrange_86 ?_
    refine rn_iload_n dX8_arrange_89 rfl ?_
    obtain ⟨zj_2, hzj_2, hF⟩ := hF
    refine rj_iald (j := zj_2) hzj_2 rfl (by decide) rfl (by decide) dX8_arrange_90 ?_
    refine rn_istore_n dX8_arrange_91 rfl (Nat.le_of_ble_eq_true rfl) (fun zx3_3 ezx3_3 => ?_)
    replace hF := hF zx3_3 ezx3_3
    show Rn _ _ _ _ _ _ _ _ [some (rf E 11), none, some (.int zx2), some (.int zx3_3)] _ _ _
    refine rn_aload_n dX8_arrange_92 rfl ?_
    refine rm_getr (r := 21) flRX8_43 rfl (by decide) rfl dX8_arrange_93 ?_
    refine rn_iload_n dX8_arrange_96 rfl ?_
    refine rn_aload_n dX8_arrange_97 rfl ?_
    refine rm_getr (r := 21) flRX8_43 rfl (by decide) rfl dX8_arrange_98 ?_
    refine rn_iload_n dX8_arrange_101 rfl ?_
    obtain ⟨zj_4, hzj_4, hF⟩ := hF
    refine rj_iald (j := zj_4) hzj_4 rfl (by decide) rfl (by decide) dX8_arrange_102 ?_
    refine rn_aload_n dX8_arrange_103 rfl ?_
    refine rm_getr (r := 15) flRX8_25 rfl (by decide) rfl dX8_arrange_104 ?_
    refine rn_iload_n dX8_arrange_107 rfl ?_
    obtain ⟨zj_5, hzj_5, hF⟩ := hF
    refine rj_iald (j := zj_5) hzj_5 rfl (by decide) rfl (by decide) dX8_arrange_108 ?_
    refine rn_mmax mlRX8_71 (Nat.le_of_ble_eq_true rfl) ⟨Nat.le_refl _, Nat.le_refl _⟩ dX8_arrange_109 ?_
    obtain ⟨zj_6, hzj_6, hF⟩ := hF
    refine rj_iast (j := zj_6) hzj_6 rfl (by decide) rfl (by decide) dX8_arrange_112 (fun zH_7 ezH_7 => ?_)
    replace hF := hF zH_7 ezH_7
    refine rn_iinc (w := (1 : Int32)) dX8_arrange_113 rfl (by decide) rfl (Nat.le_of_ble_eq_true rfl) (fun zx2_8 ezx2_8 => ?_)
    replace hF := hF zx2_8 ezx2_8
    show Rn _ _ _ _ _ _ _ _ [some (rf E 11), none, some (.int zx2_8), some (.int zx3_3)] _ _ _
    refine rn_goto (tgt := 77) dX8_arrange_116 (by decide) ?_
    exact rn_wk (L' := [some (rf E 11), none, some (.int zx2_8), none]) (⟨rfl, ⟨rfl, trivial⟩⟩) hF
theorem sgX8_arrange_19 {E : En} {Q : Option Value → Hi → Prop} {H : Hi} {zx1 : Int32} {zx2 : Int32} {zx3 : Int32} 
    (hF : ((H 11 2) ≤ zx3 → (∀ zx2_2 : Int32, zx2_2 = zx2 + (1 : Int32) → (Rm E mX8_arrange Q 4 [some (rf E 11), some (.int zx1), some (.int zx2_2), none] [] H))) ∧ (¬ (H 11 2) ≤ zx3 → (∃ zj_3 : Nat, (zj_3 < 20 ∧ zx3 = nI zj_3) ∧ ((¬ (H 12 zj_3) = zx2 → (∀ zx3_5 : Int32, zx3_5 = zx3 + (1 : Int32) → (Rm E mX8_arrange Q 19 [some (rf E 11), some (.int zx1), some (.int zx2), some (.int zx3_5)] [] H))) ∧ ((H 12 zj_3) = zx2 → (∃ zj_6 : Nat, (zj_6 < 20 ∧ zx1 = nI zj_6) ∧ (∀ zH_7 : Hi, zH_7 = up H 19 zj_6 zx3 → (∀ zx1_8 : Int32, zx1_8 = zx1 + (1 : Int32) → (∀ zx3_9 : Int32, zx3_9 = zx3 + (1 : Int32) → (Rm E mX8_arrange Q 19 [some (rf E 11), some (.int zx1_8), some (.int zx2), some (.int zx3_9)] [] zH_7)))))))))) :
    Rm E mX8_arrange Q 19 [some (rf E 11), some (.int zx1), some (.int zx2), some (.int zx3)] [] H := by
  refine rn_iload_n dX8_arrange_19 rfl ?_
  refine rn_aload_n dX8_arrange_20 rfl ?_
  refine rm_geti flRX8_56 rfl (by decide) rfl dX8_arrange_21 ?_
  refine rn_icmp_ge (tgt := 53) dX8_arrange_24 (by decide) (fun hc_1 => ?_) (fun hc_1 => ?_)
  · replace hF := hF.1 hc_1
    refine rn_iinc (w := (1 : Int32)) dX8_arrange_53 rfl (by decide) rfl (Nat.le_of_ble_eq_true rfl) (fun zx2_2 ezx2_2 => ?_)
    replace hF := hF zx2_2 ezx2_2
    show Rn _ _ _ _ _ _ _ _ [some (rf E 11), some (.int zx1), some (.int zx2_2), some (.int zx3)] _ _ _
    refine rn_goto (tgt := 4) dX8_arrange_56 (by decide) ?_
    exact rn_wk (L' := [some (rf E 11), some (.int zx1), some (.int zx2_2), none]) (⟨rfl, ⟨rfl, ⟨rfl, trivial⟩⟩⟩) hF
  · replace hF := hF.2 hc_1
    refine rn_aload_n dX8_arrange_27 rfl ?_
    refine rm_getr (r := 12) flRX8_15 rfl (by decide) rfl dX8_arrange_28 ?_
    refine rn_iload_n dX8_arrange_31 rfl ?_
    obtain ⟨zj_3, hzj_3, hF⟩ := hF
    refine rj_iald (j := zj_3) hzj_3 rfl (by decide) rfl (by decide) dX8_arrange_32 ?_
    refine rn_iload_n dX8_arrange_33 rfl ?_
    refine rn_icmp_ne (tgt := 47) dX8_arrange_34 (by decide) (fun hc_4 => ?_) (fun hc_4 => ?_)
    · replace hF := hF.1 hc_4
      refine rn_iinc (w := (1 : Int32)) dX8_arrange_47 rfl (by decide) rfl (Nat.le_of_ble_eq_true rfl) (fun zx3_5 ezx3_5 => ?_)
      replace hF := hF zx3_5 ezx3_5
      show Rn _ _ _ _ _ _ _ _ [some (rf E 11), some (.int zx1), some (.int zx2), some (.int zx3_5)] _ _ _
      refine rn_goto (tgt := 19) dX8_arrange_50 (by decide) ?_
      exact rn_wk (L' := [some (rf E 11), some (.int zx1), some (.int zx2), some (.int zx3_5)]) (⟨rfl, ⟨rfl, ⟨rfl, ⟨rfl, trivial⟩⟩⟩⟩) hF
    · replace hF := hF.2 hc_4
      refine rn_aload_n dX8_arrange_37 rfl ?_
      refine rm_getr (r := 19) flRX8_37 rfl (by decide) rfl dX8_arrange_38 ?_
      refine rn_iload_n dX8_arrange_41 rfl ?_
      refine rn_iload_n dX8_arrange_42 rfl ?_
      obtain ⟨zj_6, hzj_6, hF⟩ := hF
      refine rj_iast (j := zj_6) hzj_6 rfl (by decide) rfl (by decide) dX8_arrange_43 (fun zH_7 ezH_7 => ?_)
      replace hF := hF zH_7 ezH_7
      refine rn_iinc (w := (1 : Int32)) dX8_arrange_44 rfl (by decide) rfl (Nat.le_of_ble_eq_true rfl) (fun zx1_8 ezx1_8 => ?_)
      replace hF := hF zx1_8 ezx1_8
      show Rn _ _ _ _ _ _ _ _ [some (rf E 11), some (.int zx1_8), some (.int zx2), some (.int zx3)] _ _ _
      refine rn_iinc (w := (1 : Int32)) dX8_arrange_47 rfl (by decide) rfl (Nat.le_of_ble_eq_true rfl) (fun zx3_9 ezx3_9 => ?_)
      replace hF := hF zx3_9 ezx3_9
      show Rn _ _ _ _ _ _ _ _ [some (rf E 11), some (.int zx1_8), some (.int zx2), some (.int zx3_9)] _ _ _
      refine rn_goto (tgt := 19) dX8_arrange_50 (by decide) ?_
      exact rn_wk (L' := [some (rf E 11), some (.int zx1_8), some (.int zx2), some (.int zx3_9)]) (⟨rfl, ⟨rfl, ⟨rfl, ⟨rfl, trivial⟩⟩⟩⟩) hF
