theorem sgX8_addHand_0 {E : En} {Q : Option Value → Hi → Prop} {H : Hi} {x1 : Int32} {x2 : Int32} {x3 : Int32} {x4 : Int32} 
    (hF : Cm E mX9_isHour [.int x1] H (fun w H_1 => ∃ r_2 : Int32, w = some (.int r_2) ∧ ((r_2 = 0 → (Q (some (.int (-2 : Int32))) H_1)) ∧ (¬ r_2 = 0 → (Cm E mX9_isEighth [.int x2] H_1 (fun w H_4 => ∃ r_5 : Int32, w = some (.int r_5) ∧ ((r_5 = 0 → (Q (some (.int (-2 : Int32))) H_4)) ∧ (¬ r_5 = 0 → (Cm E mX9_isEighth [.int x3] H_4 (fun w H_7 => ∃ r_8 : Int32, w = some (.int r_8) ∧ ((r_8 = 0 → (Q (some (.int (-2 : Int32))) H_7)) ∧ (¬ r_8 = 0 → (Cm E mX9_isBit [.int x4] H_7 (fun w H_10 => ∃ r_11 : Int32, w = some (.int r_11) ∧ ((¬ r_11 = 0 → (((H_10 11 2) < (20 : Int32) → (∃ j_14 : Nat, (j_14 < 20 ∧ H_10 11 2 = nI j_14) ∧ (∀ H_15 : Hi, H_15 = up H_10 12 j_14 x1 → (∃ j_16 : Nat, (j_16 < 20 ∧ H_15 11 2 = nI j_16) ∧ (∀ H_17 : Hi, H_17 = up H_15 13 j_16 ((((64 : Int32) * x4) + ((8 : Int32) * x2)) + x3) → (∀ H_18 : Hi, H_18 = up H_17 11 2 ((H_17 11 2) + (1 : Int32)) → (Q (some (.int (H_18 11 2))) H_18))))))) ∧ (¬ (H_10 11 2) < (20 : Int32) → (Q (some (.int (-4 : Int32))) H_10)))) ∧ (r_11 = 0 → (Q (some (.int (-2 : Int32))) H_10))))))))))))))))) :
    Rm E mX8_addHand Q 0 [some (rf E 11), some (.int x1), some (.int x2), some (.int x3), some (.int x4)] [] H := by
  refine rn_iload_n dX8_addHand_0 rfl ?_
  refine rm_callSN (As := [.int x1]) (st := []) mlRX8_46 mdX9_isHour (Nat.le_of_ble_eq_true rfl) rfl rfl (Nat.le_of_ble_eq_true rfl) ⟨Nat.le_refl _, Nat.le_refl _⟩ dX8_addHand_1 ?_
  refine cm_mono hF (fun w H_1 hF => ?_)
  obtain ⟨r_2, rfl, hF⟩ := hF
  refine rn_if_eq (tgt := 29) dX8_addHand_4 (by decide) (fun hc_3 => ?_) (fun hc_3 => ?_)
  · replace hF := hF.1 hc_3
    refine rn_bipush (x := (-2 : Int32)) dX8_addHand_29 (by decide) ?_
    exact rm_iret rfl dX8_addHand_31 hF
  · replace hF := hF.2 hc_3
    refine rn_iload_n dX8_addHand_7 rfl ?_
    refine rm_callSN (As := [.int x2]) (st := []) mlRX8_50 mdX9_isEighth (Nat.le_of_ble_eq_true rfl) rfl rfl (Nat.le_of_ble_eq_true rfl) ⟨Nat.le_refl _, Nat.le_refl _⟩ dX8_addHand_8 ?_
    refine cm_mono hF (fun w H_4 hF => ?_)
    obtain ⟨r_5, rfl, hF⟩ := hF
    refine rn_if_eq (tgt := 29) dX8_addHand_11 (by decide) (fun hc_6 => ?_) (fun hc_6 => ?_)
    · replace hF := hF.1 hc_6
      refine rn_bipush (x := (-2 : Int32)) dX8_addHand_29 (by decide) ?_
      exact rm_iret rfl dX8_addHand_31 hF
    · replace hF := hF.2 hc_6
      refine rn_iload_n dX8_addHand_14 rfl ?_
      refine rm_callSN (As := [.int x3]) (st := []) mlRX8_50 mdX9_isEighth (Nat.le_of_ble_eq_true rfl) rfl rfl (Nat.le_of_ble_eq_true rfl) ⟨Nat.le_refl _, Nat.le_refl _⟩ dX8_addHand_15 ?_
      refine cm_mono hF (fun w H_7 hF => ?_)
      obtain ⟨r_8, rfl, hF⟩ := hF
      refine rn_if_eq (tgt := 29) dX8_addHand_18 (by decide) (fun hc_9 => ?_) (fun hc_9 => ?_)
      · replace hF := hF.1 hc_9
        refine rn_bipush (x := (-2 : Int32)) dX8_addHand_29 (by decide) ?_
        exact rm_iret rfl dX8_addHand_31 hF
      · replace hF := hF.2 hc_9
        refine rn_iload dX8_addHand_21 rfl ?_
        refine rm_callSN (As := [.int x4]) (st := []) mlRX8_53 mdX9_isBit (Nat.le_of_ble_eq_true rfl) rfl rfl (Nat.le_of_ble_eq_true rfl) ⟨Nat.le_refl _, Nat.le_refl _⟩ dX8_addHand_23 ?_
        refine cm_mono hF (fun w H_10 hF => ?_)
        obtain ⟨r_11, rfl, hF⟩ := hF
        refine rn_if_ne (tgt := 32) dX8_addHand_26 (by decide) (fun hc_12 => ?_) (fun hc_12 => ?_)
        · replace hF := hF.1 hc_12
          refine rn_aload_n dX8_addHand_32 rfl ?_
          refine rm_geti flRX8_56 rfl (by decide) rfl dX8_addHand_33 ?_
          refine rn_aload_n dX8_addHand_36 rfl ?_
          refine rm_getr (r := 12) flRX8_15 rfl (by decide) rfl dX8_addHand_37 ?_
          refine rn_alen (ty := .int) (x := (20 : Int32)) rfl (by decide) (by decide) rfl (by decide) dX8_addHand_40 ?_
          refine rn_icmp_lt (tgt := 47) dX8_addHand_41 (by decide) (fun hc_13 => ?_) (fun hc_13 => ?_)
          · replace hF := hF.1 hc_13
            refine rn_aload_n dX8_addHand_47 rfl ?_
            refine rm_getr (r := 12) flRX8_15 rfl (by decide) rfl dX8_addHand_48 ?_
            refine rn_aload_n dX8_addHand_51 rfl ?_
            refine rm_geti flRX8_56 rfl (by decide) rfl dX8_addHand_52 ?_
            refine rn_iload_n dX8_addHand_55 rfl ?_
            obtain ⟨j_14, hj_14, hF⟩ := hF
            refine rj_iast hj_14 rfl (by decide) rfl (by decide) dX8_addHand_56 (fun H_15 eH_15 => ?_)
            replace hF := hF H_15 eH_15
            refine rn_aload_n dX8_addHand_57 rfl ?_
            refine rm_getr (r := 13) flRX8_19 rfl (by decide) rfl dX8_addHand_58 ?_
            refine rn_aload_n dX8_addHand_61 rfl ?_
            refine rm_geti flRX8_56 rfl (by decide) rfl dX8_addHand_62 ?_
            refine rn_bipush (x := (64 : Int32)) dX8_addHand_65 (by decide) ?_
            refine rn_iload dX8_addHand_67 rfl ?_
            refine rn_imul dX8_addHand_69 ?_
            refine rn_bipush (x := (8 : Int32)) dX8_addHand_70 (by decide) ?_
            refine rn_iload_n dX8_addHand_72 rfl ?_
            refine rn_imul dX8_addHand_73 ?_
            refine rn_iadd dX8_addHand_74 ?_
            refine rn_iload_n dX8_addHand_75 rfl ?_
            refine rn_iadd dX8_addHand_76 ?_
            obtain ⟨j_16, hj_16, hF⟩ := hF
            refine rj_iast hj_16 rfl (by decide) rfl (by decide) dX8_addHand_77 (fun H_17 eH_17 => ?_)
            replace hF := hF H_17 eH_17
            refine rn_aload_n dX8_addHand_78 rfl ?_
            refine rn_dup dX8_addHand_79 rfl ?_
            refine rm_geti flRX8_56 rfl (by decide) rfl dX8_addHand_80 ?_
            refine rn_iconst (x := (1 : Int32)) dX8_addHand_83 (by decide) ?_
            refine rn_iadd dX8_addHand_84 ?_
            refine rm_puti flRX8_56 rfl (by decide) rfl dX8_addHand_85 (fun H_18 eH_18 => ?_)
            replace hF := hF H_18 eH_18
            refine rn_aload_n dX8_addHand_88 rfl ?_
            refine rm_geti flRX8_56 rfl (by decide) rfl dX8_addHand_89 ?_
            exact rm_iret rfl dX8_addHand_92 hF
          · replace hF := hF.2 hc_13
            refine rn_bipush (x := (-4 : Int32)) dX8_addHand_44 (by decide) ?_
            exact rm_iret rfl dX8_addHand_46 hF
        · replace hF := hF.2 hc_12
          refine rn_bipush (x := (-2 : Int32)) dX8_addHand_29 (by decide) ?_
          exact rm_iret rfl dX8_addHand_31 hF
theorem cmX8_addHand {E : En} {Q : Option Value → Hi → Prop} {H : Hi} {x1 : Int32} {x2 : Int32} {x3 : Int32} {x4 : Int32} 
    (hF : Cm E mX9_isHour [.int x1] H (fun w H_1 => ∃ r_2 : Int32, w = some (.int r_2) ∧ ((r_2 = 0 → (Q (some (.int (-2 : Int32))) H_1)) ∧ (¬ r_2 = 0 → (Cm E mX9_isEighth [.int x2] H_1 (fun w H_4 => ∃ r_5 : Int32, w = some (.int r_5) ∧ ((r_5 = 0 → (Q (some (.int (-2 : Int32))) H_4)) ∧ (¬ r_5 = 0 → (Cm E mX9_isEighth [.int x3] H_4 (fun w H_7 => ∃ r_8 : Int32, w = some (.int r_8) ∧ ((r_8 = 0 → (Q (some (.int (-2 : Int32))) H_7)) ∧ (¬ r_8 = 0 → (Cm E mX9_isBit [.int x4] H_7 (fun w H_10 => ∃ r_11 : Int32, w = some (.int r_11) ∧ ((¬ r_11 = 0 → (((H_10 11 2) < (20 : Int32) → (∃ j_14 : Nat, (j_14 < 20 ∧ H_10 11 2 = nI j_14) ∧ (∀ H_15 : Hi, H_15 = up H_10 12 j_14 x1 → (∃ j_16 : Nat, (j_16 < 20 ∧ H_15 11 2 = nI j_16) ∧ (∀ H_17 : Hi, H_17 = up H_15 13 j_16 ((((64 : Int32) * x4) + ((8 : Int32) * x2)) + x3) → (∀ H_18 : Hi, H_18 = up H_17 11 2 ((H_17 11 2) + (1 : Int32)) → (Q (some (.int (H_18 11 2))) H_18))))))) ∧ (¬ (H_10 11 2) < (20 : Int32) → (Q (some (.int (-4 : Int32))) H_10)))) ∧ (r_11 = 0 → (Q (some (.int (-2 : Int32))) H_10))))))))))))))))) :
    Cm E mX8_addHand [rf E 11, .int x1, .int x2, .int x3, .int x4] H Q :=
  cm_of (by decide +kernel) (Nat.le_of_ble_eq_true rfl) rfl (sgX8_addHand_0  hF)
theorem sgX8_addHole_0 {E : En} {Q : Option Value → Hi → Prop} {H : Hi} {x1 : Int32} {x2 : Int32} 
    (hF : Cm E mX9_isHour [.int x1] H (fun w H_1 => ∃ r_2 : Int32, w = some (.int r_2) ∧ ((r_2 = 0 → (Q (some (.int (-2 : Int32))) H_1)) ∧ (¬ r_2 = 0 → ((x2 < (1 : Int32) → (Q (some (.int (-2 : Int32))) H_1)) ∧ (¬ x2 < (1 : Int32) → ((x2 ≤ (9 : Int32) → (((H_1 11 5) < (6 : Int32) → (∃ j_7 : Nat, (j_7 < 6 ∧ H_1 11 5 = nI j_7) ∧ (∀ H_8 : Hi, H_8 = up H_1 14 j_7 x1 → (∃ j_9 : Nat, (j_9 < 6 ∧ H_8 11 5 = nI j_9) ∧ (∀ H_10 : Hi, H_10 = up H_8 15 j_9 x2 → (∀ H_11 : Hi, H_11 = up H_10 11 5 ((H_10 11 5) + (1 : Int32)) → (Q (some (.int (H_11 11 5))) H_11))))))) ∧ (¬ (H_1 11 5) < (6 : Int32) → (Q (some (.int (-4 : Int32))) H_1)))) ∧ (¬ x2 ≤ (9 : Int32) → (Q (some (.int (-2 : Int32))) H_1))))))))) :
    Rm E mX8_addHole Q 0 [some (rf E 11), some (.int x1), some (.int x2)] [] H := by
  refine rn_iload_n dX8_addHole_0 rfl ?_
  refine rm_callSN (As := [.int x1]) (st := []) mlRX8_46 mdX9_isHour (Nat.le_of_ble_eq_true rfl) rfl rfl (Nat.le_of_ble_eq_true rfl) ⟨Nat.le_refl _, Nat.le_refl _⟩ dX8_addHole_1 ?_
  refine cm_mono hF (fun w H_1 hF => ?_)
  obtain ⟨r_2, rfl, hF⟩ := hF
  refine rn_if_eq (tgt := 18) dX8_addHole_4 (by decide) (fun hc_3 => ?_) (fun hc_3 => ?_)
  · replace hF := hF.1 hc_3
    refine rn_bipush (x := (-2 : Int32)) dX8_addHole_18 (by decide) ?_
    exact rm_iret rfl dX8_addHole_20 hF
  · replace hF := hF.2 hc_3
    refine rn_iload_n dX8_addHole_7 rfl ?_
    refine rn_iconst (x := (1 : Int32)) dX8_addHole_8 (by decide) ?_
    refine rn_icmp_lt (tgt := 18) dX8_addHole_9 (by decide) (fun hc_4 => ?_) (fun hc_4 => ?_)
    · replace hF := hF.1 hc_4
      refine rn_bipush (x := (-2 : Int32)) dX8_addHole_18 (by decide) ?_
      exact rm_iret rfl dX8_addHole_20 hF
    · replace hF := hF.2 hc_4
      refine rn_iload_n dX8_addHole_12 rfl ?_
      refine rn_bipush (x := (9 : Int32)) dX8_addHole_13 (by decide) ?_
      refine rn_icmp_le (tgt := 21) dX8_addHole_15 (by decide) (fun hc_5 => ?_) (fun hc_5 => ?_)
      · replace hF := hF.1 hc_5
        refine rn_aload_n dX8_addHole_21 rfl ?_
        refine rm_geti flRX8_59 rfl (by decide) rfl dX8_addHole_22 ?_
        refine rn_aload_n dX8_addHole_25 rfl ?_
        refine rm_getr (r := 14) flRX8_22 rfl (by decide) rfl dX8_addHole_26 ?_
        refine rn_alen (ty := .int) (x := (6 : Int32)) rfl (by decide) (by decide) rfl (by decide) dX8_addHole_29 ?_
        refine rn_icmp_lt (tgt := 36) dX8_addHole_30 (by decide) (fun hc_6 => ?_) (fun hc_6 => ?_)
        · replace hF := hF.1 hc_6
          refine rn_aload_n dX8_addHole_36 rfl ?_
          refine rm_getr (r := 14) flRX8_22 rfl (by decide) rfl dX8_addHole_37 ?_
          refine rn_aload_n dX8_addHole_40 rfl ?_
          refine rm_geti flRX8_59 rfl (by decide) rfl dX8_addHole_41 ?_
          refine rn_iload_n dX8_addHole_44 rfl ?_
          obtain ⟨j_7, hj_7, hF⟩ := hF
          refine rj_iast hj_7 rfl (by decide) rfl (by decide) dX8_addHole_45 (fun H_8 eH_8 => ?_)
          replace hF := hF H_8 eH_8
          refine rn_aload_n dX8_addHole_46 rfl ?_
          refine rm_getr (r := 15) flRX8_25 rfl (by decide) rfl dX8_addHole_47 ?_
          refine rn_aload_n dX8_addHole_50 rfl ?_
          refine rm_geti flRX8_59 rfl (by decide) rfl dX8_addHole_51 ?_
          refine rn_iload_n dX8_addHole_54 rfl ?_
          obtain ⟨j_9, hj_9, hF⟩ := hF
          refine rj_iast hj_9 rfl (by decide) rfl (by decide) dX8_addHole_55 (fun H_10 eH_10 => ?_)
          replace hF := hF H_10 eH_10
          refine rn_aload_n dX8_addHole_56 rfl ?_
          refine rn_dup dX8_addHole_57 rfl ?_
          refine rm_geti flRX8_59 rfl (by decide) rfl dX8_addHole_58 ?_
          refine rn_iconst (x := (1 : Int32)) dX8_addHole_61 (by decide) ?_
          refine rn_iadd dX8_addHole_62 ?_
          refine rm_puti flRX8_59 rfl (by decide) rfl dX8_addHole_63 (fun H_11 eH_11 => ?_)
          replace hF := hF H_11 eH_11
          refine rn_aload_n dX8_addHole_66 rfl ?_
          refine rm_geti flRX8_59 rfl (by decide) rfl dX8_addHole_67 ?_
          exact rm_iret rfl dX8_addHole_70 hF
        · replace hF := hF.2 hc_6
          refine rn_bipush (x := (-4 : Int32)) dX8_addHole_33 (by decide) ?_
          exact rm_iret rfl dX8_addHole_35 hF
      · replace hF := hF.2 hc_5
        refine rn_bipush (x := (-2 : Int32)) dX8_addHole_18 (by decide) ?_
        exact rm_iret rfl dX8_addHole_20 hF
theorem cmX8_addHole {E : En} {Q : Option Value → Hi → Prop} {H : Hi} {x1 : Int32} {x2 : Int32} 
    (hF : Cm E mX9_isHour [.int x1] H (fun w H_1 => ∃ r_2 : Int32, w = some (.int r_2) ∧ ((r_2 = 0 → (Q (some (.int (-2 : Int32))) H_1)) ∧ (¬ r_2 = 0 → ((x2 < (1 : Int32) → (Q (some (.int (-2 : Int32))) H_1)) ∧ (¬ x2 < (1 : Int32) → ((x2 ≤ (9 : Int32) → (((H_1 11 5) < (6 : Int32) → (∃ j_7 : Nat, (j_7 < 6 ∧ H_1 11 5 = nI j_7) ∧ (∀ H_8 : Hi, H_8 = up H_1 14 j_7 x1 → (∃ j_9 : Nat, (j_9 < 6 ∧ H_8 11 5 = nI j_9) ∧ (∀ H_10 : Hi, H_10 = up H_8 15 j_9 x2 → (∀ H_11 : Hi, H_11 = up H_10 11 5 ((H_10 11 5) + (1 : Int32)) → (Q (some (.int (H_11 11 5))) H_11))))))) ∧ (¬ (H_1 11 5) < (6 : Int32) → (Q (some (.int (-4 : Int32))) H_1)))) ∧ (¬ x2 ≤ (9 : Int32) → (Q (some (.int (-2 : Int32))) H_1))))))))) :
    Cm E mX8_addHole [rf E 11, .int x1, .int x2] H Q :=
  cm_of (by decide +kernel) (Nat.le_of_ble_eq_true rfl) rfl (sgX8_addHole_0  hF)
theorem sgX8_addFelt_0 {E : En} {Q : Option Value → Hi → Prop} {H : Hi} {x1 : Int32} {x2 : Int32} {x3 : Int32} 
    (hF : Cm E mX9_isHour [.int x1] H (fun w H_1 => ∃ r_2 : Int32, w = some (.int r_2) ∧ ((r_2 = 0 → (Q (some (.int (-2 : Int32))) H_1)) ∧ (¬ r_2 = 0 → (Cm E mX9_isEighth [.int x2] H_1 (fun w H_4 => ∃ r_5 : Int32, w = some (.int r_5) ∧ ((r_5 = 0 → (Q (some (.int (-2 : Int32))) H_4)) ∧ (¬ r_5 = 0 → (Cm E mX9_isBit [.int x3] H_4 (fun w H_7 => ∃ r_8 : Int32, w = some (.int r_8) ∧ ((¬ r_8 = 0 → (((H_7 11 8) < (8 : Int32) → (∃ j_11 : Nat, (j_11 < 8 ∧ H_7 11 8 = nI j_11) ∧ (∀ H_12 : Hi, H_12 = up H_7 16 j_11 x1 → (∃ j_13 : Nat, (j_13 < 8 ∧ H_12 11 8 = nI j_13) ∧ (∀ H_14 : Hi, H_14 = up H_12 17 j_13 x2 → (∃ j_15 : Nat, (j_15 < 8 ∧ H_14 11 8 = nI j_15) ∧ (∀ H_16 : Hi, H_16 = up H_14 18 j_15 x3 → (∀ H_17 : Hi, H_17 = up H_16 11 8 ((H_16 11 8) + (1 : Int32)) → (Q (some (.int (H_17 11 8))) H_17))))))))) ∧ (¬ (H_7 11 8) < (8 : Int32) → (Q (some (.int (-4 : Int32))) H_7)))) ∧ (r_8 = 0 → (Q (some (.int (-2 : Int32))) H_7))))))))))))) :
    Rm E mX8_addFelt Q 0 [some (rf E 11), some (.int x1), some (.int x2), some (.int x3)] [] H := by
  refine rn_iload_n dX8_addFelt_0 rfl ?_
  refine rm_callSN (As := [.int x1]) (st := []) mlRX8_46 mdX9_isHour (Nat.le_of_ble_eq_true rfl) rfl rfl (Nat.le_of_ble_eq_true rfl) ⟨Nat.le_refl _, Nat.le_refl _⟩ dX8_addFelt_1 ?_
  refine cm_mono hF (fun w H_1 hF => ?_)
  obtain ⟨r_2, rfl, hF⟩ := hF
  refine rn_if_eq (tgt := 21) dX8_addFelt_4 (by decide) (fun hc_3 => ?_) (fun hc_3 => ?_)
  · replace hF := hF.1 hc_3
    refine rn_bipush (x := (-2 : Int32)) dX8_addFelt_21 (by decide) ?_
    exact rm_iret rfl dX8_addFelt_23 hF
  · replace hF := hF.2 hc_3
    refine rn_iload_n dX8_addFelt_7 rfl ?_
    refine rm_callSN (As := [.int x2]) (st := []) mlRX8_50 mdX9_isEighth (Nat.le_of_ble_eq_true rfl) rfl rfl (Nat.le_of_ble_eq_true rfl) ⟨Nat.le_refl _, Nat.le_refl _⟩ dX8_addFelt_8 ?_
    refine cm_mono hF (fun w H_4 hF => ?_)
    obtain ⟨r_5, rfl, hF⟩ := hF
    refine rn_if_eq (tgt := 21) dX8_addFelt_11 (by decide) (fun hc_6 => ?_) (fun hc_6 => ?_)
    · replace hF := hF.1 hc_6
      refine rn_bipush (x := (-2 : Int32)) dX8_addFelt_21 (by decide) ?_
      exact rm_iret rfl dX8_addFelt_23 hF
    · replace hF := hF.2 hc_6
      refine rn_iload_n dX8_addFelt_14 rfl ?_
      refine rm_callSN (As := [.int x3]) (st := []) mlRX8_53 mdX9_isBit (Nat.le_of_ble_eq_true rfl) rfl rfl (Nat.le_of_ble_eq_true rfl) ⟨Nat.le_refl _, Nat.le_refl _⟩ dX8_addFelt_15 ?_
      refine cm_mono hF (fun w H_7 hF => ?_)
      obtain ⟨r_8, rfl, hF⟩ := hF
      refine rn_if_ne (tgt := 24) dX8_addFelt_18 (by decide) (fun hc_9 => ?_) (fun hc_9 => ?_)
      · replace hF := hF.1 hc_9
        refine rn_aload_n dX8_addFelt_24 rfl ?_
        refine rm_geti flRX8_62 rfl (by decide) rfl dX8_addFelt_25 ?_
        refine rn_aload_n dX8_addFelt_28 rfl ?_
        refine rm_getr (r := 16) flRX8_28 rfl (by decide) rfl dX8_addFelt_29 ?_
        refine rn_alen (ty := .int) (x := (8 : Int32)) rfl (by decide) (by decide) rfl (by decide) dX8_addFelt_32 ?_
        refine rn_icmp_lt (tgt := 39) dX8_addFelt_33 (by decide) (fun hc_10 => ?_) (fun hc_10 => ?_)
        · replace hF := hF.1 hc_10
          refine rn_aload_n dX8_addFelt_39 rfl ?_
          refine rm_getr (r := 16) flRX8_28 rfl (by decide) rfl dX8_addFelt_40 ?_
          refine rn_aload_n dX8_addFelt_43 rfl ?_
          refine rm_geti flRX8_62 rfl (by decide) rfl dX8_addFelt_44 ?_
          refine rn_iload_n dX8_addFelt_47 rfl ?_
          obtain ⟨j_11, hj_11, hF⟩ := hF
          refine rj_iast hj_11 rfl (by decide) rfl (by decide) dX8_addFelt_48 (fun H_12 eH_12 => ?_)
          replace hF := hF H_12 eH_12
          refine rn_aload_n dX8_addFelt_49 rfl ?_
          refine rm_getr (r := 17) flRX8_31 rfl (by decide) rfl dX8_addFelt_50 ?_
          refine rn_aload_n dX8_addFelt_53 rfl ?_
          refine rm_geti flRX8_62 rfl (by decide) rfl dX8_addFelt_54 ?_
          refine rn_iload_n dX8_addFelt_57 rfl ?_
          obtain ⟨j_13, hj_13, hF⟩ := hF
          refine rj_iast hj_13 rfl (by decide) rfl (by decide) dX8_addFelt_58 (fun H_14 eH_14 => ?_)
          replace hF := hF H_14 eH_14
          refine rn_aload_n dX8_addFelt_59 rfl ?_
          refine rm_getr (r := 18) flRX8_34 rfl (by decide) rfl dX8_addFelt_60 ?_
          refine rn_aload_n dX8_addFelt_63 rfl ?_
          refine rm_geti flRX8_62 rfl (by decide) rfl dX8_addFelt_64 ?_
          refine rn_iload_n dX8_addFelt_67 rfl ?_
          obtain ⟨j_15, hj_15, hF⟩ := hF
          refine rj_iast hj_15 rfl (by decide) rfl (by decide) dX8_addFelt_68 (fun H_16 eH_16 => ?_)
          replace hF := hF H_16 eH_16
          refine rn_aload_n dX8_addFelt_69 rfl ?_
          refine rn_dup dX8_addFelt_70 rfl ?_
          refine rm_geti flRX8_62 rfl (by decide) rfl dX8_addFelt_71 ?_
          refine rn_iconst (x := (1 : Int32)) dX8_addFelt_74 (by decide) ?_
          refine rn_iadd dX8_addFelt_75 ?_
          refine rm_puti flRX8_62 rfl (by decide) rfl dX8_addFelt_76 (fun H_17 eH_17 => ?_)
          replace hF := hF H_17 eH_17
          refine rn_aload_n dX8_addFelt_79 rfl ?_
          refine rm_geti flRX8_62 rfl (by decide) rfl dX8_addFelt_80 ?_
          exact rm_iret rfl dX8_addFelt_83 hF
        · replace hF := hF.2 hc_10
          refine rn_bipush (x := (-4 : Int32)) dX8_addFelt_36 (by decide) ?_
          exact rm_iret rfl dX8_addFelt_38 hF
      · replace hF := hF.2 hc_9
        refine rn_bipush (x := (-2 : Int32)) dX8_addFelt_21 (by decide) ?_
        exact rm_iret rfl dX8_addFelt_23 hF
theorem cmX8_addFelt {E : En} {Q : Option Value → Hi → Prop} {H : Hi} {x1 : Int32} {x2 : Int32} {x3 : Int32} 
    (hF : Cm E mX9_isHour [.int x1] H (fun w H_1 => ∃ r_2 : Int32, w = some (.int r_2) ∧ ((r_2 = 0 → (Q (some (.int (-2 : Int32))) H_1)) ∧ (¬ r_2 = 0 → (Cm E mX9_isEighth [.int x2] H_1 (fun w H_4 => ∃ r_5 : Int32, w = some (.int r_5) ∧ ((r_5 = 0 → (Q (some (.int (-2 : Int32))) H_4)) ∧ (¬ r_5 = 0 → (Cm E mX9_isBit [.int x3] H_4 (fun w H_7 => ∃ r_8 : Int32, w = some (.int r_8) ∧ ((¬ r_8 = 0 → (((H_7 11 8) < (8 : Int32) → (∃ j_11 : Nat, (j_11 < 8 ∧ H_7 11 8 = nI j_11) ∧ (∀ H_12 : Hi, H_12 = up H_7 16 j_11 x1 → (∃ j_13 : Nat, (j_13 < 8 ∧ H_12 11 8 = nI j_13) ∧ (∀ H_14 : Hi, H_14 = up H_12 17 j_13 x2 → (∃ j_15 : Nat, (j_15 < 8 ∧ H_14 11 8 = nI j_15) ∧ (∀ H_16 : Hi, H_16 = up H_14 18 j_15 x3 → (∀ H_17 : Hi, H_17 = up H_16 11 8 ((H_16 11 8) + (1 : Int32)) → (Q (some (.int (H_17 11 8))) H_17))))))))) ∧ (¬ (H_7 11 8) < (8 : Int32) → (Q (some (.int (-4 : Int32))) H_7)))) ∧ (r_8 = 0 → (Q (some (.int (-2 : Int32))) H_7))))))))))))) :
    Cm E mX8_addFelt [rf E 11, .int x1, .int x2, .int x3] H Q :=
  cm_of (by decide +kernel) (Nat.le_of_ble_eq_true rfl) rfl (sgX8_addFelt_0  hF)
theorem sgX8_arrange_0 {E : En} {Q : Option Value → Hi → Prop} {H : Hi}  
    (hF : Rm E mX8_arrange Q 4 [some (rf E 11), some (.int (0 : Int32)), some (.int (0 : Int32)), none] [] H) :
    Rm E mX8_arrange Q 0 [some (rf E 11), none, none, none] [] H := by
  refine rn_iconst (x := (0 : Int32)) dX8_arrange_0 (by decide) ?_
  refine rn_istore_n dX8_arrange_1 rfl (by decide) (fun x1_1 ex1_1 => ?_)
  subst ex1_1
  refine rn_iconst (x := (0 : Int32)) dX8_arrange_2 (by decide) ?_
  refine rn_istore_n dX8_arrange_3 rfl (by decide) (fun x2_2 ex2_2 => ?_)
  subst ex2_2
  exact rn_wk (L' := [some (rf E 11), some (.int (0 : Int32)), some (.int (0 : Int32)), none]) (⟨rfl, ⟨rfl, ⟨rfl, trivial⟩⟩⟩) hF
theorem cmX8_arrange {E : En} {Q : Option Value → Hi → Prop} {H : Hi}  
    (hF : Rm E mX8_arrange Q 4 [some (rf E 11), some (.int (0 : Int32)), some (.int (0 : Int32)), none] [] H) :
    Cm E mX8_arrange [rf E 11] H Q :=
  cm_of (by decide +kernel) (Nat.le_of_ble_eq_true rfl) rfl (sgX8_arrange_0  hF)
theorem sgX8_arrange_4 {E : En} {Q : Option Value → Hi → Prop} {H : Hi} {x1 : Int32} {x2 : Int32} 
    (hF : ((24 : Int32) ≤ x2 → (∀ H_2 : Hi, H_2 = up H 20 24 x1 → (Cm E mJ7_fill_53178 [rf E 21, .int (0 : Int32)] H_2 (fun w H_3 => w = none ∧ (Rm E mX8_arrange Q 77 [some (rf E 11), none, some (.int (0 : Int32)), none] [] H_3))))) ∧ (¬ (24 : Int32) ≤ x2 → (∃ j_5 : Nat, (j_5 < 25 ∧ x2 = nI j_5) ∧ (∀ H_6 : Hi, H_6 = up H 20 j_5 x1 → (Rm E mX8_arrange Q 19 [some (rf E 11), some (.int x1), some (.int x2), some (.int (0 : Int32))] [] H_6))))) :
    Rm E mX8_arrange Q 4 [some (rf E 11), some (.int x1), some (.int x2), none] [] H := by
  refine rn_iload_n dX8_arrange_4 rfl ?_
  refine rn_bipush (x := (24 : Int32)) dX8_arrange_5 (by decide) ?_
  refine rn_icmp_ge (tgt := 59) dX8_arrange_7 (by decide) (fun hc_1 => ?_) (fun hc_1 => ?_)
  · replace hF := hF.1 hc_1
    refine rn_aload_n dX8_arrange_59 rfl ?_
    refine rm_getr (r := 20) flRX8_40 rfl (by decide) rfl dX8_arrange_60 ?_
    refine rn_bipush (x := (24 : Int32)) dX8_arrange_63 (by decide) ?_
    refine rn_iload_n dX8_arrange_65 rfl ?_
    refine rj_iast ⟨by decide, by decide⟩ rfl (by decide) rfl (by decide) dX8_arrange_66 (fun H_2 eH_2 => ?_)
    replace hF := hF H_2 eH_2
    refine rn_aload_n dX8_arrange_67 rfl ?_
    refine rm_getr (r := 21) flRX8_43 rfl (by decide) rfl dX8_arrange_68 ?_
    refine rn_iconst (x := (0 : Int32)) dX8_arrange_71 (by decide) ?_
    refine rm_callS (As := [rf E 21, .int (0 : Int32)]) (st := []) mlRX8_65 mdJ7_fill_53178 (Nat.le_of_ble_eq_true rfl) rfl rfl (Nat.le_of_ble_eq_true rfl) ⟨Nat.le_refl _, Nat.le_refl _⟩ dX8_arrange_72 ?_
    refine cm_mono hF (fun w H_3 hF => ?_)
    obtain ⟨rfl, hF⟩ := hF
    refine rn_iconst (x := (0 : Int32)) dX8_arrange_75 (by decide) ?_
    refine rn_istore_n dX8_arrange_76 rfl (by decide) (fun x2_4 ex2_4 => ?_)
    subst ex2_4
    exact rn_wk (L' := [some (rf E 11), none, some (.int (0 : Int32)), none]) (⟨rfl, ⟨rfl, trivial⟩⟩) hF
  · replace hF := hF.2 hc_1
    refine rn_aload_n dX8_arrange_10 rfl ?_
    refine rm_getr (r := 20) flRX8_40 rfl (by decide) rfl dX8_arrange_11 ?_
    refine rn_iload_n dX8_arrange_14 rfl ?_
    refine rn_iload_n dX8_arrange_15 rfl ?_
    obtain ⟨j_5, hj_5, hF⟩ := hF
    refine rj_iast hj_5 rfl (by decide) rfl (by decide) dX8_arrange_16 (fun H_6 eH_6 => ?_)
    replace hF := hF H_6 eH_6
    refine rn_iconst (x := (0 : Int32)) dX8_arrange_17 (by decide) ?_
    refine rn_istore_n dX8_arrange_18 rfl (by decide) (fun x3_7 ex3_7 => ?_)
    subst ex3_7
    exact rn_wk (L' := [some (rf E 11), some (.int x1), some (.int x2), some (.int (0 : Int32))]) (⟨rfl, ⟨rfl, ⟨rfl, ⟨rfl, trivial⟩⟩⟩⟩) hF
theorem sgX8_arrange_77 {E : En} {Q : Option Value → Hi → Prop} {H : Hi} {x2 : Int32} 
    (hF : ((H 11 5) ≤ x2 → (Q none H)) ∧ (¬ (H 11 5) ≤ x2 → (∃ j_2 : Nat, (j_2 < 6 ∧ x2 = nI j_2) ∧ (∀ x3_3 : Int32, x3_3 = H 14 j_2 → (∃ j_4 : Nat, (j_4 < 24 ∧ x3_3 = nI j_4) ∧ (∃ j_5 : Nat, (j_5 < 6 ∧ x2 = nI j_5) ∧ (Cm E mJ9_max_7cf53 [.int (H 21 j_4), .int (H 15 j_5)] H (fun w H_6 => ∃ r_7 : Int32, w = some (.int r_7) ∧ (∃ j_8 : Nat, (j_8 < 24 ∧ x3_3 = nI j_8) ∧ (∀ H_9 : Hi, H_9 = up H_6 21 j_8 r_7 → (∀ x2_10 : Int32, x2_10 = x2 + (1 : Int32) → (Rm E mX8_arrange Q 77 [some (rf E 11), none, some (.int x2_10), none] [] H_9)))))))))))) :
    Rm E mX8_arrange Q 77 [some (rf E 11), none, some (.int x2), none] [] H := by
  refine rn_iload_n dX8_arrange_77 rfl ?_
  refine rn_aload_n dX8_arrange_78 rfl ?_
  refine rm_geti flRX8_59 rfl (by decide) rfl dX8_arrange_79 ?_
  refine rn_icmp_ge (tgt := 119) dX8_arrange_82 (by decide) (fun hc_1 => ?_) (fun hc_1 => ?_)
  · replace hF := hF.1 hc_1
    exact rm_vret rfl dX8_arrange_119 hF
  · replace hF := hF.2 hc_1
    refine rn_aload_n dX8_arrange_85 rfl ?_
    refine rm_getr (r := 14) flRX8_22 rfl (by decide) rfl dX8_arrange_86 ?_
    refine rn_iload_n dX8_arrange_89 rfl ?_
    obtain ⟨j_2, hj_2, hF⟩ := hF
    refine rj_iald hj_2 rfl (by decide) rfl (by decide) dX8_arrange_90 ?_
    refine rn_istore_n dX8_arrange_91 rfl (by decide) (fun x3_3 ex3_3 => ?_)
    replace hF := hF x3_3 ex3_3
    refine rn_aload_n dX8_arrange_92 rfl ?_
    refine rm_getr (r := 21) flRX8_43 rfl (by decide) rfl dX8_arrange_93 ?_
    refine rn_iload_n dX8_arrange_96 rfl ?_
    refine rn_aload_n dX8_arrange_97 rfl ?_
    refine rm_getr (r := 21) flRX8_43 rfl (by decide) rfl dX8_arrange_98 ?_
    refine rn_iload_n dX8_arrange_101 rfl ?_
    obtain ⟨j_4, hj_4, hF⟩ := hF
    refine rj_iald hj_4 rfl (by decide) rfl (by decide) dX8_arrange_102 ?_
    refine rn_aload_n dX8_arrange_103 rfl ?_
    refine rm_getr (r := 15) flRX8_25 rfl (by decide) rfl dX8_arrange_104 ?_
    refine rn_iload_n dX8_arrange_107 rfl ?_
    obtain ⟨j_5, hj_5, hF⟩ := hF
    refine rj_iald hj_5 rfl (by decide) rfl (by decide) dX8_arrange_108 ?_
    refine rm_callS (As := [.int (H 21 j_4), .int (H 15 j_5)]) (st := [.int x3_3, rf E 21]) mlRX8_71 mdJ9_max_7cf53 (Nat.le_of_ble_eq_true rfl) rfl rfl (Nat.le_of_ble_eq_true rfl) ⟨Nat.le_refl _, Nat.le_refl _⟩ dX8_arrange_109 ?_
    refine cm_mono hF (fun w H_6 hF => ?_)
    obtain ⟨r_7, rfl, hF⟩ := hF
    obtain ⟨j_8, hj_8, hF⟩ := hF
    refine rj_iast hj_8 rfl (by decide) rfl (by decide) dX8_arrange_112 (fun H_9 eH_9 => ?_)
    replace hF := hF H_9 eH_9
    refine rn_iinc (w := (1 : Int32)) dX8_arrange_113 rfl (by decide) rfl (by decide) (fun x2_10 ex2_10 => ?_)
    replace hF := hF x2_10 ex2_10
    refine rn_goto (tgt := 77) dX8_arrange_116 (by decide) ?_
    exact rn_wk (L' := [some (rf E 11), none, some (.int x2_10), none]) (⟨rfl, ⟨rfl, trivial⟩⟩) hF
theorem sgX8_arrange_19 {E : En} {Q : Option Value → Hi → Prop} {H : Hi} {x1 : Int32} {x2 : Int32} {x3 : Int32} 
    (hF : ((H 11 2) ≤ x3 → (∀ x2_2 : Int32, x2_2 = x2 + (1 : Int32) → (Rm E mX8_arrange Q 4 [some (rf E 11), some (.int x1), some (.int x2_2), none] [] H))) ∧ (¬ (H 11 2) ≤ x3 → (∃ j_3 : Nat, (j_3 < 20 ∧ x3 = nI j_3) ∧ ((¬ (H 12 j_3) = x2 → (∀ x3_5 : Int32, x3_5 = x3 + (1 : Int32) → (Rm E mX8_arrange Q 19 [some (rf E 11), some (.int x1), some (.int x2), some (.int x3_5)] [] H))) ∧ ((H 12 j_3) = x2 → (∃ j_6 : Nat, (j_6 < 20 ∧ x1 = nI j_6) ∧ (∀ H_7 : Hi, H_7 = up H 19 j_6 x3 → (∀ x1_8 : Int32, x1_8 = x1 + (1 : Int32) → (∀ x3_9 : Int32, x3_9 = x3 + (1 : Int32) → (Rm E mX8_arrange Q 19 [some (rf E 11), some (.int x1_8), some (.int x2), some (.int x3_9)] [] H_7)))))))))) :
    Rm E mX8_arrange Q 19 [some (rf E 11), some (.int x1), some (.int x2), some (.int x3)] [] H := by
  refine rn_iload_n dX8_arrange_19 rfl ?_
  refine rn_aload_n dX8_arrange_20 rfl ?_
  refine rm_geti flRX8_56 rfl (by decide) rfl dX8_arrange_21 ?_
  refine rn_icmp_ge (tgt := 53) dX8_arrange_24 (by decide) (fun hc_1 => ?_) (fun hc_1 => ?_)
  · replace hF := hF.1 hc_1
    refine rn_iinc (w := (1 : Int32)) dX8_arrange_53 rfl (by decide) rfl (by decide) (fun x2_2 ex2_2 => ?_)
    replace hF := hF x2_2 ex2_2
    refine rn_goto (tgt := 4) dX8_arrange_56 (by decide) ?_
    exact rn_wk (L' := [some (rf E 11), some (.int x1), some (.int x2_2), none]) (⟨rfl, ⟨rfl, ⟨rfl, trivial⟩⟩⟩) hF
  · replace hF := hF.2 hc_1
    refine rn_aload_n dX8_arrange_27 rfl ?_
    refine rm_getr (r := 12) flRX8_15 rfl (by decide) rfl dX8_arrange_28 ?_
    refine rn_iload_n dX8_arrange_31 rfl ?_
    obtain ⟨j_3, hj_3, hF⟩ := hF
    refine rj_iald hj_3 rfl (by decide) rfl (by decide) dX8_arrange_32 ?_
    refine rn_iload_n dX8_arrange_33 rfl ?_
    refine rn_icmp_ne (tgt := 47) dX8_arrange_34 (by decide) (fun hc_4 => ?_) (fun hc_4 => ?_)
    · replace hF := hF.1 hc_4
      refine rn_iinc (w := (1 : Int32)) dX8_arrange_47 rfl (by decide) rfl (by decide) (fun x3_5 ex3_5 => ?_)
      replace hF := hF x3_5 ex3_5
      refine rn_goto (tgt := 19) dX8_arrange_50 (by decide) ?_
      exact rn_wk (L' := [some (rf E 11), some (.int x1), some (.int x2), some (.int x3_5)]) (⟨rfl, ⟨rfl, ⟨rfl, ⟨rfl, trivial⟩⟩⟩⟩) hF
    · replace hF := hF.2 hc_4
      refine rn_aload_n dX8_arrange_37 rfl ?_
      refine rm_getr (r := 19) flRX8_37 rfl (by decide) rfl dX8_arrange_38 ?_
      refine rn_iload_n dX8_arrange_41 rfl ?_
      refine rn_iload_n dX8_arrange_42 rfl ?_
      obtain ⟨j_6, hj_6, hF⟩ := hF
      refine rj_iast hj_6 rfl (by decide) rfl (by decide) dX8_arrange_43 (fun H_7 eH_7 => ?_)
      replace hF := hF H_7 eH_7
      refine rn_iinc (w := (1 : Int32)) dX8_arrange_44 rfl (by decide) rfl (by decide) (fun x1_8 ex1_8 => ?_)
      replace hF := hF x1_8 ex1_8
      refine rn_iinc (w := (1 : Int32)) dX8_arrange_47 rfl (by decide) rfl (by decide) (fun x3_9 ex3_9 => ?_)
      replace hF := hF x3_9 ex3_9
      refine rn_goto (tgt := 19) dX8_arrange_50 (by decide) ?_
      exact rn_wk (L' := [some (rf E 11), some (.int x1_8), some (.int x2), some (.int x3_9)]) (⟨rfl, ⟨rfl, ⟨rfl, ⟨rfl, trivial⟩⟩⟩⟩) hF
