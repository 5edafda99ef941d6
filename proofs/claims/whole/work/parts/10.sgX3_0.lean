theorem sgX3_drop_0 {E : En} {Q : Option Value → Hi → Prop} {H : Hi}  
    (hF : ∀ H_1 : Hi, H_1 = up H 75 5 (-1 : Int32) → (∀ H_2 : Hi, H_2 = up H_1 75 6 (-1 : Int32) → (Q none H_2))) :
    Rm E mX3_drop Q 0 [some (rf E 75)] [] H := by
  refine rn_aload_n dX3_drop_0 rfl ?_
  refine rn_iconst (x := (-1 : Int32)) dX3_drop_1 (by decide) ?_
  refine rm_puti flRX3_21 rfl (by decide) rfl dX3_drop_2 (fun H_1 eH_1 => ?_)
  replace hF := hF H_1 eH_1
  refine rn_aload_n dX3_drop_5 rfl ?_
  refine rn_iconst (x := (-1 : Int32)) dX3_drop_6 (by decide) ?_
  refine rm_puti flRX3_25 rfl (by decide) rfl dX3_drop_7 (fun H_2 eH_2 => ?_)
  replace hF := hF H_2 eH_2
  exact rm_vret rfl dX3_drop_10 hF
theorem cmX3_drop {E : En} {Q : Option Value → Hi → Prop} {H : Hi}  
    (hF : ∀ H_1 : Hi, H_1 = up H 75 5 (-1 : Int32) → (∀ H_2 : Hi, H_2 = up H_1 75 6 (-1 : Int32) → (Q none H_2))) :
    Cm E mX3_drop [rf E 75] H Q :=
  cm_of (by decide +kernel) (Nat.le_of_ble_eq_true rfl) rfl (sgX3_drop_0  hF)
theorem sgX3_planLend_0 {E : En} {Q : Option Value → Hi → Prop} {H : Hi} {x1 : Int32} {x2 : Int32} {x3 : Int32} {x4 : Int32} 
    (hF : ∀ x5_1 : Int32, x5_1 = (((((x1 * (8 : Int32)) + x2) * (24 : Int32)) + x3) * (24 : Int32)) + x4 → ((¬ x5_1 = (H 75 5) → (∀ H_3 : Hi, H_3 = up H 75 5 x5_1 → (Cm E mX4_plan [rf E 76, .int (-1 : Int32), .int (-1 : Int32), .int (-1 : Int32)] H_3 (fun w H_4 => w = none ∧ (∃ j_5 : Nat, (j_5 < 24 ∧ x3 = nI j_5) ∧ (∃ j_6 : Nat, (j_6 < 24 ∧ x4 = nI j_6) ∧ (Cm E mX6_placeOf [rf E (28 + 2 * j_6), .int x2] H_4 (fun w H_7 => ∃ r_8 : Int32, w = some (.int r_8) ∧ ((¬ r_8 = x1 → (((H_7 76 0) = 0 → (Q none H_7)) ∧ (¬ (H_7 76 0) = 0 → ((x4 < x3 → (Q none H_7)) ∧ (¬ x4 < x3 → (Cm E mX6_placeOf [rf E (27 + 2 * j_5), .int x2] H_7 (fun w H_12 => ∃ r_13 : Int32, w = some (.int r_13) ∧ ((¬ r_13 = (9 : Int32) → (Cm E mX6_become [rf E (80 + 0), rf E (27 + 2 * j_5)] H_12 (fun w H_15 => w = none ∧ (Cm E mX3_leastHand [rf E 75, .int x1, .int x2, .int x3, .int x4] H_15 (fun w H_16 => ∃ r_17 : Int32, w = some (.int r_17) ∧ ((r_17 = (-1 : Int32) → (Rm E mX3_planLend Q 154 [some (rf E 75), some (.int x1), some (.int x2), some (.int x3), some (.int x4), none, some (rf E (27 + 2 * j_5)), none, some (.int (0 : Int32))] [] H_16)) ∧ (¬ r_17 = (-1 : Int32) → (Cm E mX4_plan [rf E 76, .int (1 : Int32), .int r_17, .int (-1 : Int32)] H_16 (fun w H_21 => w = none ∧ (Rm E mX3_planLend Q 154 [some (rf E 75), some (.int x1), some (.int x2), some (.int x3), some (.int x4), none, some (rf E (27 + 2 * j_5)), none, some (.int (0 : Int32))] [] H_21)))))))))) ∧ (r_13 = (9 : Int32) → (Q none H_12)))))))))) ∧ (r_8 = x1 → (Cm E mX4_plan [rf E 76, .int (0 : Int32), .int (-1 : Int32), .int (-1 : Int32)] H_7 (fun w H_23 => w = none ∧ (((H_23 76 0) = 0 → (Q none H_23)) ∧ (¬ (H_23 76 0) = 0 → ((x4 < x3 → (Q none H_23)) ∧ (¬ x4 < x3 → (Cm E mX6_placeOf [rf E (27 + 2 * j_5), .int x2] H_23 (fun w H_26 => ∃ r_27 : Int32, w = some (.int r_27) ∧ ((¬ r_27 = (9 : Int32) → (Cm E mX6_become [rf E (80 + 0), rf E (27 + 2 * j_5)] H_26 (fun w H_29 => w = none ∧ (Cm E mX3_leastHand [rf E 75, .int x1, .int x2, .int x3, .int x4] H_29 (fun w H_30 => ∃ r_31 : Int32, w = some (.int r_31) ∧ ((r_31 = (-1 : Int32) → (Rm E mX3_planLend Q 154 [some (rf E 75), some (.int x1), some (.int x2), some (.int x3), some (.int x4), none, some (rf E (27 + 2 * j_5)), none, some (.int (0 : Int32))] [] H_30)) ∧ (¬ r_31 = (-1 : Int32) → (Cm E mX4_plan [rf E 76, .int (1 : Int32), .int r_31, .int (-1 : Int32)] H_30 (fun w H_35 => w = none ∧ (Rm E mX3_planLend Q 154 [some (rf E 75), some (.int x1), some (.int x2), some (.int x3), some (.int x4), none, some (rf E (27 + 2 * j_5)), none, some (.int (0 : Int32))] [] H_35)))))))))) ∧ (r_27 = (9 : Int32) → (Q none H_26))))))))))))))))))))) ∧ (x5_1 = (H 75 5) → (Q none H)))) :
    Rm E mX3_planLend Q 0 [some (rf E 75), some (.int x1), some (.int x2), some (.int x3), some (.int x4), none, none, none, none] [] H := by
  refine rn_iload_n dX3_planLend_0 rfl ?_
  refine rn_bipush (x := (8 : Int32)) dX3_planLend_1 (by decide) ?_
  refine rn_imul dX3_planLend_3 ?_
  refine rn_iload_n dX3_planLend_4 rfl ?_
  refine rn_iadd dX3_planLend_5 ?_
  refine rn_bipush (x := (24 : Int32)) dX3_planLend_6 (by decide) ?_
  refine rn_imul dX3_planLend_8 ?_
  refine rn_iload_n dX3_planLend_9 rfl ?_
  refine rn_iadd dX3_planLend_10 ?_
  refine rn_bipush (x := (24 : Int32)) dX3_planLend_11 (by decide) ?_
  refine rn_imul dX3_planLend_13 ?_
  refine rn_iload dX3_planLend_14 rfl ?_
  refine rn_iadd dX3_planLend_16 ?_
  refine rn_istore dX3_planLend_17 rfl (by decide) (fun x5_1 ex5_1 => ?_)
  replace hF := hF x5_1 ex5_1
  refine rn_iload dX3_planLend_19 rfl ?_
  refine rn_aload_n dX3_planLend_21 rfl ?_
  refine rm_geti flRX3_21 rfl (by decide) rfl dX3_planLend_22 ?_
  refine rn_icmp_ne (tgt := 29) dX3_planLend_25 (by decide) (fun hc_2 => ?_) (fun hc_2 => ?_)
  · replace hF := hF.1 hc_2
    refine rn_aload_n dX3_planLend_29 rfl ?_
    refine rn_iload dX3_planLend_30 rfl ?_
    refine rm_puti flRX3_21 rfl (by decide) rfl dX3_planLend_32 (fun H_3 eH_3 => ?_)
    replace hF := hF H_3 eH_3
    refine rn_aload_n dX3_planLend_35 rfl ?_
    refine rm_getr (r := 76) flRX3_12 rfl (by decide) rfl dX3_planLend_36 ?_
    refine rn_iconst (x := (-1 : Int32)) dX3_planLend_39 (by decide) ?_
    refine rn_iconst (x := (-1 : Int32)) dX3_planLend_40 (by decide) ?_
    refine rn_iconst (x := (-1 : Int32)) dX3_planLend_41 (by decide) ?_
    refine rm_callV (c0 := 76) (As := [.int (-1 : Int32), .int (-1 : Int32), .int (-1 : Int32)]) (st := []) mlRX3_51 mdX4_plan (Nat.le_of_ble_eq_true rfl) rfl (by decide) (by decide) rfl rfl rfl (Nat.le_of_ble_eq_true rfl) ⟨Nat.le_refl _, Nat.le_refl _⟩ dX3_planLend_42 ?_
    refine cm_mono hF (fun w H_4 hF => ?_)
    obtain ⟨rfl, hF⟩ := hF
    refine rn_aload_n dX3_planLend_45 rfl ?_
    refine rm_getr (r := 22) flRX3_46 rfl (by decide) rfl dX3_planLend_46 ?_
    refine rm_getr (r := 24) flRX3_55 rfl (by decide) rfl dX3_planLend_49 ?_
    refine rn_iload_n dX3_planLend_52 rfl ?_
    obtain ⟨j_5, hj_5, hF⟩ := hF
    refine rj_aald (Cn := RX6) (r := (27 + 2 * j_5)) hj_5 (st_mid _ hj_5.1).2 rfl (by decide) (by decide) rfl (by decide) dX3_planLend_53 ?_
    refine rn_astore dX3_planLend_54 rfl (by decide) ?_
    refine rn_aload_n dX3_planLend_56 rfl ?_
    refine rm_getr (r := 22) flRX3_46 rfl (by decide) rfl dX3_planLend_57 ?_
    refine rm_getr (r := 25) flRX3_60 rfl (by decide) rfl dX3_planLend_60 ?_
    refine rn_iload dX3_planLend_63 rfl ?_
    obtain ⟨j_6, hj_6, hF⟩ := hF
    refine rj_aald (Cn := RX6) (r := (28 + 2 * j_6)) hj_6 (st_beh _ hj_6.1).2 rfl (by decide) (by decide) rfl (by decide) dX3_planLend_65 ?_
    refine rn_iload_n dX3_planLend_66 rfl ?_
    refine rm_callV (c0 := (28 + 2 * j_6)) (As := [.int x2]) (st := []) mlRX3_63 mdX6_placeOf (Nat.le_of_ble_eq_true rfl) (st_beh _ hj_6.1).1.2.1 (st_beh _ hj_6.1).1.1 (by decide) rfl rfl rfl (Nat.le_of_ble_eq_true rfl) ⟨Nat.le_refl _, Nat.le_refl _⟩ dX3_planLend_67 ?_
    refine cm_mono hF (fun w H_7 hF => ?_)
    obtain ⟨r_8, rfl, hF⟩ := hF
    refine rn_iload_n dX3_planLend_70 rfl ?_
    refine rn_icmp_ne (tgt := 84) dX3_planLend_71 (by decide) (fun hc_9 => ?_) (fun hc_9 => ?_)
    · replace hF := hF.1 hc_9
      refine rn_aload_n dX3_planLend_84 rfl ?_
      refine rm_getr (r := 76) flRX3_12 rfl (by decide) rfl dX3_planLend_85 ?_
      refine rm_geti flRX3_67 rfl (by decide) rfl dX3_planLend_88 ?_
      refine rn_if_eq (tgt := 111) dX3_planLend_91 (by decide) (fun hc_10 => ?_) (fun hc_10 => ?_)
      · replace hF := hF.1 hc_10
        exact rm_vret rfl dX3_planLend_111 hF
      · replace hF := hF.2 hc_10
        refine rn_iload dX3_planLend_94 rfl ?_
        refine rn_iload_n dX3_planLend_96 rfl ?_
        refine rn_icmp_lt (tgt := 111) dX3_planLend_97 (by decide) (fun hc_11 => ?_) (fun hc_11 => ?_)
        · replace hF := hF.1 hc_11
          exact rm_vret rfl dX3_planLend_111 hF
        · replace hF := hF.2 hc_11
          refine rn_aload dX3_planLend_100 rfl ?_
          refine rn_iload_n dX3_planLend_102 rfl ?_
          refine rm_callV (c0 := (27 + 2 * j_5)) (As := [.int x2]) (st := []) mlRX3_63 mdX6_placeOf (Nat.le_of_ble_eq_true rfl) (st_mid _ hj_5.1).1.2.1 (st_mid _ hj_5.1).1.1 (by decide) rfl rfl rfl (Nat.le_of_ble_eq_true rfl) ⟨Nat.le_refl _, Nat.le_refl _⟩ dX3_planLend_103 ?_
          refine cm_mono hF (fun w H_12 hF => ?_)
          obtain ⟨r_13, rfl, hF⟩ := hF
          refine rn_bipush (x := (9 : Int32)) dX3_planLend_106 (by decide) ?_
          refine rn_icmp_ne (tgt := 112) dX3_planLend_108 (by decide) (fun hc_14 => ?_) (fun hc_14 => ?_)
          · replace hF := hF.1 hc_14
            refine rn_aload_n dX3_planLend_112 rfl ?_
            refine rm_getr (r := 78) flRX3_30 rfl (by decide) rfl dX3_planLend_113 ?_
            refine rn_iconst (x := (0 : Int32)) dX3_planLend_116 (by decide) ?_
            refine rj_aald (Cn := RX6) (r := (80 + 0)) ⟨by decide, by decide⟩ (st_tri _ (by decide : 0 < 6)).2 rfl (by decide) (by decide) rfl (by decide) dX3_planLend_117 ?_
            refine rn_aload dX3_planLend_118 rfl ?_
            refine rm_callV (c0 := (80 + 0)) (As := [rf E (27 + 2 * j_5)]) (st := []) mlRX3_70 mdX6_become (Nat.le_of_ble_eq_true rfl) (st_tri _ (by decide : 0 < 6)).1.2.1 (st_tri _ (by decide : 0 < 6)).1.1 (by decide) rfl rfl rfl (Nat.le_of_ble_eq_true rfl) ⟨Nat.le_refl _, Nat.le_refl _⟩ dX3_planLend_120 ?_
            refine cm_mono hF (fun w H_15 hF => ?_)
            obtain ⟨rfl, hF⟩ := hF
            refine rn_aload_n dX3_planLend_123 rfl ?_
            refine rn_iload_n dX3_planLend_124 rfl ?_
            refine rn_iload_n dX3_planLend_125 rfl ?_
            refine rn_iload_n dX3_planLend_126 rfl ?_
            refine rn_iload dX3_planLend_127 rfl ?_
            refine rm_callV (c0 := 75) (As := [.int x1, .int x2, .int x3, .int x4]) (st := []) mlRX3_74 mdX3_leastHand (Nat.le_of_ble_eq_true rfl) rfl (by decide) (by decide) rfl rfl rfl (Nat.le_of_ble_eq_true rfl) ⟨Nat.le_refl _, Nat.le_refl _⟩ dX3_planLend_129 ?_
            refine cm_mono hF (fun w H_16 hF => ?_)
            obtain ⟨r_17, rfl, hF⟩ := hF
            refine rn_istore dX3_planLend_132 rfl (by decide) (fun x7_18 ex7_18 => ?_)
            subst ex7_18
            refine rn_iload dX3_planLend_134 rfl ?_
            refine rn_iconst (x := (-1 : Int32)) dX3_planLend_136 (by decide) ?_
            refine rn_icmp_eq (tgt := 151) dX3_planLend_137 (by decide) (fun hc_19 => ?_) (fun hc_19 => ?_)
            · replace hF := hF.1 hc_19
              refine rn_iconst (x := (0 : Int32)) dX3_planLend_151 (by decide) ?_
              refine rn_istore dX3_planLend_152 rfl (by decide) (fun x8_20 ex8_20 => ?_)
              subst ex8_20
              exact rn_wk (L' := [some (rf E 75), some (.int x1), some (.int x2), some (.int x3), some (.int x4), none, some (rf E (27 + 2 * j_5)), none, some (.int (0 : Int32))]) (⟨rfl, ⟨rfl, ⟨rfl, ⟨rfl, ⟨rfl, ⟨rfl, ⟨rfl, trivial⟩⟩⟩⟩⟩⟩⟩) hF
            · replace hF := hF.2 hc_19
              refine rn_aload_n dX3_planLend_140 rfl ?_
              refine rm_getr (r := 76) flRX3_12 rfl (by decide) rfl dX3_planLend_141 ?_
              refine rn_iconst (x := (1 : Int32)) dX3_planLend_144 (by decide) ?_
              refine rn_iload dX3_planLend_145 rfl ?_
              refine rn_iconst (x := (-1 : Int32)) dX3_planLend_147 (by decide) ?_
              refine rm_callV (c0 := 76) (As := [.int (1 : Int32), .int r_17, .int (-1 : Int32)]) (st := []) mlRX3_51 mdX4_plan (Nat.le_of_ble_eq_true rfl) rfl (by decide) (by decide) rfl rfl rfl (Nat.le_of_ble_eq_true rfl) ⟨Nat.le_refl _, Nat.le_refl _⟩ dX3_planLend_148 ?_
              refine cm_mono hF (fun w H_21 hF => ?_)
              obtain ⟨rfl, hF⟩ := hF
              refine rn_iconst (x := (0 : Int32)) dX3_planLend_151 (by decide) ?_
              refine rn_istore dX3_planLend_152 rfl (by decide) (fun x8_22 ex8_22 => ?_)
              subst ex8_22
              exact rn_wk (L' := [some (rf E 75), some (.int x1), some (.int x2), some (.int x3), some (.int x4), none, some (rf E (27 + 2 * j_5)), none, some (.int (0 : Int32))]) (⟨rfl, ⟨rfl, ⟨rfl, ⟨rfl, ⟨rfl, ⟨rfl, ⟨rfl, trivial⟩⟩⟩⟩⟩⟩⟩) hF
          · replace hF := hF.2 hc_14
            exact rm_vret rfl dX3_planLend_111 hF
    · replace hF := hF.2 hc_9
      refine rn_aload_n dX3_planLend_74 rfl ?_
      refine rm_getr (r := 76) flRX3_12 rfl (by decide) rfl dX3_planLend_75 ?_
      refine rn_iconst (x := (0 : Int32)) dX3_planLend_78 (by decide) ?_
      refine rn_iconst (x := (-1 : Int32)) dX3_planLend_79 (by decide) ?_
      refine rn_iconst (x := (-1 : Int32)) dX3_planLend_80 (by decide) ?_
      refine rm_callV (c0 := 76) (As := [.int (0 : Int32), .int (-1 : Int32), .int (-1 : Int32)]) (st := []) mlRX3_51 mdX4_plan (Nat.le_of_ble_eq_true rfl) rfl (by decide) (by decide) rfl rfl rfl (Nat.le_of_ble_eq_true rfl) ⟨Nat.le_refl _, Nat.le_refl _⟩ dX3_planLend_81 ?_
      refine cm_mono hF (fun w H_23 hF => ?_)
      obtain ⟨rfl, hF⟩ := hF
      refine rn_aload_n dX3_planLend_84 rfl ?_
      refine rm_getr (r := 76) flRX3_12 rfl (by decide) rfl dX3_planLend_85 ?_
      refine rm_geti flRX3_67 rfl (by decide) rfl dX3_planLend_88 ?_
      refine rn_if_eq (tgt := 111) dX3_planLend_91 (by decide) (fun hc_24 => ?_) (fun hc_24 => ?_)
      · replace hF := hF.1 hc_24
        exact rm_vret rfl dX3_planLend_111 hF
      · replace hF := hF.2 hc_24
        refine rn_iload dX3_planLend_94 rfl ?_
        refine rn_iload_n dX3_planLend_96 rfl ?_
        refine rn_icmp_lt (tgt := 111) dX3_planLend_97 (by decide) (fun hc_25 => ?_) (fun hc_25 => ?_)
        · replace hF := hF.1 hc_25
          exact rm_vret rfl dX3_planLend_111 hF
        · replace hF := hF.2 hc_25
          refine rn_aload dX3_planLend_100 rfl ?_
          refine rn_iload_n dX3_planLend_102 rfl ?_
          refine rm_callV (c0 := (27 + 2 * j_5)) (As := [.int x2]) (st := []) mlRX3_63 mdX6_placeOf (Nat.le_of_ble_eq_true rfl) (st_mid _ hj_5.1).1.2.1 (st_mid _ hj_5.1).1.1 (by decide) rfl rfl rfl (Nat.le_of_ble_eq_true rfl) ⟨Nat.le_refl _, Nat.le_refl _⟩ dX3_planLend_103 ?_
          refine cm_mono hF (fun w H_26 hF => ?_)
          obtain ⟨r_27, rfl, hF⟩ := hF
          refine rn_bipush (x := (9 : Int32)) dX3_planLend_106 (by decide) ?_
          refine rn_icmp_ne (tgt := 112) dX3_planLend_108 (by decide) (fun hc_28 => ?_) (fun hc_28 => ?_)
          · replace hF := hF.1 hc_28
            refine rn_aload_n dX3_planLend_112 rfl ?_
            refine rm_getr (r := 78) flRX3_30 rfl (by decide) rfl dX3_planLend_113 ?_
            refine rn_iconst (x := (0 : Int32)) dX3_planLend_116 (by decide) ?_
            refine rj_aald (Cn := RX6) (r := (80 + 0)) ⟨by decide, by decide⟩ (st_tri _ (by decide : 0 < 6)).2 rfl (by decide) (by decide) rfl (by decide) dX3_planLend_117 ?_
            refine rn_aload dX3_planLend_118 rfl ?_
            refine rm_callV (c0 := (80 + 0)) (As := [rf E (27 + 2 * j_5)]) (st := []) mlRX3_70 mdX6_become (Nat.le_of_ble_eq_true rfl) (st_tri _ (by decide : 0 < 6)).1.2.1 (st_tri _ (by decide : 0 < 6)).1.1 (by decide) rfl rfl rfl (Nat.le_of_ble_eq_true rfl) ⟨Nat.le_refl _, Nat.le_refl _⟩ dX3_planLend_120 ?_
            refine cm_mono hF (fun w H_29 hF => ?_)
            obtain ⟨rfl, hF⟩ := hF
            refine rn_aload_n dX3_planLend_123 rfl ?_
            refine rn_iload_n dX3_planLend_124 rfl ?_
            refine rn_iload_n dX3_planLend_125 rfl ?_
            refine rn_iload_n dX3_planLend_126 rfl ?_
            refine rn_iload dX3_planLend_127 rfl ?_
            refine rm_callV (c0 := 75) (As := [.int x1, .int x2, .int x3, .int x4]) (st := []) mlRX3_74 mdX3_leastHand (Nat.le_of_ble_eq_true rfl) rfl (by decide) (by decide) rfl rfl rfl (Nat.le_of_ble_eq_true rfl) ⟨Nat.le_refl _, Nat.le_refl _⟩ dX3_planLend_129 ?_
            refine cm_mono hF (fun w H_30 hF => ?_)
            obtain ⟨r_31, rfl, hF⟩ := hF
            refine rn_istore dX3_planLend_132 rfl (by decide) (fun x7_32 ex7_32 => ?_)
            subst ex7_32
            refine rn_iload dX3_planLend_134 rfl ?_
            refine rn_iconst (x := (-1 : Int32)) dX3_planLend_136 (by decide) ?_
            refine rn_icmp_eq (tgt := 151) dX3_planLend_137 (by decide) (fun hc_33 => ?_) (fun hc_33 => ?_)
            · replace hF := hF.1 hc_33
              refine rn_iconst (x := (0 : Int32)) dX3_planLend_151 (by decide) ?_
              refine rn_istore dX3_planLend_152 rfl (by decide) (fun x8_34 ex8_34 => ?_)
              subst ex8_34
              exact rn_wk (L' := [some (rf E 75), some (.int x1), some (.int x2), some (.int x3), some (.int x4), none, some (rf E (27 + 2 * j_5)), none, some (.int (0 : Int32))]) (⟨rfl, ⟨rfl, ⟨rfl, ⟨rfl, ⟨rfl, ⟨rfl, ⟨rfl, trivial⟩⟩⟩⟩⟩⟩⟩) hF
            · replace hF := hF.2 hc_33
              refine rn_aload_n dX3_planLend_140 rfl ?_
              refine rm_getr (r := 76) flRX3_12 rfl (by decide) rfl dX3_planLend_141 ?_
              refine rn_iconst (x := (1 : Int32)) dX3_planLend_144 (by decide) ?_
              refine rn_iload dX3_planLend_145 rfl ?_
              refine rn_iconst (x := (-1 : Int32)) dX3_planLend_147 (by decide) ?_
              refine rm_callV (c0 := 76) (As := [.int (1 : Int32), .int r_31, .int (-1 : Int32)]) (st := []) mlRX3_51 mdX4_plan (Nat.le_of_ble_eq_true rfl) rfl (by decide) (by decide) rfl rfl rfl (Nat.le_of_ble_eq_true rfl) ⟨Nat.le_refl _, Nat.le_refl _⟩ dX3_planLend_148 ?_
              refine cm_mono hF (fun w H_35 hF => ?_)
              obtain ⟨rfl, hF⟩ := hF
              refine rn_iconst (x := (0 : Int32)) dX3_planLend_151 (by decide) ?_
              refine rn_istore dX3_planLend_152 rfl (by decide) (fun x8_36 ex8_36 => ?_)
              subst ex8_36
              exact rn_wk (L' := [some (rf E 75), some (.int x1), some (.int x2), some (.int x3), some (.int x4), none, some (rf E (27 + 2 * j_5)), none, some (.int (0 : Int32))]) (⟨rfl, ⟨rfl, ⟨rfl, ⟨rfl, ⟨rfl, ⟨rfl, ⟨rfl, trivial⟩⟩⟩⟩⟩⟩⟩) hF
          · replace hF := hF.2 hc_28
            exact rm_vret rfl dX3_planLend_111 hF
  · replace hF := hF.2 hc_2
    exact rm_vret rfl dX3_planLend_28 hF
theorem cmX3_planLend {E : En} {Q : Option Value → Hi → Prop} {H : Hi} {x1 : Int32} {x2 : Int32} {x3 : Int32} {x4 : Int32} 
    (hF : ∀ x5_1 : Int32, x5_1 = (((((x1 * (8 : Int32)) + x2) * (24 : Int32)) + x3) * (24 : Int32)) + x4 → ((¬ x5_1 = (H 75 5) → (∀ H_3 : Hi, H_3 = up H 75 5 x5_1 → (Cm E mX4_plan [rf E 76, .int (-1 : Int32), .int (-1 : Int32), .int (-1 : Int32)] H_3 (fun w H_4 => w = none ∧ (∃ j_5 : Nat, (j_5 < 24 ∧ x3 = nI j_5) ∧ (∃ j_6 : Nat, (j_6 < 24 ∧ x4 = nI j_6) ∧ (Cm E mX6_placeOf [rf E (28 + 2 * j_6), .int x2] H_4 (fun w H_7 => ∃ r_8 : Int32, w = some (.int r_8) ∧ ((¬ r_8 = x1 → (((H_7 76 0) = 0 → (Q none H_7)) ∧ (¬ (H_7 76 0) = 0 → ((x4 < x3 → (Q none H_7)) ∧ (¬ x4 < x3 → (Cm E mX6_placeOf [rf E (27 + 2 * j_5), .int x2] H_7 (fun w H_12 => ∃ r_13 : Int32, w = some (.int r_13) ∧ ((¬ r_13 = (9 : Int32) → (Cm E mX6_become [rf E (80 + 0), rf E (27 + 2 * j_5)] H_12 (fun w H_15 => w = none ∧ (Cm E mX3_leastHand [rf E 75, .int x1, .int x2, .int x3, .int x4] H_15 (fun w H_16 => ∃ r_17 : Int32, w = some (.int r_17) ∧ ((r_17 = (-1 : Int32) → (Rm E mX3_planLend Q 154 [some (rf E 75), some (.int x1), some (.int x2), some (.int x3), some (.int x4), none, some (rf E (27 + 2 * j_5)), none, some (.int (0 : Int32))] [] H_16)) ∧ (¬ r_17 = (-1 : Int32) → (Cm E mX4_plan [rf E 76, .int (1 : Int32), .int r_17, .int (-1 : Int32)] H_16 (fun w H_21 => w = none ∧ (Rm E mX3_planLend Q 154 [some (rf E 75), some (.int x1), some (.int x2), some (.int x3), some (.int x4), none, some (rf E (27 + 2 * j_5)), none, some (.int (0 : Int32))] [] H_21)))))))))) ∧ (r_13 = (9 : Int32) → (Q none H_12)))))))))) ∧ (r_8 = x1 → (Cm E mX4_plan [rf E 76, .int (0 : Int32), .int (-1 : Int32), .int (-1 : Int32)] H_7 (fun w H_23 => w = none ∧ (((H_23 76 0) = 0 → (Q none H_23)) ∧ (¬ (H_23 76 0) = 0 → ((x4 < x3 → (Q none H_23)) ∧ (¬ x4 < x3 → (Cm E mX6_placeOf [rf E (27 + 2 * j_5), .int x2] H_23 (fun w H_26 => ∃ r_27 : Int32, w = some (.int r_27) ∧ ((¬ r_27 = (9 : Int32) → (Cm E mX6_become [rf E (80 + 0), rf E (27 + 2 * j_5)] H_26 (fun w H_29 => w = none ∧ (Cm E mX3_leastHand [rf E 75, .int x1, .int x2, .int x3, .int x4] H_29 (fun w H_30 => ∃ r_31 : Int32, w = some (.int r_31) ∧ ((r_31 = (-1 : Int32) → (Rm E mX3_planLend Q 154 [some (rf E 75), some (.int x1), some (.int x2), some (.int x3), some (.int x4), none, some (rf E (27 + 2 * j_5)), none, some (.int (0 : Int32))] [] H_30)) ∧ (¬ r_31 = (-1 : Int32) → (Cm E mX4_plan [rf E 76, .int (1 : Int32), .int r_31, .int (-1 : Int32)] H_30 (fun w H_35 => w = none ∧ (Rm E mX3_planLend Q 154 [some (rf E 75), some (.int x1), some (.int x2), some (.int x3), some (.int x4), none, some (rf E (27 + 2 * j_5)), none, some (.int (0 : Int32))] [] H_35)))))))))) ∧ (r_27 = (9 : Int32) → (Q none H_26))))))))))))))))))))) ∧ (x5_1 = (H 75 5) → (Q none H)))) :
    Cm E mX3_planLend [rf E 75, .int x1, .int x2, .int x3, .int x4] H Q :=
  cm_of (by decide +kernel) (Nat.le_of_ble_eq_true rfl) rfl (sgX3_planLend_0  hF)
theorem sgX3_planLend_154 {E : En} {Q : Option Value → Hi → Prop} {H : Hi} {x1 : Int32} {x2 : Int32} {x3 : Int32} {x4 : Int32} {s6 : Nat} {x8 : Int32} (hs6 : isSt s6)
    (hF : ((128 : Int32) ≤ x8 → (Q none H)) ∧ (¬ (128 : Int32) ≤ x8 → ((¬ (H 76 0) = (-1 : Int32) → (Q none H)) ∧ ((H 76 0) = (-1 : Int32) → (Cm E mX6_become [rf E (80 + 0), rf E s6] H (fun w H_3 => w = none ∧ (Cm E mX3_matters [rf E 75, .int x8, .int x2] H_3 (fun w H_4 => ∃ r_5 : Int32, w = some (.int r_5) ∧ ((r_5 = 0 → (∀ x8_7 : Int32, x8_7 = x8 + (1 : Int32) → (Rm E mX3_planLend Q 154 [some (rf E 75), some (.int x1), some (.int x2), some (.int x3), some (.int x4), none, some (rf E s6), none, some (.int x8_7)] [] H_4))) ∧ (¬ r_5 = 0 → (Cm E mX2_reach [rf E 22, rf E (80 + 0), .int x8] H_4 (fun w H_8 => ∃ r_9 : Int32, w = some (.int r_9) ∧ ((r_9 = 0 → (∀ x8_11 : Int32, x8_11 = x8 + (1 : Int32) → (Rm E mX3_planLend Q 154 [some (rf E 75), some (.int x1), some (.int x2), some (.int x3), some (.int x4), none, some (rf E s6), none, some (.int x8_11)] [] H_8))) ∧ (¬ r_9 = 0 → (Cm E mX3_leastHand [rf E 75, .int x1, .int x2, .int x3, .int x4] H_8 (fun w H_12 => ∃ r_13 : Int32, w = some (.int r_13) ∧ ((r_13 = (-1 : Int32) → (∀ x8_16 : Int32, x8_16 = x8 + (1 : Int32) → (Rm E mX3_planLend Q 154 [some (rf E 75), some (.int x1), some (.int x2), some (.int x3), some (.int x4), none, some (rf E s6), none, some (.int x8_16)] [] H_12))) ∧ (¬ r_13 = (-1 : Int32) → (Cm E mX4_plan [rf E 76, .int (2 : Int32), .int x8, .int r_13] H_12 (fun w H_17 => w = none ∧ (∀ x8_18 : Int32, x8_18 = x8 + (1 : Int32) → (Rm E mX3_planLend Q 154 [some (rf E 75), some (.int x1), some (.int x2), some (.int x3), some (.int x4), none, some (rf E s6), none, some (.int x8_18)] [] H_17)))))))))))))))))))))) :
    Rm E mX3_planLend Q 154 [some (rf E 75), some (.int x1), some (.int x2), some (.int x3), some (.int x4), none, some (rf E s6), none, some (.int x8)] [] H := by
  refine rn_iload dX3_planLend_154 rfl ?_
  refine rn_sipush (x := (128 : Int32)) dX3_planLend_156 (by decide) ?_
  refine rn_icmp_ge (tgt := 247) dX3_planLend_159 (by decide) (fun hc_1 => ?_) (fun hc_1 => ?_)
  · replace hF := hF.1 hc_1
    exact rm_vret rfl dX3_planLend_247 hF
  · replace hF := hF.2 hc_1
    refine rn_aload_n dX3_planLend_162 rfl ?_
    refine rm_getr (r := 76) flRX3_12 rfl (by decide) rfl dX3_planLend_163 ?_
    refine rm_geti flRX3_67 rfl (by decide) rfl dX3_planLend_166 ?_
    refine rn_iconst (x := (-1 : Int32)) dX3_planLend_169 (by decide) ?_
    refine rn_icmp_ne (tgt := 247) dX3_planLend_170 (by decide) (fun hc_2 => ?_) (fun hc_2 => ?_)
    · replace hF := hF.1 hc_2
      exact rm_vret rfl dX3_planLend_247 hF
    · replace hF := hF.2 hc_2
      refine rn_aload_n dX3_planLend_173 rfl ?_
      refine rm_getr (r := 78) flRX3_30 rfl (by decide) rfl dX3_planLend_174 ?_
      refine rn_iconst (x := (0 : Int32)) dX3_planLend_177 (by decide) ?_
      refine rj_aald (Cn := RX6) (r := (80 + 0)) ⟨by decide, by decide⟩ (st_tri _ (by decide : 0 < 6)).2 rfl (by decide) (by decide) rfl (by decide) dX3_planLend_178 ?_
      refine rn_aload dX3_planLend_179 rfl ?_
      refine rm_callV (c0 := (80 + 0)) (As := [rf E s6]) (st := []) mlRX3_70 mdX6_become (Nat.le_of_ble_eq_true rfl) (st_tri _ (by decide : 0 < 6)).1.2.1 (st_tri _ (by decide : 0 < 6)).1.1 (by decide) rfl rfl rfl (Nat.le_of_ble_eq_true rfl) ⟨Nat.le_refl _, Nat.le_refl _⟩ dX3_planLend_181 ?_
      refine cm_mono hF (fun w H_3 hF => ?_)
      obtain ⟨rfl, hF⟩ := hF
      refine rn_aload_n dX3_planLend_184 rfl ?_
      refine rn_iload dX3_planLend_185 rfl ?_
      refine rn_iload_n dX3_planLend_187 rfl ?_
      refine rm_callV (c0 := 75) (As := [.int x8, .int x2]) (st := []) mlRX3_78 mdX3_matters (Nat.le_of_ble_eq_true rfl) rfl (by decide) (by decide) rfl rfl rfl (Nat.le_of_ble_eq_true rfl) ⟨Nat.le_refl _, Nat.le_refl _⟩ dX3_planLend_188 ?_
      refine cm_mono hF (fun w H_4 hF => ?_)
      obtain ⟨r_5, rfl, hF⟩ := hF
      refine rn_if_eq (tgt := 241) dX3_planLend_191 (by decide) (fun hc_6 => ?_) (fun hc_6 => ?_)
      · replace hF := hF.1 hc_6
        refine rn_iinc (w := (1 : Int32)) dX3_planLend_241 rfl (by decide) rfl (by decide) (fun x8_7 ex8_7 => ?_)
        replace hF := hF x8_7 ex8_7
        refine rn_goto (tgt := 154) dX3_planLend_244 (by decide) ?_
        exact rn_wk (L' := [some (rf E 75), some (.int x1), some (.int x2), some (.int x3), some (.int x4), none, some (rf E s6), none, some (.int x8_7)]) (⟨rfl, ⟨rfl, ⟨rfl, ⟨rfl, ⟨rfl, ⟨rfl, ⟨rfl, trivial⟩⟩⟩⟩⟩⟩⟩) hF
      · replace hF := hF.2 hc_6
        refine rn_aload_n dX3_planLend_194 rfl ?_
        refine rm_getr (r := 22) flRX3_46 rfl (by decide) rfl dX3_planLend_195 ?_
        refine rn_aload_n dX3_planLend_198 rfl ?_
        refine rm_getr (r := 78) flRX3_30 rfl (by decide) rfl dX3_planLend_199 ?_
        refine rn_iconst (x := (0 : Int32)) dX3_planLend_202 (by decide) ?_
        refine rj_aald (Cn := RX6) (r := (80 + 0)) ⟨by decide, by decide⟩ (st_tri _ (by decide : 0 < 6)).2 rfl (by decide) (by decide) rfl (by decide) dX3_planLend_203 ?_
        refine rn_iload dX3_planLend_204 rfl ?_
        refine rm_callV (c0 := 22) (As := [rf E (80 + 0), .int x8]) (st := []) mlRX3_82 mdX2_reach (Nat.le_of_ble_eq_true rfl) rfl (by decide) (by decide) rfl rfl rfl (Nat.le_of_ble_eq_true rfl) ⟨Nat.le_refl _, Nat.le_refl _⟩ dX3_planLend_206 ?_
        refine cm_mono hF (fun w H_8 hF => ?_)
        obtain ⟨r_9, rfl, hF⟩ := hF
        refine rn_if_eq (tgt := 241) dX3_planLend_209 (by decide) (fun hc_10 => ?_) (fun hc_10 => ?_)
        · replace hF := hF.1 hc_10
          refine rn_iinc (w := (1 : Int32)) dX3_planLend_241 rfl (by decide) rfl (by decide) (fun x8_11 ex8_11 => ?_)
          replace hF := hF x8_11 ex8_11
          refine rn_goto (tgt := 154) dX3_planLend_244 (by decide) ?_
          exact rn_wk (L' := [some (rf E 75), some (.int x1), some (.int x2), some (.int x3), some (.int x4), none, some (rf E s6), none, some (.int x8_11)]) (⟨rfl, ⟨rfl, ⟨rfl, ⟨rfl, ⟨rfl, ⟨rfl, ⟨rfl, trivial⟩⟩⟩⟩⟩⟩⟩) hF
        · replace hF := hF.2 hc_10
          refine rn_aload_n dX3_planLend_212 rfl ?_
          refine rn_iload_n dX3_planLend_213 rfl ?_
          refine rn_iload_n dX3_planLend_214 rfl ?_
          refine rn_iload_n dX3_planLend_215 rfl ?_
          refine rn_iload dX3_planLend_216 rfl ?_
          refine rm_callV (c0 := 75) (As := [.int x1, .int x2, .int x3, .int x4]) (st := []) mlRX3_74 mdX3_leastHand (Nat.le_of_ble_eq_true rfl) rfl (by decide) (by decide) rfl rfl rfl (Nat.le_of_ble_eq_true rfl) ⟨Nat.le_refl _, Nat.le_refl _⟩ dX3_planLend_218 ?_
          refine cm_mono hF (fun w H_12 hF => ?_)
          obtain ⟨r_13, rfl, hF⟩ := hF
          refine rn_istore dX3_planLend_221 rfl (by decide) (fun x7_14 ex7_14 => ?_)
          subst ex7_14
          refine rn_iload dX3_planLend_223 rfl ?_
          refine rn_iconst (x := (-1 : Int32)) dX3_planLend_225 (by decide) ?_
          refine rn_icmp_eq (tgt := 241) dX3_planLend_226 (by decide) (fun hc_15 => ?_) (fun hc_15 => ?_)
          · replace hF := hF.1 hc_15
            refine rn_iinc (w := (1 : Int32)) dX3_planLend_241 rfl (by decide) rfl (by decide) (fun x8_16 ex8_16 => ?_)
            replace hF := hF x8_16 ex8_16
            refine rn_goto (tgt := 154) dX3_planLend_244 (by decide) ?_
            exact rn_wk (L' := [some (rf E 75), some (.int x1), some (.int x2), some (.int x3), some (.int x4), none, some (rf E s6), none, some (.int x8_16)]) (⟨rfl, ⟨rfl, ⟨rfl, ⟨rfl, ⟨rfl, ⟨rfl, ⟨rfl, trivial⟩⟩⟩⟩⟩⟩⟩) hF
          · replace hF := hF.2 hc_15
            refine rn_aload_n dX3_planLend_229 rfl ?_
            refine rm_getr (r := 76) flRX3_12 rfl (by decide) rfl dX3_planLend_230 ?_
            refine rn_iconst (x := (2 : Int32)) dX3_planLend_233 (by decide) ?_
            refine rn_iload dX3_planLend_234 rfl ?_
            refine rn_iload dX3_planLend_236 rfl ?_
            refine rm_callV (c0 := 76) (As := [.int (2 : Int32), .int x8, .int r_13]) (st := []) mlRX3_51 mdX4_plan (Nat.le_of_ble_eq_true rfl) rfl (by decide) (by decide) rfl rfl rfl (Nat.le_of_ble_eq_true rfl) ⟨Nat.le_refl _, Nat.le_refl _⟩ dX3_planLend_238 ?_
            refine cm_mono hF (fun w H_17 hF => ?_)
            obtain ⟨rfl, hF⟩ := hF
            refine rn_iinc (w := (1 : Int32)) dX3_planLend_241 rfl (by decide) rfl (by decide) (fun x8_18 ex8_18 => ?_)
            replace hF := hF x8_18 ex8_18
            refine rn_goto (tgt := 154) dX3_planLend_244 (by decide) ?_
            exact rn_wk (L' := [some (rf E 75), some (.int x1), some (.int x2), some (.int x3), some (.int x4), none, some (rf E s6), none, some (.int x8_18)]) (⟨rfl, ⟨rfl, ⟨rfl, ⟨rfl, ⟨rfl, ⟨rfl, ⟨rfl, trivial⟩⟩⟩⟩⟩⟩⟩) hF
theorem sgX3_leastHand_0 {E : En} {Q : Option Value → Hi → Prop} {H : Hi} {x1 : Int32} {x2 : Int32} {x3 : Int32} {x4 : Int32} 
    (hF : Cm E mX6_become [rf E (80 + 1), rf E (80 + 0)] H (fun w H_1 => w = none ∧ (Rm E mX3_leastHand Q 22 [some (rf E 75), some (.int x1), some (.int x2), some (.int x3), some (.int x4), some (rf E (80 + 1)), some (.int (0 : Int32))] [] H_1))) :
    Rm E mX3_leastHand Q 0 [some (rf E 75), some (.int x1), some (.int x2), some (.int x3), some (.int x4), none, none] [] H := by
  refine rn_aload_n dX3_leastHand_0 rfl ?_
  refine rm_getr (r := 78) flRX3_30 rfl (by decide) rfl dX3_leastHand_1 ?_
  refine rn_iconst (x := (1 : Int32)) dX3_leastHand_4 (by decide) ?_
  refine rj_aald (Cn := RX6) (r := (80 + 1)) ⟨by decide, by decide⟩ (st_tri _ (by decide : 1 < 6)).2 rfl (by decide) (by decide) rfl (by decide) dX3_leastHand_5 ?_
  refine rn_astore dX3_leastHand_6 rfl (by decide) ?_
  refine rn_aload dX3_leastHand_8 rfl ?_
  refine rn_aload_n dX3_leastHand_10 rfl ?_
  refine rm_getr (r := 78) flRX3_30 rfl (by decide) rfl dX3_leastHand_11 ?_
  refine rn_iconst (x := (0 : Int32)) dX3_leastHand_14 (by decide) ?_
  refine rj_aald (Cn := RX6) (r := (80 + 0)) ⟨by decide, by decide⟩ (st_tri _ (by decide : 0 < 6)).2 rfl (by decide) (by decide) rfl (by decide) dX3_leastHand_15 ?_
  refine rm_callV (c0 := (80 + 1)) (As := [rf E (80 + 0)]) (st := []) mlRX3_70 mdX6_become (Nat.le_of_ble_eq_true rfl) (st_tri _ (by decide : 1 < 6)).1.2.1 (st_tri _ (by decide : 1 < 6)).1.1 (by decide) rfl rfl rfl (Nat.le_of_ble_eq_true rfl) ⟨Nat.le_refl _, Nat.le_refl _⟩ dX3_leastHand_16 ?_
  refine cm_mono hF (fun w H_1 hF => ?_)
  obtain ⟨rfl, hF⟩ := hF
  refine rn_iconst (x := (0 : Int32)) dX3_leastHand_19 (by decide) ?_
  refine rn_istore dX3_leastHand_20 rfl (by decide) (fun x6_2 ex6_2 => ?_)
  subst ex6_2
  exact rn_wk (L' := [some (rf E 75), some (.int x1), some (.int x2), some (.int x3), some (.int x4), some (rf E (80 + 1)), some (.int (0 : Int32))]) (⟨rfl, ⟨rfl, ⟨rfl, ⟨rfl, ⟨rfl, ⟨rfl, ⟨rfl, trivial⟩⟩⟩⟩⟩⟩⟩) hF
theorem cmX3_leastHand {E : En} {Q : Option Value → Hi → Prop} {H : Hi} {x1 : Int32} {x2 : Int32} {x3 : Int32} {x4 : Int32} 
    (hF : Cm E mX6_become [rf E (80 + 1), rf E (80 + 0)] H (fun w H_1 => w = none ∧ (Rm E mX3_leastHand Q 22 [some (rf E 75), some (.int x1), some (.int x2), some (.int x3), some (.int x4), some (rf E (80 + 1)), some (.int (0 : Int32))] [] H_1))) :
    Cm E mX3_leastHand [rf E 75, .int x1, .int x2, .int x3, .int x4] H Q :=
  cm_of (by decide +kernel) (Nat.le_of_ble_eq_true rfl) rfl (sgX3_leastHand_0  hF)
theorem sgX3_leastHand_22 {E : En} {Q : Option Value → Hi → Prop} {H : Hi} {x1 : Int32} {x2 : Int32} {x3 : Int32} {x4 : Int32} {s5 : Nat} {x6 : Int32} (hs5 : isSt s5)
    (hF : ((128 : Int32) ≤ x6 → (Q (some (.int (-1 : Int32))) H)) ∧ (¬ (128 : Int32) ≤ x6 → (Cm E mX3_matters [rf E 75, .int x6, .int x2] H (fun w H_2 => ∃ r_3 : Int32, w = some (.int r_3) ∧ ((r_3 = 0 → (∀ x6_5 : Int32, x6_5 = x6 + (1 : Int32) → (Rm E mX3_leastHand Q 22 [some (rf E 75), some (.int x1), some (.int x2), some (.int x3), some (.int x4), some (rf E s5), some (.int x6_5)] [] H_2))) ∧ (¬ r_3 = 0 → (Cm E mX2_reach [rf E 22, rf E s5, .int x6] H_2 (fun w H_6 => ∃ r_7 : Int32, w = some (.int r_7) ∧ ((r_7 = 0 → (∀ x6_9 : Int32, x6_9 = x6 + (1 : Int32) → (Rm E mX3_leastHand Q 22 [some (rf E 75), some (.int x1), some (.int x2), some (.int x3), some (.int x4), some (rf E s5), some (.int x6_9)] [] H_6))) ∧ (¬ r_7 = 0 → (Cm E mX2_goOn [rf E 22, rf E s5, .int x3, .int x4] H_6 (fun w H_10 => w = none ∧ (Cm E mX6_placeOf [rf E s5, .int x2] H_10 (fun w H_11 => ∃ r_12 : Int32, w = some (.int r_12) ∧ ((¬ r_12 = x1 → (Cm E mX6_become [rf E s5, rf E (80 + 0)] H_11 (fun w H_14 => w = none ∧ (∀ x6_15 : Int32, x6_15 = x6 + (1 : Int32) → (Rm E mX3_leastHand Q 22 [some (rf E 75), some (.int x1), some (.int x2), some (.int x3), some (.int x4), some (rf E s5), some (.int x6_15)] [] H_14))))) ∧ (r_12 = x1 → (Q (some (.int x6)) H_11))))))))))))))))) :
    Rm E mX3_leastHand Q 22 [some (rf E 75), some (.int x1), some (.int x2), some (.int x3), some (.int x4), some (rf E s5), some (.int x6)] [] H := by
  refine rn_iload dX3_leastHand_22 rfl ?_
  refine rn_sipush (x := (128 : Int32)) dX3_leastHand_24 (by decide) ?_
  refine rn_icmp_ge (tgt := 96) dX3_leastHand_27 (by decide) (fun hc_1 => ?_) (fun hc_1 => ?_)
  · replace hF := hF.1 hc_1
    refine rn_iconst (x := (-1 : Int32)) dX3_leastHand_96 (by decide) ?_
    exact rm_iret rfl dX3_leastHand_97 hF
  · replace hF := hF.2 hc_1
    refine rn_aload_n dX3_leastHand_30 rfl ?_
    refine rn_iload dX3_leastHand_31 rfl ?_
    refine rn_iload_n dX3_leastHand_33 rfl ?_
    refine rm_callV (c0 := 75) (As := [.int x6, .int x2]) (st := []) mlRX3_78 mdX3_matters (Nat.le_of_ble_eq_true rfl) rfl (by decide) (by decide) rfl rfl rfl (Nat.le_of_ble_eq_true rfl) ⟨Nat.le_refl _, Nat.le_refl _⟩ dX3_leastHand_34 ?_
    refine cm_mono hF (fun w H_2 hF => ?_)
    obtain ⟨r_3, rfl, hF⟩ := hF
    refine rn_if_eq (tgt := 90) dX3_leastHand_37 (by decide) (fun hc_4 => ?_) (fun hc_4 => ?_)
    · replace hF := hF.1 hc_4
      refine rn_iinc (w := (1 : Int32)) dX3_leastHand_90 rfl (by decide) rfl (by decide) (fun x6_5 ex6_5 => ?_)
      replace hF := hF x6_5 ex6_5
      refine rn_goto (tgt := 22) dX3_leastHand_93 (by decide) ?_
      exact rn_wk (L' := [some (rf E 75), some (.int x1), some (.int x2), some (.int x3), some (.int x4), some (rf E s5), some (.int x6_5)]) (⟨rfl, ⟨rfl, ⟨rfl, ⟨rfl, ⟨rfl, ⟨rfl, ⟨rfl, trivial⟩⟩⟩⟩⟩⟩⟩) hF
    · replace hF := hF.2 hc_4
      refine rn_aload_n dX3_leastHand_40 rfl ?_
      refine rm_getr (r := 22) flRX3_46 rfl (by decide) rfl dX3_leastHand_41 ?_
      refine rn_aload dX3_leastHand_44 rfl ?_
      refine rn_iload dX3_leastHand_46 rfl ?_
      refine rm_callV (c0 := 22) (As := [rf E s5, .int x6]) (st := []) mlRX3_82 mdX2_reach (Nat.le_of_ble_eq_true rfl) rfl (by decide) (by decide) rfl rfl rfl (Nat.le_of_ble_eq_true rfl) ⟨Nat.le_refl _, Nat.le_refl _⟩ dX3_leastHand_48 ?_
      refine cm_mono hF (fun w H_6 hF => ?_)
      obtain ⟨r_7, rfl, hF⟩ := hF
      refine rn_if_eq (tgt := 90) dX3_leastHand_51 (by decide) (fun hc_8 => ?_) (fun hc_8 => ?_)
      · replace hF := hF.1 hc_8
        refine rn_iinc (w := (1 : Int32)) dX3_leastHand_90 rfl (by decide) rfl (by decide) (fun x6_9 ex6_9 => ?_)
        replace hF := hF x6_9 ex6_9
        refine rn_goto (tgt := 22) dX3_leastHand_93 (by decide) ?_
        exact rn_wk (L' := [some (rf E 75), some (.int x1), some (.int x2), some (.int x3), some (.int x4), some (rf E s5), some (.int x6_9)]) (⟨rfl, ⟨rfl, ⟨rfl, ⟨rfl, ⟨rfl, ⟨rfl, ⟨rfl, trivial⟩⟩⟩⟩⟩⟩⟩) hF
      · replace hF := hF.2 hc_8
        refine rn_aload_n dX3_leastHand_54 rfl ?_
        refine rm_getr (r := 22) flRX3_46 rfl (by decide) rfl dX3_leastHand_55 ?_
        refine rn_aload dX3_leastHand_58 rfl ?_
        refine rn_iload_n dX3_leastHand_60 rfl ?_
        refine rn_iload dX3_leastHand_61 rfl ?_
        refine rm_callV (c0 := 22) (As := [rf E s5, .int x3, .int x4]) (st := []) mlRX3_86 mdX2_goOn (Nat.le_of_ble_eq_true rfl) rfl (by decide) (by decide) rfl rfl rfl (Nat.le_of_ble_eq_true rfl) ⟨Nat.le_refl _, Nat.le_refl _⟩ dX3_leastHand_63 ?_
        refine cm_mono hF (fun w H_10 hF => ?_)
        obtain ⟨rfl, hF⟩ := hF
        refine rn_aload dX3_leastHand_66 rfl ?_
        refine rn_iload_n dX3_leastHand_68 rfl ?_
        refine rm_callV (c0 := s5) (As := [.int x2]) (st := []) mlRX3_63 mdX6_placeOf (Nat.le_of_ble_eq_true rfl) hs5.2.1 hs5.1 (by decide) rfl rfl rfl (Nat.le_of_ble_eq_true rfl) ⟨Nat.le_refl _, Nat.le_refl _⟩ dX3_leastHand_69 ?_
        refine cm_mono hF (fun w H_11 hF => ?_)
        obtain ⟨r_12, rfl, hF⟩ := hF
        refine rn_iload_n dX3_leastHand_72 rfl ?_
        refine rn_icmp_ne (tgt := 79) dX3_leastHand_73 (by decide) (fun hc_13 => ?_) (fun hc_13 => ?_)
        · replace hF := hF.1 hc_13
          refine rn_aload dX3_leastHand_79 rfl ?_
          refine rn_aload_n dX3_leastHand_81 rfl ?_
          refine rm_getr (r := 78) flRX3_30 rfl (by decide) rfl dX3_leastHand_82 ?_
          refine rn_iconst (x := (0 : Int32)) dX3_leastHand_85 (by decide) ?_
          refine rj_aald (Cn := RX6) (r := (80 + 0)) ⟨by decide, by decide⟩ (st_tri _ (by decide : 0 < 6)).2 rfl (by decide) (by decide) rfl (by decide) dX3_leastHand_86 ?_
          refine rm_callV (c0 := s5) (As := [rf E (80 + 0)]) (st := []) mlRX3_70 mdX6_become (Nat.le_of_ble_eq_true rfl) hs5.2.1 hs5.1 (by decide) rfl rfl rfl (Nat.le_of_ble_eq_true rfl) ⟨Nat.le_refl _, Nat.le_refl _⟩ dX3_leastHand_87 ?_
          refine cm_mono hF (fun w H_14 hF => ?_)
          obtain ⟨rfl, hF⟩ := hF
          refine rn_iinc (w := (1 : Int32)) dX3_leastHand_90 rfl (by decide) rfl (by decide) (fun x6_15 ex6_15 => ?_)
          replace hF := hF x6_15 ex6_15
          refine rn_goto (tgt := 22) dX3_leastHand_93 (by decide) ?_
          exact rn_wk (L' := [some (rf E 75), some (.int x1), some (.int x2), some (.int x3), some (.int x4), some (rf E s5), some (.int x6_15)]) (⟨rfl, ⟨rfl, ⟨rfl, ⟨rfl, ⟨rfl, ⟨rfl, ⟨rfl, trivial⟩⟩⟩⟩⟩⟩⟩) hF
        · replace hF := hF.2 hc_13
          refine rn_iload dX3_leastHand_76 rfl ?_
          exact rm_iret rfl dX3_leastHand_78 hF
theorem sgX3_matters_0 {E : En} {Q : Option Value → Hi → Prop} {H : Hi} {x1 : Int32} {x2 : Int32} 
    (hF : ((H 11 0) < (H 5 8) → (Q (some (.int (1 : Int32))) H)) ∧ (¬ (H 11 0) < (H 5 8) → ((¬ (x1 &&& (7 : Int32)) = x2 → (Q (some (.int (0 : Int32))) H)) ∧ ((x1 &&& (7 : Int32)) = x2 → (Q (some (.int (1 : Int32))) H))))) :
    Rm E mX3_matters Q 0 [some (rf E 75), some (.int x1), some (.int x2)] [] H := by
  refine rn_aload_n dX3_matters_0 rfl ?_
  refine rm_getr (r := 5) flRX3_38 rfl (by decide) rfl dX3_matters_1 ?_
  refine rm_geti flRX3_90 rfl (by decide) rfl dX3_matters_4 ?_
  refine rn_aload_n dX3_matters_7 rfl ?_
  refine rm_getr (r := 11) flRX3_42 rfl (by decide) rfl dX3_matters_8 ?_
  refine rm_geti flRX3_95 rfl (by decide) rfl dX3_matters_11 ?_
  refine rn_icmp_gt (tgt := 25) dX3_matters_14 (by decide) (fun hc_1 => ?_) (fun hc_1 => ?_)
  · replace hF := hF.1 hc_1
    refine rn_iconst (x := (1 : Int32)) dX3_matters_25 (by decide) ?_
    refine rn_goto (tgt := 30) dX3_matters_26 (by decide) ?_
    exact rm_zret rfl rfl dX3_matters_30 hF
  · replace hF := hF.2 hc_1
    refine rn_iload_n dX3_matters_17 rfl ?_
    refine rn_bipush (x := (7 : Int32)) dX3_matters_18 (by decide) ?_
    refine rn_iand dX3_matters_20 ?_
    refine rn_iload_n dX3_matters_21 rfl ?_
    refine rn_icmp_ne (tgt := 29) dX3_matters_22 (by decide) (fun hc_2 => ?_) (fun hc_2 => ?_)
    · replace hF := hF.1 hc_2
      refine rn_iconst (x := (0 : Int32)) dX3_matters_29 (by decide) ?_
      exact rm_zret rfl rfl dX3_matters_30 hF
    · replace hF := hF.2 hc_2
      refine rn_iconst (x := (1 : Int32)) dX3_matters_25 (by decide) ?_
      refine rn_goto (tgt := 30) dX3_matters_26 (by decide) ?_
      exact rm_zret rfl rfl dX3_matters_30 hF
theorem cmX3_matters {E : En} {Q : Option Value → Hi → Prop} {H : Hi} {x1 : Int32} {x2 : Int32} 
    (hF : ((H 11 0) < (H 5 8) → (Q (some (.int (1 : Int32))) H)) ∧ (¬ (H 11 0) < (H 5 8) → ((¬ (x1 &&& (7 : Int32)) = x2 → (Q (some (.int (0 : Int32))) H)) ∧ ((x1 &&& (7 : Int32)) = x2 → (Q (some (.int (1 : Int32))) H))))) :
    Cm E mX3_matters [rf E 75, .int x1, .int x2] H Q :=
  cm_of (by decide +kernel) (Nat.le_of_ble_eq_true rfl) rfl (sgX3_matters_0  hF)
theorem sgX3_planSort_0 {E : En} {Q : Option Value → Hi → Prop} {H : Hi} {x1 : Int32} 
    (hF : (¬ x1 = (H 75 6) → (∀ H_2 : Hi, H_2 = up H 75 6 x1 → (Cm E mX4_plan [rf E 77, .int (-1 : Int32), .int (-1 : Int32), .int (-1 : Int32)] H_2 (fun w H_3 => w = none ∧ (Cm E mX3_firstBulge [rf E 75, .int x1, .int (0 : Int32)] H_3 (fun w H_4 => ∃ r_5 : Int32, w = some (.int r_5) ∧ ((¬ r_5 = (24 : Int32) → (Rm E mX3_planSort Q 50 [some (rf E 75), some (.int x1), some (.int r_5), some (.int (0 : Int32))] [] H_4)) ∧ (r_5 = (24 : Int32) → (Cm E mX4_plan [rf E 77, .int (0 : Int32), .int (-1 : Int32), .int (-1 : Int32)] H_4 (fun w H_9 => w = none ∧ (Q none H_9))))))))))) ∧ (x1 = (H 75 6) → (Q none H))) :
    Rm E mX3_planSort Q 0 [some (rf E 75), some (.int x1), none, none] [] H := by
  refine rn_iload_n dX3_planSort_0 rfl ?_
  refine rn_aload_n dX3_planSort_1 rfl ?_
  refine rm_geti flRX3_25 rfl (by decide) rfl dX3_planSort_2 ?_
  refine rn_icmp_ne (tgt := 9) dX3_planSort_5 (by decide) (fun hc_1 => ?_) (fun hc_1 => ?_)
  · replace hF := hF.1 hc_1
    refine rn_aload_n dX3_planSort_9 rfl ?_
    refine rn_iload_n dX3_planSort_10 rfl ?_
    refine rm_puti flRX3_25 rfl (by decide) rfl dX3_planSort_11 (fun H_2 eH_2 => ?_)
    replace hF := hF H_2 eH_2
    refine rn_aload_n dX3_planSort_14 rfl ?_
    refine rm_getr (r := 77) flRX3_18 rfl (by decide) rfl dX3_planSort_15 ?_
    refine rn_iconst (x := (-1 : Int32)) dX3_planSort_18 (by decide) ?_
    refine rn_iconst (x := (-1 : Int32)) dX3_planSort_19 (by decide) ?_
    refine rn_iconst (x := (-1 : Int32)) dX3_planSort_20 (by decide) ?_
    refine rm_callV (c0 := 77) (As := [.int (-1 : Int32), .int (-1 : Int32), .int (-1 : Int32)]) (st := []) mlRX3_51 mdX4_plan (Nat.le_of_ble_eq_true rfl) rfl (by decide) (by decide) rfl rfl rfl (Nat.le_of_ble_eq_true rfl) ⟨Nat.le_refl _, Nat.le_refl _⟩ dX3_planSort_21 ?_
    refine cm_mono hF (fun w H_3 hF => ?_)
    obtain ⟨rfl, hF⟩ := hF
    refine rn_aload_n dX3_planSort_24 rfl ?_
    refine rn_iload_n dX3_planSort_25 rfl ?_
    refine rn_iconst (x := (0 : Int32)) dX3_planSort_26 (by decide) ?_
    refine rm_callV (c0 := 75) (As := [.int x1, .int (0 : Int32)]) (st := []) mlRX3_100 mdX3_firstBulge (Nat.le_of_ble_eq_true rfl) rfl (by decide) (by decide) rfl rfl rfl (Nat.le_of_ble_eq_true rfl) ⟨Nat.le_refl _, Nat.le_refl _⟩ dX3_planSort_27 ?_
    refine cm_mono hF (fun w H_4 hF => ?_)
    obtain ⟨r_5, rfl, hF⟩ := hF
    refine rn_istore_n dX3_planSort_30 rfl (by decide) (fun x2_6 ex2_6 => ?_)
    subst ex2_6
    refine rn_iload_n dX3_planSort_31 rfl ?_
    refine rn_bipush (x := (24 : Int32)) dX3_planSort_32 (by decide) ?_
    refine rn_icmp_ne (tgt := 48) dX3_planSort_34 (by decide) (fun hc_7 => ?_) (fun hc_7 => ?_)
    · replace hF := hF.1 hc_7
      refine rn_iconst (x := (0 : Int32)) dX3_planSort_48 (by decide) ?_
      refine rn_istore_n dX3_planSort_49 rfl (by decide) (fun x3_8 ex3_8 => ?_)
      subst ex3_8
      exact rn_wk (L' := [some (rf E 75), some (.int x1), some (.int r_5), some (.int (0 : Int32))]) (⟨rfl, ⟨rfl, ⟨rfl, ⟨rfl, trivial⟩⟩⟩⟩) hF
    · replace hF := hF.2 hc_7
      refine rn_aload_n dX3_planSort_37 rfl ?_
      refine rm_getr (r := 77) flRX3_18 rfl (by decide) rfl dX3_planSort_38 ?_
      refine rn_iconst (x := (0 : Int32)) dX3_planSort_41 (by decide) ?_
      refine rn_iconst (x := (-1 : Int32)) dX3_planSort_42 (by decide) ?_
      refine rn_iconst (x := (-1 : Int32)) dX3_planSort_43 (by decide) ?_
      refine rm_callV (c0 := 77) (As := [.int (0 : Int32), .int (-1 : Int32), .int (-1 : Int32)]) (st := []) mlRX3_51 mdX4_plan (Nat.le_of_ble_eq_true rfl) rfl (by decide) (by decide) rfl rfl rfl (Nat.le_of_ble_eq_true rfl) ⟨Nat.le_refl _, Nat.le_refl _⟩ dX3_planSort_44 ?_
      refine cm_mono hF (fun w H_9 hF => ?_)
      obtain ⟨rfl, hF⟩ := hF
      exact rm_vret rfl dX3_planSort_47 hF
  · replace hF := hF.2 hc_1
    exact rm_vret rfl dX3_planSort_8 hF
theorem cmX3_planSort {E : En} {Q : Option Value → Hi → Prop} {H : Hi} {x1 : Int32} 
    (hF : (¬ x1 = (H 75 6) → (∀ H_2 : Hi, H_2 = up H 75 6 x1 → (Cm E mX4_plan [rf E 77, .int (-1 : Int32), .int (-1 : Int32), .int (-1 : Int32)] H_2 (fun w H_3 => w = none ∧ (Cm E mX3_firstBulge [rf E 75, .int x1, .int (0 : Int32)] H_3 (fun w H_4 => ∃ r_5 : Int32, w = some (.int r_5) ∧ ((¬ r_5 = (24 : Int32) → (Rm E mX3_planSort Q 50 [some (rf E 75), some (.int x1), some (.int r_5), some (.int (0 : Int32))] [] H_4)) ∧ (r_5 = (24 : Int32) → (Cm E mX4_plan [rf E 77, .int (0 : Int32), .int (-1 : Int32), .int (-1 : Int32)] H_4 (fun w H_9 => w = none ∧ (Q none H_9))))))))))) ∧ (x1 = (H 75 6) → (Q none H))) :
    Cm E mX3_planSort [rf E 75, .int x1] H Q :=
  cm_of (by decide +kernel) (Nat.le_of_ble_eq_true rfl) rfl (sgX3_planSort_0  hF)
theorem sgX3_planSort_50 {E : En} {Q : Option Value → Hi → Prop} {H : Hi} {x1 : Int32} {x2 : Int32} {x3 : Int32} 
    (hF : (x2 < x3 → (Cm E mX3_planTwoSortings [rf E 75, .int x1, .int x2] H (fun w H_2 => w = none ∧ (Q none H_2)))) ∧ (¬ x2 < x3 → (Cm E mX3_firstBulge [rf E 75, .int x1, .int ((1 : Int32) <<< (x3 &&& 31))] H (fun w H_3 => ∃ r_4 : Int32, w = some (.int r_4) ∧ (∃ j_5 : Nat, (j_5 < 24 ∧ x3 = nI j_5) ∧ (∀ H_6 : Hi, H_6 = up H_3 79 j_5 r_4 → (∃ j_7 : Nat, (j_7 < 24 ∧ x3 = nI j_7) ∧ ((¬ (H_6 79 j_7) = (24 : Int32) → (∀ x3_9 : Int32, x3_9 = x3 + (1 : Int32) → (Rm E mX3_planSort Q 50 [some (rf E 75), some (.int x1), some (.int x2), some (.int x3_9)] [] H_6))) ∧ ((H_6 79 j_7) = (24 : Int32) → (Cm E mX4_plan [rf E 77, .int (1 : Int32), .int x3, .int (-1 : Int32)] H_6 (fun w H_10 => w = none ∧ (Q none H_10)))))))))))) :
    Rm E mX3_planSort Q 50 [some (rf E 75), some (.int x1), some (.int x2), some (.int x3)] [] H := by
  refine rn_iload_n dX3_planSort_50 rfl ?_
  refine rn_iload_n dX3_planSort_51 rfl ?_
  refine rn_icmp_gt (tgt := 97) dX3_planSort_52 (by decide) (fun hc_1 => ?_) (fun hc_1 => ?_)
  · replace hF := hF.1 hc_1
    refine rn_aload_n dX3_planSort_97 rfl ?_
    refine rn_iload_n dX3_planSort_98 rfl ?_
    refine rn_iload_n dX3_planSort_99 rfl ?_
    refine rm_callV (c0 := 75) (As := [.int x1, .int x2]) (st := []) mlRX3_104 mdX3_planTwoSortings (Nat.le_of_ble_eq_true rfl) rfl (by decide) (by decide) rfl rfl rfl (Nat.le_of_ble_eq_true rfl) ⟨Nat.le_refl _, Nat.le_refl _⟩ dX3_planSort_100 ?_
    refine cm_mono hF (fun w H_2 hF => ?_)
    obtain ⟨rfl, hF⟩ := hF
    exact rm_vret rfl dX3_planSort_103 hF
  · replace hF := hF.2 hc_1
    refine rn_aload_n dX3_planSort_55 rfl ?_
    refine rm_getr (r := 79) flRX3_34 rfl (by decide) rfl dX3_planSort_56 ?_
    refine rn_iload_n dX3_planSort_59 rfl ?_
    refine rn_aload_n dX3_planSort_60 rfl ?_
    refine rn_iload_n dX3_planSort_61 rfl ?_
    refine rn_iconst (x := (1 : Int32)) dX3_planSort_62 (by decide) ?_
    refine rn_iload_n dX3_planSort_63 rfl ?_
    refine rn_ishl dX3_planSort_64 ?_
    refine rm_callV (c0 := 75) (As := [.int x1, .int ((1 : Int32) <<< (x3 &&& 31))]) (st := [.int x3, rf E 79]) mlRX3_100 mdX3_firstBulge (Nat.le_of_ble_eq_true rfl) rfl (by decide) (by decide) rfl rfl rfl (Nat.le_of_ble_eq_true rfl) ⟨Nat.le_refl _, Nat.le_refl _⟩ dX3_planSort_65 ?_
    refine cm_mono hF (fun w H_3 hF => ?_)
    obtain ⟨r_4, rfl, hF⟩ := hF
    obtain ⟨j_5, hj_5, hF⟩ := hF
    refine rj_iast hj_5 rfl (by decide) rfl (by decide) dX3_planSort_68 (fun H_6 eH_6 => ?_)
    replace hF := hF H_6 eH_6
    refine rn_aload_n dX3_planSort_69 rfl ?_
    refine rm_getr (r := 79) flRX3_34 rfl (by decide) rfl dX3_planSort_70 ?_
    refine rn_iload_n dX3_planSort_73 rfl ?_
    obtain ⟨j_7, hj_7, hF⟩ := hF
    refine rj_iald hj_7 rfl (by decide) rfl (by decide) dX3_planSort_74 ?_
    refine rn_bipush (x := (24 : Int32)) dX3_planSort_75 (by decide) ?_
    refine rn_icmp_ne (tgt := 91) dX3_planSort_77 (by decide) (fun hc_8 => ?_) (fun hc_8 => ?_)
    · replace hF := hF.1 hc_8
      refine rn_iinc (w := (1 : Int32)) dX3_planSort_91 rfl (by decide) rfl (by decide) (fun x3_9 ex3_9 => ?_)
      replace hF := hF x3_9 ex3_9
      refine rn_goto (tgt := 50) dX3_planSort_94 (by decide) ?_
      exact rn_wk (L' := [some (rf E 75), some (.int x1), some (.int x2), some (.int x3_9)]) (⟨rfl, ⟨rfl, ⟨rfl, ⟨rfl, trivial⟩⟩⟩⟩) hF
    · replace hF := hF.2 hc_8
      refine rn_aload_n dX3_planSort_80 rfl ?_
      refine rm_getr (r := 77) flRX3_18 rfl (by decide) rfl dX3_planSort_81 ?_
      refine rn_iconst (x := (1 : Int32)) dX3_planSort_84 (by decide) ?_
      refine rn_iload_n dX3_planSort_85 rfl ?_
      refine rn_iconst (x := (-1 : Int32)) dX3_planSort_86 (by decide) ?_
      refine rm_callV (c0 := 77) (As := [.int (1 : Int32), .int x3, .int (-1 : Int32)]) (st := []) mlRX3_51 mdX4_plan (Nat.le_of_ble_eq_true rfl) rfl (by decide) (by decide) rfl rfl rfl (Nat.le_of_ble_eq_true rfl) ⟨Nat.le_refl _, Nat.le_refl _⟩ dX3_planSort_87 ?_
      refine cm_mono hF (fun w H_10 hF => ?_)
      obtain ⟨rfl, hF⟩ := hF
      exact rm_vret rfl dX3_planSort_90 hF
theorem sgX3_planTwoSortings_0 {E : En} {Q : Option Value → Hi → Prop} {H : Hi} {x1 : Int32} {x2 : Int32} 
    (hF : Rm E mX3_planTwoSortings Q 2 [some (rf E 75), some (.int x1), some (.int x2), some (.int (0 : Int32)), none] [] H) :
    Rm E mX3_planTwoSortings Q 0 [some (rf E 75), some (.int x1), some (.int x2), none, none] [] H := by
  refine rn_iconst (x := (0 : Int32)) dX3_planTwoSortings_0 (by decide) ?_
  refine rn_istore_n dX3_planTwoSortings_1 rfl (by decide) (fun x3_1 ex3_1 => ?_)
  subst ex3_1
  exact rn_wk (L' := [some (rf E 75), some (.int x1), some (.int x2), some (.int (0 : Int32)), none]) (⟨rfl, ⟨rfl, ⟨rfl, ⟨rfl, trivial⟩⟩⟩⟩) hF
theorem cmX3_planTwoSortings {E : En} {Q : Option Value → Hi → Prop} {H : Hi} {x1 : Int32} {x2 : Int32} 
    (hF : Rm E mX3_planTwoSortings Q 2 [some (rf E 75), some (.int x1), some (.int x2), some (.int (0 : Int32)), none] [] H) :
    Cm E mX3_planTwoSortings [rf E 75, .int x1, .int x2] H Q :=
  cm_of (by decide +kernel) (Nat.le_of_ble_eq_true rfl) rfl (sgX3_planTwoSortings_0  hF)
theorem sgX3_planTwoSortings_2 {E : En} {Q : Option Value → Hi → Prop} {H : Hi} {x1 : Int32} {x2 : Int32} {x3 : Int32} 
    (hF : (x2 < x3 → (Q none H)) ∧ (¬ x2 < x3 → (((24 : Int32) ≤ x3 → (Q none H)) ∧ (¬ (24 : Int32) ≤ x3 → (∀ x4_3 : Int32, x4_3 = x3 + (1 : Int32) → (Rm E mX3_planTwoSortings Q 18 [some (rf E 75), some (.int x1), some (.int x2), some (.int x3), some (.int x4_3)] [] H)))))) :
    Rm E mX3_planTwoSortings Q 2 [some (rf E 75), some (.int x1), some (.int x2), some (.int x3), none] [] H := by
  refine rn_iload_n dX3_planTwoSortings_2 rfl ?_
  refine rn_iload_n dX3_planTwoSortings_3 rfl ?_
  refine rn_icmp_gt (tgt := 71) dX3_planTwoSortings_4 (by decide) (fun hc_1 => ?_) (fun hc_1 => ?_)
  · replace hF := hF.1 hc_1
    exact rm_vret rfl dX3_planTwoSortings_71 hF
  · replace hF := hF.2 hc_1
    refine rn_iload_n dX3_planTwoSortings_7 rfl ?_
    refine rn_bipush (x := (24 : Int32)) dX3_planTwoSortings_8 (by decide) ?_
    refine rn_icmp_ge (tgt := 71) dX3_planTwoSortings_10 (by decide) (fun hc_2 => ?_) (fun hc_2 => ?_)
    · replace hF := hF.1 hc_2
      exact rm_vret rfl dX3_planTwoSortings_71 hF
    · replace hF := hF.2 hc_2
      refine rn_iload_n dX3_planTwoSortings_13 rfl ?_
      refine rn_iconst (x := (1 : Int32)) dX3_planTwoSortings_14 (by decide) ?_
      refine rn_iadd dX3_planTwoSortings_15 ?_
      refine rn_istore dX3_planTwoSortings_16 rfl (by decide) (fun x4_3 ex4_3 => ?_)
      replace hF := hF x4_3 ex4_3
      exact rn_wk (L' := [some (rf E 75), some (.int x1), some (.int x2), some (.int x3), some (.int x4_3)]) (⟨rfl, ⟨rfl, ⟨rfl, ⟨rfl, ⟨rfl, trivial⟩⟩⟩⟩⟩) hF
theorem sgX3_planTwoSortings_18 {E : En} {Q : Option Value → Hi → Prop} {H : Hi} {x1 : Int32} {x2 : Int32} {x3 : Int32} {x4 : Int32} 
    (hF : ∃ j_1 : Nat, (j_1 < 24 ∧ x3 = nI j_1) ∧ (((H 79 j_1) < x4 → (∀ x3_3 : Int32, x3_3 = x3 + (1 : Int32) → (Rm E mX3_planTwoSortings Q 2 [some (rf E 75), some (.int x1), some (.int x2), some (.int x3_3), none] [] H))) ∧ (¬ (H 79 j_1) < x4 → (Cm E mX3_firstBulge [rf E 75, .int x1, .int (((1 : Int32) <<< (x3 &&& 31)) ||| ((1 : Int32) <<< (x4 &&& 31)))] H (fun w H_4 => ∃ r_5 : Int32, w = some (.int r_5) ∧ ((¬ r_5 = (24 : Int32) → (∀ x4_7 : Int32, x4_7 = x4 + (1 : Int32) → (Rm E mX3_planTwoSortings Q 18 [some (rf E 75), some (.int x1), some (.int x2), some (.int x3), some (.int x4_7)] [] H_4))) ∧ (r_5 = (24 : Int32) → (Cm E mX4_plan [rf E 77, .int (2 : Int32), .int x3, .int x4] H_4 (fun w H_8 => w = none ∧ (Q none H_8)))))))))) :
    Rm E mX3_planTwoSortings Q 18 [some (rf E 75), some (.int x1), some (.int x2), some (.int x3), some (.int x4)] [] H := by
  refine rn_iload dX3_planTwoSortings_18 rfl ?_
  refine rn_aload_n dX3_planTwoSortings_20 rfl ?_
  refine rm_getr (r := 79) flRX3_34 rfl (by decide) rfl dX3_planTwoSortings_21 ?_
  refine rn_iload_n dX3_planTwoSortings_24 rfl ?_
  obtain ⟨j_1, hj_1, hF⟩ := hF
  refine rj_iald hj_1 rfl (by decide) rfl (by decide) dX3_planTwoSortings_25 ?_
  refine rn_icmp_gt (tgt := 65) dX3_planTwoSortings_26 (by decide) (fun hc_2 => ?_) (fun hc_2 => ?_)
  · replace hF := hF.1 hc_2
    refine rn_iinc (w := (1 : Int32)) dX3_planTwoSortings_65 rfl (by decide) rfl (by decide) (fun x3_3 ex3_3 => ?_)
    replace hF := hF x3_3 ex3_3
    refine rn_goto (tgt := 2) dX3_planTwoSortings_68 (by decide) ?_
    exact rn_wk (L' := [some (rf E 75), some (.int x1), some (.int x2), some (.int x3_3), none]) (⟨rfl, ⟨rfl, ⟨rfl, ⟨rfl, trivial⟩⟩⟩⟩) hF
  · replace hF := hF.2 hc_2
    refine rn_aload_n dX3_planTwoSortings_29 rfl ?_
    refine rn_iload_n dX3_planTwoSortings_30 rfl ?_
    refine rn_iconst (x := (1 : Int32)) dX3_planTwoSortings_31 (by decide) ?_
    refine rn_iload_n dX3_planTwoSortings_32 rfl ?_
    refine rn_ishl dX3_planTwoSortings_33 ?_
    refine rn_iconst (x := (1 : Int32)) dX3_planTwoSortings_34 (by decide) ?_
    refine rn_iload dX3_planTwoSortings_35 rfl ?_
    refine rn_ishl dX3_planTwoSortings_37 ?_
    refine rn_ior dX3_planTwoSortings_38 ?_
    refine rm_callV (c0 := 75) (As := [.int x1, .int (((1 : Int32) <<< (x3 &&& 31)) ||| ((1 : Int32) <<< (x4 &&& 31)))]) (st := []) mlRX3_100 mdX3_firstBulge (Nat.le_of_ble_eq_true rfl) rfl (by decide) (by decide) rfl rfl rfl (Nat.le_of_ble_eq_true rfl) ⟨Nat.le_refl _, Nat.le_refl _⟩ dX3_planTwoSortings_39 ?_
    refine cm_mono hF (fun w H_4 hF => ?_)
    obtain ⟨r_5, rfl, hF⟩ := hF
    refine rn_bipush (x := (24 : Int32)) dX3_planTwoSortings_42 (by decide) ?_
    refine rn_icmp_ne (tgt := 59) dX3_planTwoSortings_44 (by decide) (fun hc_6 => ?_) (fun hc_6 => ?_)
    · replace hF := hF.1 hc_6
      refine rn_iinc (w := (1 : Int32)) dX3_planTwoSortings_59 rfl (by decide) rfl (by decide) (fun x4_7 ex4_7 => ?_)
      replace hF := hF x4_7 ex4_7
      refine rn_goto (tgt := 18) dX3_planTwoSortings_62 (by decide) ?_
      exact rn_wk (L' := [some (rf E 75), some (.int x1), some (.int x2), some (.int x3), some (.int x4_7)]) (⟨rfl, ⟨rfl, ⟨rfl, ⟨rfl, ⟨rfl, trivial⟩⟩⟩⟩⟩) hF
    · replace hF := hF.2 hc_6
      refine rn_aload_n dX3_planTwoSortings_47 rfl ?_
      refine rm_getr (r := 77) flRX3_18 rfl (by decide) rfl dX3_planTwoSortings_48 ?_
      refine rn_iconst (x := (2 : Int32)) dX3_planTwoSortings_51 (by decide) ?_
      refine rn_iload_n dX3_planTwoSortings_52 rfl ?_
      refine rn_iload dX3_planTwoSortings_53 rfl ?_
      refine rm_callV (c0 := 77) (As := [.int (2 : Int32), .int x3, .int x4]) (st := []) mlRX3_51 mdX4_plan (Nat.le_of_ble_eq_true rfl) rfl (by decide) (by decide) rfl rfl rfl (Nat.le_of_ble_eq_true rfl) ⟨Nat.le_refl _, Nat.le_refl _⟩ dX3_planTwoSortings_55 ?_
      refine cm_mono hF (fun w H_8 hF => ?_)
      obtain ⟨rfl, hF⟩ := hF
      exact rm_vret rfl dX3_planTwoSortings_58 hF
theorem sgX3_firstBulge_0 {E : En} {Q : Option Value → Hi → Prop} {H : Hi} {x1 : Int32} {x2 : Int32} 
    (hF : Cm E mX6_become [rf E (80 + 0), rf E 23] H (fun w H_1 => w = none ∧ (Rm E mX3_firstBulge Q 21 [some (rf E 75), some (.int x1), some (.int x2), some (rf E (80 + 0)), some (.int (0 : Int32))] [] H_1))) :
    Rm E mX3_firstBulge Q 0 [some (rf E 75), some (.int x1), some (.int x2), none, none] [] H := by
  refine rn_aload_n dX3_firstBulge_0 rfl ?_
  refine rm_getr (r := 78) flRX3_30 rfl (by decide) rfl dX3_firstBulge_1 ?_
  refine rn_iconst (x := (0 : Int32)) dX3_firstBulge_4 (by decide) ?_
  refine rj_aald (Cn := RX6) (r := (80 + 0)) ⟨by decide, by decide⟩ (st_tri _ (by decide : 0 < 6)).2 rfl (by decide) (by decide) rfl (by decide) dX3_firstBulge_5 ?_
  refine rn_astore_n dX3_firstBulge_6 rfl (by decide) ?_
  refine rn_aload_n dX3_firstBulge_7 rfl ?_
  refine rn_aload_n dX3_firstBulge_8 rfl ?_
  refine rm_getr (r := 22) flRX3_46 rfl (by decide) rfl dX3_firstBulge_9 ?_
  refine rm_getr (r := 23) flRX3_108 rfl (by decide) rfl dX3_firstBulge_12 ?_
  refine rm_callV (c0 := (80 + 0)) (As := [rf E 23]) (st := []) mlRX3_70 mdX6_become (Nat.le_of_ble_eq_true rfl) (st_tri _ (by decide : 0 < 6)).1.2.1 (st_tri _ (by decide : 0 < 6)).1.1 (by decide) rfl rfl rfl (Nat.le_of_ble_eq_true rfl) ⟨Nat.le_refl _, Nat.le_refl _⟩ dX3_firstBulge_15 ?_
  refine cm_mono hF (fun w H_1 hF => ?_)
  obtain ⟨rfl, hF⟩ := hF
  refine rn_iconst (x := (0 : Int32)) dX3_firstBulge_18 (by decide) ?_
  refine rn_istore dX3_firstBulge_19 rfl (by decide) (fun x4_2 ex4_2 => ?_)
  subst ex4_2
  exact rn_wk (L' := [some (rf E 75), some (.int x1), some (.int x2), some (rf E (80 + 0)), some (.int (0 : Int32))]) (⟨rfl, ⟨rfl, ⟨rfl, ⟨rfl, ⟨rfl, trivial⟩⟩⟩⟩⟩) hF
theorem cmX3_firstBulge {E : En} {Q : Option Value → Hi → Prop} {H : Hi} {x1 : Int32} {x2 : Int32} 
    (hF : Cm E mX6_become [rf E (80 + 0), rf E 23] H (fun w H_1 => w = none ∧ (Rm E mX3_firstBulge Q 21 [some (rf E 75), some (.int x1), some (.int x2), some (rf E (80 + 0)), some (.int (0 : Int32))] [] H_1))) :
    Cm E mX3_firstBulge [rf E 75, .int x1, .int x2] H Q :=
  cm_of (by decide +kernel) (Nat.le_of_ble_eq_true rfl) rfl (sgX3_firstBulge_0  hF)
theorem sgX3_firstBulge_21 {E : En} {Q : Option Value → Hi → Prop} {H : Hi} {x1 : Int32} {x2 : Int32} {s3 : Nat} {x4 : Int32} (hs3 : isSt s3)
    (hF : ((24 : Int32) ≤ x4 → (Q (some (.int (24 : Int32))) H)) ∧ (¬ (24 : Int32) ≤ x4 → (Cm E mX2_open [rf E 22, rf E s3, .int x4] H (fun w H_2 => ∃ r_3 : Int32, w = some (.int r_3) ∧ (Cm E mX2_close [rf E 22, rf E s3, .int x4, .int x2] H_2 (fun w H_4 => w = none ∧ (((H_4 s3 2) ≤ x1 → (∀ x4_6 : Int32, x4_6 = x4 + (1 : Int32) → (Rm E mX3_firstBulge Q 21 [some (rf E 75), some (.int x1), some (.int x2), some (rf E s3), some (.int x4_6)] [] H_4))) ∧ (¬ (H_4 s3 2) ≤ x1 → (Q (some (.int x4)) H_4))))))))) :
    Rm E mX3_firstBulge Q 21 [some (rf E 75), some (.int x1), some (.int x2), some (rf E s3), some (.int x4)] [] H := by
  refine rn_iload dX3_firstBulge_21 rfl ?_
  refine rn_bipush (x := (24 : Int32)) dX3_firstBulge_23 (by decide) ?_
  refine rn_icmp_ge (tgt := 67) dX3_firstBulge_25 (by decide) (fun hc_1 => ?_) (fun hc_1 => ?_)
  · replace hF := hF.1 hc_1
    refine rn_bipush (x := (24 : Int32)) dX3_firstBulge_67 (by decide) ?_
    exact rm_iret rfl dX3_firstBulge_69 hF
  · replace hF := hF.2 hc_1
    refine rn_aload_n dX3_firstBulge_28 rfl ?_
    refine rm_getr (r := 22) flRX3_46 rfl (by decide) rfl dX3_firstBulge_29 ?_
    refine rn_aload_n dX3_firstBulge_32 rfl ?_
    refine rn_iload dX3_firstBulge_33 rfl ?_
    refine rm_callV (c0 := 22) (As := [rf E s3, .int x4]) (st := []) mlRX3_112 mdX2_open (Nat.le_of_ble_eq_true rfl) rfl (by decide) (by decide) rfl rfl rfl (Nat.le_of_ble_eq_true rfl) ⟨Nat.le_refl _, Nat.le_refl _⟩ dX3_firstBulge_35 ?_
    refine cm_mono hF (fun w H_2 hF => ?_)
    obtain ⟨r_3, rfl, hF⟩ := hF
    refine rn_pop dX3_firstBulge_38 rfl ?_
    refine rn_aload_n dX3_firstBulge_39 rfl ?_
    refine rm_getr (r := 22) flRX3_46 rfl (by decide) rfl dX3_firstBulge_40 ?_
    refine rn_aload_n dX3_firstBulge_43 rfl ?_
    refine rn_iload dX3_firstBulge_44 rfl ?_
    refine rn_iload_n dX3_firstBulge_46 rfl ?_
    refine rm_callV (c0 := 22) (As := [rf E s3, .int x4, .int x2]) (st := []) mlRX3_116 mdX2_close (Nat.le_of_ble_eq_true rfl) rfl (by decide) (by decide) rfl rfl rfl (Nat.le_of_ble_eq_true rfl) ⟨Nat.le_refl _, Nat.le_refl _⟩ dX3_firstBulge_47 ?_
    refine cm_mono hF (fun w H_4 hF => ?_)
    obtain ⟨rfl, hF⟩ := hF
    refine rn_aload_n dX3_firstBulge_50 rfl ?_
    refine rm_geti flRX3_119 hs3.2.1 hs3.1 (rT_row hs3.2.2 _) dX3_firstBulge_51 ?_
    refine rn_iload_n dX3_firstBulge_54 rfl ?_
    refine rn_icmp_le (tgt := 61) dX3_firstBulge_55 (by decide) (fun hc_5 => ?_) (fun hc_5 => ?_)
    · replace hF := hF.1 hc_5
      refine rn_iinc (w := (1 : Int32)) dX3_firstBulge_61 rfl (by decide) rfl (by decide) (fun x4_6 ex4_6 => ?_)
      replace hF := hF x4_6 ex4_6
      refine rn_goto (tgt := 21) dX3_firstBulge_64 (by decide) ?_
      exact rn_wk (L' := [some (rf E 75), some (.int x1), some (.int x2), some (rf E s3), some (.int x4_6)]) (⟨rfl, ⟨rfl, ⟨rfl, ⟨rfl, ⟨rfl, trivial⟩⟩⟩⟩⟩) hF
    · replace hF := hF.2 hc_5
      refine rn_iload dX3_firstBulge_58 rfl ?_
      exact rm_iret rfl dX3_firstBulge_60 hF
theorem sgX3_unsettled_0 {E : En} {Q : Option Value → Hi → Prop} {H : Hi} {x1 : Int32} 
    (hF : ∀ H_1 : Hi, H_1 = up H 75 8 (0 : Int32) → ((¬ x1 = 0 → (∃ j_3 : Nat, (j_3 < 24 ∧ x1 - (1 : Int32) = nI j_3) ∧ (Cm E mX6_become [rf E (80 + 0), rf E (28 + 2 * j_3)] H_1 (fun w H_4 => w = none ∧ (Cm E mX2_putBack [rf E 22, rf E (80 + 0)] H_4 (fun w H_5 => w = none ∧ (Cm E (mX3_order 6) [rf E 75, .int x1, .int (0 : Int32), .int (0 : Int32)] H_5 (fun w H_6 => w = none ∧ (Rm E mX3_unsettled Q 63 [some (rf E 75), none, some (.int (0 : Int32)), some (.int (0 : Int32))] [] H_6))))))))) ∧ (x1 = 0 → (Cm E mX6_become [rf E (80 + 0), rf E 23] H_1 (fun w H_9 => w = none ∧ (Cm E mX2_putBack [rf E 22, rf E (80 + 0)] H_9 (fun w H_10 => w = none ∧ (Cm E (mX3_order 6) [rf E 75, .int x1, .int (0 : Int32), .int (0 : Int32)] H_10 (fun w H_11 => w = none ∧ (Rm E mX3_unsettled Q 63 [some (rf E 75), none, some (.int (0 : Int32)), some (.int (0 : Int32))] [] H_11)))))))))) :
    Rm E mX3_unsettled Q 0 [some (rf E 75), some (.int x1), none, none] [] H := by
  refine rn_aload_n dX3_unsettled_0 rfl ?_
  refine rn_iconst (x := (0 : Int32)) dX3_unsettled_1 (by decide) ?_
  refine rm_puti flRX3_122 rfl (by decide) rfl dX3_unsettled_2 (fun H_1 eH_1 => ?_)
  replace hF := hF H_1 eH_1
  refine rn_aload_n dX3_unsettled_5 rfl ?_
  refine rm_getr (r := 78) flRX3_30 rfl (by decide) rfl dX3_unsettled_6 ?_
  refine rn_iconst (x := (0 : Int32)) dX3_unsettled_9 (by decide) ?_
  refine rj_aald (Cn := RX6) (r := (80 + 0)) ⟨by decide, by decide⟩ (st_tri _ (by decide : 0 < 6)).2 rfl (by decide) (by decide) rfl (by decide) dX3_unsettled_10 ?_
  refine rn_iload_n dX3_unsettled_11 rfl ?_
  refine rn_if_ne (tgt := 25) dX3_unsettled_12 (by decide) (fun hc_2 => ?_) (fun hc_2 => ?_)
  · replace hF := hF.1 hc_2
    refine rn_aload_n dX3_unsettled_25 rfl ?_
    refine rm_getr (r := 22) flRX3_46 rfl (by decide) rfl dX3_unsettled_26 ?_
    refine rm_getr (r := 25) flRX3_60 rfl (by decide) rfl dX3_unsettled_29 ?_
    refine rn_iload_n dX3_unsettled_32 rfl ?_
    refine rn_iconst (x := (1 : Int32)) dX3_unsettled_33 (by decide) ?_
    refine rn_isub dX3_unsettled_34 ?_
    obtain ⟨j_3, hj_3, hF⟩ := hF
    refine rj_aald (Cn := RX6) (r := (28 + 2 * j_3)) hj_3 (st_beh _ hj_3.1).2 rfl (by decide) (by decide) rfl (by decide) dX3_unsettled_35 ?_
    refine rm_callV (c0 := (80 + 0)) (As := [rf E (28 + 2 * j_3)]) (st := []) mlRX3_70 mdX6_become (Nat.le_of_ble_eq_true rfl) (st_tri _ (by decide : 0 < 6)).1.2.1 (st_tri _ (by decide : 0 < 6)).1.1 (by decide) rfl rfl rfl (Nat.le_of_ble_eq_true rfl) ⟨Nat.le_refl _, Nat.le_refl _⟩ dX3_unsettled_36 ?_
    refine cm_mono hF (fun w H_4 hF => ?_)
    obtain ⟨rfl, hF⟩ := hF
    refine rn_aload_n dX3_unsettled_39 rfl ?_
    refine rm_getr (r := 22) flRX3_46 rfl (by decide) rfl dX3_unsettled_40 ?_
    refine rn_aload_n dX3_unsettled_43 rfl ?_
    refine rm_getr (r := 78) flRX3_30 rfl (by decide) rfl dX3_unsettled_44 ?_
    refine rn_iconst (x := (0 : Int32)) dX3_unsettled_47 (by decide) ?_
    refine rj_aald (Cn := RX6) (r := (80 + 0)) ⟨by decide, by decide⟩ (st_tri _ (by decide : 0 < 6)).2 rfl (by decide) (by decide) rfl (by decide) dX3_unsettled_48 ?_
    refine rm_callV (c0 := 22) (As := [rf E (80 + 0)]) (st := []) mlRX3_125 mdX2_putBack (Nat.le_of_ble_eq_true rfl) rfl (by decide) (by decide) rfl rfl rfl (Nat.le_of_ble_eq_true rfl) ⟨Nat.le_refl _, Nat.le_refl _⟩ dX3_unsettled_49 ?_
    refine cm_mono hF (fun w H_5 hF => ?_)
    obtain ⟨rfl, hF⟩ := hF
    refine rn_aload_n dX3_unsettled_52 rfl ?_
    refine rn_iload_n dX3_unsettled_53 rfl ?_
    refine rn_iconst (x := (0 : Int32)) dX3_unsettled_54 (by decide) ?_
    refine rn_iconst (x := (0 : Int32)) dX3_unsettled_55 (by decide) ?_
    refine rm_callV (c0 := 75) (As := [.int x1, .int (0 : Int32), .int (0 : Int32)]) (st := []) (mlRX3_128 6) (mdX3_order 6) (Nat.le_of_ble_eq_true rfl) rfl (by decide) (by decide) rfl rfl rfl (Nat.le_of_ble_eq_true rfl) ⟨Nat.le_refl _, Nat.le_refl _⟩ dX3_unsettled_56 ?_
    refine cm_mono hF (fun w H_6 hF => ?_)
    obtain ⟨rfl, hF⟩ := hF
    refine rn_iconst (x := (0 : Int32)) dX3_unsettled_59 (by decide) ?_
    refine rn_istore_n dX3_unsettled_60 rfl (by decide) (fun x2_7 ex2_7 => ?_)
    subst ex2_7
    refine rn_iconst (x := (0 : Int32)) dX3_unsettled_61 (by decide) ?_
    refine rn_istore_n dX3_unsettled_62 rfl (by decide) (fun x3_8 ex3_8 => ?_)
    subst ex3_8
    exact rn_wk (L' := [some (rf E 75), none, some (.int (0 : Int32)), some (.int (0 : Int32))]) (⟨rfl, ⟨rfl, ⟨rfl, trivial⟩⟩⟩) hF
  · replace hF := hF.2 hc_2
    refine rn_aload_n dX3_unsettled_15 rfl ?_
    refine rm_getr (r := 22) flRX3_46 rfl (by decide) rfl dX3_unsettled_16 ?_
    refine rm_getr (r := 23) flRX3_108 rfl (by decide) rfl dX3_unsettled_19 ?_
    refine rn_goto (tgt := 36) dX3_unsettled_22 (by decide) ?_
    refine rm_callV (c0 := (80 + 0)) (As := [rf E 23]) (st := []) mlRX3_70 mdX6_become (Nat.le_of_ble_eq_true rfl) (st_tri _ (by decide : 0 < 6)).1.2.1 (st_tri _ (by decide : 0 < 6)).1.1 (by decide) rfl rfl rfl (Nat.le_of_ble_eq_true rfl) ⟨Nat.le_refl _, Nat.le_refl _⟩ dX3_unsettled_36 ?_
    refine cm_mono hF (fun w H_9 hF => ?_)
    obtain ⟨rfl, hF⟩ := hF
    refine rn_aload_n dX3_unsettled_39 rfl ?_
    refine rm_getr (r := 22) flRX3_46 rfl (by decide) rfl dX3_unsettled_40 ?_
    refine rn_aload_n dX3_unsettled_43 rfl ?_
    refine rm_getr (r := 78) flRX3_30 rfl (by decide) rfl dX3_unsettled_44 ?_
    refine rn_iconst (x := (0 : Int32)) dX3_unsettled_47 (by decide) ?_
    refine rj_aald (Cn := RX6) (r := (80 + 0)) ⟨by decide, by decide⟩ (st_tri _ (by decide : 0 < 6)).2 rfl (by decide) (by decide) rfl (by decide) dX3_unsettled_48 ?_
    refine rm_callV (c0 := 22) (As := [rf E (80 + 0)]) (st := []) mlRX3_125 mdX2_putBack (Nat.le_of_ble_eq_true rfl) rfl (by decide) (by decide) rfl rfl rfl (Nat.le_of_ble_eq_true rfl) ⟨Nat.le_refl _, Nat.le_refl _⟩ dX3_unsettled_49 ?_
    refine cm_mono hF (fun w H_10 hF => ?_)
    obtain ⟨rfl, hF⟩ := hF
    refine rn_aload_n dX3_unsettled_52 rfl ?_
    refine rn_iload_n dX3_unsettled_53 rfl ?_
    refine rn_iconst (x := (0 : Int32)) dX3_unsettled_54 (by decide) ?_
    refine rn_iconst (x := (0 : Int32)) dX3_unsettled_55 (by decide) ?_
    refine rm_callV (c0 := 75) (As := [.int x1, .int (0 : Int32), .int (0 : Int32)]) (st := []) (mlRX3_128 6) (mdX3_order 6) (Nat.le_of_ble_eq_true rfl) rfl (by decide) (by decide) rfl rfl rfl (Nat.le_of_ble_eq_true rfl) ⟨Nat.le_refl _, Nat.le_refl _⟩ dX3_unsettled_56 ?_
    refine cm_mono hF (fun w H_11 hF => ?_)
    obtain ⟨rfl, hF⟩ := hF
    refine rn_iconst (x := (0 : Int32)) dX3_unsettled_59 (by decide) ?_
    refine rn_istore_n dX3_unsettled_60 rfl (by decide) (fun x2_12 ex2_12 => ?_)
    subst ex2_12
    refine rn_iconst (x := (0 : Int32)) dX3_unsettled_61 (by decide) ?_
    refine rn_istore_n dX3_unsettled_62 rfl (by decide) (fun x3_13 ex3_13 => ?_)
    subst ex3_13
    exact rn_wk (L' := [some (rf E 75), none, some (.int (0 : Int32)), some (.int (0 : Int32))]) (⟨rfl, ⟨rfl, ⟨rfl, trivial⟩⟩⟩) hF
theorem cmX3_unsettled {E : En} {Q : Option Value → Hi → Prop} {H : Hi} {x1 : Int32} 
    (hF : ∀ H_1 : Hi, H_1 = up H 75 8 (0 : Int32) → ((¬ x1 = 0 → (∃ j_3 : Nat, (j_3 < 24 ∧ x1 - (1 : Int32) = nI j_3) ∧ (Cm E mX6_become [rf E (80 + 0), rf E (28 + 2 * j_3)] H_1 (fun w H_4 => w = none ∧ (Cm E mX2_putBack [rf E 22, rf E (80 + 0)] H_4 (fun w H_5 => w = none ∧ (Cm E (mX3_order 6) [rf E 75, .int x1, .int (0 : Int32), .int (0 : Int32)] H_5 (fun w H_6 => w = none ∧ (Rm E mX3_unsettled Q 63 [some (rf E 75), none, some (.int (0 : Int32)), some (.int (0 : Int32))] [] H_6))))))))) ∧ (x1 = 0 → (Cm E mX6_become [rf E (80 + 0), rf E 23] H_1 (fun w H_9 => w = none ∧ (Cm E mX2_putBack [rf E 22, rf E (80 + 0)] H_9 (fun w H_10 => w = none ∧ (Cm E (mX3_order 6) [rf E 75, .int x1, .int (0 : Int32), .int (0 : Int32)] H_10 (fun w H_11 => w = none ∧ (Rm E mX3_unsettled Q 63 [some (rf E 75), none, some (.int (0 : Int32)), some (.int (0 : Int32))] [] H_11)))))))))) :
    Cm E mX3_unsettled [rf E 75, .int x1] H Q :=
  cm_of (by decide +kernel) (Nat.le_of_ble_eq_true rfl) rfl (sgX3_unsettled_0  hF)
theorem sgX3_unsettled_63 {E : En} {Q : Option Value → Hi → Prop} {H : Hi} {x2 : Int32} {x3 : Int32} 
    (hF : ((H 5 0) ≤ x3 → (Q (some (.int x2)) H)) ∧ (¬ (H 5 0) ≤ x3 → ((((ushr (H 75 8) ((4 : Int32) * x3)) &&& (15 : Int32)) = 0 → (∀ x3_3 : Int32, x3_3 = x3 + (1 : Int32) → (Rm E mX3_unsettled Q 63 [some (rf E 75), none, some (.int x2), some (.int x3_3)] [] H))) ∧ (¬ ((ushr (H 75 8) ((4 : Int32) * x3)) &&& (15 : Int32)) = 0 → (∀ x2_4 : Int32, x2_4 = x2 ||| ((1 : Int32) <<< (x3 &&& 31)) → (∀ x3_5 : Int32, x3_5 = x3 + (1 : Int32) → (Rm E mX3_unsettled Q 63 [some (rf E 75), none, some (.int x2_4), some (.int x3_5)] [] H))))))) :
    Rm E mX3_unsettled Q 63 [some (rf E 75), none, some (.int x2), some (.int x3)] [] H := by
  refine rn_iload_n dX3_unsettled_63 rfl ?_
  refine rn_aload_n dX3_unsettled_64 rfl ?_
  refine rm_getr (r := 5) flRX3_38 rfl (by decide) rfl dX3_unsettled_65 ?_
  refine rm_geti flRX3_131 rfl (by decide) rfl dX3_unsettled_68 ?_
  refine rn_icmp_ge (tgt := 100) dX3_unsettled_71 (by decide) (fun hc_1 => ?_) (fun hc_1 => ?_)
  · replace hF := hF.1 hc_1
    refine rn_iload_n dX3_unsettled_100 rfl ?_
    exact rm_iret rfl dX3_unsettled_101 hF
  · replace hF := hF.2 hc_1
    refine rn_aload_n dX3_unsettled_74 rfl ?_
    refine rm_geti flRX3_122 rfl (by decide) rfl dX3_unsettled_75 ?_
    refine rn_iconst (x := (4 : Int32)) dX3_unsettled_78 (by decide) ?_
    refine rn_iload_n dX3_unsettled_79 rfl ?_
    refine rn_imul dX3_unsettled_80 ?_
    refine rn_iushr dX3_unsettled_81 ?_
    refine rn_bipush (x := (15 : Int32)) dX3_unsettled_82 (by decide) ?_
    refine rn_iand dX3_unsettled_84 ?_
    refine rn_if_eq (tgt := 94) dX3_unsettled_85 (by decide) (fun hc_2 => ?_) (fun hc_2 => ?_)
    · replace hF := hF.1 hc_2
      refine rn_iinc (w := (1 : Int32)) dX3_unsettled_94 rfl (by decide) rfl (by decide) (fun x3_3 ex3_3 => ?_)
      replace hF := hF x3_3 ex3_3
      refine rn_goto (tgt := 63) dX3_unsettled_97 (by decide) ?_
      exact rn_wk (L' := [some (rf E 75), none, some (.int x2), some (.int x3_3)]) (⟨rfl, ⟨rfl, ⟨rfl, trivial⟩⟩⟩) hF
    · replace hF := hF.2 hc_2
      refine rn_iload_n dX3_unsettled_88 rfl ?_
      refine rn_iconst (x := (1 : Int32)) dX3_unsettled_89 (by decide) ?_
      refine rn_iload_n dX3_unsettled_90 rfl ?_
      refine rn_ishl dX3_unsettled_91 ?_
      refine rn_ior dX3_unsettled_92 ?_
      refine rn_istore_n dX3_unsettled_93 rfl (by decide) (fun x2_4 ex2_4 => ?_)
      replace hF := hF x2_4 ex2_4
      refine rn_iinc (w := (1 : Int32)) dX3_unsettled_94 rfl (by decide) rfl (by decide) (fun x3_5 ex3_5 => ?_)
      replace hF := hF x3_5 ex3_5
      refine rn_goto (tgt := 63) dX3_unsettled_97 (by decide) ?_
      exact rn_wk (L' := [some (rf E 75), none, some (.int x2_4), some (.int x3_5)]) (⟨rfl, ⟨rfl, ⟨rfl, trivial⟩⟩⟩) hF
theorem sgX3_order_0 {E : En} {Q : Option Value → Hi → Prop} {H : Hi} {j : Nat} {x1 : Int32} {x2 : Int32} {x3 : Int32} 
    (hF : ∃ j_1 : Nat, (j_1 < 25 ∧ x1 = nI j_1) ∧ (∀ x4_2 : Int32, x4_2 = H 20 j_1 → (∃ j_3 : Nat, (j_3 < 25 ∧ x1 + (1 : Int32) = nI j_3) ∧ (Cm E mJ9_min_7cf53 [.int (5 : Int32), .int ((H 20 j_3) - x4_2)] H (fun w H_4 => ∃ r_5 : Int32, w = some (.int r_5) ∧ ((x2 < r_5 → (Rm E (mX3_order (j + 1)) Q 123 [some (rf E 75), some (.int x1), some (.int x2), some (.int x3), some (.int x4_2), some (.int r_5), some (.int (0 : Int32)), none] [] H_4)) ∧ (¬ x2 < r_5 → (Cm E mJ9_min_7cf53 [.int x2, .int (5 : Int32)] H_4 (fun w H_9 => ∃ r_10 : Int32, w = some (.int r_10) ∧ (∃ j_11 : Nat, (j_11 < 6 ∧ r_10 = nI j_11) ∧ (∃ j_12 : Nat, (j_12 < 25 ∧ x1 + (1 : Int32) = nI j_12) ∧ (Cm E mX2_tell [rf E 22, rf E (80 + j_11), .int (x4_2 + r_5), .int (H_9 20 j_12)] H_9 (fun w H_13 => ∃ r_14 : Int32, w = some (.int r_14) ∧ (Cm E mX2_close [rf E 22, rf E (80 + j_11), .int x1, .int (H_13 11 1)] H_13 (fun w H_15 => w = none ∧ (∃ j_16 : Nat, (j_16 < 24 ∧ x1 = nI j_16) ∧ (∀ H_17 : Hi, H_17 = up H_15 75 8 ((H_15 75 8) ||| ((H_15 (80 + j_11) 0) ^^^ (H_15 (28 + 2 * j_16) 0))) → (Q none H_17)))))))))))))))))) :
    Rm E (mX3_order (j + 1)) Q 0 [some (rf E 75), some (.int x1), some (.int x2), some (.int x3), none, none, none, none] [] H := by
  refine rn_aload_n dX3_order_0 rfl ?_
  refine rm_getr (r := 11) flRX3_42 rfl (by decide) rfl dX3_order_1 ?_
  refine rm_getr (r := 20) flRX3_134 rfl (by decide) rfl dX3_order_4 ?_
  refine rn_iload_n dX3_order_7 rfl ?_
  obtain ⟨j_1, hj_1, hF⟩ := hF
  refine rj_iald hj_1 rfl (by decide) rfl (by decide) dX3_order_8 ?_
  refine rn_istore dX3_order_9 rfl (by decide) (fun x4_2 ex4_2 => ?_)
  replace hF := hF x4_2 ex4_2
  refine rn_iconst (x := (5 : Int32)) dX3_order_11 (by decide) ?_
  refine rn_aload_n dX3_order_12 rfl ?_
  refine rm_getr (r := 11) flRX3_42 rfl (by decide) rfl dX3_order_13 ?_
  refine rm_getr (r := 20) flRX3_134 rfl (by decide) rfl dX3_order_16 ?_
  refine rn_iload_n dX3_order_19 rfl ?_
  refine rn_iconst (x := (1 : Int32)) dX3_order_20 (by decide) ?_
  refine rn_iadd dX3_order_21 ?_
  obtain ⟨j_3, hj_3, hF⟩ := hF
  refine rj_iald hj_3 rfl (by decide) rfl (by decide) dX3_order_22 ?_
  refine rn_iload dX3_order_23 rfl ?_
  refine rn_isub dX3_order_25 ?_
  refine rm_callS (As := [.int (5 : Int32), .int ((H 20 j_3) - x4_2)]) (st := []) mlRX3_137 mdJ9_min_7cf53 (by show _ ≤ _ + (j + 1); exact Nat.le_trans (Nat.le_of_ble_eq_true rfl : _ ≤ 3) (Nat.le_add_right _ _)) rfl rfl (Nat.le_of_ble_eq_true rfl) ⟨Nat.le_refl _, Nat.le_refl _⟩ dX3_order_26 ?_
  refine cm_mono hF (fun w H_4 hF => ?_)
  obtain ⟨r_5, rfl, hF⟩ := hF
  refine rn_istore dX3_order_29 rfl (by decide) (fun x5_6 ex5_6 => ?_)
  subst ex5_6
  refine rn_iload_n dX3_order_31 rfl ?_
  refine rn_iload dX3_order_32 rfl ?_
  refine rn_icmp_lt (tgt := 120) dX3_order_34 (by decide) (fun hc_7 => ?_) (fun hc_7 => ?_)
  · replace hF := hF.1 hc_7
    refine rn_iconst (x := (0 : Int32)) dX3_order_120 (by decide) ?_
    refine rn_istore dX3_order_121 rfl (by decide) (fun x6_8 ex6_8 => ?_)
    subst ex6_8
    exact rn_wk (L' := [some (rf E 75), some (.int x1), some (.int x2), some (.int x3), some (.int x4_2), some (.int r_5), some (.int (0 : Int32)), none]) (⟨rfl, ⟨rfl, ⟨rfl, ⟨rfl, ⟨rfl, ⟨rfl, ⟨rfl, trivial⟩⟩⟩⟩⟩⟩⟩) hF
  · replace hF := hF.2 hc_7
    refine rn_aload_n dX3_order_37 rfl ?_
    refine rm_getr (r := 78) flRX3_30 rfl (by decide) rfl dX3_order_38 ?_
    refine rn_iload_n dX3_order_41 rfl ?_
    refine rn_iconst (x := (5 : Int32)) dX3_order_42 (by decide) ?_
    refine rm_callS (As := [.int x2, .int (5 : Int32)]) (st := [rf E 78]) mlRX3_137 mdJ9_min_7cf53 (by show _ ≤ _ + (j + 1); exact Nat.le_trans (Nat.le_of_ble_eq_true rfl : _ ≤ 3) (Nat.le_add_right _ _)) rfl rfl (Nat.le_of_ble_eq_true rfl) ⟨Nat.le_refl _, Nat.le_refl _⟩ dX3_order_43 ?_
    refine cm_mono hF (fun w H_9 hF => ?_)
    obtain ⟨r_10, rfl, hF⟩ := hF
    obtain ⟨j_11, hj_11, hF⟩ := hF
    refine rj_aald (Cn := RX6) (r := (80 + j_11)) hj_11 (st_tri _ hj_11.1).2 rfl (by decide) (by decide) rfl (by decide) dX3_order_46 ?_
    refine rn_astore dX3_order_47 rfl (by decide) ?_
    refine rn_aload_n dX3_order_49 rfl ?_
    refine rm_getr (r := 22) flRX3_46 rfl (by decide) rfl dX3_order_50 ?_
    refine rn_aload dX3_order_53 rfl ?_
    refine rn_iload dX3_order_55 rfl ?_
    refine rn_iload dX3_order_57 rfl ?_
    refine rn_iadd dX3_order_59 ?_
    refine rn_aload_n dX3_order_60 rfl ?_
    refine rm_getr (r := 11) flRX3_42 rfl (by decide) rfl dX3_order_61 ?_
    refine rm_getr (r := 20) flRX3_134 rfl (by decide) rfl dX3_order_64 ?_
    refine rn_iload_n dX3_order_67 rfl ?_
    refine rn_iconst (x := (1 : Int32)) dX3_order_68 (by decide) ?_
    refine rn_iadd dX3_order_69 ?_
    obtain ⟨j_12, hj_12, hF⟩ := hF
    refine rj_iald hj_12 rfl (by decide) rfl (by decide) dX3_order_70 ?_
    refine rm_callV (c0 := 22) (As := [rf E (80 + j_11), .int (x4_2 + r_5), .int (H_9 20 j_12)]) (st := []) mlRX3_142 mdX2_tell (by show _ ≤ _ + (j + 1); exact Nat.le_trans (Nat.le_of_ble_eq_true rfl : _ ≤ 3) (Nat.le_add_right _ _)) rfl (by decide) (by decide) rfl rfl rfl (Nat.le_of_ble_eq_true rfl) ⟨Nat.le_refl _, Nat.le_refl _⟩ dX3_order_71 ?_
    refine cm_mono hF (fun w H_13 hF => ?_)
    obtain ⟨r_14, rfl, hF⟩ := hF
    refine rn_pop dX3_order_74 rfl ?_
    refine rn_aload_n dX3_order_75 rfl ?_
    refine rm_getr (r := 22) flRX3_46 rfl (by decide) rfl dX3_order_76 ?_
    refine rn_aload dX3_order_79 rfl ?_
    refine rn_iload_n dX3_order_81 rfl ?_
    refine rn_aload_n dX3_order_82 rfl ?_
    refine rm_getr (r := 11) flRX3_42 rfl (by decide) rfl dX3_order_83 ?_
    refine rm_geti flRX3_146 rfl (by decide) rfl dX3_order_86 ?_
    refine rm_callV (c0 := 22) (As := [rf E (80 + j_11), .int x1, .int (H_13 11 1)]) (st := []) mlRX3_116 mdX2_close (by show _ ≤ _ + (j + 1); exact Nat.le_trans (Nat.le_of_ble_eq_true rfl : _ ≤ 3) (Nat.le_add_right _ _)) rfl (by decide) (by decide) rfl rfl rfl (Nat.le_of_ble_eq_true rfl) ⟨Nat.le_refl _, Nat.le_refl _⟩ dX3_order_89 ?_
    refine cm_mono hF (fun w H_15 hF => ?_)
    obtain ⟨rfl, hF⟩ := hF
    refine rn_aload_n dX3_order_92 rfl ?_
    refine rn_dup dX3_order_93 rfl ?_
    refine rm_geti flRX3_122 rfl (by decide) rfl dX3_order_94 ?_
    refine rn_aload dX3_order_97 rfl ?_
    refine rm_geti flRX3_149 (st_tri _ hj_11.1).1.2.1 (st_tri _ hj_11.1).1.1 (rT_row (st_tri _ hj_11.1).1.2.2 _) dX3_order_99 ?_
    refine rn_aload_n dX3_order_102 rfl ?_
    refine rm_getr (r := 22) flRX3_46 rfl (by decide) rfl dX3_order_103 ?_
    refine rm_getr (r := 25) flRX3_60 rfl (by decide) rfl dX3_order_106 ?_
    refine rn_iload_n dX3_order_109 rfl ?_
    obtain ⟨j_16, hj_16, hF⟩ := hF
    refine rj_aald (Cn := RX6) (r := (28 + 2 * j_16)) hj_16 (st_beh _ hj_16.1).2 rfl (by decide) (by decide) rfl (by decide) dX3_order_110 ?_
    refine rm_geti flRX3_149 (st_beh _ hj_16.1).1.2.1 (st_beh _ hj_16.1).1.1 (rT_row (st_beh _ hj_16.1).1.2.2 _) dX3_order_111 ?_
    refine rn_ixor dX3_order_114 ?_
    refine rn_ior dX3_order_115 ?_
    refine rm_puti flRX3_122 rfl (by decide) rfl dX3_order_116 (fun H_17 eH_17 => ?_)
    replace hF := hF H_17 eH_17
    exact rm_vret rfl dX3_order_119 hF
theorem cmX3_order {E : En} {Q : Option Value → Hi → Prop} {H : Hi} {j : Nat} {x1 : Int32} {x2 : Int32} {x3 : Int32} 
    (hF : ∃ j_1 : Nat, (j_1 < 25 ∧ x1 = nI j_1) ∧ (∀ x4_2 : Int32, x4_2 = H 20 j_1 → (∃ j_3 : Nat, (j_3 < 25 ∧ x1 + (1 : Int32) = nI j_3) ∧ (Cm E mJ9_min_7cf53 [.int (5 : Int32), .int ((H 20 j_3) - x4_2)] H (fun w H_4 => ∃ r_5 : Int32, w = some (.int r_5) ∧ ((x2 < r_5 → (Rm E (mX3_order (j + 1)) Q 123 [some (rf E 75), some (.int x1), some (.int x2), some (.int x3), some (.int x4_2), some (.int r_5), some (.int (0 : Int32)), none] [] H_4)) ∧ (¬ x2 < r_5 → (Cm E mJ9_min_7cf53 [.int x2, .int (5 : Int32)] H_4 (fun w H_9 => ∃ r_10 : Int32, w = some (.int r_10) ∧ (∃ j_11 : Nat, (j_11 < 6 ∧ r_10 = nI j_11) ∧ (∃ j_12 : Nat, (j_12 < 25 ∧ x1 + (1 : Int32) = nI j_12) ∧ (Cm E mX2_tell [rf E 22, rf E (80 + j_11), .int (x4_2 + r_5), .int (H_9 20 j_12)] H_9 (fun w H_13 => ∃ r_14 : Int32, w = some (.int r_14) ∧ (Cm E mX2_close [rf E 22, rf E (80 + j_11), .int x1, .int (H_13 11 1)] H_13 (fun w H_15 => w = none ∧ (∃ j_16 : Nat, (j_16 < 24 ∧ x1 = nI j_16) ∧ (∀ H_17 : Hi, H_17 = up H_15 75 8 ((H_15 75 8) ||| ((H_15 (80 + j_11) 0) ^^^ (H_15 (28 + 2 * j_16) 0))) → (Q none H_17)))))))))))))))))) :
    Cm E (mX3_order (j + 1)) [rf E 75, .int x1, .int x2, .int x3] H Q :=
  cm_of (by decide +kernel) (Nat.le_of_ble_eq_true rfl) rfl (sgX3_order_0  hF)
theorem sgX3_order_123 {E : En} {Q : Option Value → Hi → Prop} {H : Hi} {j : Nat} {x1 : Int32} {x2 : Int32} {x3 : Int32} {x4 : Int32} {x5 : Int32} {x6 : Int32} 
    (hF : (x5 ≤ x6 → (Q none H)) ∧ (¬ x5 ≤ x6 → ((¬ ((x3 >>> (x6 &&& 31)) &&& (1 : Int32)) = 0 → (∀ x6_3 : Int32, x6_3 = x6 + (1 : Int32) → (Rm E (mX3_order (j + 1)) Q 123 [some (rf E 75), some (.int x1), some (.int x2), some (.int x3), some (.int x4), some (.int x5), some (.int x6_3), none] [] H))) ∧ (((x3 >>> (x6 &&& 31)) &&& (1 : Int32)) = 0 → (∃ j_4 : Nat, (j_4 < 6 ∧ x2 + (1 : Int32) = nI j_4) ∧ (∃ j_5 : Nat, (j_5 < 6 ∧ x2 = nI j_5) ∧ (Cm E mX6_become [rf E (80 + j_4), rf E (80 + j_5)] H (fun w H_6 => w = none ∧ (∃ j_7 : Nat, (j_7 < 20 ∧ x4 + x6 = nI j_7) ∧ (∃ j_8 : Nat, (j_8 < 20 ∧ H_6 19 j_7 = nI j_8) ∧ (Cm E mX2_reach [rf E 22, rf E (80 + j_4), .int (H_6 13 j_8)] H_6 (fun w H_9 => ∃ r_10 : Int32, w = some (.int r_10) ∧ (Cm E (mX3_order j) [rf E 75, .int x1, .int (x2 + (1 : Int32)), .int (x3 ||| ((1 : Int32) <<< (x6 &&& 31)))] H_9 (fun w H_11 => w = none ∧ (∀ x6_12 : Int32, x6_12 = x6 + (1 : Int32) → (Rm E (mX3_order (j + 1)) Q 123 [some (rf E 75), some (.int x1), some (.int x2), some (.int x3), some (.int x4), some (.int x5), some (.int x6_12), none] [] H_11)))))))))))))))) :
    Rm E (mX3_order (j + 1)) Q 123 [some (rf E 75), some (.int x1), some (.int x2), some (.int x3), some (.int x4), some (.int x5), some (.int x6), none] [] H := by
  refine rn_iload dX3_order_123 rfl ?_
  refine rn_iload dX3_order_125 rfl ?_
  refine rn_icmp_ge (tgt := 211) dX3_order_127 (by decide) (fun hc_1 => ?_) (fun hc_1 => ?_)
  · replace hF := hF.1 hc_1
    exact rm_vret rfl dX3_order_211 hF
  · replace hF := hF.2 hc_1
    refine rn_iload_n dX3_order_130 rfl ?_
    refine rn_iload dX3_order_131 rfl ?_
    refine rn_ishr dX3_order_133 ?_
    refine rn_iconst (x := (1 : Int32)) dX3_order_134 (by decide) ?_
    refine rn_iand dX3_order_135 ?_
    refine rn_if_ne (tgt := 205) dX3_order_136 (by decide) (fun hc_2 => ?_) (fun hc_2 => ?_)
    · replace hF := hF.1 hc_2
      refine rn_iinc (w := (1 : Int32)) dX3_order_205 rfl (by decide) rfl (by decide) (fun x6_3 ex6_3 => ?_)
      replace hF := hF x6_3 ex6_3
      refine rn_goto (tgt := 123) dX3_order_208 (by decide) ?_
      exact rn_wk (L' := [some (rf E 75), some (.int x1), some (.int x2), some (.int x3), some (.int x4), some (.int x5), some (.int x6_3), none]) (⟨rfl, ⟨rfl, ⟨rfl, ⟨rfl, ⟨rfl, ⟨rfl, ⟨rfl, trivial⟩⟩⟩⟩⟩⟩⟩) hF
    · replace hF := hF.2 hc_2
      refine rn_aload_n dX3_order_139 rfl ?_
      refine rm_getr (r := 78) flRX3_30 rfl (by decide) rfl dX3_order_140 ?_
      refine rn_iload_n dX3_order_143 rfl ?_
      refine rn_iconst (x := (1 : Int32)) dX3_order_144 (by decide) ?_
      refine rn_iadd dX3_order_145 ?_
      obtain ⟨j_4, hj_4, hF⟩ := hF
      refine rj_aald (Cn := RX6) (r := (80 + j_4)) hj_4 (st_tri _ hj_4.1).2 rfl (by decide) (by decide) rfl (by decide) dX3_order_146 ?_
      refine rn_astore dX3_order_147 rfl (by decide) ?_
      refine rn_aload dX3_order_149 rfl ?_
      refine rn_aload_n dX3_order_151 rfl ?_
      refine rm_getr (r := 78) flRX3_30 rfl (by decide) rfl dX3_order_152 ?_
      refine rn_iload_n dX3_order_155 rfl ?_
      obtain ⟨j_5, hj_5, hF⟩ := hF
      refine rj_aald (Cn := RX6) (r := (80 + j_5)) hj_5 (st_tri _ hj_5.1).2 rfl (by decide) (by decide) rfl (by decide) dX3_order_156 ?_
      refine rm_callV (c0 := (80 + j_4)) (As := [rf E (80 + j_5)]) (st := []) mlRX3_70 mdX6_become (by show _ ≤ _ + (j + 1); exact Nat.le_trans (Nat.le_of_ble_eq_true rfl : _ ≤ 3) (Nat.le_add_right _ _)) (st_tri _ hj_4.1).1.2.1 (st_tri _ hj_4.1).1.1 (by decide) rfl rfl rfl (Nat.le_of_ble_eq_true rfl) ⟨Nat.le_refl _, Nat.le_refl _⟩ dX3_order_157 ?_
      refine cm_mono hF (fun w H_6 hF => ?_)
      obtain ⟨rfl, hF⟩ := hF
      refine rn_aload_n dX3_order_160 rfl ?_
      refine rm_getr (r := 22) flRX3_46 rfl (by decide) rfl dX3_order_161 ?_
      refine rn_aload dX3_order_164 rfl ?_
      refine rn_aload_n dX3_order_166 rfl ?_
      refine rm_getr (r := 11) flRX3_42 rfl (by decide) rfl dX3_order_167 ?_
      refine rm_getr (r := 13) flRX3_152 rfl (by decide) rfl dX3_order_170 ?_
      refine rn_aload_n dX3_order_173 rfl ?_
      refine rm_getr (r := 11) flRX3_42 rfl (by decide) rfl dX3_order_174 ?_
      refine rm_getr (r := 19) flRX3_155 rfl (by decide) rfl dX3_order_177 ?_
      refine rn_iload dX3_order_180 rfl ?_
      refine rn_iload dX3_order_182 rfl ?_
      refine rn_iadd dX3_order_184 ?_
      obtain ⟨j_7, hj_7, hF⟩ := hF
      refine rj_iald hj_7 rfl (by decide) rfl (by decide) dX3_order_185 ?_
      obtain ⟨j_8, hj_8, hF⟩ := hF
      refine rj_iald hj_8 rfl (by decide) rfl (by decide) dX3_order_186 ?_
      refine rm_callV (c0 := 22) (As := [rf E (80 + j_4), .int (H_6 13 j_8)]) (st := []) mlRX3_82 mdX2_reach (by show _ ≤ _ + (j + 1); exact Nat.le_trans (Nat.le_of_ble_eq_true rfl : _ ≤ 3) (Nat.le_add_right _ _)) rfl (by decide) (by decide) rfl rfl rfl (Nat.le_of_ble_eq_true rfl) ⟨Nat.le_refl _, Nat.le_refl _⟩ dX3_order_187 ?_
      refine cm_mono hF (fun w H_9 hF => ?_)
      obtain ⟨r_10, rfl, hF⟩ := hF
      refine rn_pop dX3_order_190 rfl ?_
      refine rn_aload_n dX3_order_191 rfl ?_
      refine rn_iload_n dX3_order_192 rfl ?_
      refine rn_iload_n dX3_order_193 rfl ?_
      refine rn_iconst (x := (1 : Int32)) dX3_order_194 (by decide) ?_
      refine rn_iadd dX3_order_195 ?_
      refine rn_iload_n dX3_order_196 rfl ?_
      refine rn_iconst (x := (1 : Int32)) dX3_order_197 (by decide) ?_
      refine rn_iload dX3_order_198 rfl ?_
      refine rn_ishl dX3_order_200 ?_
      refine rn_ior dX3_order_201 ?_
      refine rm_callV (c0 := 75) (As := [.int x1, .int (x2 + (1 : Int32)), .int (x3 ||| ((1 : Int32) <<< (x6 &&& 31)))]) (st := []) (mlRX3_128 j) (mdX3_order j) (Nat.le_refl _) rfl (by decide) (by decide) rfl rfl rfl (Nat.le_of_ble_eq_true rfl) ⟨Nat.le_refl _, Nat.le_refl _⟩ dX3_order_202 ?_
      refine cm_mono hF (fun w H_11 hF => ?_)
      obtain ⟨rfl, hF⟩ := hF
      refine rn_iinc (w := (1 : Int32)) dX3_order_205 rfl (by decide) rfl (by decide) (fun x6_12 ex6_12 => ?_)
      replace hF := hF x6_12 ex6_12
      refine rn_goto (tgt := 123) dX3_order_208 (by decide) ?_
      exact rn_wk (L' := [some (rf E 75), some (.int x1), some (.int x2), some (.int x3), some (.int x4), some (.int x5), some (.int x6_12), none]) (⟨rfl, ⟨rfl, ⟨rfl, ⟨rfl, ⟨rfl, ⟨rfl, ⟨rfl, trivial⟩⟩⟩⟩⟩⟩⟩) hF
