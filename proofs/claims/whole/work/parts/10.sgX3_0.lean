theorem sgX3_drop_0 {E : En} {Q : Option Value → Hi → Prop} {H : Hi}  
    (hF : ∀ zH_1 : Hi, zH_1 = up H 75 5 (-1 : Int32) → (∀ zH_2 : Hi, zH_2 = up zH_1 75 6 (-1 : Int32) → (Q none zH_2))) :
    Rm E mX3_drop Q 0 [some (rf E 75)] [] H := by
  refine rn_aload_n dX3_drop_0 rfl ?_
  refine rn_iconst (x := (-1 : Int32)) dX3_drop_1 (by decide) ?_
  refine rm_puti flRX3_21 rfl (by decide) rfl dX3_drop_2 (fun zH_1 ezH_1 => ?_)
  replace hF := hF zH_1 ezH_1
  refine rn_aload_n dX3_drop_5 rfl ?_
  refine rn_iconst (x := (-1 : Int32)) dX3_drop_6 (by decide) ?_
  refine rm_puti flRX3_25 rfl (by decide) rfl dX3_drop_7 (fun zH_2 ezH_2 => ?_)
  replace hF := hF zH_2 ezH_2
  exact rm_vret rfl dX3_drop_10 hF
theorem cmX3_drop {E : En} {Q : Option Value → Hi → Prop} {H : Hi}  
    (hF : ∀ zH_1 : Hi, zH_1 = up H 75 5 (-1 : Int32) → (∀ zH_2 : Hi, zH_2 = up zH_1 75 6 (-1 : Int32) → (Q none zH_2))) :
    Cm E mX3_drop [rf E 75] H Q :=
  cm_of (by decide +kernel : plainName RX3 = true) (Nat.le_of_ble_eq_true rfl) rfl (sgX3_drop_0  hF)
theorem sgX3_planLend_0 {E : En} {Q : Option Value → Hi → Prop} {H : Hi} {zx1 : Int32} {zx2 : Int32} {zx3 : Int32} {zx4 : Int32} 
    (hF : ∀ zx5_1 : Int32, zx5_1 = (((((zx1 * (8 : Int32)) + zx2) * (24 : Int32)) + zx3) * (24 : Int32)) + zx4 → ((¬ zx5_1 = (H 75 5) → (∀ zH_3 : Hi, zH_3 = up H 75 5 zx5_1 → (Cm E mX4_plan [rf E 76, .int (-1 : Int32), .int (-1 : Int32), .int (-1 : Int32)] zH_3 (fun w zH_4 => w = none ∧ (∃ zj_5 : Nat, (zj_5 < 24 ∧ zx3 = nI zj_5) ∧ (∃ zj_6 : Nat, (zj_6 < 24 ∧ zx4 = nI zj_6) ∧ (Cm E mX6_placeOf [rf E (28 + 2 * zj_6), .int zx2] zH_4 (fun w zH_7 => ∃ zr_8 : Int32, w = some (.int zr_8) ∧ ((¬ zr_8 = zx1 → (((zH_7 76 0) = 0 → (Q none zH_7)) ∧ (¬ (zH_7 76 0) = 0 → ((zx4 < zx3 → (Q none zH_7)) ∧ (¬ zx4 < zx3 → (Cm E mX6_placeOf [rf E (27 + 2 * zj_5), .int zx2] zH_7 (fun w zH_12 => ∃ zr_13 : Int32, w = some (.int zr_13) ∧ ((¬ zr_13 = (9 : Int32) → (Cm E mX6_become [rf E (80 + 0), rf E (27 + 2 * zj_5)] zH_12 (fun w zH_15 => w = none ∧ (Cm E mX3_leastHand [rf E 75, .int zx1, .int zx2, .int zx3, .int zx4] zH_15 (fun w zH_16 => ∃ zr_17 : Int32, w = some (.int zr_17) ∧ ((zr_17 = (-1 : Int32) → (Rm E mX3_planLend Q 154 [some (rf E 75), some (.int zx1), some (.int zx2), some (.int zx3), some (.int zx4), none, some (rf E (27 + 2 * zj_5)), none, some (.int (0 : Int32))] [] zH_16)) ∧ (¬ zr_17 = (-1 : Int32) → (Cm E mX4_plan [rf E 76, .int (1 : Int32), .int zr_17, .int (-1 : Int32)] zH_16 (fun w zH_21 => w = none ∧ (Rm E mX3_planLend Q 154 [some (rf E 75), some (.int zx1), some (.int zx2), some (.int zx3), some (.int zx4), none, some (rf E (27 + 2 * zj_5)), none, some (.int (0 : Int32))] [] zH_21)))))))))) ∧ (zr_13 = (9 : Int32) → (Q none zH_12)))))))))) ∧ (zr_8 = zx1 → (Cm E mX4_plan [rf E 76, .int (0 : Int32), .int (-1 : Int32), .int (-1 : Int32)] zH_7 (fun w zH_23 => w = none ∧ (((zH_23 76 0) = 0 → (Q none zH_23)) ∧ (¬ (zH_23 76 0) = 0 → ((zx4 < zx3 → (Q none zH_23)) ∧ (¬ zx4 < zx3 → (Cm E mX6_placeOf [rf E (27 + 2 * zj_5), .int zx2] zH_23 (fun w zH_26 => ∃ zr_27 : Int32, w = some (.int zr_27) ∧ ((¬ zr_27 = (9 : Int32) → (Cm E mX6_become [rf E (80 + 0), rf E (27 + 2 * zj_5)] zH_26 (fun w zH_29 => w = none ∧ (Cm E mX3_leastHand [rf E 75, .int zx1, .int zx2, .int zx3, .int zx4] zH_29 (fun w zH_30 => ∃ zr_31 : Int32, w = some (.int zr_31) ∧ ((zr_31 = (-1 : Int32) → (Rm E mX3_planLend Q 154 [some (rf E 75), some (.int zx1), some (.int zx2), some (.int zx3), some (.int zx4), none, some (rf E (27 + 2 * zj_5)), none, some (.int (0 : Int32))] [] zH_30)) ∧ (¬ zr_31 = (-1 : Int32) → (Cm E mX4_plan [rf E 76, .int (1 : Int32), .int zr_31, .int (-1 : Int32)] zH_30 (fun w zH_35 => w = none ∧ (Rm E mX3_planLend Q 154 [some (rf E 75), some (.int zx1), some (.int zx2), some (.int zx3), some (.int zx4), none, some (rf E (27 + 2 * zj_5)), none, some (.int (0 : Int32))] [] zH_35)))))))))) ∧ (zr_27 = (9 : Int32) → (Q none zH_26))))))))))))))))))))) ∧ (zx5_1 = (H 75 5) → (Q none H)))) :
    Rm E mX3_planLend Q 0 [some (rf E 75), some (.int zx1), some (.int zx2), some (.int zx3), some (.int zx4), none, none, none, none] [] H := by
  refine rn_iload_n dX3_planLend_0 rfl ?_
  refine rn_bipush (x := (8 : Int32)) dX3_planLend_1 (by decide) ?_
  refine rn_imul dX3_planLend_3 ?_
  refine rn_iload_n dX3_planLend_4 rfl ?_
  refine rn_iadd dX3_planLend_5 ?_
  refine rn_bipush (x := (24 : Int32)) dX3_planLend_6 (by decide) ?_
  refine rn_imul dX3_planLend_8 ?_
  refine rn_iload_n dX3_planLend_9 rfl ?_
  refine rn_iadd dX3_planLend_10 ?_
  refine rn_bipush (x := (24 : Int32)) dX3_planLend_11 (by decide) ?_
  refine rn_imul dX3_planLend_13 ?_
  refine rn_iload dX3_planLend_14 rfl ?_
  refine rn_iadd dX3_planLend_16 ?_
  refine rn_istore dX3_planLend_17 rfl (Nat.le_of_ble_eq_true rfl) (fun zx5_1 ezx5_1 => ?_)
  replace hF := hF zx5_1 ezx5_1
  show Rn _ _ _ _ _ _ _ _ [some (rf E 75), some (.int zx1), some (.int zx2), some (.int zx3), some (.int zx4), some (.int zx5_1), none, none, none] _ _ _
  refine rn_iload dX3_planLend_19 rfl ?_
  refine rn_aload_n dX3_planLend_21 rfl ?_
  refine rm_geti flRX3_21 rfl (by decide) rfl dX3_planLend_22 ?_
  refine rn_icmp_ne (tgt := 29) dX3_planLend_25 (by decide) (fun hc_2 => ?_) (fun hc_2 => ?_)
  · replace hF := hF.1 hc_2
    refine rn_aload_n dX3_planLend_29 rfl ?_
    refine rn_iload dX3_planLend_30 rfl ?_
    refine rm_puti flRX3_21 rfl (by decide) rfl dX3_planLend_32 (fun zH_3 ezH_3 => ?_)
    replace hF := hF zH_3 ezH_3
    refine rn_aload_n dX3_planLend_35 rfl ?_
    refine rm_getr (r := 76) flRX3_12 rfl (by decide) rfl dX3_planLend_36 ?_
    refine rn_iconst (x := (-1 : Int32)) dX3_planLend_39 (by decide) ?_
    refine rn_iconst (x := (-1 : Int32)) dX3_planLend_40 (by decide) ?_
    refine rn_iconst (x := (-1 : Int32)) dX3_planLend_41 (by decide) ?_
    refine rm_callV (c0 := 76) (As := [.int (-1 : Int32), .int (-1 : Int32), .int (-1 : Int32)]) (st := []) mlRX3_51 mdX4_plan (Nat.le_of_ble_eq_true rfl) rfl (by decide) (by decide) rfl rfl rfl (Nat.le_of_ble_eq_true rfl) ⟨Nat.le_refl _, Nat.le_refl _⟩ dX3_planLend_42 ?_
    refine cm_mono hF (fun w zH_4 hF => ?_)
    obtain ⟨rfl, hF⟩ := hF
    refine rn_aload_n dX3_planLend_45 rfl ?_
    refine rm_getr (r := 22) flRX3_46 rfl (by decide) rfl dX3_planLend_46 ?_
    refine rm_getr (r := 24) flRX3_55 rfl (by decide) rfl dX3_planLend_49 ?_
    refine rn_iload_n dX3_planLend_52 rfl ?_
    obtain ⟨zj_5, hzj_5, hF⟩ := hF
    refine rj_aald (j := zj_5) (Cn := RX6) (r := (27 + 2 * zj_5)) hzj_5 (st_mid _ hzj_5.1).2 rfl (by decide) (by decide) rfl (by decide) dX3_planLend_53 ?_
    refine rn_astore dX3_planLend_54 rfl (Nat.le_of_ble_eq_true rfl) ?_
    show Rn _ _ _ _ _ _ _ _ [some (rf E 75), some (.int zx1), some (.int zx2), some (.int zx3), some (.int zx4), some (.int zx5_1), some (rf E (27 + 2 * zj_5)), none, none] _ _ _
    refine rn_aload_n dX3_planLend_56 rfl ?_
    refine rm_getr (r := 22) flRX3_46 rfl (by decide) rfl dX3_planLend_57 ?_
    refine rm_getr (r := 25) flRX3_60 rfl (by decide) rfl dX3_planLend_60 ?_
    refine rn_iload dX3_planLend_63 rfl ?_
    obtain ⟨zj_6, hzj_6, hF⟩ := hF
    refine rj_aald (j := zj_6) (Cn := RX6) (r := (28 + 2 * zj_6)) hzj_6 (st_beh _ hzj_6.1).2 rfl (by decide) (by decide) rfl (by decide) dX3_planLend_65 ?_
    refine rn_iload_n dX3_planLend_66 rfl ?_
    refine rm_callV (c0 := (28 + 2 * zj_6)) (As := [.int zx2]) (st := []) mlRX3_63 mdX6_placeOf (Nat.le_of_ble_eq_true rfl) (st_beh _ hzj_6.1).1.2.1 (st_beh _ hzj_6.1).1.1 (by decide) rfl rfl rfl (Nat.le_of_ble_eq_true rfl) ⟨Nat.le_refl _, Nat.le_refl _⟩ dX3_planLend_67 ?_
    refine cm_mono hF (fun w zH_7 hF => ?_)
    obtain ⟨zr_8, rfl, hF⟩ := hF
    refine rn_iload_n dX3_planLend_70 rfl ?_
    refine rn_icmp_ne (tgt := 84) dX3_planLend_71 (by decide) (fun hc_9 => ?_) (fun hc_9 => ?_)
    · replace hF := hF.1 hc_9
      refine rn_aload_n dX3_planLend_84 rfl ?_
      refine rm_getr (r := 76) flRX3_12 rfl (by decide) rfl dX3_planLend_85 ?_
      refine rm_geti flRX3_67 rfl (by decide) rfl dX3_planLend_88 ?_
      refine rn_if_eq (tgt := 111) dX3_planLend_91 (by decide) (fun hc_10 => ?_) (fun hc_10 => ?_)
      · replace hF := hF.1 hc_10
        exact rm_vret rfl dX3_planLend_111 hF
      · replace hF := hF.2 hc_10
        refine rn_iload dX3_planLend_94 rfl ?_
        refine rn_iload_n dX3_planLend_96 rfl ?_
        refine rn_icmp_lt (tgt := 111) dX3_planLend_97 (by decide) (fun hc_11 => ?_) (fun hc_11 => ?_)
        · replace hF := hF.1 hc_11
          exact rm_vret rfl dX3_planLend_111 hF
        · replace hF := hF.2 hc_11
          refine rn_aload dX3_planLend_100 rfl ?_
          refine rn_iload_n dX3_planLend_102 rfl ?_
          refine rm_callV (c0 := (27 + 2 * zj_5)) (As := [.int zx2]) (st := []) mlRX3_63 mdX6_placeOf (Nat.le_of_ble_eq_true rfl) (st_mid _ hzj_5.1).1.2.1 (st_mid _ hzj_5.1).1.1 (by decide) rfl rfl rfl (Nat.le_of_ble_eq_true rfl) ⟨Nat.le_refl _, Nat.le_refl _⟩ dX3_planLend_103 ?_
          refine cm_mono hF (fun w zH_12 hF => ?_)
          obtain ⟨zr_13, rfl, hF⟩ := hF
          refine rn_bipush (x := (9 : Int32)) dX3_planLend_106 (by decide) ?_
          refine rn_icmp_ne (tgt := 112) dX3_planLend_108 (by decide) (fun hc_14 => ?_) (fun hc_14 => ?_)
          · replace hF := hF.1 hc_14
            refine rn_aload_n dX3_planLend_112 rfl ?_
            refine rm_getr (r := 78) flRX3_30 rfl (by decide) rfl dX3_planLend_113 ?_
            refine rn_iconst (x := (0 : Int32)) dX3_planLend_116 (by decide) ?_
            refine rj_aald (j := 0) (Cn := RX6) (r := (80 + 0)) ⟨by decide, by decide⟩ (st_tri _ (by decide : 0 < 6)).2 rfl (by decide) (by decide) rfl (by decide) dX3_planLend_117 ?_
            refine rn_aload dX3_planLend_118 rfl ?_
            refine rm_callV (c0 := (80 + 0)) (As := [rf E (27 + 2 * zj_5)]) (st := []) mlRX3_70 mdX6_become (Nat.le_of_ble_eq_true rfl) (st_tri _ (by decide : 0 < 6)).1.2.1 (st_tri _ (by decide : 0 < 6)).1.1 (by decide) rfl rfl rfl (Nat.le_of_ble_eq_true rfl) ⟨Nat.le_refl _, Nat.le_refl _⟩ dX3_planLend_120 ?_
            refine cm_mono hF (fun w zH_15 hF => ?_)
            obtain ⟨rfl, hF⟩ := hF
            refine rn_aload_n dX3_planLend_123 rfl ?_
            refine rn_iload_n dX3_planLend_124 rfl ?_
            refine rn_iload_n dX3_planLend_125 rfl ?_
            refine rn_iload_n dX3_planLend_126 rfl ?_
            refine rn_iload dX3_planLend_127 rfl ?_
            refine rm_callV (c0 := 75) (As := [.int zx1, .int zx2, .int zx3, .int zx4]) (st := []) mlRX3_74 mdX3_leastHand (Nat.le_of_ble_eq_true rfl) rfl (by decide) (by decide) rfl rfl rfl (Nat.le_of_ble_eq_true rfl) ⟨Nat.le_refl _, Nat.le_refl _⟩ dX3_planLend_129 ?_
            refine cm_mono hF (fun w zH_16 hF => ?_)
            obtain ⟨zr_17, rfl, hF⟩ := hF
            refine ra_istore dX3_planLend_132 rfl (Nat.le_of_ble_eq_true rfl) ?_
            show Rn _ _ _ _ _ _ _ _ [some (rf E 75), some (.int zx1), some (.int zx2), some (.int zx3), some (.int zx4), some (.int zx5_1), some (rf E (27 + 2 * zj_5)), some (.int zr_17), none] _ _ _
            refine rn_iload dX3_planLend_134 rfl ?_
            refine rn_iconst (x := (-1 : Int32)) dX3_planLend_136 (by decide) ?_
            refine rn_icmp_eq (tgt := 151) dX3_planLend_137 (by decide) (fun hc_19 => ?_) (fun hc_19 => ?_)
            · replace hF := hF.1 hc_19
              refine rn_iconst (x := (0 : Int32)) dX3_planLend_151 (by decide) ?_
              refine ra_istore dX3_planLend_152 rfl (Nat.le_of_ble_eq_true rfl) ?_
              show Rn _ _ _ _ _ _ _ _ [some (rf E 75), some (.int zx1), some (.int zx2), some (.int zx3), some (.int zx4), some (.int zx5_1), some (rf E (27 + 2 * zj_5)), some (.int zr_17), some (.int (0 : Int32))] _ _ _
              exact rn_wk (L' := [some (rf E 75), some (.int zx1), some (.int zx2), some (.int zx3), some (.int zx4), none, some (rf E (27 + 2 * zj_5)), none, some (.int (0 : Int32))]) (⟨rfl, ⟨rfl, ⟨rfl, ⟨rfl, ⟨rfl, ⟨rfl, ⟨rfl, trivial⟩⟩⟩⟩⟩⟩⟩) hF
            · replace hF := hF.2 hc_19
              refine rn_aload_n dX3_planLend_140 rfl ?_
              refine rm_getr (r := 76) flRX3_12 rfl (by decide) rfl dX3_planLend_141 ?_
              refine rn_iconst (x := (1 : Int32)) dX3_planLend_144 (by decide) ?_
              refine rn_iload dX3_planLend_145 rfl ?_
              refine rn_iconst (x := (-1 : Int32)) dX3_planLend_147 (by decide) ?_
              refine rm_callV (c0 := 76) (As := [.int (1 : Int32), .int zr_17, .int (-1 : Int32)]) (st := []) mlRX3_51 mdX4_plan (Nat.le_of_ble_eq_true rfl) rfl (by decide) (by decide) rfl rfl rfl (Nat.le_of_ble_eq_true rfl) ⟨Nat.le_refl _, Nat.le_refl _⟩ dX3_planLend_148 ?_
              refine cm_mono hF (fun w zH_21 hF => ?_)
              obtain ⟨rfl, hF⟩ := hF
              refine rn_iconst (x := (0 : Int32)) dX3_planLend_151 (by decide) ?_
              refine ra_istore dX3_planLend_152 rfl (Nat.le_of_ble_eq_true rfl) ?_
              show Rn _ _ _ _ _ _ _ _ [some (rf E 75), some (.int zx1), some (.int zx2), some (.int zx3), some (.int zx4), some (.int zx5_1), some (rf E (27 + 2 * zj_5)), some (.int zr_17), some (.int (0 : Int32))] _ _ _
              exact rn_wk (L' := [some (rf E 75), some (.int zx1), some (.int zx2), some (.int zx3), some (.int zx4), none, some (rf E (27 + 2 * zj_5)), none, some (.int (0 : Int32))]) (⟨rfl, ⟨rfl, ⟨rfl, ⟨rfl, ⟨rfl, ⟨rfl, ⟨rfl, trivial⟩⟩⟩⟩⟩⟩⟩) hF
          · replace hF := hF.2 hc_14
            exact rm_vret rfl dX3_planLend_111 hF
    · replace hF := hF.2 hc_9
      refine rn_aload_n dX3_planLend_74 rfl ?_
      refine rm_getr (r := 76) flRX3_12 rfl (by decide) rfl dX3_planLend_75 ?_
      refine rn_iconst (x := (0 : Int32)) dX3_planLend_78 (by decide) ?_
      refine rn_iconst (x := (-1 : Int32)) dX3_planLend_79 (by decide) ?_
      refine rn_iconst (x := (-1 : Int32)) dX3_planLend_80 (by decide) ?_
      refine rm_callV (c0 := 76) (As := [.int (0 : Int32), .int (-1 : Int32), .int (-1 : Int32)]) (st := []) mlRX3_51 mdX4_plan (Nat.le_of_ble_eq_true rfl) rfl (by decide) (by decide) rfl rfl rfl (Nat.le_of_ble_eq_true rfl) ⟨Nat.le_refl _, Nat.le_refl _⟩ dX3_planLend_81 ?_
      refine cm_mono hF (fun w zH_23 hF => ?_)
      obtain ⟨rfl, hF⟩ := hF
      refine rn_aload_n dX3_planLend_84 rfl ?_
      refine rm_getr (r := 76) flRX3_12 rfl (by decide) rfl dX3_planLend_85 ?_
      refine rm_geti flRX3_67 rfl (by decide) rfl dX3_planLend_88 ?_
      refine rn_if_eq (tgt := 111) dX3_planLend_91 (by decide) (fun hc_24 => ?_) (fun hc_24 => ?_)
      · replace hF := hF.1 hc_24
        exact rm_vret rfl dX3_planLend_111 hF
      · replace hF := hF.2 hc_24
        refine rn_iload dX3_planLend_94 rfl ?_
        refine rn_iload_n dX3_planLend_96 rfl ?_
        refine rn_icmp_lt (tgt := 111) dX3_planLend_97 (by decide) (fun hc_25 => ?_) (fun hc_25 => ?_)
        · replace hF := hF.1 hc_25
          exact rm_vret rfl dX3_planLend_111 hF
        · replace hF := hF.2 hc_25
          refine rn_aload dX3_planLend_100 rfl ?_
          refine rn_iload_n dX3_planLend_102 rfl ?_
          refine rm_callV (c0 := (27 + 2 * zj_5)) (As := [.int zx2]) (st := []) mlRX3_63 mdX6_placeOf (Nat.le_of_ble_eq_true rfl) (st_mid _ hzj_5.1).1.2.1 (st_mid _ hzj_5.1).1.1 (by decide) rfl rfl rfl (Nat.le_of_ble_eq_true rfl) ⟨Nat.le_refl _, Nat.le_refl _⟩ dX3_planLend_103 ?_
          refine cm_mono hF (fun w zH_26 hF => ?_)
          obtain ⟨zr_27, rfl, hF⟩ := hF
          refine rn_bipush (x := (9 : Int32)) dX3_planLend_106 (by decide) ?_
          refine rn_icmp_ne (tgt := 112) dX3_planLend_108 (by decide) (fun hc_28 => ?_) (fun hc_28 => ?_)
          · replace hF := hF.1 hc_28
            refine rn_aload_n dX3_planLend_112 rfl ?_
            refine rm_getr (r := 78) flRX3_30 rfl (by decide) rfl dX3_planLend_113 ?_
            refine rn_iconst (x := (0 : Int32)) dX3_planLend_116 (by decide) ?_
            refine rj_aald (j := 0) (Cn := RX6) (r := (80 + 0)) ⟨by decide, by decide⟩ (st_tri _ (by decide : 0 < 6)).2 rfl (by decide) (by decide) rfl (by decide) dX3_planLend_117 ?_
            refine rn_aload dX3_planLend_118 rfl ?_
            refine rm_callV (c0 := (80 + 0)) (As := [rf E (27 + 2 * zj_5)]) (st := []) mlRX3_70 mdX6_become (Nat.le_of_ble_eq_true rfl) (st_tri _ (by decide : 0 < 6)).1.2.1 (st_tri _ (by decide : 0 < 6)).1.1 (by decide) rfl rfl rfl (Nat.le_of_ble_eq_true rfl) ⟨Nat.le_refl _, Nat.le_refl _⟩ dX3_planLend_120 ?_
            refine cm_mono hF (fun w zH_29 hF => ?_)
            obtain ⟨rfl, hF⟩ := hF
            refine rn_aload_n dX3_planLend_123 rfl ?_
            refine rn_iload_n dX3_planLend_124 rfl ?_
            refine rn_iload_n dX3_planLend_125 rfl ?_
            refine rn_iload_n dX3_planLend_126 rfl ?_
            refine rn_iload dX3_planLend_127 rfl ?_
            refine rm_callV (c0 := 75) (As := [.int zx1, .int zx2, .int zx3, .int zx4]) (st := []) mlRX3_74 mdX3_leastHand (Nat.le_of_ble_eq_true rfl) rfl (by decide) (by decide) rfl rfl rfl (Nat.le_of_ble_eq_true rfl) ⟨Nat.le_refl _, Nat.le_refl _⟩ dX3_planLend_129 ?_
            refine cm_mono hF (fun w zH_30 hF => ?_)
            obtain ⟨zr_31, rfl, hF⟩ := hF
            refine ra_istore dX3_planLend_132 rfl (Nat.le_of_ble_eq_true rfl) ?_
            show Rn _ _ _ _ _ _ _ _ [some (rf E 75), some (.int zx1), some (.int zx2), some (.int zx3), some (.int zx4), some (.int zx5_1), some (rf E (27 + 2 * zj_5)), some (.int zr_31), none] _ _ _
            refine rn_iload dX3_planLend_134 rfl ?_
            refine rn_iconst (x := (-1 : Int32)) dX3_planLend_136 (by decide) ?_
            refine rn_icmp_eq (tgt := 151) dX3_planLend_137 (by decide) (fun hc_33 => ?_) (fun hc_33 => ?_)
            · replace hF := hF.1 hc_33
              refine rn_iconst (x := (0 : Int32)) dX3_planLend_151 (by decide) ?_
              refine ra_istore dX3_planLend_152 rfl (Nat.le_of_ble_eq_true rfl) ?_
              show Rn _ _ _ _ _ _ _ _ [some (rf E 75), some (.int zx1), some (.int zx2), some (.int zx3), some (.int zx4), some (.int zx5_1), some (rf E (27 + 2 * zj_5)), some (.int zr_31), some (.int (0 : Int32))] _ _ _
              exact rn_wk (L' := [some (rf E 75), some (.int zx1), some (.int zx2), some (.int zx3), some (.int zx4), none, some (rf E (27 + 2 * zj_5)), none, some (.int (0 : Int32))]) (⟨rfl, ⟨rfl, ⟨rfl, ⟨rfl, ⟨rfl, ⟨rfl, ⟨rfl, trivial⟩⟩⟩⟩⟩⟩⟩) hF
            · replace hF := hF.2 hc_33
              refine rn_aload_n dX3_planLend_140 rfl ?_
              refine rm_getr (r := 76) flRX3_12 rfl (by decide) rfl dX3_planLend_141 ?_
              refine rn_iconst (x := (1 : Int32)) dX3_planLend_144 (by decide) ?_
              refine rn_iload dX3_planLend_145 rfl ?_
              refine rn_iconst (x := (-1 : Int32)) dX3_planLend_147 (by decide) ?_
              refine rm_callV (c0 := 76) (As := [.int (1 : Int32), .int zr_31, .int (-1 : Int32)]) (st := []) mlRX3_51 mdX4_plan (Nat.le_of_ble_eq_true rfl) rfl (by decide) (by decide) rfl rfl rfl (Nat.le_of_ble_eq_true rfl) ⟨Nat.le_refl _, Nat.le_refl _⟩ dX3_planLend_148 ?_
              refine cm_mono hF (fun w zH_35 hF => ?_)
              obtain ⟨rfl, hF⟩ := hF
              refine rn_iconst (x := (0 : Int32)) dX3_planLend_151 (by decide) ?_
              refine ra_istore dX3_planLend_152 rfl (Nat.le_of_ble_eq_true rfl) ?_
              show Rn _ _ _ _ _ _ _ _ [some (rf E 75), some (.int zx1), some (.int zx2), some (.int zx3), some (.int zx4), some (.int zx5_1), some (rf E (27 + 2 * zj_5)), some (.int zr_31), some (.int (0 : Int32))] _ _ _
              exact rn_wk (L' := [some (rf E 75), some (.int zx1), some (.int zx2), some (.int zx3), some (.int zx4), none, some (rf E (27 + 2 * zj_5)), none, some (.int (0 : Int32))]) (⟨rfl, ⟨rfl, ⟨rfl, ⟨rfl, ⟨rfl, ⟨rfl, ⟨rfl, trivial⟩⟩⟩⟩⟩⟩⟩) hF
          · replace hF := hF.2 hc_28
            exact rm_vret rfl dX3_planLend_111 hF
  · replace hF := hF.2 hc_2
    exact rm_vret rfl dX3_planLend_28 hF
theorem cmX3_planLend {E : En} {Q : Option Value → Hi → Prop} {H : Hi} {zx1 : Int32} {zx2 : Int32} {zx3 : Int32} {zx4 : Int32} 
    (hF : ∀ zx5_1 : Int32, zx5_1 = (((((zx1 * (8 : Int32)) + zx2) * (24 : Int32)) + zx3) * (24 : Int32)) + zx4 → ((¬ zx5_1 = (H 75 5) → (∀ zH_3 : Hi, zH_3 = up H 75 5 zx5_1 → (Cm E mX4_plan [rf E 76, .int (-1 : Int32), .int (-1 : Int32), .int (-1 : Int32)] zH_3 (fun w zH_4 => w = none ∧ (∃ zj_5 : Nat, (zj_5 < 24 ∧ zx3 = nI zj_5) ∧ (∃ zj_6 : Nat, (zj_6 < 24 ∧ zx4 = nI zj_6) ∧ (Cm E mX6_placeOf [rf E (28 + 2 * zj_6), .int zx2] zH_4 (fun w zH_7 => ∃ zr_8 : Int32, w = some (.int zr_8) ∧ ((¬ zr_8 = zx1 → (((zH_7 76 0) = 0 → (Q none zH_7)) ∧ (¬ (zH_7 76 0) = 0 → ((zx4 < zx3 → (Q none zH_7)) ∧ (¬ zx4 < zx3 → (Cm E mX6_placeOf [rf E (27 + 2 * zj_5), .int zx2] zH_7 (fun w zH_12 => ∃ zr_13 : Int32, w = some (.int zr_13) ∧ ((¬ zr_13 = (9 : Int32) → (Cm E mX6_become [rf E (80 + 0), rf E (27 + 2 * zj_5)] zH_12 (fun w zH_15 => w = none ∧ (Cm E mX3_leastHand [rf E 75, .int zx1, .int zx2, .int zx3, .int zx4] zH_15 (fun w zH_16 => ∃ zr_17 : Int32, w = some (.int zr_17) ∧ ((zr_17 = (-1 : Int32) → (Rm E mX3_planLend Q 154 [some (rf E 75), some (.int zx1), some (.int zx2), some (.int zx3), some (.int zx4), none, some (rf E (27 + 2 * zj_5)), none, some (.int (0 : Int32))] [] zH_16)) ∧ (¬ zr_17 = (-1 : Int32) → (Cm E mX4_plan [rf E 76, .int (1 : Int32), .int zr_17, .int (-1 : Int32)] zH_16 (fun w zH_21 => w = none ∧ (Rm E mX3_planLend Q 154 [some (rf E 75), some (.int zx1), some (.int zx2), some (.int zx3), some (.int zx4), none, some (rf E (27 + 2 * zj_5)), none, some (.int (0 : Int32))] [] zH_21)))))))))) ∧ (zr_13 = (9 : Int32) → (Q none zH_12)))))))))) ∧ (zr_8 = zx1 → (Cm E mX4_plan [rf E 76, .int (0 : Int32), .int (-1 : Int32), .int (-1 : Int32)] zH_7 (fun w zH_23 => w = none ∧ (((zH_23 76 0) = 0 → (Q none zH_23)) ∧ (¬ (zH_23 76 0) = 0 → ((zx4 < zx3 → (Q none zH_23)) ∧ (¬ zx4 < zx3 → (Cm E mX6_placeOf [rf E (27 + 2 * zj_5), .int zx2] zH_23 (fun w zH_26 => ∃ zr_27 : Int32, w = some (.int zr_27) ∧ ((¬ zr_27 = (9 : Int32) → (Cm E mX6_become [rf E (80 + 0), rf E (27 + 2 * zj_5)] zH_26 (fun w zH_29 => w = none ∧ (Cm E mX3_leastHand [rf E 75, .int zx1, .int zx2, .int zx3, .int zx4] zH_29 (fun w zH_30 => ∃ zr_31 : Int32, w = some (.int zr_31) ∧ ((zr_31 = (-1 : Int32) → (Rm E mX3_planLend Q 154 [some (rf E 75), some (.int zx1), some (.int zx2), some (.int zx3), some (.int zx4), none, some (rf E (27 + 2 * zj_5)), none, some (.int (0 : Int32))] [] zH_30)) ∧ (¬ zr_31 = (-1 : Int32) → (Cm E mX4_plan [rf E 76, .int (1 : Int32), .int zr_31, .int (-1 : Int32)] zH_30 (fun w zH_35 => w = none ∧ (Rm E mX3_planLend Q 154 [some (rf E 75), some (.int zx1), some (.int zx2), some (.int zx3), some (.int zx4), none, some (rf E (27 + 2 * zj_5)), none, some (.int (0 : Int32))] [] zH_35)))))))))) ∧ (zr_27 = (9 : Int32) → (Q none zH_26))))))))))))))))))))) ∧ (zx5_1 = (H 75 5) → (Q none H)))) :
    Cm E mX3_planLend [rf E 75, .int zx1, .int zx2, .int zx3, .int zx4] H Q :=
  cm_of (by decide +kernel : plainName RX3 = true) (Nat.le_of_ble_eq_true rfl) rfl (sgX3_planLend_0  hF)
theorem sgX3_planLend_154 {E : En} {Q : Option Value → Hi → Prop} {H : Hi} {zx1 : Int32} {zx2 : Int32} {zx3 : Int32} {zx4 : Int32} {zs6 : Nat} {zx8 : Int32} (hs6 : isSt zs6)
    (hF : ((128 : Int32) ≤ zx8 → (Q none H)) ∧ (¬ (128 : Int32) ≤ zx8 → ((¬ (H 76 0) = (-1 : Int32) → (Q none H)) ∧ ((H 76 0) = (-1 : Int32) → (Cm E mX6_become [rf E (80 + 0), rf E zs6] H (fun w zH_3 => w = none ∧ (Cm E mX3_matters [rf E 75, .int zx8, .int zx2] zH_3 (fun w zH_4 => ∃ zr_5 : Int32, w = some (.int zr_5) ∧ ((zr_5 = 0 → (∀ zx8_7 : Int32, zx8_7 = zx8 + (1 : Int32) → (Rm E mX3_planLend Q 154 [some (rf E 75), some (.int zx1), some (.int zx2), some (.int zx3), some (.int zx4), none, some (rf E zs6), none, some (.int zx8_7)] [] zH_4))) ∧ (¬ zr_5 = 0 → (Cm E mX2_reach [rf E 22, rf E (80 + 0), .int zx8] zH_4 (fun w zH_8 => ∃ zr_9 : Int32, w = some (.int zr_9) ∧ ((zr_9 = 0 → (∀ zx8_11 : Int32, zx8_11 = zx8 + (1 : Int32) → (Rm E mX3_planLend Q 154 [some (rf E 75), some (.int zx1), some (.int zx2), some (.int zx3), some (.int zx4), none, some (rf E zs6), none, some (.int zx8_11)] [] zH_8))) ∧ (¬ zr_9 = 0 → (Cm E mX3_leastHand [rf E 75, .int zx1, .int zx2, .int zx3, .int zx4] zH_8 (fun w zH_12 => ∃ zr_13 : Int32, w = some (.int zr_13) ∧ ((zr_13 = (-1 : Int32) → (∀ zx8_16 : Int32, zx8_16 = zx8 + (1 : Int32) → (Rm E mX3_planLend Q 154 [some (rf E 75), some (.int zx1), some (.int zx2), some (.int zx3), some (.int zx4), none, some (rf E zs6), none, some (.int zx8_16)] [] zH_12))) ∧ (¬ zr_13 = (-1 : Int32) → (Cm E mX4_plan [rf E 76, .int (2 : Int32), .int zx8, .int zr_13] zH_12 (fun w zH_17 => w = none ∧ (∀ zx8_18 : Int32, zx8_18 = zx8 + (1 : Int32) → (Rm E mX3_planLend Q 154 [some (rf E 75), some (.int zx1), some (.int zx2), some (.int zx3), some (.int zx4), none, some (rf E zs6), none, some (.int zx8_18)] [] zH_17)))))))))))))))))))))) :
    Rm E mX3_planLend Q 154 [some (rf E 75), some (.int zx1), some (.int zx2), some (.int zx3), some (.int zx4), none, some (rf E zs6), none, some (.int zx8)] [] H := by
  refine rn_iload dX3_planLend_154 rfl ?_
  refine rn_sipush (x := (128 : Int32)) dX3_planLend_156 (by decide) ?_
  refine rn_icmp_ge (tgt := 247) dX3_planLend_159 (by decide) (fun hc_1 => ?_) (fun hc_1 => ?_)
  · replace hF := hF.1 hc_1
    exact rm_vret rfl dX3_planLend_247 hF
  · replace hF := hF.2 hc_1
    refine rn_aload_n dX3_planLend_162 rfl ?_
    refine rm_getr (r := 76) flRX3_12 rfl (by decide) rfl dX3_planLend_163 ?_
    refine rm_geti flRX3_67 rfl (by decide) rfl dX3_planLend_166 ?_
    refine rn_iconst (x := (-1 : Int32)) dX3_planLend_169 (by decide) ?_
    refine rn_icmp_ne (tgt := 247) dX3_planLend_170 (by decide) (fun hc_2 => ?_) (fun hc_2 => ?_)
    · replace hF := hF.1 hc_2
      exact rm_vret rfl dX3_planLend_247 hF
    · replace hF := hF.2 hc_2
      refine rn_aload_n dX3_planLend_173 rfl ?_
      refine rm_getr (r := 78) flRX3_30 rfl (by decide) rfl dX3_planLend_174 ?_
      refine rn_iconst (x := (0 : Int32)) dX3_planLend_177 (by decide) ?_
      refine rj_aald (j := 0) (Cn := RX6) (r := (80 + 0)) ⟨by decide, by decide⟩ (st_tri _ (by decide : 0 < 6)).2 rfl (by decide) (by decide) rfl (by decide) dX3_planLend_178 ?_
      refine rn_aload dX3_planLend_179 rfl ?_
      refine rm_callV (c0 := (80 + 0)) (As := [rf E zs6]) (st := []) mlRX3_70 mdX6_become (Nat.le_of_ble_eq_true rfl) (st_tri _ (by decide : 0 < 6)).1.2.1 (st_tri _ (by decide : 0 < 6)).1.1 (by decide) rfl rfl rfl (Nat.le_of_ble_eq_true rfl) ⟨Nat.le_refl _, Nat.le_refl _⟩ dX3_planLend_181 ?_
      refine cm_mono hF (fun w zH_3 hF => ?_)
      obtain ⟨rfl, hF⟩ := hF
      refine rn_aload_n dX3_planLend_184 rfl ?_
      refine rn_iload dX3_planLend_185 rfl ?_
      refine rn_iload_n dX3_planLend_187 rfl ?_
      refine rm_callV (c0 := 75) (As := [.int zx8, .int zx2]) (st := []) mlRX3_78 mdX3_matters (Nat.le_of_ble_eq_true rfl) rfl (by decide) (by decide) rfl rfl rfl (Nat.le_of_ble_eq_true rfl) ⟨Nat.le_refl _, Nat.le_refl _⟩ dX3_planLend_188 ?_
      refine cm_mono hF (fun w zH_4 hF => ?_)
      obtain ⟨zr_5, rfl, hF⟩ := hF
      refine rn_if_eq (tgt := 241) dX3_planLend_191 (by decide) (fun hc_6 => ?_) (fun hc_6 => ?_)
      · replace hF := hF.1 hc_6
        refine rn_iinc (w := (1 : Int32)) dX3_planLend_241 rfl (by decide) rfl (Nat.le_of_ble_eq_true rfl) (fun zx8_7 ezx8_7 => ?_)
        replace hF := hF zx8_7 ezx8_7
        show Rn _ _ _ _ _ _ _ _ [some (rf E 75), some (.int zx1), some (.int zx2), some (.int zx3), some (.int zx4), none, some (rf E zs6), none, some (.int zx8_7)] _ _ _
        refine rn_goto (tgt := 154) dX3_planLend_244 (by decide) ?_
        exact rn_wk (L' := [some (rf E 75), some (.int zx1), some (.int zx2), some (.int zx3), some (.int zx4), none, some (rf E zs6), none, some (.int zx8_7)]) (⟨rfl, ⟨rfl, ⟨rfl, ⟨rfl, ⟨rfl, ⟨rfl, ⟨rfl, trivial⟩⟩⟩⟩⟩⟩⟩) hF
      · replace hF := hF.2 hc_6
        refine rn_aload_n dX3_planLend_194 rfl ?_
        refine rm_getr (r := 22) flRX3_46 rfl (by decide) rfl dX3_planLend_195 ?_
        refine rn_aload_n dX3_planLend_198 rfl ?_
        refine rm_getr (r := 78) flRX3_30 rfl (by decide) rfl dX3_planLend_199 ?_
        refine rn_iconst (x := (0 : Int32)) dX3_planLend_202 (by decide) ?_
        refine rj_aald (j := 0) (Cn := RX6) (r := (80 + 0)) ⟨by decide, by decide⟩ (st_tri _ (by decide : 0 < 6)).2 rfl (by decide) (by decide) rfl (by decide) dX3_planLend_203 ?_
        refine rn_iload dX3_planLend_204 rfl ?_
        refine rm_callV (c0 := 22) (As := [rf E (80 + 0), .int zx8]) (st := []) mlRX3_82 mdX2_reach (Nat.le_of_ble_eq_true rfl) rfl (by decide) (by decide) rfl rfl rfl (Nat.le_of_ble_eq_true rfl) ⟨Nat.le_refl _, Nat.le_refl _⟩ dX3_planLend_206 ?_
        refine cm_mono hF (fun w zH_8 hF => ?_)
        obtain ⟨zr_9, rfl, hF⟩ := hF
        refine rn_if_eq (tgt := 241) dX3_planLend_209 (by decide) (fun hc_10 => ?_) (fun hc_10 => ?_)
        · replace hF := hF.1 hc_10
          refine rn_iinc (w := (1 : Int32)) dX3_planLend_241 rfl (by decide) rfl (Nat.le_of_ble_eq_true rfl) (fun zx8_11 ezx8_11 => ?_)
          replace hF := hF zx8_11 ezx8_11
          show Rn _ _ _ _ _ _ _ _ [some (rf E 75), some (.int zx1), some (.int zx2), some (.int zx3), some (.int zx4), none, some (rf E zs6), none, some (.int zx8_11)] _ _ _
          refine rn_goto (tgt := 154) dX3_planLend_244 (by decide) ?_
          exact rn_wk (L' := [some (rf E 75), some (.int zx1), some (.int zx2), some (.int zx3), some (.int zx4), none, some (rf E zs6), none, some (.int zx8_11)]) (⟨rfl, ⟨rfl, ⟨rfl, ⟨rfl, ⟨rfl, ⟨rfl, ⟨rfl, trivial⟩⟩⟩⟩⟩⟩⟩) hF
        · replace hF := hF.2 hc_10
          refine rn_aload_n dX3_planLend_212 rfl ?_
          refine rn_iload_n dX3_planLend_213 rfl ?_
          refine rn_iload_n dX3_planLend_214 rfl ?_
          refine rn_iload_n dX3_planLend_215 rfl ?_
          refine rn_iload dX3_planLend_216 rfl ?_
          refine rm_callV (c0 := 75) (As := [.int zx1, .int zx2, .int zx3, .int zx4]) (st := []) mlRX3_74 mdX3_leastHand (Nat.le_of_ble_eq_true rfl) rfl (by decide) (by decide) rfl rfl rfl (Nat.le_of_ble_eq_true rfl) ⟨Nat.le_refl _, Nat.le_refl _⟩ dX3_planLend_218 ?_
          refine cm_mono hF (fun w zH_12 hF => ?_)
          obtain ⟨zr_13, rfl, hF⟩ := hF
          refine ra_istore dX3_planLend_221 rfl (Nat.le_of_ble_eq_true rfl) ?_
          show Rn _ _ _ _ _ _ _ _ [some (rf E 75), some (.int zx1), some (.int zx2), some (.int zx3), some (.int zx4), none, some (rf E zs6), some (.int zr_13), some (.int zx8)] _ _ _
          refine rn_iload dX3_planLend_223 rfl ?_
          refine rn_iconst (x := (-1 : Int32)) dX3_planLend_225 (by decide) ?_
          refine rn_icmp_eq (tgt := 241) dX3_planLend_226 (by decide) (fun hc_15 => ?_) (fun hc_15 => ?_)
          · replace hF := hF.1 hc_15
            refine rn_iinc (w := (1 : Int32)) dX3_planLend_241 rfl (by decide) rfl (Nat.le_of_ble_eq_true rfl) (fun zx8_16 ezx8_16 => ?_)
            replace hF := hF zx8_16 ezx8_16
            show Rn _ _ _ _ _ _ _ _ [some (rf E 75), some (.int zx1), some (.int zx2), some (.int zx3), some (.int zx4), none, some (rf E zs6), some (.int zr_13), some (.int zx8_16)] _ _ _
            refine rn_goto (tgt := 154) dX3_planLend_244 (by decide) ?_
            exact rn_wk (L' := [some (rf E 75), some (.int zx1), some (.int zx2), some (.int zx3), some (.int zx4), none, some (rf E zs6), none, some (.int zx8_16)]) (⟨rfl, ⟨rfl, ⟨rfl, ⟨rfl, ⟨rfl, ⟨rfl, ⟨rfl, trivial⟩⟩⟩⟩⟩⟩⟩) hF
          · replace hF := hF.2 hc_15
            refine rn_aload_n dX3_planLend_229 rfl ?_
            refine rm_getr (r := 76) flRX3_12 rfl (by decide) rfl dX3_planLend_230 ?_
            refine rn_iconst (x := (2 : Int32)) dX3_planLend_233 (by decide) ?_
            refine rn_iload dX3_planLend_234 rfl ?_
            refine rn_iload dX3_planLend_236 rfl ?_
            refine rm_callV (c0 := 76) (As := [.int (2 : Int32), .int zx8, .int zr_13]) (st := []) mlRX3_51 mdX4_plan (Nat.le_of_ble_eq_true rfl) rfl (by decide) (by decide) rfl rfl rfl (Nat.le_of_ble_eq_true rfl) ⟨Nat.le_refl _, Nat.le_refl _⟩ dX3_planLend_238 ?_
            refine cm_mono hF (fun w zH_17 hF => ?_)
            obtain ⟨rfl, hF⟩ := hF
            refine rn_iinc (w := (1 : Int32)) dX3_planLend_241 rfl (by decide) rfl (Nat.le_of_ble_eq_true rfl) (fun zx8_18 ezx8_18 => ?_)
            replace hF := hF zx8_18 ezx8_18
            show Rn _ _ _ _ _ _ _ _ [some (rf E 75), some (.int zx1), some (.int zx2), some (.int zx3), some (.int zx4), none, some (rf E zs6), some (.int zr_13), some (.int zx8_18)] _ _ _
            refine rn_goto (tgt := 154) dX3_planLend_244 (by decide) ?_
            exact rn_wk (L' := [some (rf E 75), some (.int zx1), some (.int zx2), some (.int zx3), some (.int zx4), none, some (rf E zs6), none, some (.int zx8_18)]) (⟨rfl, ⟨rfl, ⟨rfl, ⟨rfl, ⟨rfl, ⟨rfl, ⟨rfl, trivial⟩⟩⟩⟩⟩⟩⟩) hF
theorem sgX3_leastHand_0 {E : En} {Q : Option Value → Hi → Prop} {H : Hi} {zx1 : Int32} {zx2 : Int32} {zx3 : Int32} {zx4 : Int32} 
    (hF : Cm E mX6_become [rf E (80 + 1), rf E (80 + 0)] H (fun w zH_1 => w = none ∧ (Rm E mX3_leastHand Q 22 [some (rf E 75), some (.int zx1), some (.int zx2), some (.int zx3), some (.int zx4), some (rf E (80 + 1)), some (.int (0 : Int32))] [] zH_1))) :
    Rm E mX3_leastHand Q 0 [some (rf E 75), some (.int zx1), some (.int zx2), some (.int zx3), some (.int zx4), none, none] [] H := by
  refine rn_aload_n dX3_leastHand_0 rfl ?_
  refine rm_getr (r := 78) flRX3_30 rfl (by decide) rfl dX3_leastHand_1 ?_
  refine rn_iconst (x := (1 : Int32)) dX3_leastHand_4 (by decide) ?_
  refine rj_aald (j := 1) (Cn := RX6) (r := (80 + 1)) ⟨by decide, by decide⟩ (st_tri _ (by decide : 1 < 6)).2 rfl (by decide) (by decide) rfl (by decide) dX3_leastHand_5 ?_
  refine rn_astore dX3_leastHand_6 rfl (Nat.le_of_ble_eq_true rfl) ?_
  show Rn _ _ _ _ _ _ _ _ [some (rf E 75), some (.int zx1), some (.int zx2), some (.int zx3), some (.int zx4), some (rf E (80 + 1)), none] _ _ _
  refine rn_aload dX3_leastHand_8 rfl ?_
  refine rn_aload_n dX3_leastHand_10 rfl ?_
  refine rm_getr (r := 78) flRX3_30 rfl (by decide) rfl dX3_leastHand_11 ?_
  refine rn_iconst (x := (0 : Int32)) dX3_leastHand_14 (by decide) ?_
  refine rj_aald (j := 0) (Cn := RX6) (r := (80 + 0)) ⟨by decide, by decide⟩ (st_tri _ (by decide : 0 < 6)).2 rfl (by decide) (by decide) rfl (by decide) dX3_leastHand_15 ?_
  refine rm_callV (c0 := (80 + 1)) (As := [rf E (80 + 0)]) (st := []) mlRX3_70 mdX6_become (Nat.le_of_ble_eq_true rfl) (st_tri _ (by decide : 1 < 6)).1.2.1 (st_tri _ (by decide : 1 < 6)).1.1 (by decide) rfl rfl rfl (Nat.le_of_ble_eq_true rfl) ⟨Nat.le_refl _, Nat.le_refl _⟩ dX3_leastHand_16 ?_
  refine cm_mono hF (fun w zH_1 hF => ?_)
  obtain ⟨rfl, hF⟩ := hF
  refine rn_iconst (x := (0 : Int32)) dX3_leastHand_19 (by decide) ?_
  refine ra_istore dX3_leastHand_20 rfl (Nat.le_of_ble_eq_true rfl) ?_
  show Rn _ _ _ _ _ _ _ _ [some (rf E 75), some (.int zx1), some (.int zx2), some (.int zx3), some (.int zx4), some (rf E (80 + 1)), some (.int (0 : Int32))] _ _ _
  exact rn_wk (L' := [some (rf E 75), some (.int zx1), some (.int zx2), some (.int zx3), some (.int zx4), some (rf E (80 + 1)), some (.int (0 : Int32))]) (⟨rfl, ⟨rfl, ⟨rfl, ⟨rfl, ⟨rfl, ⟨rfl, ⟨rfl, trivial⟩⟩⟩⟩⟩⟩⟩) hF
theorem cmX3_leastHand {E : En} {Q : Option Value → Hi → Prop} {H : Hi} {zx1 : Int32} {zx2 : Int32} {zx3 : Int32} {zx4 : Int32} 
    (hF : Cm E mX6_become [rf E (80 + 1), rf E (80 + 0)] H (fun w zH_1 => w = none ∧ (Rm E mX3_leastHand Q 22 [some (rf E 75), some (.int zx1), some (.int zx2), some (.int zx3), some (.int zx4), some (rf E (80 + 1)), some (.int (0 : Int32))] [] zH_1))) :
    Cm E mX3_leastHand [rf E 75, .int zx1, .int zx2, .int zx3, .int zx4] H Q :=
  cm_of (by decide +kernel : plainName RX3 = true) (Nat.le_of_ble_eq_true rfl) rfl (sgX3_leastHand_0  hF)
theorem sgX3_leastHand_22 {E : En} {Q : Option Value → Hi → Prop} {H : Hi} {zx1 : Int32} {zx2 : Int32} {zx3 : Int32} {zx4 : Int32} {zs5 : Nat} {zx6 : Int32} (hs5 : isSt zs5)
    (hF : ((128 : Int32) ≤ zx6 → (Q (some (.int (-1 : Int32))) H)) ∧ (¬ (128 : Int32) ≤ zx6 → (Cm E mX3_matters [rf E 75, .int zx6, .int zx2] H (fun w zH_2 => ∃ zr_3 : Int32, w = some (.int zr_3) ∧ ((zr_3 = 0 → (∀ zx6_5 : Int32, zx6_5 = zx6 + (1 : Int32) → (Rm E mX3_leastHand Q 22 [some (rf E 75), some (.int zx1), some (.int zx2), some (.int zx3), some (.int zx4), some (rf E zs5), some (.int zx6_5)] [] zH_2))) ∧ (¬ zr_3 = 0 → (Cm E mX2_reach [rf E 22, rf E zs5, .int zx6] zH_2 (fun w zH_6 => ∃ zr_7 : Int32, w = some (.int zr_7) ∧ ((zr_7 = 0 → (∀ zx6_9 : Int32, zx6_9 = zx6 + (1 : Int32) → (Rm E mX3_leastHand Q 22 [some (rf E 75), some (.int zx1), some (.int zx2), some (.int zx3), some (.int zx4), some (rf E zs5), some (.int zx6_9)] [] zH_6))) ∧ (¬ zr_7 = 0 → (Cm E mX2_goOn [rf E 22, rf E zs5, .int zx3, .int zx4] zH_6 (fun w zH_10 => w = none ∧ (Cm E mX6_placeOf [rf E zs5, .int zx2] zH_10 (fun w zH_11 => ∃ zr_12 : Int32, w = some (.int zr_12) ∧ ((¬ zr_12 = zx1 → (Cm E mX6_become [rf E zs5, rf E (80 + 0)] zH_11 (fun w zH_14 => w = none ∧ (∀ zx6_15 : Int32, zx6_15 = zx6 + (1 : Int32) → (Rm E mX3_leastHand Q 22 [some (rf E 75), some (.int zx1), some (.int zx2), some (.int zx3), some (.int zx4), some (rf E zs5), some (.int zx6_15)] [] zH_14))))) ∧ (zr_12 = zx1 → (Q (some (.int zx6)) zH_11))))))))))))))))) :
    Rm E mX3_leastHand Q 22 [some (rf E 75), some (.int zx1), some (.int zx2), some (.int zx3), some (.int zx4), some (rf E zs5), some (.int zx6)] [] H := by
  refine rn_iload dX3_leastHand_22 rfl ?_
  refine rn_sipush (x := (128 : Int32)) dX3_leastHand_24 (by decide) ?_
  refine rn_icmp_ge (tgt := 96) dX3_leastHand_27 (by decide) (fun hc_1 => ?_) (fun hc_1 => ?_)
  · replace hF := hF.1 hc_1
    refine rn_iconst (x := (-1 : Int32)) dX3_leastHand_96 (by decide) ?_
    exact rm_iret rfl dX3_leastHand_97 hF
  · replace hF := hF.2 hc_1
    refine rn_aload_n dX3_leastHand_30 rfl ?_
    refine rn_iload dX3_leastHand_31 rfl ?_
    refine rn_iload_n dX3_leastHand_33 rfl ?_
    refine rm_callV (c0 := 75) (As := [.int zx6, .int zx2]) (st := []) mlRX3_78 mdX3_matters (Nat.le_of_ble_eq_true rfl) rfl (by decide) (by decide) rfl rfl rfl (Nat.le_of_ble_eq_true rfl) ⟨Nat.le_refl _, Nat.le_refl _⟩ dX3_leastHand_34 ?_
    refine cm_mono hF (fun w zH_2 hF => ?_)
    obtain ⟨zr_3, rfl, hF⟩ := hF
    refine rn_if_eq (tgt := 90) dX3_leastHand_37 (by decide) (fun hc_4 => ?_) (fun hc_4 => ?_)
    · replace hF := hF.1 hc_4
      refine rn_iinc (w := (1 : Int32)) dX3_leastHand_90 rfl (by decide) rfl (Nat.le_of_ble_eq_true rfl) (fun zx6_5 ezx6_5 => ?_)
      replace hF := hF zx6_5 ezx6_5
      show Rn _ _ _ _ _ _ _ _ [some (rf E 75), some (.int zx1), some (.int zx2), some (.int zx3), some (.int zx4), some (rf E zs5), some (.int zx6_5)] _ _ _
      refine rn_goto (tgt := 22) dX3_leastHand_93 (by decide) ?_
      exact rn_wk (L' := [some (rf E 75), some (.int zx1), some (.int zx2), some (.int zx3), some (.int zx4), some (rf E zs5), some (.int zx6_5)]) (⟨rfl, ⟨rfl, ⟨rfl, ⟨rfl, ⟨rfl, ⟨rfl, ⟨rfl, trivial⟩⟩⟩⟩⟩⟩⟩) hF
    · replace hF := hF.2 hc_4
      refine rn_aload_n dX3_leastHand_40 rfl ?_
      refine rm_getr (r := 22) flRX3_46 rfl (by decide) rfl dX3_leastHand_41 ?_
      refine rn_aload dX3_leastHand_44 rfl ?_
      refine rn_iload dX3_leastHand_46 rfl ?_
      refine rm_callV (c0 := 22) (As := [rf E zs5, .int zx6]) (st := []) mlRX3_82 mdX2_reach (Nat.le_of_ble_eq_true rfl) rfl (by decide) (by decide) rfl rfl rfl (Nat.le_of_ble_eq_true rfl) ⟨Nat.le_refl _, Nat.le_refl _⟩ dX3_leastHand_48 ?_
      refine cm_mono hF (fun w zH_6 hF => ?_)
      obtain ⟨zr_7, rfl, hF⟩ := hF
      refine rn_if_eq (tgt := 90) dX3_leastHand_51 (by decide) (fun hc_8 => ?_) (fun hc_8 => ?_)
      · replace hF := hF.1 hc_8
        refine rn_iinc (w := (1 : Int32)) dX3_leastHand_90 rfl (by decide) rfl (Nat.le_of_ble_eq_true rfl) (fun zx6_9 ezx6_9 => ?_)
        replace hF := hF zx6_9 ezx6_9
        show Rn _ _ _ _ _ _ _ _ [some (rf E 75), some (.int zx1), some (.int zx2), some (.int zx3), some (.int zx4), some (rf E zs5), some (.int zx6_9)] _ _ _
        refine rn_goto (tgt := 22) dX3_leastHand_93 (by decide) ?_
        exact rn_wk (L' := [some (rf E 75), some (.int zx1), some (.int zx2), some (.int zx3), some (.int zx4), some (rf E zs5), some (.int zx6_9)]) (⟨rfl, ⟨rfl, ⟨rfl, ⟨rfl, ⟨rfl, ⟨rfl, ⟨rfl, trivial⟩⟩⟩⟩⟩⟩⟩) hF
      · replace hF := hF.2 hc_8
        refine rn_aload_n dX3_leastHand_54 rfl ?_
        refine rm_getr (r := 22) flRX3_46 rfl (by decide) rfl dX3_leastHand_55 ?_
        refine rn_aload dX3_leastHand_58 rfl ?_
        refine rn_iload_n dX3_leastHand_60 rfl ?_
        refine rn_iload dX3_leastHand_61 rfl ?_
        refine rm_callV (c0 := 22) (As := [rf E zs5, .int zx3, .int zx4]) (st := []) mlRX3_86 mdX2_goOn (Nat.le_of_ble_eq_true rfl) rfl (by decide) (by decide) rfl rfl rfl (Nat.le_of_ble_eq_true rfl) ⟨Nat.le_refl _, Nat.le_refl _⟩ dX3_leastHand_63 ?_
        refine cm_mono hF (fun w zH_10 hF => ?_)
        obtain ⟨rfl, hF⟩ := hF
        refine rn_aload dX3_leastHand_66 rfl ?_
        refine rn_iload_n dX3_leastHand_68 rfl ?_
        refine rm_callV (c0 := zs5) (As := [.int zx2]) (st := []) mlRX3_63 mdX6_placeOf (Nat.le_of_ble_eq_true rfl) hs5.2.1 hs5.1 (by decide) rfl rfl rfl (Nat.le_of_ble_eq_true rfl) ⟨Nat.le_refl _, Nat.le_refl _⟩ dX3_leastHand_69 ?_
        refine cm_mono hF (fun w zH_11 hF => ?_)
        obtain ⟨zr_12, rfl, hF⟩ := hF
        refine rn_iload_n dX3_leastHand_72 rfl ?_
        refine rn_icmp_ne (tgt := 79) dX3_leastHand_73 (by decide) (fun hc_13 => ?_) (fun hc_13 => ?_)
        · replace hF := hF.1 hc_13
          refine rn_aload dX3_leastHand_79 rfl ?_
          refine rn_aload_n dX3_leastHand_81 rfl ?_
          refine rm_getr (r := 78) flRX3_30 rfl (by decide) rfl dX3_leastHand_82 ?_
          refine rn_iconst (x := (0 : Int32)) dX3_leastHand_85 (by decide) ?_
          refine rj_aald (j := 0) (Cn := RX6) (r := (80 + 0)) ⟨by decide, by decide⟩ (st_tri _ (by decide : 0 < 6)).2 rfl (by decide) (by decide) rfl (by decide) dX3_leastHand_86 ?_
          refine rm_callV (c0 := zs5) (As := [rf E (80 + 0)]) (st := []) mlRX3_70 mdX6_become (Nat.le_of_ble_eq_true rfl) hs5.2.1 hs5.1 (by decide) rfl rfl rfl (Nat.le_of_ble_eq_true rfl) ⟨Nat.le_refl _, Nat.le_refl _⟩ dX3_leastHand_87 ?_
          refine cm_mono hF (fun w zH_14 hF => ?_)
          obtain ⟨rfl, hF⟩ := hF
          refine rn_iinc (w := (1 : Int32)) dX3_leastHand_90 rfl (by decide) rfl (Nat.le_of_ble_eq_true rfl) (fun zx6_15 ezx6_15 => ?_)
          replace hF := hF zx6_15 ezx6_15
          show Rn _ _ _ _ _ _ _ _ [some (rf E 75), some (.int zx1), some (.int zx2), some (.int zx3), some (.int zx4), some (rf E zs5), some (.int zx6_15)] _ _ _
          refine rn_goto (tgt := 22) dX3_leastHand_93 (by decide) ?_
          exact rn_wk (L' := [some (rf E 75), some (.int zx1), some (.int zx2), some (.int zx3), some (.int zx4), some (rf E zs5), some (.int zx6_15)]) (⟨rfl, ⟨rfl, ⟨rfl, ⟨rfl, ⟨rfl, ⟨rfl, ⟨rfl, trivial⟩⟩⟩⟩⟩⟩⟩) hF
        · replace hF := hF.2 hc_13
          refine rn_iload dX3_leastHand_76 rfl ?_
          exact rm_iret rfl dX3_leastHand_78 hF
theorem sgX3_matters_0 {E : En} {Q : Option Value → Hi → Prop} {H : Hi} {zx1 : Int32} {zx2 : Int32} 
    (hF : ((H 11 0) < (H 5 8) → (Q (some (.int (1 : Int32))) H)) ∧ (¬ (H 11 0) < (H 5 8) → ((¬ (zx1 &&& (7 : Int32)) = zx2 → (Q (some (.int (0 : Int32))) H)) ∧ ((zx1 &&& (7 : Int32)) = zx2 → (Q (some (.int (1 : Int32))) H))))) :
    Rm E mX3_matters Q 0 [some (rf E 75), some (.int zx1), some (.int zx2)] [] H := by
  refine rn_aload_n dX3_matters_0 rfl ?_
  refine rm_getr (r := 5) flRX3_38 rfl (by decide) rfl dX3_matters_1 ?_
  refine rm_geti flRX3_90 rfl (by decide) rfl dX3_matters_4 ?_
  refine rn_aload_n dX3_matters_7 rfl ?_
  refine rm_getr (r := 11) flRX3_42 rfl (by decide) rfl dX3_matters_8 ?_
  refine rm_geti flRX3_95 rfl (by decide) rfl dX3_matters_11 ?_
  refine rn_icmp_gt (tgt := 25) dX3_matters_14 (by decide) (fun hc_1 => ?_) (fun hc_1 => ?_)
  · replace hF := hF.1 hc_1
    refine rn_iconst (x := (1 : Int32)) dX3_matters_25 (by decide) ?_
    refine rn_goto (tgt := 30) dX3_matters_26 (by decide) ?_
    exact rm_zret rfl rfl dX3_matters_30 hF
  · replace hF := hF.2 hc_1
    refine rn_iload_n dX3_matters_17 rfl ?_
    refine rn_bipush (x := (7 : Int32)) dX3_matters_18 (by decide) ?_
    refine rn_iand dX3_matters_20 ?_
    refine rn_iload_n dX3_matters_21 rfl ?_
    refine rn_icmp_ne (tgt := 29) dX3_matters_22 (by decide) (fun hc_2 => ?_) (fun hc_2 => ?_)
    · replace hF := hF.1 hc_2
      refine rn_iconst (x := (0 : Int32)) dX3_matters_29 (by decide) ?_
      exact rm_zret rfl rfl dX3_matters_30 hF
    · replace hF := hF.2 hc_2
      refine rn_iconst (x := (1 : Int32)) dX3_matters_25 (by decide) ?_
      refine rn_goto (tgt := 30) dX3_matters_26 (by decide) ?_
      exact rm_zret rfl rfl dX3_matters_30 hF
theorem cmX3_matters {E : En} {Q : Option Value → Hi → Prop} {H : Hi} {zx1 : Int32} {zx2 : Int32} 
    (hF : ((H 11 0) < (H 5 8) → (Q (some (.int (1 : Int32))) H)) ∧ (¬ (H 11 0) < (H 5 8) → ((¬ (zx1 &&& (7 : Int32)) = zx2 → (Q (some (.int (0 : Int32))) H)) ∧ ((zx1 &&& (7 : Int32)) = zx2 → (Q (some (.int (1 : Int32))) H))))) :
    Cm E mX3_matters [rf E 75, .int zx1, .int zx2] H Q :=
  cm_of (by decide +kernel : plainName RX3 = true) (Nat.le_of_ble_eq_true rfl) rfl (sgX3_matters_0  hF)
theorem sgX3_planSort_0 {E : En} {Q : Option Value → Hi → Prop} {H : Hi} {zx1 : Int32} 
    (hF : (¬ zx1 = (H 75 6) → (∀ zH_2 : Hi, zH_2 = up H 75 6 zx1 → (Cm E mX4_plan [rf E 77, .int (-1 : Int32), .int (-1 : Int32), .int (-1 : Int32)] zH_2 (fun w zH_3 => w = none ∧ (Cm E mX3_firstBulge [rf E 75, .int zx1, .int (0 : Int32)] zH_3 (fun w zH_4 => ∃ zr_5 : Int32, w = some (.int zr_5) ∧ ((¬ zr_5 = (24 : Int32) → (Rm E mX3_planSort Q 50 [some (rf E 75), some (.int zx1), some (.int zr_5), some (.int (0 : Int32))] [] zH_4)) ∧ (zr_5 = (24 : Int32) → (Cm E mX4_plan [rf E 77, .int (0 : Int32), .int (-1 : Int32), .int (-1 : Int32)] zH_4 (fun w zH_9 => w = none ∧ (Q none zH_9))))))))))) ∧ (zx1 = (H 75 6) → (Q none H))) :
    Rm E mX3_planSort Q 0 [some (rf E 75), some (.int zx1), none, none] [] H := by
  refine rn_iload_n dX3_planSort_0 rfl ?_
  refine rn_aload_n dX3_planSort_1 rfl ?_
  refine rm_geti flRX3_25 rfl (by decide) rfl dX3_planSort_2 ?_
  refine rn_icmp_ne (tgt := 9) dX3_planSort_5 (by decide) (fun hc_1 => ?_) (fun hc_1 => ?_)
  · replace hF := hF.1 hc_1
    refine rn_aload_n dX3_planSort_9 rfl ?_
    refine rn_iload_n dX3_planSort_10 rfl ?_
    refine rm_puti flRX3_25 rfl (by decide) rfl dX3_planSort_11 (fun zH_2 ezH_2 => ?_)
    replace hF := hF zH_2 ezH_2
    refine rn_aload_n dX3_planSort_14 rfl ?_
    refine rm_getr (r := 77) flRX3_18 rfl (by decide) rfl dX3_planSort_15 ?_
    refine rn_iconst (x := (-1 : Int32)) dX3_planSort_18 (by decide) ?_
    refine rn_iconst (x := (-1 : Int32)) dX3_planSort_19 (by decide) ?_
    refine rn_iconst (x := (-1 : Int32)) dX3_planSort_20 (by decide) ?_
    refine rm_callV (c0 := 77) (As := [.int (-1 : Int32), .int (-1 : Int32), .int (-1 : Int32)]) (st := []) mlRX3_51 mdX4_plan (Nat.le_of_ble_eq_true rfl) rfl (by decide) (by decide) rfl rfl rfl (Nat.le_of_ble_eq_true rfl) ⟨Nat.le_refl _, Nat.le_refl _⟩ dX3_planSort_21 ?_
    refine cm_mono hF (fun w zH_3 hF => ?_)
    obtain ⟨rfl, hF⟩ := hF
    refine rn_aload_n dX3_planSort_24 rfl ?_
    refine rn_iload_n dX3_planSort_25 rfl ?_
    refine rn_iconst (x := (0 : Int32)) dX3_planSort_26 (by decide) ?_
    refine rm_callV (c0 := 75) (As := [.int zx1, .int (0 : Int32)]) (st := []) mlRX3_100 mdX3_firstBulge (Nat.le_of_ble_eq_true rfl) rfl (by decide) (by decide) rfl rfl rfl (Nat.le_of_ble_eq_true rfl) ⟨Nat.le_refl _, Nat.le_refl _⟩ dX3_planSort_27 ?_
    refine cm_mono hF (fun w zH_4 hF => ?_)
    obtain ⟨zr_5, rfl, hF⟩ := hF
    refine ra_istore_n dX3_planSort_30 rfl (Nat.le_of_ble_eq_true rfl) ?_
    show Rn _ _ _ _ _ _ _ _ [some (rf E 75), some (.int zx1), some (.int zr_5), none] _ _ _
    refine rn_iload_n dX3_planSort_31 rfl ?_
    refine rn_bipush (x := (24 : Int32)) dX3_planSort_32 (by decide) ?_
    refine rn_icmp_ne (tgt := 48) dX3_planSort_34 (by decide) (fun hc_7 => ?_) (fun hc_7 => ?_)
    · replace hF := hF.1 hc_7
      refine rn_iconst (x := (0 : Int32)) dX3_planSort_48 (by decide) ?_
      refine ra_istore_n dX3_planSort_49 rfl (Nat.le_of_ble_eq_true rfl) ?_
      show Rn _ _ _ _ _ _ _ _ [some (rf E 75), some (.int zx1), some (.int zr_5), some (.int (0 : Int32))] _ _ _
      exact rn_wk (L' := [some (rf E 75), some (.int zx1), some (.int zr_5), some (.int (0 : Int32))]) (⟨rfl, ⟨rfl, ⟨rfl, ⟨rfl, trivial⟩⟩⟩⟩) hF
    · replace hF := hF.2 hc_7
      refine rn_aload_n dX3_planSort_37 rfl ?_
      refine rm_getr (r := 77) flRX3_18 rfl (by decide) rfl dX3_planSort_38 ?_
      refine rn_iconst (x := (0 : Int32)) dX3_planSort_41 (by decide) ?_
      refine rn_iconst (x := (-1 : Int32)) dX3_planSort_42 (by decide) ?_
      refine rn_iconst (x := (-1 : Int32)) dX3_planSort_43 (by decide) ?_
      refine rm_callV (c0 := 77) (As := [.int (0 : Int32), .int (-1 : Int32), .int (-1 : Int32)]) (st := []) mlRX3_51 mdX4_plan (Nat.le_of_ble_eq_true rfl) rfl (by decide) (by decide) rfl rfl rfl (Nat.le_of_ble_eq_true rfl) ⟨Nat.le_refl _, Nat.le_refl _⟩ dX3_planSort_44 ?_
      refine cm_mono hF (fun w zH_9 hF => ?_)
      obtain ⟨rfl, hF⟩ := hF
      exact rm_vret rfl dX3_planSort_47 hF
  · replace hF := hF.2 hc_1
    exact rm_vret rfl dX3_planSort_8 hF
theorem cmX3_planSort {E : En} {Q : Option Value → Hi → Prop} {H : Hi} {zx1 : Int32} 
    (hF : (¬ zx1 = (H 75 6) → (∀ zH_2 : Hi, zH_2 = up H 75 6 zx1 → (Cm E mX4_plan [rf E 77, .int (-1 : Int32), .int (-1 : Int32), .int (-1 : Int32)] zH_2 (fun w zH_3 => w = none ∧ (Cm E mX3_firstBulge [rf E 75, .int zx1, .int (0 : Int32)] zH_3 (fun w zH_4 => ∃ zr_5 : Int32, w = some (.int zr_5) ∧ ((¬ zr_5 = (24 : Int32) → (Rm E mX3_planSort Q 50 [some (rf E 75), some (.int zx1), some (.int zr_5), some (.int (0 : Int32))] [] zH_4)) ∧ (zr_5 = (24 : Int32) → (Cm E mX4_plan [rf E 77, .int (0 : Int32), .int (-1 : Int32), .int (-1 : Int32)] zH_4 (fun w zH_9 => w = none ∧ (Q none zH_9))))))))))) ∧ (zx1 = (H 75 6) → (Q none H))) :
    Cm E mX3_planSort [rf E 75, .int zx1] H Q :=
  cm_of (by decide +kernel : plainName RX3 = true) (Nat.le_of_ble_eq_true rfl) rfl (sgX3_planSort_0  hF)
theorem sgX3_planSort_50 {E : En} {Q : Option Value → Hi → Prop} {H : Hi} {zx1 : Int32} {zx2 : Int32} {zx3 : Int32} 
    (hF : (zx2 < zx3 → (Cm E mX3_planTwoSortings [rf E 75, .int zx1, .int zx2] H (fun w zH_2 => w = none ∧ (Q none zH_2)))) ∧ (¬ zx2 < zx3 → (Cm E mX3_firstBulge [rf E 75, .int zx1, .int ((1 : Int32) <<< (zx3 &&& 31))] H (fun w zH_3 => ∃ zr_4 : Int32, w = some (.int zr_4) ∧ (∃ zj_5 : Nat, (zj_5 < 24 ∧ zx3 = nI zj_5) ∧ (∀ zH_6 : Hi, zH_6 = up zH_3 79 zj_5 zr_4 → (∃ zj_7 : Nat, (zj_7 < 24 ∧ zx3 = nI zj_7) ∧ ((¬ (zH_6 79 zj_7) = (24 : Int32) → (∀ zx3_9 : Int32, zx3_9 = zx3 + (1 : Int32) → (Rm E mX3_planSort Q 50 [some (rf E 75), some (.int zx1), some (.int zx2), some (.int zx3_9)] [] zH_6))) ∧ ((zH_6 79 zj_7) = (24 : Int32) → (Cm E mX4_plan [rf E 77, .int (1 : Int32), .int zx3, .int (-1 : Int32)] zH_6 (fun w zH_10 => w = none ∧ (Q none zH_10)))))))))))) :
    Rm E mX3_planSort Q 50 [some (rf E 75), some (.int zx1), some (.int zx2), some (.int zx3)] [] H := by
  refine rn_iload_n dX3_planSort_50 rfl ?_
  refine rn_iload_n dX3_planSort_51 rfl ?_
  refine rn_icmp_gt (tgt := 97) dX3_planSort_52 (by decide) (fun hc_1 => ?_) (fun hc_1 => ?_)
  · replace hF := hF.1 hc_1
    refine rn_aload_n dX3_planSort_97 rfl ?_
    refine rn_iload_n dX3_planSort_98 rfl ?_
    refine rn_iload_n dX3_planSort_99 rfl ?_
    refine rm_callV (c0 := 75) (As := [.int zx1, .int zx2]) (st := []) mlRX3_104 mdX3_planTwoSortings (Nat.le_of_ble_eq_true rfl) rfl (by decide) (by decide) rfl rfl rfl (Nat.le_of_ble_eq_true rfl) ⟨Nat.le_refl _, Nat.le_refl _⟩ dX3_planSort_100 ?_
    refine cm_mono hF (fun w zH_2 hF => ?_)
    obtain ⟨rfl, hF⟩ := hF
    exact rm_vret rfl dX3_planSort_103 hF
  · replace hF := hF.2 hc_1
    refine rn_aload_n dX3_planSort_55 rfl ?_
    refine rm_getr (r := 79) flRX3_34 rfl (by decide) rfl dX3_planSort_56 ?_
    refine rn_iload_n dX3_planSort_59 rfl ?_
    refine rn_aload_n dX3_planSort_60 rfl ?_
    refine rn_iload_n dX3_planSort_61 rfl ?_
    refine rn_iconst (x := (1 : Int32)) dX3_planSort_62 (by decide) ?_
    refine rn_iload_n dX3_planSort_63 rfl ?_
    refine rn_ishl dX3_planSort_64 ?_
    refine rm_callV (c0 := 75) (As := [.int zx1, .int ((1 : Int32) <<< (zx3 &&& 31))]) (st := [.int zx3, rf E 79]) mlRX3_100 mdX3_firstBulge (Nat.le_of_ble_eq_true rfl) rfl (by decide) (by decide) rfl rfl rfl (Nat.le_of_ble_eq_true rfl) ⟨Nat.le_refl _, Nat.le_refl _⟩ dX3_planSort_65 ?_
    refine cm_mono hF (fun w zH_3 hF => ?_)
    obtain ⟨zr_4, rfl, hF⟩ := hF
    obtain ⟨zj_5, hzj_5, hF⟩ := hF
    refine rj_iast (j := zj_5) hzj_5 rfl (by decide) rfl (by decide) dX3_planSort_68 (fun zH_6 ezH_6 => ?_)
    replace hF := hF zH_6 ezH_6
    refine rn_aload_n dX3_planSort_69 rfl ?_
    refine rm_getr (r := 79) flRX3_34 rfl (by decide) rfl dX3_planSort_70 ?_
    refine rn_iload_n dX3_planSort_73 rfl ?_
    obtain ⟨zj_7, hzj_7, hF⟩ := hF
    refine rj_iald (j := zj_7) hzj_7 rfl (by decide) rfl (by decide) dX3_planSort_74 ?_
    refine rn_bipush (x := (24 : Int32)) dX3_planSort_75 (by decide) ?_
    refine rn_icmp_ne (tgt := 91) dX3_planSort_77 (by decide) (fun hc_8 => ?_) (fun hc_8 => ?_)
    · replace hF := hF.1 hc_8
      refine rn_iinc (w := (1 : Int32)) dX3_planSort_91 rfl (by decide) rfl (Nat.le_of_ble_eq_true rfl) (fun zx3_9 ezx3_9 => ?_)
      replace hF := hF zx3_9 ezx3_9
      show Rn _ _ _ _ _ _ _ _ [some (rf E 75), some (.int zx1), some (.int zx2), some (.int zx3_9)] _ _ _
      refine rn_goto (tgt := 50) dX3_planSort_94 (by decide) ?_
      exact rn_wk (L' := [some (rf E 75), some (.int zx1), some (.int zx2), some (.int zx3_9)]) (⟨rfl, ⟨rfl, ⟨rfl, ⟨rfl, trivial⟩⟩⟩⟩) hF
    · replace hF := hF.2 hc_8
      refine rn_aload_n dX3_planSort_80 rfl ?_
      refine rm_getr (r := 77) flRX3_18 rfl (by decide) rfl dX3_planSort_81 ?_
      refine rn_iconst (x := (1 : Int32)) dX3_planSort_84 (by decide) ?_
      refine rn_iload_n dX3_planSort_85 rfl ?_
      refine rn_iconst (x := (-1 : Int32)) dX3_planSort_86 (by decide) ?_
      refine rm_callV (c0 := 77) (As := [.int (1 : Int32), .int zx3, .int (-1 : Int32)]) (st := []) mlRX3_51 mdX4_plan (Nat.le_of_ble_eq_true rfl) rfl (by decide) (by decide) rfl rfl rfl (Nat.le_of_ble_eq_true rfl) ⟨Nat.le_refl _, Nat.le_refl _⟩ dX3_planSort_87 ?_
      refine cm_mono hF (fun w zH_10 hF => ?_)
      obtain ⟨rfl, hF⟩ := hF
      exact rm_vret rfl dX3_planSort_90 hF
theorem sgX3_planTwoSortings_0 {E : En} {Q : Option Value → Hi → Prop} {H : Hi} {zx1 : Int32} {zx2 : Int32} 
    (hF : Rm E mX3_planTwoSortings Q 2 [some (rf E 75), some (.int zx1), some (.int zx2), some (.int (0 : Int32)), none] [] H) :
    Rm E mX3_planTwoSortings Q 0 [some (rf E 75), some (.int zx1), some (.int zx2), none, none] [] H := by
  refine rn_iconst (x := (0 : Int32)) dX3_planTwoSortings_0 (by decide) ?_
  refine ra_istore_n dX3_planTwoSortings_1 rfl (Nat.le_of_ble_eq_true rfl) ?_
  show Rn _ _ _ _ _ _ _ _ [some (rf E 75), some (.int zx1), some (.int zx2), some (.int (0 : Int32)), none] _ _ _
  exact rn_wk (L' := [some (rf E 75), some (.int zx1), some (.int zx2), some (.int (0 : Int32)), none]) (⟨rfl, ⟨rfl, ⟨rfl, ⟨rfl, trivial⟩⟩⟩⟩) hF
theorem cmX3_planTwoSortings {E : En} {Q : Option Value → Hi → Prop} {H : Hi} {zx1 : Int32} {zx2 : Int32} 
    (hF : Rm E mX3_planTwoSortings Q 2 [some (rf E 75), some (.int zx1), some (.int zx2), some (.int (0 : Int32)), none] [] H) :
    Cm E mX3_planTwoSortings [rf E 75, .int zx1, .int zx2] H Q :=
  cm_of (by decide +kernel : plainName RX3 = true) (Nat.le_of_ble_eq_true rfl) rfl (sgX3_planTwoSortings_0  hF)
theorem sgX3_planTwoSortings_2 {E : En} {Q : Option Value → Hi → Prop} {H : Hi} {zx1 : Int32} {zx2 : Int32} {zx3 : Int32} 
    (hF : (zx2 < zx3 → (Q none H)) ∧ (¬ zx2 < zx3 → (((24 : Int32) ≤ zx3 → (Q none H)) ∧ (¬ (24 : Int32) ≤ zx3 → (∀ zx4_3 : Int32, zx4_3 = zx3 + (1 : Int32) → (Rm E mX3_planTwoSortings Q 18 [some (rf E 75), some (.int zx1), some (.int zx2), some (.int zx3), some (.int zx4_3)] [] H)))))) :
    Rm E mX3_planTwoSortings Q 2 [some (rf E 75), some (.int zx1), some (.int zx2), some (.int zx3), none] [] H := by
  refine rn_iload_n dX3_planTwoSortings_2 rfl ?_
  refine rn_iload_n dX3_planTwoSortings_3 rfl ?_
  refine rn_icmp_gt (tgt := 71) dX3_planTwoSortings_4 (by decide) (fun hc_1 => ?_) (fun hc_1 => ?_)
  · replace hF := hF.1 hc_1
    exact rm_vret rfl dX3_planTwoSortings_71 hF
  · replace hF := hF.2 hc_1
    refine rn_iload_n dX3_planTwoSortings_7 rfl ?_
    refine rn_bipush (x := (24 : Int32)) dX3_planTwoSortings_8 (by decide) ?_
    refine rn_icmp_ge (tgt := 71) dX3_planTwoSortings_10 (by decide) (fun hc_2 => ?_) (fun hc_2 => ?_)
    · replace hF := hF.1 hc_2
      exact rm_vret rfl dX3_planTwoSortings_71 hF
    · replace hF := hF.2 hc_2
      refine rn_iload_n dX3_planTwoSortings_13 rfl ?_
      refine rn_iconst (x := (1 : Int32)) dX3_planTwoSortings_14 (by decide) ?_
      refine rn_iadd dX3_planTwoSortings_15 ?_
      refine rn_istore dX3_planTwoSortings_16 rfl (Nat.le_of_ble_eq_true rfl) (fun zx4_3 ezx4_3 => ?_)
      replace hF := hF zx4_3 ezx4_3
      show Rn _ _ _ _ _ _ _ _ [some (rf E 75), some (.int zx1), some (.int zx2), some (.int zx3), some (.int zx4_3)] _ _ _
      exact rn_wk (L' := [some (rf E 75), some (.int zx1), some (.int zx2), some (.int zx3), some (.int zx4_3)]) (⟨rfl, ⟨rfl, ⟨rfl, ⟨rfl, ⟨rfl, trivial⟩⟩⟩⟩⟩) hF
theorem sgX3_planTwoSortings_18 {E : En} {Q : Option Value → Hi → Prop} {H : Hi} {zx1 : Int32} {zx2 : Int32} {zx3 : Int32} {zx4 : Int32} 
    (hF : ∃ zj_1 : Nat, (zj_1 < 24 ∧ zx3 = nI zj_1) ∧ (((H 79 zj_1) < zx4 → (∀ zx3_3 : Int32, zx3_3 = zx3 + (1 : Int32) → (Rm E mX3_planTwoSortings Q 2 [some (rf E 75), some (.int zx1), some (.int zx2), some (.int zx3_3), none] [] H))) ∧ (¬ (H 79 zj_1) < zx4 → (Cm E mX3_firstBulge [rf E 75, .int zx1, .int (((1 : Int32) <<< (zx3 &&& 31)) ||| ((1 : Int32) <<< (zx4 &&& 31)))] H (fun w zH_4 => ∃ zr_5 : Int32, w = some (.int zr_5) ∧ ((¬ zr_5 = (24 : Int32) → (∀ zx4_7 : Int32, zx4_7 = zx4 + (1 : Int32) → (Rm E mX3_planTwoSortings Q 18 [some (rf E 75), some (.int zx1), some (.int zx2), some (.int zx3), some (.int zx4_7)] [] zH_4))) ∧ (zr_5 = (24 : Int32) → (Cm E mX4_plan [rf E 77, .int (2 : Int32), .int zx3, .int zx4] zH_4 (fun w zH_8 => w = none ∧ (Q none zH_8)))))))))) :
    Rm E mX3_planTwoSortings Q 18 [some (rf E 75), some (.int zx1), some (.int zx2), some (.int zx3), some (.int zx4)] [] H := by
  refine rn_iload dX3_planTwoSortings_18 rfl ?_
  refine rn_aload_n dX3_planTwoSortings_20 rfl ?_
  refine rm_getr (r := 79) flRX3_34 rfl (by decide) rfl dX3_planTwoSortings_21 ?_
  refine rn_iload_n dX3_planTwoSortings_24 rfl ?_
  obtain ⟨zj_1, hzj_1, hF⟩ := hF
  refine rj_iald (j := zj_1) hzj_1 rfl (by decide) rfl (by decide) dX3_planTwoSortings_25 ?_
  refine rn_icmp_gt (tgt := 65) dX3_planTwoSortings_26 (by decide) (fun hc_2 => ?_) (fun hc_2 => ?_)
  · replace hF := hF.1 hc_2
    refine rn_iinc (w := (1 : Int32)) dX3_planTwoSortings_65 rfl (by decide) rfl (Nat.le_of_ble_eq_true rfl) (fun zx3_3 ezx3_3 => ?_)
    replace hF := hF zx3_3 ezx3_3
    show Rn _ _ _ _ _ _ _ _ [some (rf E 75), some (.int zx1), some (.int zx2), some (.int zx3_3), some (.int zx4)] _ _ _
    refine rn_goto (tgt := 2) dX3_planTwoSortings_68 (by decide) ?_
    exact rn_wk (L' := [some (rf E 75), some (.int zx1), some (.int zx2), some (.int zx3_3), none]) (⟨rfl, ⟨rfl, ⟨rfl, ⟨rfl, trivial⟩⟩⟩⟩) hF
  · replace hF := hF.2 hc_2
    refine rn_aload_n dX3_planTwoSortings_29 rfl ?_
    refine rn_iload_n dX3_planTwoSortings_30 rfl ?_
    refine rn_iconst (x := (1 : Int32)) dX3_planTwoSortings_31 (by decide) ?_
    refine rn_iload_n dX3_planTwoSortings_32 rfl ?_
    refine rn_ishl dX3_planTwoSortings_33 ?_
    refine rn_iconst (x := (1 : Int32)) dX3_planTwoSortings_34 (by decide) ?_
    refine rn_iload dX3_planTwoSortings_35 rfl ?_
    refine rn_ishl dX3_planTwoSortings_37 ?_
    refine rn_ior dX3_planTwoSortings_38 ?_
    refine rm_callV (c0 := 75) (As := [.int zx1, .int (((1 : Int32) <<< (zx3 &&& 31)) ||| ((1 : Int32) <<< (zx4 &&& 31)))]) (st := []) mlRX3_100 mdX3_firstBulge (Nat.le_of_ble_eq_true rfl) rfl (by decide) (by decide) rfl rfl rfl (Nat.le_of_ble_eq_true rfl) ⟨Nat.le_refl _, Nat.le_refl _⟩ dX3_planTwoSortings_39 ?_
    refine cm_mono hF (fun w zH_4 hF => ?_)
    obtain ⟨zr_5, rfl, hF⟩ := hF
    refine rn_bipush (x := (24 : Int32)) dX3_planTwoSortings_42 (by decide) ?_
    refine rn_icmp_ne (tgt := 59) dX3_planTwoSortings_44 (by decide) (fun hc_6 => ?_) (fun hc_6 => ?_)
    · replace hF := hF.1 hc_6
      refine rn_iinc (w := (1 : Int32)) dX3_planTwoSortings_59 rfl (by decide) rfl (Nat.le_of_ble_eq_true rfl) (fun zx4_7 ezx4_7 => ?_)
      replace hF := hF zx4_7 ezx4_7
      show Rn _ _ _ _ _ _ _ _ [some (rf E 75), some (.int zx1), some (.int zx2), some (.int zx3), some (.int zx4_7)] _ _ _
      refine rn_goto (tgt := 18) dX3_planTwoSortings_62 (by decide) ?_
      exact rn_wk (L' := [some (rf E 75), some (.int zx1), some (.int zx2), some (.int zx3), some (.int zx4_7)]) (⟨rfl, ⟨rfl, ⟨rfl, ⟨rfl, ⟨rfl, trivial⟩⟩⟩⟩⟩) hF
    · replace hF := hF.2 hc_6
      refine rn_aload_n dX3_planTwoSortings_47 rfl ?_
      refine rm_getr (r := 77) flRX3_18 rfl (by decide) rfl dX3_planTwoSortings_48 ?_
      refine rn_iconst (x := (2 : Int32)) dX3_planTwoSortings_51 (by decide) ?_
      refine rn_iload_n dX3_planTwoSortings_52 rfl ?_
      refine rn_iload dX3_planTwoSortings_53 rfl ?_
      refine rm_callV (c0 := 77) (As := [.int (2 : Int32), .int zx3, .int zx4]) (st := []) mlRX3_51 mdX4_plan (Nat.le_of_ble_eq_true rfl) rfl (by decide) (by decide) rfl rfl rfl (Nat.le_of_ble_eq_true rfl) ⟨Nat.le_refl _, Nat.le_refl _⟩ dX3_planTwoSortings_55 ?_
      refine cm_mono hF (fun w zH_8 hF => ?_)
      obtain ⟨rfl, hF⟩ := hF
      exact rm_vret rfl dX3_planTwoSortings_58 hF
theorem sgX3_firstBulge_0 {E : En} {Q : Option Value → Hi → Prop} {H : Hi} {zx1 : Int32} {zx2 : Int32} 
    (hF : Cm E mX6_become [rf E (80 + 0), rf E 23] H (fun w zH_1 => w = none ∧ (Rm E mX3_firstBulge Q 21 [some (rf E 75), some (.int zx1), some (.int zx2), some (rf E (80 + 0)), some (.int (0 : Int32))] [] zH_1))) :
    Rm E mX3_firstBulge Q 0 [some (rf E 75), some (.int zx1), some (.int zx2), none, none] [] H := by
  refine rn_aload_n dX3_firstBulge_0 rfl ?_
  refine rm_getr (r := 78) flRX3_30 rfl (by decide) rfl dX3_firstBulge_1 ?_
  refine rn_iconst (x := (0 : Int32)) dX3_firstBulge_4 (by decide) ?_
  refine rj_aald (j := 0) (Cn := RX6) (r := (80 + 0)) ⟨by decide, by decide⟩ (st_tri _ (by decide : 0 < 6)).2 rfl (by decide) (by decide) rfl (by decide) dX3_firstBulge_5 ?_
  refine rn_astore_n dX3_firstBulge_6 rfl (Nat.le_of_ble_eq_true rfl) ?_
  show Rn _ _ _ _ _ _ _ _ [some (rf E 75), some (.int zx1), some (.int zx2), some (rf E (80 + 0)), none] _ _ _
  refine rn_aload_n dX3_firstBulge_7 rfl ?_
  refine rn_aload_n dX3_firstBulge_8 rfl ?_
  refine rm_getr (r := 22) flRX3_46 rfl (by decide) rfl dX3_firstBulge_9 ?_
  refine rm_getr (r := 23) flRX3_108 rfl (by decide) rfl dX3_firstBulge_12 ?_
  refine rm_callV (c0 := (80 + 0)) (As := [rf E 23]) (st := []) mlRX3_70 mdX6_become (Nat.le_of_ble_eq_true rfl) (st_tri _ (by decide : 0 < 6)).1.2.1 (st_tri _ (by decide : 0 < 6)).1.1 (by decide) rfl rfl rfl (Nat.le_of_ble_eq_true rfl) ⟨Nat.le_refl _, Nat.le_refl _⟩ dX3_firstBulge_15 ?_
  refine cm_mono hF (fun w zH_1 hF => ?_)
  obtain ⟨rfl, hF⟩ := hF
  refine rn_iconst (x := (0 : Int32)) dX3_firstBulge_18 (by decide) ?_
  refine ra_istore dX3_firstBulge_19 rfl (Nat.le_of_ble_eq_true rfl) ?_
  show Rn _ _ _ _ _ _ _ _ [some (rf E 75), some (.int zx1), some (.int zx2), some (rf E (80 + 0)), some (.int (0 : Int32))] _ _ _
  exact rn_wk (L' := [some (rf E 75), some (.int zx1), some (.int zx2), some (rf E (80 + 0)), some (.int (0 : Int32))]) (⟨rfl, ⟨rfl, ⟨rfl, ⟨rfl, ⟨rfl, trivial⟩⟩⟩⟩⟩) hF
theorem cmX3_firstBulge {E : En} {Q : Option Value → Hi → Prop} {H : Hi} {zx1 : Int32} {zx2 : Int32} 
    (hF : Cm E mX6_become [rf E (80 + 0), rf E 23] H (fun w zH_1 => w = none ∧ (Rm E mX3_firstBulge Q 21 [some (rf E 75), some (.int zx1), some (.int zx2), some (rf E (80 + 0)), some (.int (0 : Int32))] [] zH_1))) :
    Cm E mX3_firstBulge [rf E 75, .int zx1, .int zx2] H Q :=
  cm_of (by decide +kernel : plainName RX3 = true) (Nat.le_of_ble_eq_true rfl) rfl (sgX3_firstBulge_0  hF)
theorem sgX3_firstBulge_21 {E : En} {Q : Option Value → Hi → Prop} {H : Hi} {zx1 : Int32} {zx2 : Int32} {zs3 : Nat} {zx4 : Int32} (hs3 : isSt zs3)
    (hF : ((24 : Int32) ≤ zx4 → (Q (some (.int (24 : Int32))) H)) ∧ (¬ (24 : Int32) ≤ zx4 → (Cm E mX2_open [rf E 22, rf E zs3, .int zx4] H (fun w zH_2 => ∃ zr_3 : Int32, w = some (.int zr_3) ∧ (Cm E mX2_close [rf E 22, rf E zs3, .int zx4, .int zx2] zH_2 (fun w zH_4 => w = none ∧ (((zH_4 zs3 2) ≤ zx1 → (∀ zx4_6 : Int32, zx4_6 = zx4 + (1 : Int32) → (Rm E mX3_firstBulge Q 21 [some (rf E 75), some (.int zx1), some (.int zx2), some (rf E zs3), some (.int zx4_6)] [] zH_4))) ∧ (¬ (zH_4 zs3 2) ≤ zx1 → (Q (some (.int zx4)) zH_4))))))))) :
    Rm E mX3_firstBulge Q 21 [some (rf E 75), some (.int zx1), some (.int zx2), some (rf E zs3), some (.int zx4)] [] H := by
  refine rn_iload dX3_firstBulge_21 rfl ?_
  refine rn_bipush (x := (24 : Int32)) dX3_firstBulge_23 (by decide) ?_
  refine rn_icmp_ge (tgt := 67) dX3_firstBulge_25 (by decide) (fun hc_1 => ?_) (fun hc_1 => ?_)
  · replace hF := hF.1 hc_1
    refine rn_bipush (x := (24 : Int32)) dX3_firstBulge_67 (by decide) ?_
    exact rm_iret rfl dX3_firstBulge_69 hF
  · replace hF := hF.2 hc_1
    refine rn_aload_n dX3_firstBulge_28 rfl ?_
    refine rm_getr (r := 22) flRX3_46 rfl (by decide) rfl dX3_firstBulge_29 ?_
    refine rn_aload_n dX3_firstBulge_32 rfl ?_
    refine rn_iload dX3_firstBulge_33 rfl ?_
    refine rm_callV (c0 := 22) (As := [rf E zs3, .int zx4]) (st := []) mlRX3_112 mdX2_open (Nat.le_of_ble_eq_true rfl) rfl (by decide) (by decide) rfl rfl rfl (Nat.le_of_ble_eq_true rfl) ⟨Nat.le_refl _, Nat.le_refl _⟩ dX3_firstBulge_35 ?_
    refine cm_mono hF (fun w zH_2 hF => ?_)
    obtain ⟨zr_3, rfl, hF⟩ := hF
    refine rn_pop dX3_firstBulge_38 rfl ?_
    refine rn_aload_n dX3_firstBulge_39 rfl ?_
    refine rm_getr (r := 22) flRX3_46 rfl (by decide) rfl dX3_firstBulge_40 ?_
    refine rn_aload_n dX3_firstBulge_43 rfl ?_
    refine rn_iload dX3_firstBulge_44 rfl ?_
    refine rn_iload_n dX3_firstBulge_46 rfl ?_
    refine rm_callV (c0 := 22) (As := [rf E zs3, .int zx4, .int zx2]) (st := []) mlRX3_116 mdX2_close (Nat.le_of_ble_eq_true rfl) rfl (by decide) (by decide) rfl rfl rfl (Nat.le_of_ble_eq_true rfl) ⟨Nat.le_refl _, Nat.le_refl _⟩ dX3_firstBulge_47 ?_
    refine cm_mono hF (fun w zH_4 hF => ?_)
    obtain ⟨rfl, hF⟩ := hF
    refine rn_aload_n dX3_firstBulge_50 rfl ?_
    refine rm_geti flRX3_119 hs3.2.1 hs3.1 (rT_row hs3.2.2 _) dX3_firstBulge_51 ?_
    refine rn_iload_n dX3_firstBulge_54 rfl ?_
    refine rn_icmp_le (tgt := 61) dX3_firstBulge_55 (by decide) (fun hc_5 => ?_) (fun hc_5 => ?_)
    · replace hF := hF.1 hc_5
      refine rn_iinc (w := (1 : Int32)) dX3_firstBulge_61 rfl (by decide) rfl (Nat.le_of_ble_eq_true rfl) (fun zx4_6 ezx4_6 => ?_)
      replace hF := hF zx4_6 ezx4_6
      show Rn _ _ _ _ _ _ _ _ [some (rf E 75), some (.int zx1), some (.int zx2), some (rf E zs3), some (.int zx4_6)] _ _ _
      refine rn_goto (tgt := 21) dX3_firstBulge_64 (by decide) ?_
      exact rn_wk (L' := [some (rf E 75), some (.int zx1), some (.int zx2), some (rf E zs3), some (.int zx4_6)]) (⟨rfl, ⟨rfl, ⟨rfl, ⟨rfl, ⟨rfl, trivial⟩⟩⟩⟩⟩) hF
    · replace hF := hF.2 hc_5
      refine rn_iload dX3_firstBulge_58 rfl ?_
      exact rm_iret rfl dX3_firstBulge_60 hF
theorem sgX3_unsettled_0 {E : En} {Q : Option Value → Hi → Prop} {H : Hi} {zx1 : Int32} 
    (hF : ∀ zH_1 : Hi, zH_1 = up H 75 8 (0 : Int32) → ((¬ zx1 = 0 → (∃ zj_3 : Nat, (zj_3 < 24 ∧ zx1 - (1 : Int32) = nI zj_3) ∧ (Cm E mX6_become [rf E (80 + 0), rf E (28 + 2 * zj_3)] zH_1 (fun w zH_4 => w = none ∧ (Cm E mX2_putBack [rf E 22, rf E (80 + 0)] zH_4 (fun w zH_5 => w = none ∧ (Cm E (mX3_order 6) [rf E 75, .int zx1, .int (0 : Int32), .int (0 : Int32)] zH_5 (fun w zH_6 => w = none ∧ (Rm E mX3_unsettled Q 63 [some (rf E 75), none, some (.int (0 : Int32)), some (.int (0 : Int32))] [] zH_6))))))))) ∧ (zx1 = 0 → (Cm E mX6_become [rf E (80 + 0), rf E 23] zH_1 (fun w zH_9 => w = none ∧ (Cm E mX2_putBack [rf E 22, rf E (80 + 0)] zH_9 (fun w zH_10 => w = none ∧ (Cm E (mX3_order 6) [rf E 75, .int zx1, .int (0 : Int32), .int (0 : Int32)] zH_10 (fun w zH_11 => w = none ∧ (Rm E mX3_unsettled Q 63 [some (rf E 75), none, some (.int (0 : Int32)), some (.int (0 : Int32))] [] zH_11)))))))))) :
    Rm E mX3_unsettled Q 0 [some (rf E 75), some (.int zx1), none, none] [] H := by
  refine rn_aload_n dX3_unsettled_0 rfl ?_
  refine rn_iconst (x := (0 : Int32)) dX3_unsettled_1 (by decide) ?_
  refine rm_puti flRX3_122 rfl (by decide) rfl dX3_unsettled_2 (fun zH_1 ezH_1 => ?_)
  replace hF := hF zH_1 ezH_1
  refine rn_aload_n dX3_unsettled_5 rfl ?_
  refine rm_getr (r := 78) flRX3_30 rfl (by decide) rfl dX3_unsettled_6 ?_
  refine rn_iconst (x := (0 : Int32)) dX3_unsettled_9 (by decide) ?_
  refine rj_aald (j := 0) (Cn := RX6) (r := (80 + 0)) ⟨by decide, by decide⟩ (st_tri _ (by decide : 0 < 6)).2 rfl (by decide) (by decide) rfl (by decide) dX3_unsettled_10 ?_
  refine rn_iload_n dX3_unsettled_11 rfl ?_
  refine rn_if_ne (tgt := 25) dX3_unsettled_12 (by decide) (fun hc_2 => ?_) (fun hc_2 => ?_)
  · replace hF := hF.1 hc_2
    refine rn_aload_n dX3_unsettled_25 rfl ?_
    refine rm_getr (r := 22) flRX3_46 rfl (by decide) rfl dX3_unsettled_26 ?_
    refine rm_getr (r := 25) flRX3_60 rfl (by decide) rfl dX3_unsettled_29 ?_
    refine rn_iload_n dX3_unsettled_32 rfl ?_
    refine rn_iconst (x := (1 : Int32)) dX3_unsettled_33 (by decide) ?_
    refine rn_isub dX3_unsettled_34 ?_
    obtain ⟨zj_3, hzj_3, hF⟩ := hF
    refine rj_aald (j := zj_3) (Cn := RX6) (r := (28 + 2 * zj_3)) hzj_3 (st_beh _ hzj_3.1).2 rfl (by decide) (by decide) rfl (by decide) dX3_unsettled_35 ?_
    refine rm_callV (c0 := (80 + 0)) (As := [rf E (28 + 2 * zj_3)]) (st := []) mlRX3_70 mdX6_become (Nat.le_of_ble_eq_true rfl) (st_tri _ (by decide : 0 < 6)).1.2.1 (st_tri _ (by decide : 0 < 6)).1.1 (by decide) rfl rfl rfl (Nat.le_of_ble_eq_true rfl) ⟨Nat.le_refl _, Nat.le_refl _⟩ dX3_unsettled_36 ?_
    refine cm_mono hF (fun w zH_4 hF => ?_)
    obtain ⟨rfl, hF⟩ := hF
    refine rn_aload_n dX3_unsettled_39 rfl ?_
    refine rm_getr (r := 22) flRX3_46 rfl (by decide) rfl dX3_unsettled_40 ?_
    refine rn_aload_n dX3_unsettled_43 rfl ?_
    refine rm_getr (r := 78) flRX3_30 rfl (by decide) rfl dX3_unsettled_44 ?_
    refine rn_iconst (x := (0 : Int32)) dX3_unsettled_47 (by decide) ?_
    refine rj_aald (j := 0) (Cn := RX6) (r := (80 + 0)) ⟨by decide, by decide⟩ (st_tri _ (by decide : 0 < 6)).2 rfl (by decide) (by decide) rfl (by decide) dX3_unsettled_48 ?_
    refine rm_callV (c0 := 22) (As := [rf E (80 + 0)]) (st := []) mlRX3_125 mdX2_putBack (Nat.le_of_ble_eq_true rfl) rfl (by decide) (by decide) rfl rfl rfl (Nat.le_of_ble_eq_true rfl) ⟨Nat.le_refl _, Nat.le_refl _⟩ dX3_unsettled_49 ?_
    refine cm_mono hF (fun w zH_5 hF => ?_)
    obtain ⟨rfl, hF⟩ := hF
    refine rn_aload_n dX3_unsettled_52 rfl ?_
    refine rn_iload_n dX3_unsettled_53 rfl ?_
    refine rn_iconst (x := (0 : Int32)) dX3_unsettled_54 (by decide) ?_
    refine rn_iconst (x := (0 : Int32)) dX3_unsettled_55 (by decide) ?_
    refine rm_callV (c0 := 75) (As := [.int zx1, .int (0 : Int32), .int (0 : Int32)]) (st := []) (mlRX3_128 6) (mdX3_order 6) (Nat.le_of_ble_eq_true rfl) rfl (by decide) (by decide) rfl rfl rfl (Nat.le_of_ble_eq_true rfl) ⟨Nat.le_refl _, Nat.le_refl _⟩ dX3_unsettled_56 ?_
    refine cm_mono hF (fun w zH_6 hF => ?_)
    obtain ⟨rfl, hF⟩ := hF
    refine rn_iconst (x := (0 : Int32)) dX3_unsettled_59 (by decide) ?_
    refine ra_istore_n dX3_unsettled_60 rfl (Nat.le_of_ble_eq_true rfl) ?_
    show Rn _ _ _ _ _ _ _ _ [some (rf E 75), some (.int zx1), some (.int (0 : Int32)), none] _ _ _
    refine rn_iconst (x := (0 : Int32)) dX3_unsettled_61 (by decide) ?_
    refine ra_istore_n dX3_unsettled_62 rfl (Nat.le_of_ble_eq_true rfl) ?_
    show Rn _ _ _ _ _ _ _ _ [some (rf E 75), some (.int zx1), some (.int (0 : Int32)), some (.int (0 : Int32))] _ _ _
    exact rn_wk (L' := [some (rf E 75), none, some (.int (0 : Int32)), some (.int (0 : Int32))]) (⟨rfl, ⟨rfl, ⟨rfl, trivial⟩⟩⟩) hF
  · replace hF := hF.2 hc_2
    refine rn_aload_n dX3_unsettled_15 rfl ?_
    refine rm_getr (r := 22) flRX3_46 rfl (by decide) rfl dX3_unsettled_16 ?_
    refine rm_getr (r := 23) flRX3_108 rfl (by decide) rfl dX3_unsettled_19 ?_
    refine rn_goto (tgt := 36) dX3_unsettled_22 (by decide) ?_
    refine rm_callV (c0 := (80 + 0)) (As := [rf E 23]) (st := []) mlRX3_70 mdX6_become (Nat.le_of_ble_eq_true rfl) (st_tri _ (by decide : 0 < 6)).1.2.1 (st_tri _ (by decide : 0 < 6)).1.1 (by decide) rfl rfl rfl (Nat.le_of_ble_eq_true rfl) ⟨Nat.le_refl _, Nat.le_refl _⟩ dX3_unsettled_36 ?_
    refine cm_mono hF (fun w zH_9 hF => ?_)
    obtain ⟨rfl, hF⟩ := hF
    refine rn_aload_n dX3_unsettled_39 rfl ?_
    refine rm_getr (r := 22) flRX3_46 rfl (by decide) rfl dX3_unsettled_40 ?_
    refine rn_aload_n dX3_unsettled_43 rfl ?_
    refine rm_getr (r := 78) flRX3_30 rfl (by decide) rfl dX3_unsettled_44 ?_
    refine rn_iconst (x := (0 : Int32)) dX3_unsettled_47 (by decide) ?_
    refine rj_aald (j := 0) (Cn := RX6) (r := (80 + 0)) ⟨by decide, by decide⟩ (st_tri _ (by decide : 0 < 6)).2 rfl (by decide) (by decide) rfl (by decide) dX3_unsettled_48 ?_
    refine rm_callV (c0 := 22) (As := [rf E (80 + 0)]) (st := []) mlRX3_125 mdX2_putBack (Nat.le_of_ble_eq_true rfl) rfl (by decide) (by decide) rfl rfl rfl (Nat.le_of_ble_eq_true rfl) ⟨Nat.le_refl _, Nat.le_refl _⟩ dX3_unsettled_49 ?_
    refine cm_mono hF (fun w zH_10 hF => ?_)
    obtain ⟨rfl, hF⟩ := hF
    refine rn_aload_n dX3_unsettled_52 rfl ?_
    refine rn_iload_n dX3_unsettled_53 rfl ?_
    refine rn_iconst (x := (0 : Int32)) dX3_unsettled_54 (by decide) ?_
    refine rn_iconst (x := (0 : Int32)) dX3_unsettled_55 (by decide) ?_
    refine rm_callV (c0 := 75) (As := [.int zx1, .int (0 : Int32), .int (0 : Int32)]) (st := []) (mlRX3_128 6) (mdX3_order 6) (Nat.le_of_ble_eq_true rfl) rfl (by decide) (by decide) rfl rfl rfl (Nat.le_of_ble_eq_true rfl) ⟨Nat.le_refl _, Nat.le_refl _⟩ dX3_unsettled_56 ?_
    refine cm_mono hF (fun w zH_11 hF => ?_)
    obtain ⟨rfl, hF⟩ := hF
    refine rn_iconst (x := (0 : Int32)) dX3_unsettled_59 (by decide) ?_
    refine ra_istore_n dX3_unsettled_60 rfl (Nat.le_of_ble_eq_true rfl) ?_
    show Rn _ _ _ _ _ _ _ _ [some (rf E 75), some (.int zx1), some (.int (0 : Int32)), none] _ _ _
    refine rn_iconst (x := (0 : Int32)) dX3_unsettled_61 (by decide) ?_
    refine ra_istore_n dX3_unsettled_62 rfl (Nat.le_of_ble_eq_true rfl) ?_
    show Rn _ _ _ _ _ _ _ _ [some (rf E 75), some (.int zx1), some (.int (0 : Int32)), some (.int (0 : Int32))] _ _ _
    exact rn_wk (L' := [some (rf E 75), none, some (.int (0 : Int32)), some (.int (0 : Int32))]) (⟨rfl, ⟨rfl, ⟨rfl, trivial⟩⟩⟩) hF
theorem cmX3_unsettled {E : En} {Q : Option Value → Hi → Prop} {H : Hi} {zx1 : Int32} 
    (hF : ∀ zH_1 : Hi, zH_1 = up H 75 8 (0 : Int32) → ((¬ zx1 = 0 → (∃ zj_3 : Nat, (zj_3 < 24 ∧ zx1 - (1 : Int32) = nI zj_3) ∧ (Cm E mX6_become [rf E (80 + 0), rf E (28 + 2 * zj_3)] zH_1 (fun w zH_4 => w = none ∧ (Cm E mX2_putBack [rf E 22, rf E (80 + 0)] zH_4 (fun w zH_5 => w = none ∧ (Cm E (mX3_order 6) [rf E 75, .int zx1, .int (0 : Int32), .int (0 : Int32)] zH_5 (fun w zH_6 => w = none ∧ (Rm E mX3_unsettled Q 63 [some (rf E 75), none, some (.int (0 : Int32)), some (.int (0 : Int32))] [] zH_6))))))))) ∧ (zx1 = 0 → (Cm E mX6_become [rf E (80 + 0), rf E 23] zH_1 (fun w zH_9 => w = none ∧ (Cm E mX2_putBack [rf E 22, rf E (80 + 0)] zH_9 (fun w zH_10 => w = none ∧ (Cm E (mX3_order 6) [rf E 75, .int zx1, .int (0 : Int32), .int (0 : Int32)] zH_10 (fun w zH_11 => w = none ∧ (Rm E mX3_unsettled Q 63 [some (rf E 75), none, some (.int (0 : Int32)), some (.int (0 : Int32))] [] zH_11)))))))))) :
    Cm E mX3_unsettled [rf E 75, .int zx1] H Q :=
  cm_of (by decide +kernel : plainName RX3 = true) (Nat.le_of_ble_eq_true rfl) rfl (sgX3_unsettled_0  hF)
theorem sgX3_unsettled_63 {E : En} {Q : Option Value → Hi → Prop} {H : Hi} {zx2 : Int32} {zx3 : Int32} 
    (hF : ((H 5 0) ≤ zx3 → (Q (some (.int zx2)) H)) ∧ (¬ (H 5 0) ≤ zx3 → ((((ushr (H 75 8) ((4 : Int32) * zx3)) &&& (15 : Int32)) = 0 → (∀ zx3_3 : Int32, zx3_3 = zx3 + (1 : Int32) → (Rm E mX3_unsettled Q 63 [some (rf E 75), none, some (.int zx2), some (.int zx3_3)] [] H))) ∧ (¬ ((ushr (H 75 8) ((4 : Int32) * zx3)) &&& (15 : Int32)) = 0 → (∀ zx2_4 : Int32, zx2_4 = zx2 ||| ((1 : Int32) <<< (zx3 &&& 31)) → (∀ zx3_5 : Int32, zx3_5 = zx3 + (1 : Int32) → (Rm E mX3_unsettled Q 63 [some (rf E 75), none, some (.int zx2_4), some (.int zx3_5)] [] H))))))) :
    Rm E mX3_unsettled Q 63 [some (rf E 75), none, some (.int zx2), some (.int zx3)] [] H := by
  refine rn_iload_n dX3_unsettled_63 rfl ?_
  refine rn_aload_n dX3_unsettled_64 rfl ?_
  refine rm_getr (r := 5) flRX3_38 rfl (by decide) rfl dX3_unsettled_65 ?_
  refine rm_geti flRX3_131 rfl (by decide) rfl dX3_unsettled_68 ?_
  refine rn_icmp_ge (tgt := 100) dX3_unsettled_71 (by decide) (fun hc_1 => ?_) (fun hc_1 => ?_)
  · replace hF := hF.1 hc_1
    refine rn_iload_n dX3_unsettled_100 rfl ?_
    exact rm_iret rfl dX3_unsettled_101 hF
  · replace hF := hF.2 hc_1
    refine rn_aload_n dX3_unsettled_74 rfl ?_
    refine rm_geti flRX3_122 rfl (by decide) rfl dX3_unsettled_75 ?_
    refine rn_iconst (x := (4 : Int32)) dX3_unsettled_78 (by decide) ?_
    refine rn_iload_n dX3_unsettled_79 rfl ?_
    refine rn_imul dX3_unsettled_80 ?_
    refine rn_iushr dX3_unsettled_81 ?_
    refine rn_bipush (x := (15 : Int32)) dX3_unsettled_82 (by decide) ?_
    refine rn_iand dX3_unsettled_84 ?_
    refine rn_if_eq (tgt := 94) dX3_unsettled_85 (by decide) (fun hc_2 => ?_) (fun hc_2 => ?_)
    · replace hF := hF.1 hc_2
      refine rn_iinc (w := (1 : Int32)) dX3_unsettled_94 rfl (by decide) rfl (Nat.le_of_ble_eq_true rfl) (fun zx3_3 ezx3_3 => ?_)
      replace hF := hF zx3_3 ezx3_3
      show Rn _ _ _ _ _ _ _ _ [some (rf E 75), none, some (.int zx2), some (.int zx3_3)] _ _ _
      refine rn_goto (tgt := 63) dX3_unsettled_97 (by decide) ?_
      exact rn_wk (L' := [some (rf E 75), none, some (.int zx2), some (.int zx3_3)]) (⟨rfl, ⟨rfl, ⟨rfl, trivial⟩⟩⟩) hF
    · replace hF := hF.2 hc_2
      refine rn_iload_n dX3_unsettled_88 rfl ?_
      refine rn_iconst (x := (1 : Int32)) dX3_unsettled_89 (by decide) ?_
      refine rn_iload_n dX3_unsettled_90 rfl ?_
      refine rn_ishl dX3_unsettled_91 ?_
      refine rn_ior dX3_unsettled_92 ?_
      refine rn_istore_n dX3_unsettled_93 rfl (Nat.le_of_ble_eq_true rfl) (fun zx2_4 ezx2_4 => ?_)
      replace hF := hF zx2_4 ezx2_4
      show Rn _ _ _ _ _ _ _ _ [some (rf E 75), none, some (.int zx2_4), some (.int zx3)] _ _ _
      refine rn_iinc (w := (1 : Int32)) dX3_unsettled_94 rfl (by decide) rfl (Nat.le_of_ble_eq_true rfl) (fun zx3_5 ezx3_5 => ?_)
      replace hF := hF zx3_5 ezx3_5
      show Rn _ _ _ _ _ _ _ _ [some (rf E 75), none, some (.int zx2_4), some (.int zx3_5)] _ _ _
      refine rn_goto (tgt := 63) dX3_unsettled_97 (by decide) ?_
      exact rn_wk (L' := [some (rf E 75), none, some (.int zx2_4), some (.int zx3_5)]) (⟨rfl, ⟨rfl, ⟨rfl, trivial⟩⟩⟩) hF
theorem sgX3_order_0 {E : En} {Q : Option Value → Hi → Prop} {H : Hi} {j : Nat} {zx1 : Int32} {zx2 : Int32} {zx3 : Int32} 
    (hF : ∃ zj_1 : Nat, (zj_1 < 25 ∧ zx1 = nI zj_1) ∧ (∀ zx4_2 : Int32, zx4_2 = H 20 zj_1 → (∃ zj_3 : Nat, (zj_3 < 25 ∧ zx1 + (1 : Int32) = nI zj_3) ∧ (∀ zx5_4 : Int32, zx5_4 = mmin (5 : Int32) ((H 20 zj_3) - zx4_2) → ((zx2 < zx5_4 → (Rm E (mX3_order (j + 1)) Q 123 [some (rf E 75), some (.int zx1), some (.int zx2), some (.int zx3), some (.int zx4_2), some (.int zx5_4), some (.int (0 : Int32)), none] [] H)) ∧ (¬ zx2 < zx5_4 → (∃ zj_7 : Nat, (zj_7 < 6 ∧ mmin zx2 (5 : Int32) = nI zj_7) ∧ (∃ zj_8 : Nat, (zj_8 < 25 ∧ zx1 + (1 : Int32) = nI zj_8) ∧ (Cm E mX2_tell [rf E 22, rf E (80 + zj_7), .int (zx4_2 + zx5_4), .int (H 20 zj_8)] H (fun w zH_9 => ∃ zr_10 : Int32, w = some (.int zr_10) ∧ (Cm E mX2_close [rf E 22, rf E (80 + zj_7), .int zx1, .int (zH_9 11 1)] zH_9 (fun w zH_11 => w = none ∧ (∃ zj_12 : Nat, (zj_12 < 24 ∧ zx1 = nI zj_12) ∧ (∀ zH_13 : Hi, zH_13 = up zH_11 75 8 ((zH_11 75 8) ||| ((zH_11 (80 + zj_7) 0) ^^^ (zH_11 (28 + 2 * zj_12) 0))) → (Q none zH_13))))))))))))))) :
    Rm E (mX3_order (j + 1)) Q 0 [some (rf E 75), some (.int zx1), some (.int zx2), some (.int zx3), none, none, none, none] [] H := by
  refine rn_aload_n dX3_order_0 rfl ?_
  refine rm_getr (r := 11) flRX3_42 rfl (by decide) rfl dX3_order_1 ?_
  refine rm_getr (r := 20) flRX3_134 rfl (by decide) rfl dX3_order_4 ?_
  refine rn_iload_n dX3_order_7 rfl ?_
  obtain ⟨zj_1, hzj_1, hF⟩ := hF
  refine rj_iald (j := zj_1) hzj_1 rfl (by decide) rfl (by decide) dX3_order_8 ?_
  refine rn_istore dX3_order_9 rfl (Nat.le_of_ble_eq_true rfl) (fun zx4_2 ezx4_2 => ?_)
  replace hF := hF zx4_2 ezx4_2
  show Rn _ _ _ _ _ _ _ _ [some (rf E 75), some (.int zx1), some (.int zx2), some (.int zx3), some (.int zx4_2), none, none, none] _ _ _
  refine rn_iconst (x := (5 : Int32)) dX3_order_11 (by decide) ?_
  refine rn_aload_n dX3_order_12 rfl ?_
  refine rm_getr (r := 11) flRX3_42 rfl (by decide) rfl dX3_order_13 ?_
  refine rm_getr (r := 20) flRX3_134 rfl (by decide) rfl dX3_order_16 ?_
  refine rn_iload_n dX3_order_19 rfl ?_
  refine rn_iconst (x := (1 : Int32)) dX3_order_20 (by decide) ?_
  refine rn_iadd dX3_order_21 ?_
  obtain ⟨zj_3, hzj_3, hF⟩ := hF
  refine rj_iald (j := zj_3) hzj_3 rfl (by decide) rfl (by decide) dX3_order_22 ?_
  refine rn_iload dX3_order_23 rfl ?_
  refine rn_isub dX3_order_25 ?_
  refine rn_mmin mlRX3_137 (Nat.le_of_ble_eq_true rfl) ⟨Nat.le_refl _, Nat.le_refl _⟩ dX3_order_26 ?_
  refine rn_istore dX3_order_29 rfl (Nat.le_of_ble_eq_true rfl) (fun zx5_4 ezx5_4 => ?_)
  replace hF := hF zx5_4 ezx5_4
  show Rn _ _ _ _ _ _ _ _ [some (rf E 75), some (.int zx1), some (.int zx2), some (.int zx3), some (.int zx4_2), some (.int zx5_4), none, none] _ _ _
  refine rn_iload_n dX3_order_31 rfl ?_
  refine rn_iload dX3_order_32 rfl ?_
  refine rn_icmp_lt (tgt := 120) dX3_order_34 (by decide) (fun hc_5 => ?_) (fun hc_5 => ?_)
  · replace hF := hF.1 hc_5
    refine rn_iconst (x := (0 : Int32)) dX3_order_120 (by decide) ?_
    refine ra_istore dX3_order_121 rfl (Nat.le_of_ble_eq_true rfl) ?_
    show Rn _ _ _ _ _ _ _ _ [some (rf E 75), some (.int zx1), some (.int zx2), some (.int zx3), some (.int zx4_2), some (.int zx5_4), some (.int (0 : Int32)), none] _ _ _
    exact rn_wk (L' := [some (rf E 75), some (.int zx1), some (.int zx2), some (.int zx3), some (.int zx4_2), some (.int zx5_4), some (.int (0 : Int32)), none]) (⟨rfl, ⟨rfl, ⟨rfl, ⟨rfl, ⟨rfl, ⟨rfl, ⟨rfl, trivial⟩⟩⟩⟩⟩⟩⟩) hF
  · replace hF := hF.2 hc_5
    refine rn_aload_n dX3_order_37 rfl ?_
    refine rm_getr (r := 78) flRX3_30 rfl (by decide) rfl dX3_order_38 ?_
    refine rn_iload_n dX3_order_41 rfl ?_
    refine rn_iconst (x := (5 : Int32)) dX3_order_42 (by decide) ?_
    refine rn_mmin mlRX3_137 (Nat.le_of_ble_eq_true rfl) ⟨Nat.le_refl _, Nat.le_refl _⟩ dX3_order_43 ?_
    obtain ⟨zj_7, hzj_7, hF⟩ := hF
    refine rj_aald (j := zj_7) (Cn := RX6) (r := (80 + zj_7)) hzj_7 (st_tri _ hzj_7.1).2 rfl (by decide) (by decide) rfl (by decide) dX3_order_46 ?_
    refine rn_astore dX3_order_47 rfl (Nat.le_of_ble_eq_true rfl) ?_
    show Rn _ _ _ _ _ _ _ _ [some (rf E 75), some (.int zx1), some (.int zx2), some (.int zx3), some (.int zx4_2), some (.int zx5_4), some (rf E (80 + zj_7)), none] _ _ _
    refine rn_aload_n dX3_order_49 rfl ?_
    refine rm_getr (r := 22) flRX3_46 rfl (by decide) rfl dX3_order_50 ?_
    refine rn_aload dX3_order_53 rfl ?_
    refine rn_iload dX3_order_55 rfl ?_
    refine rn_iload dX3_order_57 rfl ?_
    refine rn_iadd dX3_order_59 ?_
    refine rn_aload_n dX3_order_60 rfl ?_
    refine rm_getr (r := 11) flRX3_42 rfl (by decide) rfl dX3_order_61 ?_
    refine rm_getr (r := 20) flRX3_134 rfl (by decide) rfl dX3_order_64 ?_
    refine rn_iload_n dX3_order_67 rfl ?_
    refine rn_iconst (x := (1 : Int32)) dX3_order_68 (by decide) ?_
    refine rn_iadd dX3_order_69 ?_
    obtain ⟨zj_8, hzj_8, hF⟩ := hF
    refine rj_iald (j := zj_8) hzj_8 rfl (by decide) rfl (by decide) dX3_order_70 ?_
    refine rm_callV (c0 := 22) (As := [rf E (80 + zj_7), .int (zx4_2 + zx5_4), .int (H 20 zj_8)]) (st := []) mlRX3_142 mdX2_tell (by show _ ≤ _ + (j + 1); exact Nat.le_trans (Nat.le_of_ble_eq_true rfl : _ ≤ 3) (Nat.le_add_right _ _)) rfl (by decide) (by decide) rfl rfl rfl (Nat.le_of_ble_eq_true rfl) ⟨Nat.le_refl _, Nat.le_refl _⟩ dX3_order_71 ?_
    refine cm_mono hF (fun w zH_9 hF => ?_)
    obtain ⟨zr_10, rfl, hF⟩ := hF
    refine rn_pop dX3_order_74 rfl ?_
    refine rn_aload_n dX3_order_75 rfl ?_
    refine rm_getr (r := 22) flRX3_46 rfl (by decide) rfl dX3_order_76 ?_
    refine rn_aload dX3_order_79 rfl ?_
    refine rn_iload_n dX3_order_81 rfl ?_
    refine rn_aload_n dX3_order_82 rfl ?_
    refine rm_getr (r := 11) flRX3_42 rfl (by decide) rfl dX3_order_83 ?_
    refine rm_geti flRX3_146 rfl (by decide) rfl dX3_order_86 ?_
    refine rm_callV (c0 := 22) (As := [rf E (80 + zj_7), .int zx1, .int (zH_9 11 1)]) (st := []) mlRX3_116 mdX2_close (by show _ ≤ _ + (j + 1); exact Nat.le_trans (Nat.le_of_ble_eq_true rfl : _ ≤ 3) (Nat.le_add_right _ _)) rfl (by decide) (by decide) rfl rfl rfl (Nat.le_of_ble_eq_true rfl) ⟨Nat.le_refl _, Nat.le_refl _⟩ dX3_order_89 ?_
    refine cm_mono hF (fun w zH_11 hF => ?_)
    obtain ⟨rfl, hF⟩ := hF
    refine rn_aload_n dX3_order_92 rfl ?_
    refine rn_dup dX3_order_93 rfl ?_
    refine rm_geti flRX3_122 rfl (by decide) rfl dX3_order_94 ?_
    refine rn_aload dX3_order_97 rfl ?_
    refine rm_geti flRX3_149 (st_tri _ hzj_7.1).1.2.1 (st_tri _ hzj_7.1).1.1 (rT_row (st_tri _ hzj_7.1).1.2.2 _) dX3_order_99 ?_
    refine rn_aload_n dX3_order_102 rfl ?_
    refine rm_getr (r := 22) flRX3_46 rfl (by decide) rfl dX3_order_103 ?_
    refine rm_getr (r := 25) flRX3_60 rfl (by decide) rfl dX3_order_106 ?_
    refine rn_iload_n dX3_order_109 rfl ?_
    obtain ⟨zj_12, hzj_12, hF⟩ := hF
    refine rj_aald (j := zj_12) (Cn := RX6) (r := (28 + 2 * zj_12)) hzj_12 (st_beh _ hzj_12.1).2 rfl (by decide) (by decide) rfl (by decide) dX3_order_110 ?_
    refine rm_geti flRX3_149 (st_beh _ hzj_12.1).1.2.1 (st_beh _ hzj_12.1).1.1 (rT_row (st_beh _ hzj_12.1).1.2.2 _) dX3_order_111 ?_
    refine rn_ixor dX3_order_114 ?_
    refine rn_ior dX3_order_115 ?_
    refine rm_puti flRX3_122 rfl (by decide) rfl dX3_order_116 (fun zH_13 ezH_13 => ?_)
    replace hF := hF zH_13 ezH_13
    exact rm_vret rfl dX3_order_119 hF
theorem cmX3_order {E : En} {Q : Option Value → Hi → Prop} {H : Hi} {j : Nat} {zx1 : Int32} {zx2 : Int32} {zx3 : Int32} 
    (hF : ∃ zj_1 : Nat, (zj_1 < 25 ∧ zx1 = nI zj_1) ∧ (∀ zx4_2 : Int32, zx4_2 = H 20 zj_1 → (∃ zj_3 : Nat, (zj_3 < 25 ∧ zx1 + (1 : Int32) = nI zj_3) ∧ (∀ zx5_4 : Int32, zx5_4 = mmin (5 : Int32) ((H 20 zj_3) - zx4_2) → ((zx2 < zx5_4 → (Rm E (mX3_order (j + 1)) Q 123 [some (rf E 75), some (.int zx1), some (.int zx2), some (.int zx3), some (.int zx4_2), some (.int zx5_4), some (.int (0 : Int32)), none] [] H)) ∧ (¬ zx2 < zx5_4 → (∃ zj_7 : Nat, (zj_7 < 6 ∧ mmin zx2 (5 : Int32) = nI zj_7) ∧ (∃ zj_8 : Nat, (zj_8 < 25 ∧ zx1 + (1 : Int32) = nI zj_8) ∧ (Cm E mX2_tell [rf E 22, rf E (80 + zj_7), .int (zx4_2 + zx5_4), .int (H 20 zj_8)] H (fun w zH_9 => ∃ zr_10 : Int32, w = some (.int zr_10) ∧ (Cm E mX2_close [rf E 22, rf E (80 + zj_7), .int zx1, .int (zH_9 11 1)] zH_9 (fun w zH_11 => w = none ∧ (∃ zj_12 : Nat, (zj_12 < 24 ∧ zx1 = nI zj_12) ∧ (∀ zH_13 : Hi, zH_13 = up zH_11 75 8 ((zH_11 75 8) ||| ((zH_11 (80 + zj_7) 0) ^^^ (zH_11 (28 + 2 * zj_12) 0))) → (Q none zH_13))))))))))))))) :
    Cm E (mX3_order (j + 1)) [rf E 75, .int zx1, .int zx2, .int zx3] H Q :=
  cm_of (by decide +kernel : plainName RX3 = true) (Nat.le_of_ble_eq_true rfl) rfl (sgX3_order_0  hF)
theorem sgX3_order_123 {E : En} {Q : Option Value → Hi → Prop} {H : Hi} {j : Nat} {zx1 : Int32} {zx2 : Int32} {zx3 : Int32} {zx4 : Int32} {zx5 : Int32} {zx6 : Int32} 
    (hF : (zx5 ≤ zx6 → (Q none H)) ∧ (¬ zx5 ≤ zx6 → ((¬ ((zx3 >>> (zx6 &&& 31)) &&& (1 : Int32)) = 0 → (∀ zx6_3 : Int32, zx6_3 = zx6 + (1 : Int32) → (Rm E (mX3_order (j + 1)) Q 123 [some (rf E 75), some (.int zx1), some (.int zx2), some (.int zx3), some (.int zx4), some (.int zx5), some (.int zx6_3), none] [] H))) ∧ (((zx3 >>> (zx6 &&& 31)) &&& (1 : Int32)) = 0 → (∃ zj_4 : Nat, (zj_4 < 6 ∧ zx2 + (1 : Int32) = nI zj_4) ∧ (∃ zj_5 : Nat, (zj_5 < 6 ∧ zx2 = nI zj_5) ∧ (Cm E mX6_become [rf E (80 + zj_4), rf E (80 + zj_5)] H (fun w zH_6 => w = none ∧ (∃ zj_7 : Nat, (zj_7 < 20 ∧ zx4 + zx6 = nI zj_7) ∧ (∃ zj_8 : Nat, (zj_8 < 20 ∧ zH_6 19 zj_7 = nI zj_8) ∧ (Cm E mX2_reach [rf E 22, rf E (80 + zj_4), .int (zH_6 13 zj_8)] zH_6 (fun w zH_9 => ∃ zr_10 : Int32, w = some (.int zr_10) ∧ (Cm E (mX3_order j) [rf E 75, .int zx1, .int (zx2 + (1 : Int32)), .int (zx3 ||| ((1 : Int32) <<< (zx6 &&& 31)))] zH_9 (fun w zH_11 => w = none ∧ (∀ zx6_12 : Int32, zx6_12 = zx6 + (1 : Int32) → (Rm E (mX3_order (j + 1)) Q 123 [some (rf E 75), some (.int zx1), some (.int zx2), some (.int zx3), some (.int zx4), some (.int zx5), some (.int zx6_12), none] [] zH_11)))))))))))))))) :
    Rm E (mX3_order (j + 1)) Q 123 [some (rf E 75), some (.int zx1), some (.int zx2), some (.int zx3), some (.int zx4), some (.int zx5), some (.int zx6), none] [] H := by
  refine rn_iload dX3_order_123 rfl ?_
  refine rn_iload dX3_order_125 rfl ?_
  refine rn_icmp_ge (tgt := 211) dX3_order_127 (by decide) (fun hc_1 => ?_) (fun hc_1 => ?_)
  · replace hF := hF.1 hc_1
    exact rm_vret rfl dX3_order_211 hF
  · replace hF := hF.2 hc_1
    refine rn_iload_n dX3_order_130 rfl ?_
    refine rn_iload dX3_order_131 rfl ?_
    refine rn_ishr dX3_order_133 ?_
    refine rn_iconst (x := (1 : Int32)) dX3_order_134 (by decide) ?_
    refine rn_iand dX3_order_135 ?_
    refine rn_if_ne (tgt := 205) dX3_order_136 (by decide) (fun hc_2 => ?_) (fun hc_2 => ?_)
    · replace hF := hF.1 hc_2
      refine rn_iinc (w := (1 : Int32)) dX3_order_205 rfl (by decide) rfl (Nat.le_of_ble_eq_true rfl) (fun zx6_3 ezx6_3 => ?_)
      replace hF := hF zx6_3 ezx6_3
      show Rn _ _ _ _ _ _ _ _ [some (rf E 75), some (.int zx1), some (.int zx2), some (.int zx3), some (.int zx4), some (.int zx5), some (.int zx6_3), none] _ _ _
      refine rn_goto (tgt := 123) dX3_order_208 (by decide) ?_
      exact rn_wk (L' := [some (rf E 75), some (.int zx1), some (.int zx2), some (.int zx3), some (.int zx4), some (.int zx5), some (.int zx6_3), none]) (⟨rfl, ⟨rfl, ⟨rfl, ⟨rfl, ⟨rfl, ⟨rfl, ⟨rfl, trivial⟩⟩⟩⟩⟩⟩⟩) hF
    · replace hF := hF.2 hc_2
      refine rn_aload_n dX3_order_139 rfl ?_
      refine rm_getr (r := 78) flRX3_30 rfl (by decide) rfl dX3_order_140 ?_
      refine rn_iload_n dX3_order_143 rfl ?_
      refine rn_iconst (x := (1 : Int32)) dX3_order_144 (by decide) ?_
      refine rn_iadd dX3_order_145 ?_
      obtain ⟨zj_4, hzj_4, hF⟩ := hF
      refine rj_aald (j := zj_4) (Cn := RX6) (r := (80 + zj_4)) hzj_4 (st_tri _ hzj_4.1).2 rfl (by decide) (by decide) rfl (by decide) dX3_order_146 ?_
      refine rn_astore dX3_order_147 rfl (Nat.le_of_ble_eq_true rfl) ?_
      show Rn _ _ _ _ _ _ _ _ [some (rf E 75), some (.int zx1), some (.int zx2), some (.int zx3), some (.int zx4), some (.int zx5), some (.int zx6), some (rf E (80 + zj_4))] _ _ _
      refine rn_aload dX3_order_149 rfl ?_
      refine rn_aload_n dX3_order_151 rfl ?_
      refine rm_getr (r := 78) flRX3_30 rfl (by decide) rfl dX3_order_152 ?_
      refine rn_iload_n dX3_order_155 rfl ?_
      obtain ⟨zj_5, hzj_5, hF⟩ := hF
      refine rj_aald (j := zj_5) (Cn := RX6) (r := (80 + zj_5)) hzj_5 (st_tri _ hzj_5.1).2 rfl (by decide) (by decide) rfl (by decide) dX3_order_156 ?_
      refine rm_callV (c0 := (80 + zj_4)) (As := [rf E (80 + zj_5)]) (st := []) mlRX3_70 mdX6_become (by show _ ≤ _ + (j + 1); exact Nat.le_trans (Nat.le_of_ble_eq_true rfl : _ ≤ 3) (Nat.le_add_right _ _)) (st_tri _ hzj_4.1).1.2.1 (st_tri _ hzj_4.1).1.1 (by decide) rfl rfl rfl (Nat.le_of_ble_eq_true rfl) ⟨Nat.le_refl _, Nat.le_refl _⟩ dX3_order_157 ?_
      refine cm_mono hF (fun w zH_6 hF => ?_)
      obtain ⟨rfl, hF⟩ := hF
      refine rn_aload_n dX3_order_160 rfl ?_
      refine rm_getr (r := 22) flRX3_46 rfl (by decide) rfl dX3_order_161 ?_
      refine rn_aload dX3_order_164 rfl ?_
      refine rn_aload_n dX3_order_166 rfl ?_
      refine rm_getr (r := 11) flRX3_42 rfl (by decide) rfl dX3_order_167 ?_
      refine rm_getr (r := 13) flRX3_152 rfl (by decide) rfl dX3_order_170 ?_
      refine rn_aload_n dX3_order_173 rfl ?_
      refine rm_getr (r := 11) flRX3_42 rfl (by decide) rfl dX3_order_174 ?_
      refine rm_getr (r := 19) flRX3_155 rfl (by decide) rfl dX3_order_177 ?_
      refine rn_iload dX3_order_180 rfl ?_
      refine rn_iload dX3_order_182 rfl ?_
      refine rn_iadd dX3_order_184 ?_
      obtain ⟨zj_7, hzj_7, hF⟩ := hF
      refine rj_iald (j := zj_7) hzj_7 rfl (by decide) rfl (by decide) dX3_order_185 ?_
      obtain ⟨zj_8, hzj_8, hF⟩ := hF
      refine rj_iald (j := zj_8) hzj_8 rfl (by decide) rfl (by decide) dX3_order_186 ?_
      refine rm_callV (c0 := 22) (As := [rf E (80 + zj_4), .int (zH_6 13 zj_8)]) (st := []) mlRX3_82 mdX2_reach (by show _ ≤ _ + (j + 1); exact Nat.le_trans (Nat.le_of_ble_eq_true rfl : _ ≤ 3) (Nat.le_add_right _ _)) rfl (by decide) (by decide) rfl rfl rfl (Nat.le_of_ble_eq_true rfl) ⟨Nat.le_refl _, Nat.le_refl _⟩ dX3_order_187 ?_
      refine cm_mono hF (fun w zH_9 hF => ?_)
      obtain ⟨zr_10, rfl, hF⟩ := hF
      refine rn_pop dX3_order_190 rfl ?_
      refine rn_aload_n dX3_order_191 rfl ?_
      refine rn_iload_n dX3_order_192 rfl ?_
      refine rn_iload_n dX3_order_193 rfl ?_
      refine rn_iconst (x := (1 : Int32)) dX3_order_194 (by decide) ?_
      refine rn_iadd dX3_order_195 ?_
      refine rn_iload_n dX3_order_196 rfl ?_
      refine rn_iconst (x := (1 : Int32)) dX3_order_197 (by decide) ?_
      refine rn_iload dX3_order_198 rfl ?_
      refine rn_ishl dX3_order_200 ?_
      refine rn_ior dX3_order_201 ?_
      refine rm_callV (c0 := 75) (As := [.int zx1, .int (zx2 + (1 : Int32)), .int (zx3 ||| ((1 : Int32) <<< (zx6 &&& 31)))]) (st := []) (mlRX3_128 j) (mdX3_order j) (Nat.le_refl _) rfl (by decide) (by decide) rfl rfl rfl (Nat.le_of_ble_eq_true rfl) ⟨Nat.le_refl _, Nat.le_refl _⟩ dX3_order_202 ?_
      refine cm_mono hF (fun w zH_11 hF => ?_)
      obtain ⟨rfl, hF⟩ := hF
      refine rn_iinc (w := (1 : Int32)) dX3_order_205 rfl (by decide) rfl (Nat.le_of_ble_eq_true rfl) (fun zx6_12 ezx6_12 => ?_)
      replace hF := hF zx6_12 ezx6_12
      show Rn _ _ _ _ _ _ _ _ [some (rf E 75), some (.int zx1), some (.int zx2), some (.int zx3), some (.int zx4), some (.int zx5), some (.int zx6_12), some (rf E (80 + zj_4))] _ _ _
      refine rn_goto (tgt := 123) dX3_order_208 (by decide) ?_
      exact rn_wk (L' := [some (rf E 75), some (.int zx1), some (.int zx2), some (.int zx3), some (.int zx4), some (.int zx5), some (.int zx6_12), none]) (⟨rfl, ⟨rfl, ⟨rfl, ⟨rfl, ⟨rfl, ⟨rfl, ⟨rfl, trivial⟩⟩⟩⟩⟩⟩⟩) hF
