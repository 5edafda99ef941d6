theorem sgX1_fittingHours_0 {E : En} {Q : Option Value → Hi → Prop} {H : Hi} {zx1 : Int32} {zx2 : Int32} 
    (hF : Rm E mX1_fittingHours Q 5 [some (rf E 86), some (.int zx1), some (.int zx2), some (.int (0 : Int32)), some (.int (0 : Int32))] [] H) :
    Rm E mX1_fittingHours Q 0 [some (rf E 86), some (.int zx1), some (.int zx2), none, none] [] H := by
  refine rn_iconst (x := (0 : Int32)) dX1_fittingHours_0 (by decide) ?_
  refine ra_istore_n dX1_fittingHours_1 rfl (Nat.le_of_ble_eq_true rfl) ?_
  show Rn _ _ _ _ _ _ _ _ [some (rf E 86), some (.int zx1), some (.int zx2), some (.int (0 : Int32)), none] _ _ _
  refine rn_iconst (x := (0 : Int32)) dX1_fittingHours_2 (by decide) ?_
  refine ra_istore dX1_fittingHours_3 rfl (Nat.le_of_ble_eq_true rfl) ?_
  show Rn _ _ _ _ _ _ _ _ [some (rf E 86), some (.int zx1), some (.int zx2), some (.int (0 : Int32)), some (.int (0 : Int32))] _ _ _
  exact rn_wk (L' := [some (rf E 86), some (.int zx1), some (.int zx2), some (.int (0 : Int32)), some (.int (0 : Int32))]) (⟨rfl, ⟨rfl, ⟨rfl, ⟨rfl, ⟨rfl, trivial⟩⟩⟩⟩⟩) hF
theorem cmX1_fittingHours {E : En} {Q : Option Value → Hi → Prop} {H : Hi} {zx1 : Int32} {zx2 : Int32} 
    (hF : Rm E mX1_fittingHours Q 5 [some (rf E 86), some (.int zx1), some (.int zx2), some (.int (0 : Int32)), some (.int (0 : Int32))] [] H) :
    Cm E mX1_fittingHours [rf E 86, .int zx1, .int zx2] H Q :=
  cm_of (by decide +kernel : plainName RX1 = true) (Nat.le_of_ble_eq_true rfl) rfl (sgX1_fittingHours_0  hF)
theorem sgX1_fittingHours_5 {E : En} {Q : Option Value → Hi → Prop} {H : Hi} {zx1 : Int32} {zx2 : Int32} {zx3 : Int32} {zx4 : Int32} 
    (hF : ((24 : Int32) ≤ zx4 → (Q (some (.int zx3)) H)) ∧ (¬ (24 : Int32) ≤ zx4 → (Cm E mX1_look [rf E 86, .int zx4, .int (((64 : Int32) + ((8 : Int32) * zx1)) + zx2)] H (fun w zH_2 => w = none ∧ (Cm E mX1_comesOut [rf E 86] zH_2 (fun w zH_3 => ∃ zr_4 : Int32, w = some (.int zr_4) ∧ ((zr_4 = 0 → (∀ zx4_6 : Int32, zx4_6 = zx4 + (1 : Int32) → (Rm E mX1_fittingHours Q 5 [some (rf E 86), some (.int zx1), some (.int zx2), some (.int zx3), some (.int zx4_6)] [] zH_3))) ∧ (¬ zr_4 = 0 → (∀ zx3_7 : Int32, zx3_7 = zx3 ||| ((1 : Int32) <<< (zx4 &&& 31)) → (∀ zx4_8 : Int32, zx4_8 = zx4 + (1 : Int32) → (Rm E mX1_fittingHours Q 5 [some (rf E 86), some (.int zx1), some (.int zx2), some (.int zx3_7), some (.int zx4_8)] [] zH_3))))))))))) :
    Rm E mX1_fittingHours Q 5 [some (rf E 86), some (.int zx1), some (.int zx2), some (.int zx3), some (.int zx4)] [] H := by
  refine rn_iload dX1_fittingHours_5 rfl ?_
  refine rn_bipush (x := (24 : Int32)) dX1_fittingHours_7 (by decide) ?_
  refine rn_icmp_ge (tgt := 47) dX1_fittingHours_9 (by decide) (fun hc_1 => ?_) (fun hc_1 => ?_)
  · replace hF := hF.1 hc_1
    refine rn_iload_n dX1_fittingHours_47 rfl ?_
    exact rm_iret rfl dX1_fittingHours_48 hF
  · replace hF := hF.2 hc_1
    refine rn_aload_n dX1_fittingHours_12 rfl ?_
    refine rn_iload dX1_fittingHours_13 rfl ?_
    refine rn_bipush (x := (64 : Int32)) dX1_fittingHours_15 (by decide) ?_
    refine rn_bipush (x := (8 : Int32)) dX1_fittingHours_17 (by decide) ?_
    refine rn_iload_n dX1_fittingHours_19 rfl ?_
    refine rn_imul dX1_fittingHours_20 ?_
    refine rn_iadd dX1_fittingHours_21 ?_
    refine rn_iload_n dX1_fittingHours_22 rfl ?_
    refine rn_iadd dX1_fittingHours_23 ?_
    refine rm_callV (c0 := 86) (As := [.int zx4, .int (((64 : Int32) + ((8 : Int32) * zx1)) + zx2)]) (st := []) mlRX1_37 mdX1_look (Nat.le_of_ble_eq_true rfl) rfl (by decide) (by decide) rfl rfl rfl (Nat.le_of_ble_eq_true rfl) ⟨Nat.le_refl _, Nat.le_refl _⟩ dX1_fittingHours_24 ?_
    refine cm_mono hF (fun w zH_2 hF => ?_)
    obtain ⟨rfl, hF⟩ := hF
    refine rn_aload_n dX1_fittingHours_27 rfl ?_
    refine rm_callV (c0 := 86) (As := []) (st := []) mlRX1_41 mdX1_comesOut (Nat.le_of_ble_eq_true rfl) rfl (by decide) (by decide) rfl rfl rfl (Nat.le_of_ble_eq_true rfl) ⟨Nat.le_refl _, Nat.le_refl _⟩ dX1_fittingHours_28 ?_
    refine cm_mono hF (fun w zH_3 hF => ?_)
    obtain ⟨zr_4, rfl, hF⟩ := hF
    refine rn_if_eq (tgt := 41) dX1_fittingHours_31 (by decide) (fun hc_5 => ?_) (fun hc_5 => ?_)
    · replace hF := hF.1 hc_5
      refine rn_iinc (w := (1 : Int32)) dX1_fittingHours_41 rfl (by decide) rfl (Nat.le_of_ble_eq_true rfl) (fun zx4_6 ezx4_6 => ?_)
      replace hF := hF zx4_6 ezx4_6
      show Rn _ _ _ _ _ _ _ _ [some (rf E 86), some (.int zx1), some (.int zx2), some (.int zx3), some (.int zx4_6)] _ _ _
      refine rn_goto (tgt := 5) dX1_fittingHours_44 (by decide) ?_
      exact rn_wk (L' := [some (rf E 86), some (.int zx1), some (.int zx2), some (.int zx3), some (.int zx4_6)]) (⟨rfl, ⟨rfl, ⟨rfl, ⟨rfl, ⟨rfl, trivial⟩⟩⟩⟩⟩) hF
    · replace hF := hF.2 hc_5
      refine rn_iload_n dX1_fittingHours_34 rfl ?_
      refine rn_iconst (x := (1 : Int32)) dX1_fittingHours_35 (by decide) ?_
      refine rn_iload dX1_fittingHours_36 rfl ?_
      refine rn_ishl dX1_fittingHours_38 ?_
      refine rn_ior dX1_fittingHours_39 ?_
      refine rn_istore_n dX1_fittingHours_40 rfl (Nat.le_of_ble_eq_true rfl) (fun zx3_7 ezx3_7 => ?_)
      replace hF := hF zx3_7 ezx3_7
      show Rn _ _ _ _ _ _ _ _ [some (rf E 86), some (.int zx1), some (.int zx2), some (.int zx3_7), some (.int zx4)] _ _ _
      refine rn_iinc (w := (1 : Int32)) dX1_fittingHours_41 rfl (by decide) rfl (Nat.le_of_ble_eq_true rfl) (fun zx4_8 ezx4_8 => ?_)
      replace hF := hF zx4_8 ezx4_8
      show Rn _ _ _ _ _ _ _ _ [some (rf E 86), some (.int zx1), some (.int zx2), some (.int zx3_7), some (.int zx4_8)] _ _ _
      refine rn_goto (tgt := 5) dX1_fittingHours_44 (by decide) ?_
      exact rn_wk (L' := [some (rf E 86), some (.int zx1), some (.int zx2), some (.int zx3_7), some (.int zx4_8)]) (⟨rfl, ⟨rfl, ⟨rfl, ⟨rfl, ⟨rfl, trivial⟩⟩⟩⟩⟩) hF
theorem sgX1_suspects_0 {E : En} {Q : Option Value → Hi → Prop} {H : Hi} {zx1 : Int32} 
    (hF : Rm E mX1_suspects Q 4 [some (rf E 86), some (.int zx1), some (.int (0 : Int32)), some (.int (0 : Int32))] [] H) :
    Rm E mX1_suspects Q 0 [some (rf E 86), some (.int zx1), none, none] [] H := by
  refine rn_iconst (x := (0 : Int32)) dX1_suspects_0 (by decide) ?_
  refine ra_istore_n dX1_suspects_1 rfl (Nat.le_of_ble_eq_true rfl) ?_
  show Rn _ _ _ _ _ _ _ _ [some (rf E 86), some (.int zx1), some (.int (0 : Int32)), none] _ _ _
  refine rn_iconst (x := (0 : Int32)) dX1_suspects_2 (by decide) ?_
  refine ra_istore_n dX1_suspects_3 rfl (Nat.le_of_ble_eq_true rfl) ?_
  show Rn _ _ _ _ _ _ _ _ [some (rf E 86), some (.int zx1), some (.int (0 : Int32)), some (.int (0 : Int32))] _ _ _
  exact rn_wk (L' := [some (rf E 86), some (.int zx1), some (.int (0 : Int32)), some (.int (0 : Int32))]) (⟨rfl, ⟨rfl, ⟨rfl, ⟨rfl, trivial⟩⟩⟩⟩) hF
theorem cmX1_suspects {E : En} {Q : Option Value → Hi → Prop} {H : Hi} {zx1 : Int32} 
    (hF : Rm E mX1_suspects Q 4 [some (rf E 86), some (.int zx1), some (.int (0 : Int32)), some (.int (0 : Int32))] [] H) :
    Cm E mX1_suspects [rf E 86, .int zx1] H Q :=
  cm_of (by decide +kernel : plainName RX1 = true) (Nat.le_of_ble_eq_true rfl) rfl (sgX1_suspects_0  hF)
theorem sgX1_suspects_4 {E : En} {Q : Option Value → Hi → Prop} {H : Hi} {zx1 : Int32} {zx2 : Int32} {zx3 : Int32} 
    (hF : ((H 5 1) ≤ zx3 → (Q (some (.int zx2)) H)) ∧ (¬ (H 5 1) ≤ zx3 → (Cm E mX1_fittingHours [rf E 86, .int zx3, .int zx1] H (fun w zH_2 => ∃ zr_3 : Int32, w = some (.int zr_3) ∧ ((zr_3 = 0 → (∀ zx3_5 : Int32, zx3_5 = zx3 + (1 : Int32) → (Rm E mX1_suspects Q 4 [some (rf E 86), some (.int zx1), some (.int zx2), some (.int zx3_5)] [] zH_2))) ∧ (¬ zr_3 = 0 → (∀ zx2_6 : Int32, zx2_6 = zx2 ||| ((1 : Int32) <<< (zx3 &&& 31)) → (∀ zx3_7 : Int32, zx3_7 = zx3 + (1 : Int32) → (Rm E mX1_suspects Q 4 [some (rf E 86), some (.int zx1), some (.int zx2_6), some (.int zx3_7)] [] zH_2))))))))) :
    Rm E mX1_suspects Q 4 [some (rf E 86), some (.int zx1), some (.int zx2), some (.int zx3)] [] H := by
  refine rn_iload_n dX1_suspects_4 rfl ?_
  refine rn_aload_n dX1_suspects_5 rfl ?_
  refine rm_getr (r := 5) flRX1_25 rfl (by decide) rfl dX1_suspects_6 ?_
  refine rm_geti flRX1_45 rfl (by decide) rfl dX1_suspects_9 ?_
  refine rn_icmp_ge (tgt := 36) dX1_suspects_12 (by decide) (fun hc_1 => ?_) (fun hc_1 => ?_)
  · replace hF := hF.1 hc_1
    refine rn_iload_n dX1_suspects_36 rfl ?_
    exact rm_iret rfl dX1_suspects_37 hF
  · replace hF := hF.2 hc_1
    refine rn_aload_n dX1_suspects_15 rfl ?_
    refine rn_iload_n dX1_suspects_16 rfl ?_
    refine rn_iload_n dX1_suspects_17 rfl ?_
    refine rm_callV (c0 := 86) (As := [.int zx3, .int zx1]) (st := []) mlRX1_51 mdX1_fittingHours (Nat.le_of_ble_eq_true rfl) rfl (by decide) (by decide) rfl rfl rfl (Nat.le_of_ble_eq_true rfl) ⟨Nat.le_refl _, Nat.le_refl _⟩ dX1_suspects_18 ?_
    refine cm_mono hF (fun w zH_2 hF => ?_)
    obtain ⟨zr_3, rfl, hF⟩ := hF
    refine rn_if_eq (tgt := 30) dX1_suspects_21 (by decide) (fun hc_4 => ?_) (fun hc_4 => ?_)
    · replace hF := hF.1 hc_4
      refine rn_iinc (w := (1 : Int32)) dX1_suspects_30 rfl (by decide) rfl (Nat.le_of_ble_eq_true rfl) (fun zx3_5 ezx3_5 => ?_)
      replace hF := hF zx3_5 ezx3_5
      show Rn _ _ _ _ _ _ _ _ [some (rf E 86), some (.int zx1), some (.int zx2), some (.int zx3_5)] _ _ _
      refine rn_goto (tgt := 4) dX1_suspects_33 (by decide) ?_
      exact rn_wk (L' := [some (rf E 86), some (.int zx1), some (.int zx2), some (.int zx3_5)]) (⟨rfl, ⟨rfl, ⟨rfl, ⟨rfl, trivial⟩⟩⟩⟩) hF
    · replace hF := hF.2 hc_4
      refine rn_iload_n dX1_suspects_24 rfl ?_
      refine rn_iconst (x := (1 : Int32)) dX1_suspects_25 (by decide) ?_
      refine rn_iload_n dX1_suspects_26 rfl ?_
      refine rn_ishl dX1_suspects_27 ?_
      refine rn_ior dX1_suspects_28 ?_
      refine rn_istore_n dX1_suspects_29 rfl (Nat.le_of_ble_eq_true rfl) (fun zx2_6 ezx2_6 => ?_)
      replace hF := hF zx2_6 ezx2_6
      show Rn _ _ _ _ _ _ _ _ [some (rf E 86), some (.int zx1), some (.int zx2_6), some (.int zx3)] _ _ _
      refine rn_iinc (w := (1 : Int32)) dX1_suspects_30 rfl (by decide) rfl (Nat.le_of_ble_eq_true rfl) (fun zx3_7 ezx3_7 => ?_)
      replace hF := hF zx3_7 ezx3_7
      show Rn _ _ _ _ _ _ _ _ [some (rf E 86), some (.int zx1), some (.int zx2_6), some (.int zx3_7)] _ _ _
      refine rn_goto (tgt := 4) dX1_suspects_33 (by decide) ?_
      exact rn_wk (L' := [some (rf E 86), some (.int zx1), some (.int zx2_6), some (.int zx3_7)]) (⟨rfl, ⟨rfl, ⟨rfl, ⟨rfl, trivial⟩⟩⟩⟩) hF
theorem sgX1_bestHour_0 {E : En} {Q : Option Value → Hi → Prop} {H : Hi} {zx1 : Int32} {zx2 : Int32} 
    (hF : Cm E mJ7_fill_53178 [rf E 89, .int (0 : Int32)] H (fun w zH_2 => w = none ∧ (Rm E mX1_bestHour Q 13 [some (rf E 86), some (.int zx1), some (.int zx2), some (.int (0 : Int32)), some (.int (0 : Int32)), none] [] zH_2))) :
    Rm E mX1_bestHour Q 0 [some (rf E 86), some (.int zx1), some (.int zx2), none, none, none] [] H := by
  refine rn_iconst (x := (0 : Int32)) dX1_bestHour_0 (by decide) ?_
  refine ra_istore_n dX1_bestHour_1 rfl (Nat.le_of_ble_eq_true rfl) ?_
  show Rn _ _ _ _ _ _ _ _ [some (rf E 86), some (.int zx1), some (.int zx2), some (.int (0 : Int32)), none, none] _ _ _
  refine rn_aload_n dX1_bestHour_2 rfl ?_
  refine rm_getr (r := 89) flRX1_22 rfl (by decide) rfl dX1_bestHour_3 ?_
  refine rn_iconst (x := (0 : Int32)) dX1_bestHour_6 (by decide) ?_
  refine rm_callS (As := [rf E 89, .int (0 : Int32)]) (st := []) mlRX1_55 mdJ7_fill_53178 (Nat.le_of_ble_eq_true rfl) rfl rfl (Nat.le_of_ble_eq_true rfl) ⟨Nat.le_refl _, Nat.le_refl _⟩ dX1_bestHour_7 ?_
  refine cm_mono hF (fun w zH_2 hF => ?_)
  obtain ⟨rfl, hF⟩ := hF
  refine rn_iconst (x := (0 : Int32)) dX1_bestHour_10 (by decide) ?_
  refine ra_istore dX1_bestHour_11 rfl (Nat.le_of_ble_eq_true rfl) ?_
  show Rn _ _ _ _ _ _ _ _ [some (rf E 86), some (.int zx1), some (.int zx2), some (.int (0 : Int32)), some (.int (0 : Int32)), none] _ _ _
  exact rn_wk (L' := [some (rf E 86), some (.int zx1), some (.int zx2), some (.int (0 : Int32)), some (.int (0 : Int32)), none]) (⟨rfl, ⟨rfl, ⟨rfl, ⟨rfl, ⟨rfl, trivial⟩⟩⟩⟩⟩) hF
theorem cmX1_bestHour {E : En} {Q : Option Value → Hi → Prop} {H : Hi} {zx1 : Int32} {zx2 : Int32} 
    (hF : Cm E mJ7_fill_53178 [rf E 89, .int (0 : Int32)] H (fun w zH_2 => w = none ∧ (Rm E mX1_bestHour Q 13 [some (rf E 86), some (.int zx1), some (.int zx2), some (.int (0 : Int32)), some (.int (0 : Int32)), none] [] zH_2))) :
    Cm E mX1_bestHour [rf E 86, .int zx1, .int zx2] H Q :=
  cm_of (by decide +kernel : plainName RX1 = true) (Nat.le_of_ble_eq_true rfl) rfl (sgX1_bestHour_0  hF)
theorem sgX1_bestHour_13 {E : En} {Q : Option Value → Hi → Prop} {H : Hi} {zx1 : Int32} {zx2 : Int32} {zx3 : Int32} {zx4 : Int32} 
    (hF : ((24 : Int32) ≤ zx4 → (Rm E mX1_bestHour Q 62 [some (rf E 86), none, none, some (.int zx3), some (.int (0 : Int32)), some (.int (1 : Int32))] [] H)) ∧ (¬ (24 : Int32) ≤ zx4 → (Cm E mX1_look [rf E 86, .int zx4, .int (((64 : Int32) + ((8 : Int32) * zx1)) + zx2)] H (fun w zH_4 => w = none ∧ (Cm E mX1_comesOut [rf E 86] zH_4 (fun w zH_5 => ∃ zr_6 : Int32, w = some (.int zr_6) ∧ ((zr_6 = 0 → (∀ zx4_8 : Int32, zx4_8 = zx4 + (1 : Int32) → (Rm E mX1_bestHour Q 13 [some (rf E 86), some (.int zx1), some (.int zx2), some (.int zx3), some (.int zx4_8), none] [] zH_5))) ∧ (¬ zr_6 = 0 → (∀ zx3_9 : Int32, zx3_9 = zx3 + (1 : Int32) → (Cm E mX1_countSeen [rf E 86, .int zx2] zH_5 (fun w zH_10 => w = none ∧ (∀ zx4_11 : Int32, zx4_11 = zx4 + (1 : Int32) → (Rm E mX1_bestHour Q 13 [some (rf E 86), some (.int zx1), some (.int zx2), some (.int zx3_9), some (.int zx4_11), none] [] zH_10))))))))))))) :
    Rm E mX1_bestHour Q 13 [some (rf E 86), some (.int zx1), some (.int zx2), some (.int zx3), some (.int zx4), none] [] H := by
  refine rn_iload dX1_bestHour_13 rfl ?_
  refine rn_bipush (x := (24 : Int32)) dX1_bestHour_15 (by decide) ?_
  refine rn_icmp_ge (tgt := 56) dX1_bestHour_17 (by decide) (fun hc_1 => ?_) (fun hc_1 => ?_)
  · replace hF := hF.1 hc_1
    refine rn_iconst (x := (0 : Int32)) dX1_bestHour_56 (by decide) ?_
    refine ra_istore dX1_bestHour_57 rfl (Nat.le_of_ble_eq_true rfl) ?_
    show Rn _ _ _ _ _ _ _ _ [some (rf E 86), some (.int zx1), some (.int zx2), some (.int zx3), some (.int (0 : Int32)), none] _ _ _
    refine rn_iconst (x := (1 : Int32)) dX1_bestHour_59 (by decide) ?_
    refine ra_istore dX1_bestHour_60 rfl (Nat.le_of_ble_eq_true rfl) ?_
    show Rn _ _ _ _ _ _ _ _ [some (rf E 86), some (.int zx1), some (.int zx2), some (.int zx3), some (.int (0 : Int32)), some (.int (1 : Int32))] _ _ _
    exact rn_wk (L' := [some (rf E 86), none, none, some (.int zx3), some (.int (0 : Int32)), some (.int (1 : Int32))]) (⟨rfl, ⟨rfl, ⟨rfl, ⟨rfl, trivial⟩⟩⟩⟩) hF
  · replace hF := hF.2 hc_1
    refine rn_aload_n dX1_bestHour_20 rfl ?_
    refine rn_iload dX1_bestHour_21 rfl ?_
    refine rn_bipush (x := (64 : Int32)) dX1_bestHour_23 (by decide) ?_
    refine rn_bipush (x := (8 : Int32)) dX1_bestHour_25 (by decide) ?_
    refine rn_iload_n dX1_bestHour_27 rfl ?_
    refine rn_imul dX1_bestHour_28 ?_
    refine rn_iadd dX1_bestHour_29 ?_
    refine rn_iload_n dX1_bestHour_30 rfl ?_
    refine rn_iadd dX1_bestHour_31 ?_
    refine rm_callV (c0 := 86) (As := [.int zx4, .int (((64 : Int32) + ((8 : Int32) * zx1)) + zx2)]) (st := []) mlRX1_37 mdX1_look (Nat.le_of_ble_eq_true rfl) rfl (by decide) (by decide) rfl rfl rfl (Nat.le_of_ble_eq_true rfl) ⟨Nat.le_refl _, Nat.le_refl _⟩ dX1_bestHour_32 ?_
    refine cm_mono hF (fun w zH_4 hF => ?_)
    obtain ⟨rfl, hF⟩ := hF
    refine rn_aload_n dX1_bestHour_35 rfl ?_
    refine rm_callV (c0 := 86) (As := []) (st := []) mlRX1_41 mdX1_comesOut (Nat.le_of_ble_eq_true rfl) rfl (by decide) (by decide) rfl rfl rfl (Nat.le_of_ble_eq_true rfl) ⟨Nat.le_refl _, Nat.le_refl _⟩ dX1_bestHour_36 ?_
    refine cm_mono hF (fun w zH_5 hF => ?_)
    obtain ⟨zr_6, rfl, hF⟩ := hF
    refine rn_if_eq (tgt := 50) dX1_bestHour_39 (by decide) (fun hc_7 => ?_) (fun hc_7 => ?_)
    · replace hF := hF.1 hc_7
      refine rn_iinc (w := (1 : Int32)) dX1_bestHour_50 rfl (by decide) rfl (Nat.le_of_ble_eq_true rfl) (fun zx4_8 ezx4_8 => ?_)
      replace hF := hF zx4_8 ezx4_8
      show Rn _ _ _ _ _ _ _ _ [some (rf E 86), some (.int zx1), some (.int zx2), some (.int zx3), some (.int zx4_8), none] _ _ _
      refine rn_goto (tgt := 13) dX1_bestHour_53 (by decide) ?_
      exact rn_wk (L' := [some (rf E 86), some (.int zx1), some (.int zx2), some (.int zx3), some (.int zx4_8), none]) (⟨rfl, ⟨rfl, ⟨rfl, ⟨rfl, ⟨rfl, trivial⟩⟩⟩⟩⟩) hF
    · replace hF := hF.2 hc_7
      refine rn_iinc (w := (1 : Int32)) dX1_bestHour_42 rfl (by decide) rfl (Nat.le_of_ble_eq_true rfl) (fun zx3_9 ezx3_9 => ?_)
      replace hF := hF zx3_9 ezx3_9
      show Rn _ _ _ _ _ _ _ _ [some (rf E 86), some (.int zx1), some (.int zx2), some (.int zx3_9), some (.int zx4), none] _ _ _
      refine rn_aload_n dX1_bestHour_45 rfl ?_
      refine rn_iload_n dX1_bestHour_46 rfl ?_
      refine rm_callV (c0 := 86) (As := [.int zx2]) (st := []) mlRX1_61 mdX1_countSeen (Nat.le_of_ble_eq_true rfl) rfl (by decide) (by decide) rfl rfl rfl (Nat.le_of_ble_eq_true rfl) ⟨Nat.le_refl _, Nat.le_refl _⟩ dX1_bestHour_47 ?_
      refine cm_mono hF (fun w zH_10 hF => ?_)
      obtain ⟨rfl, hF⟩ := hF
      refine rn_iinc (w := (1 : Int32)) dX1_bestHour_50 rfl (by decide) rfl (Nat.le_of_ble_eq_true rfl) (fun zx4_11 ezx4_11 => ?_)
      replace hF := hF zx4_11 ezx4_11
      show Rn _ _ _ _ _ _ _ _ [some (rf E 86), some (.int zx1), some (.int zx2), some (.int zx3_9), some (.int zx4_11), none] _ _ _
      refine rn_goto (tgt := 13) dX1_bestHour_53 (by decide) ?_
      exact rn_wk (L' := [some (rf E 86), some (.int zx1), some (.int zx2), some (.int zx3_9), some (.int zx4_11), none]) (⟨rfl, ⟨rfl, ⟨rfl, ⟨rfl, ⟨rfl, trivial⟩⟩⟩⟩⟩) hF
theorem sgX1_bestHour_62 {E : En} {Q : Option Value → Hi → Prop} {H : Hi} {zx3 : Int32} {zx4 : Int32} {zx5 : Int32} 
    (hF : ((24 : Int32) ≤ zx5 → (Q (some (.int zx4)) H)) ∧ (¬ (24 : Int32) ≤ zx5 → (∃ zj_2 : Nat, (zj_2 < 24 ∧ zx5 = nI zj_2) ∧ (∃ zj_3 : Nat, (zj_3 < 24 ∧ zx5 = nI zj_3) ∧ (∃ zj_4 : Nat, (zj_4 < 24 ∧ zx4 = nI zj_4) ∧ (∃ zj_5 : Nat, (zj_5 < 24 ∧ zx4 = nI zj_5) ∧ (((mmax (H 89 zj_4) (zx3 - (H 89 zj_5))) ≤ (mmax (H 89 zj_2) (zx3 - (H 89 zj_3))) → (∀ zx5_7 : Int32, zx5_7 = zx5 + (1 : Int32) → (Rm E mX1_bestHour Q 62 [some (rf E 86), none, none, some (.int zx3), some (.int zx4), some (.int zx5_7)] [] H))) ∧ (¬ (mmax (H 89 zj_4) (zx3 - (H 89 zj_5))) ≤ (mmax (H 89 zj_2) (zx3 - (H 89 zj_3))) → (∀ zx5_9 : Int32, zx5_9 = zx5 + (1 : Int32) → (Rm E mX1_bestHour Q 62 [some (rf E 86), none, none, some (.int zx3), some (.int zx5), some (.int zx5_9)] [] H)))))))))) :
    Rm E mX1_bestHour Q 62 [some (rf E 86), none, none, some (.int zx3), some (.int zx4), some (.int zx5)] [] H := by
  refine rn_iload dX1_bestHour_62 rfl ?_
  refine rn_bipush (x := (24 : Int32)) dX1_bestHour_64 (by decide) ?_
  refine rn_icmp_ge (tgt := 120) dX1_bestHour_66 (by decide) (fun hc_1 => ?_) (fun hc_1 => ?_)
  · replace hF := hF.1 hc_1
    refine rn_iload dX1_bestHour_120 rfl ?_
    exact rm_iret rfl dX1_bestHour_122 hF
  · replace hF := hF.2 hc_1
    refine rn_aload_n dX1_bestHour_69 rfl ?_
    refine rm_getr (r := 89) flRX1_22 rfl (by decide) rfl dX1_bestHour_70 ?_
    refine rn_iload dX1_bestHour_73 rfl ?_
    obtain ⟨zj_2, hzj_2, hF⟩ := hF
    refine rj_iald (j := zj_2) hzj_2 rfl (by decide) rfl (by decide) dX1_bestHour_75 ?_
    refine rn_iload_n dX1_bestHour_76 rfl ?_
    refine rn_aload_n dX1_bestHour_77 rfl ?_
    refine rm_getr (r := 89) flRX1_22 rfl (by decide) rfl dX1_bestHour_78 ?_
    refine rn_iload dX1_bestHour_81 rfl ?_
    obtain ⟨zj_3, hzj_3, hF⟩ := hF
    refine rj_iald (j := zj_3) hzj_3 rfl (by decide) rfl (by decide) dX1_bestHour_83 ?_
    refine rn_isub dX1_bestHour_84 ?_
    refine rn_mmax mlRX1_65 (Nat.le_of_ble_eq_true rfl) ⟨Nat.le_refl _, Nat.le_refl _⟩ dX1_bestHour_85 ?_
    refine rn_aload_n dX1_bestHour_88 rfl ?_
    refine rm_getr (r := 89) flRX1_22 rfl (by decide) rfl dX1_bestHour_89 ?_
    refine rn_iload dX1_bestHour_92 rfl ?_
    obtain ⟨zj_4, hzj_4, hF⟩ := hF
    refine rj_iald (j := zj_4) hzj_4 rfl (by decide) rfl (by decide) dX1_bestHour_94 ?_
    refine rn_iload_n dX1_bestHour_95 rfl ?_
    refine rn_aload_n dX1_bestHour_96 rfl ?_
    refine rm_getr (r := 89) flRX1_22 rfl (by decide) rfl dX1_bestHour_97 ?_
    refine rn_iload dX1_bestHour_100 rfl ?_
    obtain ⟨zj_5, hzj_5, hF⟩ := hF
    refine rj_iald (j := zj_5) hzj_5 rfl (by decide) rfl (by decide) dX1_bestHour_102 ?_
    refine rn_isub dX1_bestHour_103 ?_
    refine rn_mmax mlRX1_65 (Nat.le_of_ble_eq_true rfl) ⟨Nat.le_refl _, Nat.le_refl _⟩ dX1_bestHour_104 ?_
    refine rn_icmp_ge (tgt := 114) dX1_bestHour_107 (by decide) (fun hc_6 => ?_) (fun hc_6 => ?_)
    · replace hF := hF.1 hc_6
      refine rn_iinc (w := (1 : Int32)) dX1_bestHour_114 rfl (by decide) rfl (Nat.le_of_ble_eq_true rfl) (fun zx5_7 ezx5_7 => ?_)
      replace hF := hF zx5_7 ezx5_7
      show Rn _ _ _ _ _ _ _ _ [some (rf E 86), none, none, some (.int zx3), some (.int zx4), some (.int zx5_7)] _ _ _
      refine rn_goto (tgt := 62) dX1_bestHour_117 (by decide) ?_
      exact rn_wk (L' := [some (rf E 86), none, none, some (.int zx3), some (.int zx4), some (.int zx5_7)]) (⟨rfl, ⟨rfl, ⟨rfl, ⟨rfl, trivial⟩⟩⟩⟩) hF
    · replace hF := hF.2 hc_6
      refine rn_iload dX1_bestHour_110 rfl ?_
      refine ra_istore dX1_bestHour_112 rfl (Nat.le_of_ble_eq_true rfl) ?_
      show Rn _ _ _ _ _ _ _ _ [some (rf E 86), none, none, some (.int zx3), some (.int zx5), some (.int zx5)] _ _ _
      refine rn_iinc (w := (1 : Int32)) dX1_bestHour_114 rfl (by decide) rfl (Nat.le_of_ble_eq_true rfl) (fun zx5_9 ezx5_9 => ?_)
      replace hF := hF zx5_9 ezx5_9
      show Rn _ _ _ _ _ _ _ _ [some (rf E 86), none, none, some (.int zx3), some (.int zx5), some (.int zx5_9)] _ _ _
      refine rn_goto (tgt := 62) dX1_bestHour_117 (by decide) ?_
      exact rn_wk (L' := [some (rf E 86), none, none, some (.int zx3), some (.int zx5), some (.int zx5_9)]) (⟨rfl, ⟨rfl, ⟨rfl, ⟨rfl, trivial⟩⟩⟩⟩) hF
theorem sgX1_countSeen_0 {E : En} {Q : Option Value → Hi → Prop} {H : Hi} {zx1 : Int32} 
    (hF : Rm E mX1_countSeen Q 2 [some (rf E 86), some (.int zx1), some (.int (0 : Int32))] [] H) :
    Rm E mX1_countSeen Q 0 [some (rf E 86), some (.int zx1), none] [] H := by
  refine rn_iconst (x := (0 : Int32)) dX1_countSeen_0 (by decide) ?_
  refine ra_istore_n dX1_countSeen_1 rfl (Nat.le_of_ble_eq_true rfl) ?_
  show Rn _ _ _ _ _ _ _ _ [some (rf E 86), some (.int zx1), some (.int (0 : Int32))] _ _ _
  exact rn_wk (L' := [some (rf E 86), some (.int zx1), some (.int (0 : Int32))]) (⟨rfl, ⟨rfl, ⟨rfl, trivial⟩⟩⟩) hF
theorem cmX1_countSeen {E : En} {Q : Option Value → Hi → Prop} {H : Hi} {zx1 : Int32} 
    (hF : Rm E mX1_countSeen Q 2 [some (rf E 86), some (.int zx1), some (.int (0 : Int32))] [] H) :
    Cm E mX1_countSeen [rf E 86, .int zx1] H Q :=
  cm_of (by decide +kernel : plainName RX1 = true) (Nat.le_of_ble_eq_true rfl) rfl (sgX1_countSeen_0  hF)
theorem sgX1_countSeen_2 {E : En} {Q : Option Value → Hi → Prop} {H : Hi} {zx1 : Int32} {zx2 : Int32} 
    (hF : ((24 : Int32) ≤ zx2 → (Q none H)) ∧ (¬ (24 : Int32) ≤ zx2 → (∃ zj_2 : Nat, (zj_2 < 24 ∧ zx2 = nI zj_2) ∧ (∃ zj_3 : Nat, (zj_3 < 24 ∧ zx2 = nI zj_3) ∧ (∃ zj_4 : Nat, (zj_4 < 24 ∧ zx2 = nI zj_4) ∧ (∀ zH_5 : Hi, zH_5 = up H 89 zj_4 ((H 89 zj_2) + (((H 88 zj_3) >>> (zx1 &&& 31)) &&& (1 : Int32))) → (∀ zx2_6 : Int32, zx2_6 = zx2 + (1 : Int32) → (Rm E mX1_countSeen Q 2 [some (rf E 86), some (.int zx1), some (.int zx2_6)] [] zH_5)))))))) :
    Rm E mX1_countSeen Q 2 [some (rf E 86), some (.int zx1), some (.int zx2)] [] H := by
  refine rn_iload_n dX1_countSeen_2 rfl ?_
  refine rn_bipush (x := (24 : Int32)) dX1_countSeen_3 (by decide) ?_
  refine rn_icmp_ge (tgt := 33) dX1_countSeen_5 (by decide) (fun hc_1 => ?_) (fun hc_1 => ?_)
  · replace hF := hF.1 hc_1
    exact rm_vret rfl dX1_countSeen_33 hF
  · replace hF := hF.2 hc_1
    refine rn_aload_n dX1_countSeen_8 rfl ?_
    refine rm_getr (r := 89) flRX1_22 rfl (by decide) rfl dX1_countSeen_9 ?_
    refine rn_iload_n dX1_countSeen_12 rfl ?_
    refine rn_dup2 dX1_countSeen_13 rfl rfl ?_
    obtain ⟨zj_2, hzj_2, hF⟩ := hF
    refine rj_iald (j := zj_2) hzj_2 rfl (by decide) rfl (by decide) dX1_countSeen_14 ?_
    refine rn_aload_n dX1_countSeen_15 rfl ?_
    refine rm_getr (r := 88) flRX1_18 rfl (by decide) rfl dX1_countSeen_16 ?_
    refine rn_iload_n dX1_countSeen_19 rfl ?_
    obtain ⟨zj_3, hzj_3, hF⟩ := hF
    refine rj_iald (j := zj_3) hzj_3 rfl (by decide) rfl (by decide) dX1_countSeen_20 ?_
    refine rn_iload_n dX1_countSeen_21 rfl ?_
    refine rn_ishr dX1_countSeen_22 ?_
    refine rn_iconst (x := (1 : Int32)) dX1_countSeen_23 (by decide) ?_
    refine rn_iand dX1_countSeen_24 ?_
    refine rn_iadd dX1_countSeen_25 ?_
    obtain ⟨zj_4, hzj_4, hF⟩ := hF
    refine rj_iast (j := zj_4) hzj_4 rfl (by decide) rfl (by decide) dX1_countSeen_26 (fun zH_5 ezH_5 => ?_)
    replace hF := hF zH_5 ezH_5
    refine rn_iinc (w := (1 : Int32)) dX1_countSeen_27 rfl (by decide) rfl (Nat.le_of_ble_eq_true rfl) (fun zx2_6 ezx2_6 => ?_)
    replace hF := hF zx2_6 ezx2_6
    show Rn _ _ _ _ _ _ _ _ [some (rf E 86), some (.int zx1), some (.int zx2_6)] _ _ _
    refine rn_goto (tgt := 2) dX1_countSeen_30 (by decide) ?_
    exact rn_wk (L' := [some (rf E 86), some (.int zx1), some (.int zx2_6)]) (⟨rfl, ⟨rfl, ⟨rfl, trivial⟩⟩⟩) hF
theorem sgX1_comesOut_0 {E : En} {Q : Option Value → Hi → Prop} {H : Hi}  
    (hF : Rm E mX1_comesOut Q 2 [some (rf E 86), some (.int (0 : Int32))] [] H) :
    Rm E mX1_comesOut Q 0 [some (rf E 86), none] [] H := by
  refine rn_iconst (x := (0 : Int32)) dX1_comesOut_0 (by decide) ?_
  refine ra_istore_n dX1_comesOut_1 rfl (Nat.le_of_ble_eq_true rfl) ?_
  show Rn _ _ _ _ _ _ _ _ [some (rf E 86), some (.int (0 : Int32))] _ _ _
  exact rn_wk (L' := [some (rf E 86), some (.int (0 : Int32))]) (⟨rfl, ⟨rfl, trivial⟩⟩) hF
theorem cmX1_comesOut {E : En} {Q : Option Value → Hi → Prop} {H : Hi}  
    (hF : Rm E mX1_comesOut Q 2 [some (rf E 86), some (.int (0 : Int32))] [] H) :
    Cm E mX1_comesOut [rf E 86] H Q :=
  cm_of (by decide +kernel : plainName RX1 = true) (Nat.le_of_ble_eq_true rfl) rfl (sgX1_comesOut_0  hF)
theorem sgX1_comesOut_2 {E : En} {Q : Option Value → Hi → Prop} {H : Hi} {zx1 : Int32} 
    (hF : ((H 11 8) ≤ zx1 → (Q (some (.int (1 : Int32))) H)) ∧ (¬ (H 11 8) ≤ zx1 → (∃ zj_2 : Nat, (zj_2 < 8 ∧ zx1 = nI zj_2) ∧ (∃ zj_3 : Nat, (zj_3 < 24 ∧ H 16 zj_2 = nI zj_3) ∧ (∃ zj_4 : Nat, (zj_4 < 8 ∧ zx1 = nI zj_4) ∧ (∃ zj_5 : Nat, (zj_5 < 8 ∧ zx1 = nI zj_5) ∧ (((((H 88 zj_3) >>> ((H 17 zj_4) &&& 31)) &&& (1 : Int32)) = (H 18 zj_5) → (∀ zx1_7 : Int32, zx1_7 = zx1 + (1 : Int32) → (Rm E mX1_comesOut Q 2 [some (rf E 86), some (.int zx1_7)] [] H))) ∧ (¬ (((H 88 zj_3) >>> ((H 17 zj_4) &&& 31)) &&& (1 : Int32)) = (H 18 zj_5) → (Q (some (.int (0 : Int32))) H))))))))) :
    Rm E mX1_comesOut Q 2 [some (rf E 86), some (.int zx1)] [] H := by
  refine rn_iload_n dX1_comesOut_2 rfl ?_
  refine rn_aload_n dX1_comesOut_3 rfl ?_
  refine rm_getr (r := 11) flRX1_29 rfl (by decide) rfl dX1_comesOut_4 ?_
  refine rm_geti flRX1_70 rfl (by decide) rfl dX1_comesOut_7 ?_
  refine rn_icmp_ge (tgt := 59) dX1_comesOut_10 (by decide) (fun hc_1 => ?_) (fun hc_1 => ?_)
  · replace hF := hF.1 hc_1
    refine rn_iconst (x := (1 : Int32)) dX1_comesOut_59 (by decide) ?_
    exact rm_zret rfl rfl dX1_comesOut_60 hF
  · replace hF := hF.2 hc_1
    refine rn_aload_n dX1_comesOut_13 rfl ?_
    refine rm_getr (r := 88) flRX1_18 rfl (by decide) rfl dX1_comesOut_14 ?_
    refine rn_aload_n dX1_comesOut_17 rfl ?_
    refine rm_getr (r := 11) flRX1_29 rfl (by decide) rfl dX1_comesOut_18 ?_
    refine rm_getr (r := 16) flRX1_75 rfl (by decide) rfl dX1_comesOut_21 ?_
    refine rn_iload_n dX1_comesOut_24 rfl ?_
    obtain ⟨zj_2, hzj_2, hF⟩ := hF
    refine rj_iald (j := zj_2) hzj_2 rfl (by decide) rfl (by decide) dX1_comesOut_25 ?_
    obtain ⟨zj_3, hzj_3, hF⟩ := hF
    refine rj_iald (j := zj_3) hzj_3 rfl (by decide) rfl (by decide) dX1_comesOut_26 ?_
    refine rn_aload_n dX1_comesOut_27 rfl ?_
    refine rm_getr (r := 11) flRX1_29 rfl (by decide) rfl dX1_comesOut_28 ?_
    refine rm_getr (r := 17) flRX1_78 rfl (by decide) rfl dX1_comesOut_31 ?_
    refine rn_iload_n dX1_comesOut_34 rfl ?_
    obtain ⟨zj_4, hzj_4, hF⟩ := hF
    refine rj_iald (j := zj_4) hzj_4 rfl (by decide) rfl (by decide) dX1_comesOut_35 ?_
    refine rn_ishr dX1_comesOut_36 ?_
    refine rn_iconst (x := (1 : Int32)) dX1_comesOut_37 (by decide) ?_
    refine rn_iand dX1_comesOut_38 ?_
    refine rn_aload_n dX1_comesOut_39 rfl ?_
    refine rm_getr (r := 11) flRX1_29 rfl (by decide) rfl dX1_comesOut_40 ?_
    refine rm_getr (r := 18) flRX1_81 rfl (by decide) rfl dX1_comesOut_43 ?_
    refine rn_iload_n dX1_comesOut_46 rfl ?_
    obtain ⟨zj_5, hzj_5, hF⟩ := hF
    refine rj_iald (j := zj_5) hzj_5 rfl (by decide) rfl (by decide) dX1_comesOut_47 ?_
    refine rn_icmp_eq (tgt := 53) dX1_comesOut_48 (by decide) (fun hc_6 => ?_) (fun hc_6 => ?_)
    · replace hF := hF.1 hc_6
      refine rn_iinc (w := (1 : Int32)) dX1_comesOut_53 rfl (by decide) rfl (Nat.le_of_ble_eq_true rfl) (fun zx1_7 ezx1_7 => ?_)
      replace hF := hF zx1_7 ezx1_7
      show Rn _ _ _ _ _ _ _ _ [some (rf E 86), some (.int zx1_7)] _ _ _
      refine rn_goto (tgt := 2) dX1_comesOut_56 (by decide) ?_
      exact rn_wk (L' := [some (rf E 86), some (.int zx1_7)]) (⟨rfl, ⟨rfl, trivial⟩⟩) hF
    · replace hF := hF.2 hc_6
      refine rn_iconst (x := (0 : Int32)) dX1_comesOut_51 (by decide) ?_
      exact rm_zret rfl rfl dX1_comesOut_52 hF
theorem sgX1_look_0 {E : En} {Q : Option Value → Hi → Prop} {H : Hi} {zx1 : Int32} {zx2 : Int32} 
    (hF : ∃ zj_1 : Nat, (zj_1 < 24 ∧ zx1 = nI zj_1) ∧ (Cm E mX6_become [rf E 87, rf E (27 + 2 * zj_1)] H (fun w zH_2 => w = none ∧ (Cm E mX2_reach [rf E 22, rf E 87, .int zx2] zH_2 (fun w zH_3 => ∃ zr_4 : Int32, w = some (.int zr_4) ∧ (Rm E mX1_look Q 32 [some (rf E 86), some (.int zx1), none, some (.int zr_4), some (.int (0 : Int32))] [] zH_3)))))) :
    Rm E mX1_look Q 0 [some (rf E 86), some (.int zx1), some (.int zx2), none, none] [] H := by
  refine rn_aload_n dX1_look_0 rfl ?_
  refine rm_getr (r := 87) flRX1_12 rfl (by decide) rfl dX1_look_1 ?_
  refine rn_aload_n dX1_look_4 rfl ?_
  refine rm_getr (r := 22) flRX1_33 rfl (by decide) rfl dX1_look_5 ?_
  refine rm_getr (r := 24) flRX1_84 rfl (by decide) rfl dX1_look_8 ?_
  refine rn_iload_n dX1_look_11 rfl ?_
  obtain ⟨zj_1, hzj_1, hF⟩ := hF
  refine rj_aald (j := zj_1) (Cn := RX6) (r := (27 + 2 * zj_1)) hzj_1 (st_mid _ hzj_1.1).2 rfl (by decide) (by decide) rfl (by decide) dX1_look_12 ?_
  refine rm_callV (c0 := 87) (As := [rf E (27 + 2 * zj_1)]) (st := []) mlRX1_90 mdX6_become (Nat.le_of_ble_eq_true rfl) rfl (by decide) (by decide) rfl rfl rfl (Nat.le_of_ble_eq_true rfl) ⟨Nat.le_refl _, Nat.le_refl _⟩ dX1_look_13 ?_
  refine cm_mono hF (fun w zH_2 hF => ?_)
  obtain ⟨rfl, hF⟩ := hF
  refine rn_aload_n dX1_look_16 rfl ?_
  refine rm_getr (r := 22) flRX1_33 rfl (by decide) rfl dX1_look_17 ?_
  refine rn_aload_n dX1_look_20 rfl ?_
  refine rm_getr (r := 87) flRX1_12 rfl (by decide) rfl dX1_look_21 ?_
  refine rn_iload_n dX1_look_24 rfl ?_
  refine rm_callV (c0 := 22) (As := [rf E 87, .int zx2]) (st := []) mlRX1_94 mdX2_reach (Nat.le_of_ble_eq_true rfl) rfl (by decide) (by decide) rfl rfl rfl (Nat.le_of_ble_eq_true rfl) ⟨Nat.le_refl _, Nat.le_refl _⟩ dX1_look_25 ?_
  refine cm_mono hF (fun w zH_3 hF => ?_)
  obtain ⟨zr_4, rfl, hF⟩ := hF
  refine ra_istore_n dX1_look_28 rfl (Nat.le_of_ble_eq_true rfl) ?_
  show Rn _ _ _ _ _ _ _ _ [some (rf E 86), some (.int zx1), some (.int zx2), some (.int zr_4), none] _ _ _
  refine rn_iconst (x := (0 : Int32)) dX1_look_29 (by decide) ?_
  refine ra_istore dX1_look_30 rfl (Nat.le_of_ble_eq_true rfl) ?_
  show Rn _ _ _ _ _ _ _ _ [some (rf E 86), some (.int zx1), some (.int zx2), some (.int zr_4), some (.int (0 : Int32))] _ _ _
  exact rn_wk (L' := [some (rf E 86), some (.int zx1), none, some (.int zr_4), some (.int (0 : Int32))]) (⟨rfl, ⟨rfl, ⟨rfl, ⟨rfl, trivial⟩⟩⟩⟩) hF
theorem cmX1_look {E : En} {Q : Option Value → Hi → Prop} {H : Hi} {zx1 : Int32} {zx2 : Int32} 
    (hF : ∃ zj_1 : Nat, (zj_1 < 24 ∧ zx1 = nI zj_1) ∧ (Cm E mX6_become [rf E 87, rf E (27 + 2 * zj_1)] H (fun w zH_2 => w = none ∧ (Cm E mX2_reach [rf E 22, rf E 87, .int zx2] zH_2 (fun w zH_3 => ∃ zr_4 : Int32, w = some (.int zr_4) ∧ (Rm E mX1_look Q 32 [some (rf E 86), some (.int zx1), none, some (.int zr_4), some (.int (0 : Int32))] [] zH_3)))))) :
    Cm E mX1_look [rf E 86, .int zx1, .int zx2] H Q :=
  cm_of (by decide +kernel : plainName RX1 = true) (Nat.le_of_ble_eq_true rfl) rfl (sgX1_look_0  hF)
theorem sgX1_look_32 {E : En} {Q : Option Value → Hi → Prop} {H : Hi} {zx1 : Int32} {zx3 : Int32} {zx4 : Int32} 
    (hF : ((24 : Int32) ≤ zx4 → (Q none H)) ∧ (¬ (24 : Int32) ≤ zx4 → ((zx3 = 0 → (∃ zj_3 : Nat, (zj_3 < 24 ∧ zx4 = nI zj_3) ∧ (∃ zj_4 : Nat, (zj_4 < 24 ∧ zx4 = nI zj_4) ∧ (∀ zH_5 : Hi, zH_5 = up H 88 zj_4 (H (28 + 2 * zj_3) 1) → (∀ zx4_6 : Int32, zx4_6 = zx4 + (1 : Int32) → (Rm E mX1_look Q 32 [some (rf E 86), some (.int zx1), none, some (.int zx3), some (.int zx4_6)] [] zH_5)))))) ∧ (¬ zx3 = 0 → ((zx1 ≤ zx4 → ((zx4 ≤ zx1 → (Cm E mX2_close [rf E 22, rf E 87, .int zx4, .int (H 11 1)] H (fun w zH_9 => w = none ∧ (∃ zj_10 : Nat, (zj_10 < 24 ∧ zx4 = nI zj_10) ∧ (∀ zH_11 : Hi, zH_11 = up zH_9 88 zj_10 (zH_9 87 1) → (∀ zx4_12 : Int32, zx4_12 = zx4 + (1 : Int32) → (Rm E mX1_look Q 32 [some (rf E 86), some (.int zx1), none, some (.int zx3), some (.int zx4_12)] [] zH_11))))))) ∧ (¬ zx4 ≤ zx1 → (Cm E mX2_open [rf E 22, rf E 87, .int zx4] H (fun w zH_13 => ∃ zr_14 : Int32, w = some (.int zr_14) ∧ (Cm E mX2_close [rf E 22, rf E 87, .int zx4, .int (zH_13 11 1)] zH_13 (fun w zH_15 => w = none ∧ (∃ zj_16 : Nat, (zj_16 < 24 ∧ zx4 = nI zj_16) ∧ (∀ zH_17 : Hi, zH_17 = up zH_15 88 zj_16 (zH_15 87 1) → (∀ zx4_18 : Int32, zx4_18 = zx4 + (1 : Int32) → (Rm E mX1_look Q 32 [some (rf E 86), some (.int zx1), none, some (.int zx3), some (.int zx4_18)] [] zH_17))))))))))) ∧ (¬ zx1 ≤ zx4 → (∃ zj_19 : Nat, (zj_19 < 24 ∧ zx4 = nI zj_19) ∧ (∃ zj_20 : Nat, (zj_20 < 24 ∧ zx4 = nI zj_20) ∧ (∀ zH_21 : Hi, zH_21 = up H 88 zj_20 (H (28 + 2 * zj_19) 1) → (∀ zx4_22 : Int32, zx4_22 = zx4 + (1 : Int32) → (Rm E mX1_look Q 32 [some (rf E 86), some (.int zx1), none, some (.int zx3), some (.int zx4_22)] [] zH_21))))))))))) :
    Rm E mX1_look Q 32 [some (rf E 86), some (.int zx1), none, some (.int zx3), some (.int zx4)] [] H := by
  refine rn_iload dX1_look_32 rfl ?_
  refine rn_bipush (x := (24 : Int32)) dX1_look_34 (by decide) ?_
  refine rn_icmp_ge (tgt := 132) dX1_look_36 (by decide) (fun hc_1 => ?_) (fun hc_1 => ?_)
  · replace hF := hF.1 hc_1
    exact rm_vret rfl dX1_look_132 hF
  · replace hF := hF.2 hc_1
    refine rn_iload_n dX1_look_39 rfl ?_
    refine rn_if_eq (tgt := 49) dX1_look_40 (by decide) (fun hc_2 => ?_) (fun hc_2 => ?_)
    · replace hF := hF.1 hc_2
      refine rn_aload_n dX1_look_49 rfl ?_
      refine rm_getr (r := 88) flRX1_18 rfl (by decide) rfl dX1_look_50 ?_
      refine rn_iload dX1_look_53 rfl ?_
      refine rn_aload_n dX1_look_55 rfl ?_
      refine rm_getr (r := 22) flRX1_33 rfl (by decide) rfl dX1_look_56 ?_
      refine rm_getr (r := 25) flRX1_98 rfl (by decide) rfl dX1_look_59 ?_
      refine rn_iload dX1_look_62 rfl ?_
      obtain ⟨zj_3, hzj_3, hF⟩ := hF
      refine rj_aald (j := zj_3) (Cn := RX6) (r := (28 + 2 * zj_3)) hzj_3 (st_beh _ hzj_3.1).2 rfl (by decide) (by decide) rfl (by decide) dX1_look_64 ?_
      refine rm_geti flRX1_101 (st_beh _ hzj_3.1).1.2.1 (st_beh _ hzj_3.1).1.1 (rT_row (st_beh _ hzj_3.1).1.2.2 _) dX1_look_65 ?_
      obtain ⟨zj_4, hzj_4, hF⟩ := hF
      refine rj_iast (j := zj_4) hzj_4 rfl (by decide) rfl (by decide) dX1_look_68 (fun zH_5 ezH_5 => ?_)
      replace hF := hF zH_5 ezH_5
      refine rn_goto (tgt := 126) dX1_look_69 (by decide) ?_
      refine rn_iinc (w := (1 : Int32)) dX1_look_126 rfl (by decide) rfl (Nat.le_of_ble_eq_true rfl) (fun zx4_6 ezx4_6 => ?_)
      replace hF := hF zx4_6 ezx4_6
      show Rn _ _ _ _ _ _ _ _ [some (rf E 86), some (.int zx1), none, some (.int zx3), some (.int zx4_6)] _ _ _
      refine rn_goto (tgt := 32) dX1_look_129 (by decide) ?_
      exact rn_wk (L' := [some (rf E 86), some (.int zx1), none, some (.int zx3), some (.int zx4_6)]) (⟨rfl, ⟨rfl, ⟨rfl, ⟨rfl, trivial⟩⟩⟩⟩) hF
    · replace hF := hF.2 hc_2
      refine rn_iload dX1_look_43 rfl ?_
      refine rn_iload_n dX1_look_45 rfl ?_
      refine rn_icmp_ge (tgt := 72) dX1_look_46 (by decide) (fun hc_7 => ?_) (fun hc_7 => ?_)
      · replace hF := hF.1 hc_7
        refine rn_iload dX1_look_72 rfl ?_
        refine rn_iload_n dX1_look_74 rfl ?_
        refine rn_icmp_le (tgt := 92) dX1_look_75 (by decide) (fun hc_8 => ?_) (fun hc_8 => ?_)
        · replace hF := hF.1 hc_8
          refine rn_aload_n dX1_look_92 rfl ?_
          refine rm_getr (r := 22) flRX1_33 rfl (by decide) rfl dX1_look_93 ?_
          refine rn_aload_n dX1_look_96 rfl ?_
          refine rm_getr (r := 87) flRX1_12 rfl (by decide) rfl dX1_look_97 ?_
          refine rn_iload dX1_look_100 rfl ?_
          refine rn_aload_n dX1_look_102 rfl ?_
          refine rm_getr (r := 11) flRX1_29 rfl (by decide) rfl dX1_look_103 ?_
          refine rm_geti flRX1_108 rfl (by decide) rfl dX1_look_106 ?_
          refine rm_callV (c0 := 22) (As := [rf E 87, .int zx4, .int (H 11 1)]) (st := []) mlRX1_111 mdX2_close (Nat.le_of_ble_eq_true rfl) rfl (by decide) (by decide) rfl rfl rfl (Nat.le_of_ble_eq_true rfl) ⟨Nat.le_refl _, Nat.le_refl _⟩ dX1_look_109 ?_
          refine cm_mono hF (fun w zH_9 hF => ?_)
          obtain ⟨rfl, hF⟩ := hF
          refine rn_aload_n dX1_look_112 rfl ?_
          refine rm_getr (r := 88) flRX1_18 rfl (by decide) rfl dX1_look_113 ?_
          refine rn_iload dX1_look_116 rfl ?_
          refine rn_aload_n dX1_look_118 rfl ?_
          refine rm_getr (r := 87) flRX1_12 rfl (by decide) rfl dX1_look_119 ?_
          refine rm_geti flRX1_101 rfl (by decide) rfl dX1_look_122 ?_
          obtain ⟨zj_10, hzj_10, hF⟩ := hF
          refine rj_iast (j := zj_10) hzj_10 rfl (by decide) rfl (by decide) dX1_look_125 (fun zH_11 ezH_11 => ?_)
          replace hF := hF zH_11 ezH_11
          refine rn_iinc (w := (1 : Int32)) dX1_look_126 rfl (by decide) rfl (Nat.le_of_ble_eq_true rfl) (fun zx4_12 ezx4_12 => ?_)
          replace hF := hF zx4_12 ezx4_12
          show Rn _ _ _ _ _ _ _ _ [some (rf E 86), some (.int zx1), none, some (.int zx3), some (.int zx4_12)] _ _ _
          refine rn_goto (tgt := 32) dX1_look_129 (by decide) ?_
          exact rn_wk (L' := [some (rf E 86), some (.int zx1), none, some (.int zx3), some (.int zx4_12)]) (⟨rfl, ⟨rfl, ⟨rfl, ⟨rfl, trivial⟩⟩⟩⟩) hF
        · replace hF := hF.2 hc_8
          refine rn_aload_n dX1_look_78 rfl ?_
          refine rm_getr (r := 22) flRX1_33 rfl (by decide) rfl dX1_look_79 ?_
          refine rn_aload_n dX1_look_82 rfl ?_
          refine rm_getr (r := 87) flRX1_12 rfl (by decide) rfl dX1_look_83 ?_
          refine rn_iload dX1_look_86 rfl ?_
          refine rm_callV (c0 := 22) (As := [rf E 87, .int zx4]) (st := []) mlRX1_104 mdX2_open (Nat.le_of_ble_eq_true rfl) rfl (by decide) (by decide) rfl rfl rfl (Nat.le_of_ble_eq_true rfl) ⟨Nat.le_refl _, Nat.le_refl _⟩ dX1_look_88 ?_
          refine cm_mono hF (fun w zH_13 hF => ?_)
          obtain ⟨zr_14, rfl, hF⟩ := hF
          refine rn_pop dX1_look_91 rfl ?_
          refine rn_aload_n dX1_look_92 rfl ?_
          refine rm_getr (r := 22) flRX1_33 rfl (by decide) rfl dX1_look_93 ?_
          refine rn_aload_n dX1_look_96 rfl ?_
          refine rm_getr (r := 87) flRX1_12 rfl (by decide) rfl dX1_look_97 ?_
          refine rn_iload dX1_look_100 rfl ?_
          refine rn_aload_n dX1_look_102 rfl ?_
          refine rm_getr (r := 11) flRX1_29 rfl (by decide) rfl dX1_look_103 ?_
          refine rm_geti flRX1_108 rfl (by decide) rfl dX1_look_106 ?_
          refine rm_callV (c0 := 22) (As := [rf E 87, .int zx4, .int (zH_13 11 1)]) (st := []) mlRX1_111 mdX2_close (Nat.le_of_ble_eq_true rfl) rfl (by decide) (by decide) rfl rfl rfl (Nat.le_of_ble_eq_true rfl) ⟨Nat.le_refl _, Nat.le_refl _⟩ dX1_look_109 ?_
          refine cm_mono hF (fun w zH_15 hF => ?_)
          obtain ⟨rfl, hF⟩ := hF
          refine rn_aload_n dX1_look_112 rfl ?_
          refine rm_getr (r := 88) flRX1_18 rfl (by decide) rfl dX1_look_113 ?_
          refine rn_iload dX1_look_116 rfl ?_
          refine rn_aload_n dX1_look_118 rfl ?_
          refine rm_getr (r := 87) flRX1_12 rfl (by decide) rfl dX1_look_119 ?_
          refine rm_geti flRX1_101 rfl (by decide) rfl dX1_look_122 ?_
          obtain ⟨zj_16, hzj_16, hF⟩ := hF
          refine rj_iast (j := zj_16) hzj_16 rfl (by decide) rfl (by decide) dX1_look_125 (fun zH_17 ezH_17 => ?_)
          replace hF := hF zH_17 ezH_17
          refine rn_iinc (w := (1 : Int32)) dX1_look_126 rfl (by decide) rfl (Nat.le_of_ble_eq_true rfl) (fun zx4_18 ezx4_18 => ?_)
          replace hF := hF zx4_18 ezx4_18
          show Rn _ _ _ _ _ _ _ _ [some (rf E 86), some (.int zx1), none, some (.int zx3), some (.int zx4_18)] _ _ _
          refine rn_goto (tgt := 32) dX1_look_129 (by decide) ?_
          exact rn_wk (L' := [some (rf E 86), some (.int zx1), none, some (.int zx3), some (.int zx4_18)]) (⟨rfl, ⟨rfl, ⟨rfl, ⟨rfl, trivial⟩⟩⟩⟩) hF
      · replace hF := hF.2 hc_7
        refine rn_aload_n dX1_look_49 rfl ?_
        refine rm_getr (r := 88) flRX1_18 rfl (by decide) rfl dX1_look_50 ?_
        refine rn_iload dX1_look_53 rfl ?_
        refine rn_aload_n dX1_look_55 rfl ?_
        refine rm_getr (r := 22) flRX1_33 rfl (by decide) rfl dX1_look_56 ?_
        refine rm_getr (r := 25) flRX1_98 rfl (by decide) rfl dX1_look_59 ?_
        refine rn_iload dX1_look_62 rfl ?_
        obtain ⟨zj_19, hzj_19, hF⟩ := hF
        refine rj_aald (j := zj_19) (Cn := RX6) (r := (28 + 2 * zj_19)) hzj_19 (st_beh _ hzj_19.1).2 rfl (by decide) (by decide) rfl (by decide) dX1_look_64 ?_
        refine rm_geti flRX1_101 (st_beh _ hzj_19.1).1.2.1 (st_beh _ hzj_19.1).1.1 (rT_row (st_beh _ hzj_19.1).1.2.2 _) dX1_look_65 ?_
        obtain ⟨zj_20, hzj_20, hF⟩ := hF
        refine rj_iast (j := zj_20) hzj_20 rfl (by decide) rfl (by decide) dX1_look_68 (fun zH_21 ezH_21 => ?_)
        replace hF := hF zH_21 ezH_21
        refine rn_goto (tgt := 126) dX1_look_69 (by decide) ?_
        refine rn_iinc (w := (1 : Int32)) dX1_look_126 rfl (by decide) rfl (Nat.le_of_ble_eq_true rfl) (fun zx4_22 ezx4_22 => ?_)
        replace hF := hF zx4_22 ezx4_22
        show Rn _ _ _ _ _ _ _ _ [some (rf E 86), some (.int zx1), none, some (.int zx3), some (.int zx4_22)] _ _ _
        refine rn_goto (tgt := 32) dX1_look_129 (by decide) ?_
        exact rn_wk (L' := [some (rf E 86), some (.int zx1), none, some (.int zx3), some (.int zx4_22)]) (⟨rfl, ⟨rfl, ⟨rfl, ⟨rfl, trivial⟩⟩⟩⟩) hF
