theorem sgX10_lendBy_0 {E : En} {Q : Option Value → Hi → Prop} {H : Hi} {zx1 : Int32} {zx2 : Int32} {zx3 : Int32} {zx4 : Int32} 
    (hF : (zx3 ≤ zx4 → (Cm E mX10_runsTold [rf E 99, .int (zx3 - (1 : Int32))] H (fun w zH_2 => w = none ∧ ((¬ zx3 = 0 → ((zx3 ≤ zx4 → (Cm E mX10_putsBack [rf E 99] zH_2 (fun w zH_5 => w = none ∧ (Cm E mX10_handsOf [rf E 99, .int zx3] zH_5 (fun w zH_6 => w = none ∧ (Cm E mX10_keeps [rf E 99] zH_6 (fun w zH_7 => w = none ∧ (Cm E mX10_lends [rf E 99, .int (-1 : Int32), .int (-1 : Int32), .int zx1, .int zx2, .int zx3, .int zx4] zH_7 (fun w zH_8 => ∃ zr_9 : Int32, w = some (.int zr_9) ∧ ((zr_9 = 0 → (Rm E mX10_lendBy Q 80 [some (rf E 99), some (.int zx1), some (.int zx2), some (.int zx3), some (.int zx4), some (.int (0 : Int32)), none] [] zH_8)) ∧ (¬ zr_9 = 0 → (Q (some (.int (0 : Int32))) zH_8)))))))))))) ∧ (¬ zx3 ≤ zx4 → (∃ zj_12 : Nat, (zj_12 < 8 ∧ zx2 = nI zj_12) ∧ ((¬ (zH_2 111 zj_12) = zx1 → (Q (some (.int (-1 : Int32))) zH_2)) ∧ ((zH_2 111 zj_12) = zx1 → (Q (some (.int (0 : Int32))) zH_2))))))) ∧ (zx3 = 0 → (Cm E mX10_begins [rf E 99] zH_2 (fun w zH_14 => w = none ∧ ((zx3 ≤ zx4 → (Cm E mX10_putsBack [rf E 99] zH_14 (fun w zH_16 => w = none ∧ (Cm E mX10_handsOf [rf E 99, .int zx3] zH_16 (fun w zH_17 => w = none ∧ (Cm E mX10_keeps [rf E 99] zH_17 (fun w zH_18 => w = none ∧ (Cm E mX10_lends [rf E 99, .int (-1 : Int32), .int (-1 : Int32), .int zx1, .int zx2, .int zx3, .int zx4] zH_18 (fun w zH_19 => ∃ zr_20 : Int32, w = some (.int zr_20) ∧ ((zr_20 = 0 → (Rm E mX10_lendBy Q 80 [some (rf E 99), some (.int zx1), some (.int zx2), some (.int zx3), some (.int zx4), some (.int (0 : Int32)), none] [] zH_19)) ∧ (¬ zr_20 = 0 → (Q (some (.int (0 : Int32))) zH_19)))))))))))) ∧ (¬ zx3 ≤ zx4 → (∃ zj_23 : Nat, (zj_23 < 8 ∧ zx2 = nI zj_23) ∧ ((¬ (zH_14 111 zj_23) = zx1 → (Q (some (.int (-1 : Int32))) zH_14)) ∧ ((zH_14 111 zj_23) = zx1 → (Q (some (.int (0 : Int32))) zH_14))))))))))))) ∧ (¬ zx3 ≤ zx4 → (Cm E mX10_runsTold [rf E 99, .int zx4] H (fun w zH_25 => w = none ∧ ((¬ zx3 = 0 → ((zx3 ≤ zx4 → (Cm E mX10_putsBack [rf E 99] zH_25 (fun w zH_28 => w = none ∧ (Cm E mX10_handsOf [rf E 99, .int zx3] zH_28 (fun w zH_29 => w = none ∧ (Cm E mX10_keeps [rf E 99] zH_29 (fun w zH_30 => w = none ∧ (Cm E mX10_lends [rf E 99, .int (-1 : Int32), .int (-1 : Int32), .int zx1, .int zx2, .int zx3, .int zx4] zH_30 (fun w zH_31 => ∃ zr_32 : Int32, w = some (.int zr_32) ∧ ((zr_32 = 0 → (Rm E mX10_lendBy Q 80 [some (rf E 99), some (.int zx1), some (.int zx2), some (.int zx3), some (.int zx4), some (.int (0 : Int32)), none] [] zH_31)) ∧ (¬ zr_32 = 0 → (Q (some (.int (0 : Int32))) zH_31)))))))))))) ∧ (¬ zx3 ≤ zx4 → (∃ zj_35 : Nat, (zj_35 < 8 ∧ zx2 = nI zj_35) ∧ ((¬ (zH_25 111 zj_35) = zx1 → (Q (some (.int (-1 : Int32))) zH_25)) ∧ ((zH_25 111 zj_35) = zx1 → (Q (some (.int (0 : Int32))) zH_25))))))) ∧ (zx3 = 0 → (Cm E mX10_begins [rf E 99] zH_25 (fun w zH_37 => w = none ∧ ((zx3 ≤ zx4 → (Cm E mX10_putsBack [rf E 99] zH_37 (fun w zH_39 => w = none ∧ (Cm E mX10_handsOf [rf E 99, .int zx3] zH_39 (fun w zH_40 => w = none ∧ (Cm E mX10_keeps [rf E 99] zH_40 (fun w zH_41 => w = none ∧ (Cm E mX10_lends [rf E 99, .int (-1 : Int32), .int (-1 : Int32), .int zx1, .int zx2, .int zx3, .int zx4] zH_41 (fun w zH_42 => ∃ zr_43 : Int32, w = some (.int zr_43) ∧ ((zr_43 = 0 → (Rm E mX10_lendBy Q 80 [some (rf E 99), some (.int zx1), some (.int zx2), some (.int zx3), some (.int zx4), some (.int (0 : Int32)), none] [] zH_42)) ∧ (¬ zr_43 = 0 → (Q (some (.int (0 : Int32))) zH_42)))))))))))) ∧ (¬ zx3 ≤ zx4 → (∃ zj_46 : Nat, (zj_46 < 8 ∧ zx2 = nI zj_46) ∧ ((¬ (zH_37 111 zj_46) = zx1 → (Q (some (.int (-1 : Int32))) zH_37)) ∧ ((zH_37 111 zj_46) = zx1 → (Q (some (.int (0 : Int32))) zH_37)))))))))))))) :
    Rm E mX10_lendBy Q 0 [some (rf E 99), some (.int zx1), some (.int zx2), some (.int zx3), some (.int zx4), none, none] [] H := by
  refine rn_aload_n dX10_lendBy_0 rfl ?_
  refine rn_iload dX10_lendBy_1 rfl ?_
  refine rn_iload_n dX10_lendBy_3 rfl ?_
  refine rn_icmp_ge (tgt := 12) dX10_lendBy_4 (by decide) (fun hc_1 => ?_) (fun hc_1 => ?_)
  · replace hF := hF.1 hc_1
    refine rn_iload_n dX10_lendBy_12 rfl ?_
    refine rn_iconst (x := (1 : Int32)) dX10_lendBy_13 (by decide) ?_
    refine rn_isub dX10_lendBy_14 ?_
    refine rm_callV (c0 := 99) (As := [.int (zx3 - (1 : Int32))]) (st := []) mlRX10_221 mdX10_runsTold (Nat.le_of_ble_eq_true rfl) rfl (by decide) (by decide) rfl rfl rfl (Nat.le_of_ble_eq_true rfl) ⟨Nat.le_refl _, Nat.le_refl _⟩ dX10_lendBy_15 ?_
    refine cm_mono hF (fun w zH_2 hF => ?_)
    obtain ⟨rfl, hF⟩ := hF
    refine rn_iload_n dX10_lendBy_18 rfl ?_
    refine rn_if_ne (tgt := 26) dX10_lendBy_19 (by decide) (fun hc_3 => ?_) (fun hc_3 => ?_)
    · replace hF := hF.1 hc_3
      refine rn_iload dX10_lendBy_26 rfl ?_
      refine rn_iload_n dX10_lendBy_28 rfl ?_
      refine rn_icmp_ge (tgt := 48) dX10_lendBy_29 (by decide) (fun hc_4 => ?_) (fun hc_4 => ?_)
      · replace hF := hF.1 hc_4
        refine rn_aload_n dX10_lendBy_48 rfl ?_
        refine rm_callV (c0 := 99) (As := []) (st := []) mlRX10_199 mdX10_putsBack (Nat.le_of_ble_eq_true rfl) rfl (by decide) (by decide) rfl rfl rfl (Nat.le_of_ble_eq_true rfl) ⟨Nat.le_refl _, Nat.le_refl _⟩ dX10_lendBy_49 ?_
        refine cm_mono hF (fun w zH_5 hF => ?_)
        obtain ⟨rfl, hF⟩ := hF
        refine rn_aload_n dX10_lendBy_52 rfl ?_
        refine rn_iload_n dX10_lendBy_53 rfl ?_
        refine rm_callV (c0 := 99) (As := [.int zx3]) (st := []) mlRX10_202 mdX10_handsOf (Nat.le_of_ble_eq_true rfl) rfl (by decide) (by decide) rfl rfl rfl (Nat.le_of_ble_eq_true rfl) ⟨Nat.le_refl _, Nat.le_refl _⟩ dX10_lendBy_54 ?_
        refine cm_mono hF (fun w zH_6 hF => ?_)
        obtain ⟨rfl, hF⟩ := hF
        refine rn_aload_n dX10_lendBy_57 rfl ?_
        refine rm_callV (c0 := 99) (As := []) (st := []) mlRX10_248 mdX10_keeps (Nat.le_of_ble_eq_true rfl) rfl (by decide) (by decide) rfl rfl rfl (Nat.le_of_ble_eq_true rfl) ⟨Nat.le_refl _, Nat.le_refl _⟩ dX10_lendBy_58 ?_
        refine cm_mono hF (fun w zH_7 hF => ?_)
        obtain ⟨rfl, hF⟩ := hF
        refine rn_aload_n dX10_lendBy_61 rfl ?_
        refine rn_iconst (x := (-1 : Int32)) dX10_lendBy_62 (by decide) ?_
        refine rn_iconst (x := (-1 : Int32)) dX10_lendBy_63 (by decide) ?_
        refine rn_iload_n dX10_lendBy_64 rfl ?_
        refine rn_iload_n dX10_lendBy_65 rfl ?_
        refine rn_iload_n dX10_lendBy_66 rfl ?_
        refine rn_iload dX10_lendBy_67 rfl ?_
        refine rm_callV (c0 := 99) (As := [.int (-1 : Int32), .int (-1 : Int32), .int zx1, .int zx2, .int zx3, .int zx4]) (st := []) mlRX10_251 mdX10_lends (Nat.le_of_ble_eq_true rfl) rfl (by decide) (by decide) rfl rfl rfl (Nat.le_of_ble_eq_true rfl) ⟨Nat.le_refl _, Nat.le_refl _⟩ dX10_lendBy_69 ?_
        refine cm_mono hF (fun w zH_8 hF => ?_)
        obtain ⟨zr_9, rfl, hF⟩ := hF
        refine rn_if_eq (tgt := 77) dX10_lendBy_72 (by decide) (fun hc_10 => ?_) (fun hc_10 => ?_)
        · replace hF := hF.1 hc_10
          refine rn_iconst (x := (0 : Int32)) dX10_lendBy_77 (by decide) ?_
          refine ra_istore dX10_lendBy_78 rfl (Nat.le_of_ble_eq_true rfl) ?_
          show Rn _ _ _ _ _ _ _ _ [some (rf E 99), some (.int zx1), some (.int zx2), some (.int zx3), some (.int zx4), some (.int (0 : Int32)), none] _ _ _
          exact rn_wk (L' := [some (rf E 99), some (.int zx1), some (.int zx2), some (.int zx3), some (.int zx4), some (.int (0 : Int32)), none]) (⟨rfl, ⟨rfl, ⟨rfl, ⟨rfl, ⟨rfl, ⟨rfl, trivial⟩⟩⟩⟩⟩⟩) hF
        · replace hF := hF.2 hc_10
          refine rn_iconst (x := (0 : Int32)) dX10_lendBy_75 (by decide) ?_
          exact rm_iret rfl dX10_lendBy_76 hF
      · replace hF := hF.2 hc_4
        refine rn_aload_n dX10_lendBy_32 rfl ?_
        refine rm_getr (r := 111) flRX10_43 rfl (by decide) rfl dX10_lendBy_33 ?_
        refine rn_iload_n dX10_lendBy_36 rfl ?_
        obtain ⟨zj_12, hzj_12, hF⟩ := hF
        refine rj_iald (j := zj_12) hzj_12 rfl (by decide) rfl (by decide) dX10_lendBy_37 ?_
        refine rn_iload_n dX10_lendBy_38 rfl ?_
        refine rn_icmp_ne (tgt := 46) dX10_lendBy_39 (by decide) (fun hc_13 => ?_) (fun hc_13 => ?_)
        · replace hF := hF.1 hc_13
          refine rn_iconst (x := (-1 : Int32)) dX10_lendBy_46 (by decide) ?_
          exact rm_iret rfl dX10_lendBy_47 hF
        · replace hF := hF.2 hc_13
          refine rn_iconst (x := (0 : Int32)) dX10_lendBy_42 (by decide) ?_
          refine rn_goto (tgt := 47) dX10_lendBy_43 (by decide) ?_
          exact rm_iret rfl dX10_lendBy_47 hF
    · replace hF := hF.2 hc_3
      refine rn_aload_n dX10_lendBy_22 rfl ?_
      refine rm_callV (c0 := 99) (As := []) (st := []) mlRX10_209 mdX10_begins (Nat.le_of_ble_eq_true rfl) rfl (by decide) (by decide) rfl rfl rfl (Nat.le_of_ble_eq_true rfl) ⟨Nat.le_refl _, Nat.le_refl _⟩ dX10_lendBy_23 ?_
      refine cm_mono hF (fun w zH_14 hF => ?_)
      obtain ⟨rfl, hF⟩ := hF
      refine rn_iload dX10_lendBy_26 rfl ?_
      refine rn_iload_n dX10_lendBy_28 rfl ?_
      refine rn_icmp_ge (tgt := 48) dX10_lendBy_29 (by decide) (fun hc_15 => ?_) (fun hc_15 => ?_)
      · replace hF := hF.1 hc_15
        refine rn_aload_n dX10_lendBy_48 rfl ?_
        refine rm_callV (c0 := 99) (As := []) (st := []) mlRX10_199 mdX10_putsBack (Nat.le_of_ble_eq_true rfl) rfl (by decide) (by decide) rfl rfl rfl (Nat.le_of_ble_eq_true rfl) ⟨Nat.le_refl _, Nat.le_refl _⟩ dX10_lendBy_49 ?_
        refine cm_mono hF (fun w zH_16 hF => ?_)
        obtain ⟨rfl, hF⟩ := hF
        refine rn_aload_n dX10_lendBy_52 rfl ?_
        refine rn_iload_n dX10_lendBy_53 rfl ?_
        refine rm_callV (c0 := 99) (As := [.int zx3]) (st := []) mlRX10_202 mdX10_handsOf (Nat.le_of_ble_eq_true rfl) rfl (by decide) (by decide) rfl rfl rfl (Nat.le_of_ble_eq_true rfl) ⟨Nat.le_refl _, Nat.le_refl _⟩ dX10_lendBy_54 ?_
        refine cm_mono hF (fun w zH_17 hF => ?_)
        obtain ⟨rfl, hF⟩ := hF
        refine rn_aload_n dX10_lendBy_57 rfl ?_
        refine rm_callV (c0 := 99) (As := []) (st := []) mlRX10_248 mdX10_keeps (Nat.le_of_ble_eq_true rfl) rfl (by decide) (by decide) rfl rfl rfl (Nat.le_of_ble_eq_true rfl) ⟨Nat.le_refl _, Nat.le_refl _⟩ dX10_lendBy_58 ?_
        refine cm_mono hF (fun w zH_18 hF => ?_)
        obtain ⟨rfl, hF⟩ := hF
        refine rn_aload_n dX10_lendBy_61 rfl ?_
        refine rn_iconst (x := (-1 : Int32)) dX10_lendBy_62 (by decide) ?_
        refine rn_iconst (x := (-1 : Int32)) dX10_lendBy_63 (by decide) ?_
        refine rn_iload_n dX10_lendBy_64 rfl ?_
        refine rn_iload_n dX10_lendBy_65 rfl ?_
        refine rn_iload_n dX10_lendBy_66 rfl ?_
        refine rn_iload dX10_lendBy_67 rfl ?_
        refine rm_callV (c0 := 99) (As := [.int (-1 : Int32), .int (-1 : Int32), .int zx1, .int zx2, .int zx3, .int zx4]) (st := []) mlRX10_251 mdX10_lends (Nat.le_of_ble_eq_true rfl) rfl (by decide) (by decide) rfl rfl rfl (Nat.le_of_ble_eq_true rfl) ⟨Nat.le_refl _, Nat.le_refl _⟩ dX10_lendBy_69 ?_
        refine cm_mono hF (fun w zH_19 hF => ?_)
        obtain ⟨zr_20, rfl, hF⟩ := hF
        refine rn_if_eq (tgt := 77) dX10_lendBy_72 (by decide) (fun hc_21 => ?_) (fun hc_21 => ?_)
        · replace hF := hF.1 hc_21
          refine rn_iconst (x := (0 : Int32)) dX10_lendBy_77 (by decide) ?_
          refine ra_istore dX10_lendBy_78 rfl (Nat.le_of_ble_eq_true rfl) ?_
          show Rn _ _ _ _ _ _ _ _ [some (rf E 99), some (.int zx1), some (.int zx2), some (.int zx3), some (.int zx4), some (.int (0 : Int32)), none] _ _ _
          exact rn_wk (L' := [some (rf E 99), some (.int zx1), some (.int zx2), some (.int zx3), some (.int zx4), some (.int (0 : Int32)), none]) (⟨rfl, ⟨rfl, ⟨rfl, ⟨rfl, ⟨rfl, ⟨rfl, trivial⟩⟩⟩⟩⟩⟩) hF
        · replace hF := hF.2 hc_21
          refine rn_iconst (x := (0 : Int32)) dX10_lendBy_75 (by decide) ?_
          exact rm_iret rfl dX10_lendBy_76 hF
      · replace hF := hF.2 hc_15
        refine rn_aload_n dX10_lendBy_32 rfl ?_
        refine rm_getr (r := 111) flRX10_43 rfl (by decide) rfl dX10_lendBy_33 ?_
        refine rn_iload_n dX10_lendBy_36 rfl ?_
        obtain ⟨zj_23, hzj_23, hF⟩ := hF
        refine rj_iald (j := zj_23) hzj_23 rfl (by decide) rfl (by decide) dX10_lendBy_37 ?_
        refine rn_iload_n dX10_lendBy_38 rfl ?_
        refine rn_icmp_ne (tgt := 46) dX10_lendBy_39 (by decide) (fun hc_24 => ?_) (fun hc_24 => ?_)
        · replace hF := hF.1 hc_24
          refine rn_iconst (x := (-1 : Int32)) dX10_lendBy_46 (by decide) ?_
          exact rm_iret rfl dX10_lendBy_47 hF
        · replace hF := hF.2 hc_24
          refine rn_iconst (x := (0 : Int32)) dX10_lendBy_42 (by decide) ?_
          refine rn_goto (tgt := 47) dX10_lendBy_43 (by decide) ?_
          exact rm_iret rfl dX10_lendBy_47 hF
  · replace hF := hF.2 hc_1
    refine rn_iload dX10_lendBy_7 rfl ?_
    refine rn_goto (tgt := 15) dX10_lendBy_9 (by decide) ?_
    refine rm_callV (c0 := 99) (As := [.int zx4]) (st := []) mlRX10_221 mdX10_runsTold (Nat.le_of_ble_eq_true rfl) rfl (by decide) (by decide) rfl rfl rfl (Nat.le_of_ble_eq_true rfl) ⟨Nat.le_refl _, Nat.le_refl _⟩ dX10_lendBy_15 ?_
    refine cm_mono hF (fun w zH_25 hF => ?_)
    obtain ⟨rfl, hF⟩ := hF
    refine rn_iload_n dX10_lendBy_18 rfl ?_
    refine rn_if_ne (tgt := 26) dX10_lendBy_19 (by decide) (fun hc_26 => ?_) (fun hc_26 => ?_)
    · replace hF := hF.1 hc_26
      refine rn_iload dX10_lendBy_26 rfl ?_
      refine rn_iload_n dX10_lendBy_28 rfl ?_
      refine rn_icmp_ge (tgt := 48) dX10_lendBy_29 (by decide) (fun hc_27 => ?_) (fun hc_27 => ?_)
      · replace hF := hF.1 hc_27
        refine rn_aload_n dX10_lendBy_48 rfl ?_
        refine rm_callV (c0 := 99) (As := []) (st := []) mlRX10_199 mdX10_putsBack (Nat.le_of_ble_eq_true rfl) rfl (by decide) (by decide) rfl rfl rfl (Nat.le_of_ble_eq_true rfl) ⟨Nat.le_refl _, Nat.le_refl _⟩ dX10_lendBy_49 ?_
        refine cm_mono hF (fun w zH_28 hF => ?_)
        obtain ⟨rfl, hF⟩ := hF
        refine rn_aload_n dX10_lendBy_52 rfl ?_
        refine rn_iload_n dX10_lendBy_53 rfl ?_
        refine rm_callV (c0 := 99) (As := [.int zx3]) (st := []) mlRX10_202 mdX10_handsOf (Nat.le_of_ble_eq_true rfl) rfl (by decide) (by decide) rfl rfl rfl (Nat.le_of_ble_eq_true rfl) ⟨Nat.le_refl _, Nat.le_refl _⟩ dX10_lendBy_54 ?_
        refine cm_mono hF (fun w zH_29 hF => ?_)
        obtain ⟨rfl, hF⟩ := hF
        refine rn_aload_n dX10_lendBy_57 rfl ?_
        refine rm_callV (c0 := 99) (As := []) (st := []) mlRX10_248 mdX10_keeps (Nat.le_of_ble_eq_true rfl) rfl (by decide) (by decide) rfl rfl rfl (Nat.le_of_ble_eq_true rfl) ⟨Nat.le_refl _, Nat.le_refl _⟩ dX10_lendBy_58 ?_
        refine cm_mono hF (fun w zH_30 hF => ?_)
        obtain ⟨rfl, hF⟩ := hF
        refine rn_aload_n dX10_lendBy_61 rfl ?_
        refine rn_iconst (x := (-1 : Int32)) dX10_lendBy_62 (by decide) ?_
        refine rn_iconst (x := (-1 : Int32)) dX10_lendBy_63 (by decide) ?_
        refine rn_iload_n dX10_lendBy_64 rfl ?_
        refine rn_iload_n dX10_lendBy_65 rfl ?_
        refine rn_iload_n dX10_lendBy_66 rfl ?_
        refine rn_iload dX10_lendBy_67 rfl ?_
        refine rm_callV (c0 := 99) (As := [.int (-1 : Int32), .int (-1 : Int32), .int zx1, .int zx2, .int zx3, .int zx4]) (st := []) mlRX10_251 mdX10_lends (Nat.le_of_ble_eq_true rfl) rfl (by decide) (by decide) rfl rfl rfl (Nat.le_of_ble_eq_true rfl) ⟨Nat.le_refl _, Nat.le_refl _⟩ dX10_lendBy_69 ?_
        refine cm_mono hF (fun w zH_31 hF => ?_)
        obtain ⟨zr_32, rfl, hF⟩ := hF
        refine rn_if_eq (tgt := 77) dX10_lendBy_72 (by decide) (fun hc_33 => ?_) (fun hc_33 => ?_)
        · replace hF := hF.1 hc_33
          refine rn_iconst (x := (0 : Int32)) dX10_lendBy_77 (by decide) ?_
          refine ra_istore dX10_lendBy_78 rfl (Nat.le_of_ble_eq_true rfl) ?_
          show Rn _ _ _ _ _ _ _ _ [some (rf E 99), some (.int zx1), some (.int zx2), some (.int zx3), some (.int zx4), some (.int (0 : Int32)), none] _ _ _
          exact rn_wk (L' := [some (rf E 99), some (.int zx1), some (.int zx2), some (.int zx3), some (.int zx4), some (.int (0 : Int32)), none]) (⟨rfl, ⟨rfl, ⟨rfl, ⟨rfl, ⟨rfl, ⟨rfl, trivial⟩⟩⟩⟩⟩⟩) hF
        · replace hF := hF.2 hc_33
          refine rn_iconst (x := (0 : Int32)) dX10_lendBy_75 (by decide) ?_
          exact rm_iret rfl dX10_lendBy_76 hF
      · replace hF := hF.2 hc_27
        refine rn_aload_n dX10_lendBy_32 rfl ?_
        refine rm_getr (r := 111) flRX10_43 rfl (by decide) rfl dX10_lendBy_33 ?_
        refine rn_iload_n dX10_lendBy_36 rfl ?_
        obtain ⟨zj_35, hzj_35, hF⟩ := hF
        refine rj_iald (j := zj_35) hzj_35 rfl (by decide) rfl (by decide) dX10_lendBy_37 ?_
        refine rn_iload_n dX10_lendBy_38 rfl ?_
        refine rn_icmp_ne (tgt := 46) dX10_lendBy_39 (by decide) (fun hc_36 => ?_) (fun hc_36 => ?_)
        · replace hF := hF.1 hc_36
          refine rn_iconst (x := (-1 : Int32)) dX10_lendBy_46 (by decide) ?_
          exact rm_iret rfl dX10_lendBy_47 hF
        · replace hF := hF.2 hc_36
          refine rn_iconst (x := (0 : Int32)) dX10_lendBy_42 (by decide) ?_
          refine rn_goto (tgt := 47) dX10_lendBy_43 (by decide) ?_
          exact rm_iret rfl dX10_lendBy_47 hF
    · replace hF := hF.2 hc_26
      refine rn_aload_n dX10_lendBy_22 rfl ?_
      refine rm_callV (c0 := 99) (As := []) (st := []) mlRX10_209 mdX10_begins (Nat.le_of_ble_eq_true rfl) rfl (by decide) (by decide) rfl rfl rfl (Nat.le_of_ble_eq_true rfl) ⟨Nat.le_refl _, Nat.le_refl _⟩ dX10_lendBy_23 ?_
      refine cm_mono hF (fun w zH_37 hF => ?_)
      obtain ⟨rfl, hF⟩ := hF
      refine rn_iload dX10_lendBy_26 rfl ?_
      refine rn_iload_n dX10_lendBy_28 rfl ?_
      refine rn_icmp_ge (tgt := 48) dX10_lendBy_29 (by decide) (fun hc_38 => ?_) (fun hc_38 => ?_)
      · replace hF := hF.1 hc_38
        refine rn_aload_n dX10_lendBy_48 rfl ?_
        refine rm_callV (c0 := 99) (As := []) (st := []) mlRX10_199 mdX10_putsBack (Nat.le_of_ble_eq_true rfl) rfl (by decide) (by decide) rfl rfl rfl (Nat.le_of_ble_eq_true rfl) ⟨Nat.le_refl _, Nat.le_refl _⟩ dX10_lendBy_49 ?_
        refine cm_mono hF (fun w zH_39 hF => ?_)
        obtain ⟨rfl, hF⟩ := hF
        refine rn_aload_n dX10_lendBy_52 rfl ?_
        refine rn_iload_n dX10_lendBy_53 rfl ?_
        refine rm_callV (c0 := 99) (As := [.int zx3]) (st := []) mlRX10_202 mdX10_handsOf (Nat.le_of_ble_eq_true rfl) rfl (by decide) (by decide) rfl rfl rfl (Nat.le_of_ble_eq_true rfl) ⟨Nat.le_refl _, Nat.le_refl _⟩ dX10_lendBy_54 ?_
        refine cm_mono hF (fun w zH_40 hF => ?_)
        obtain ⟨rfl, hF⟩ := hF
        refine rn_aload_n dX10_lendBy_57 rfl ?_
        refine rm_callV (c0 := 99) (As := []) (st := []) mlRX10_248 mdX10_keeps (Nat.le_of_ble_eq_true rfl) rfl (by decide) (by decide) rfl rfl rfl (Nat.le_of_ble_eq_true rfl) ⟨Nat.le_refl _, Nat.le_refl _⟩ dX10_lendBy_58 ?_
        refine cm_mono hF (fun w zH_41 hF => ?_)
        obtain ⟨rfl, hF⟩ := hF
        refine rn_aload_n dX10_lendBy_61 rfl ?_
        refine rn_iconst (x := (-1 : Int32)) dX10_lendBy_62 (by decide) ?_
        refine rn_iconst (x := (-1 : Int32)) dX10_lendBy_63 (by decide) ?_
        refine rn_iload_n dX10_lendBy_64 rfl ?_
        refine rn_iload_n dX10_lendBy_65 rfl ?_
        refine rn_iload_n dX10_lendBy_66 rfl ?_
        refine rn_iload dX10_lendBy_67 rfl ?_
        refine rm_callV (c0 := 99) (As := [.int (-1 : Int32), .int (-1 : Int32), .int zx1, .int zx2, .int zx3, .int zx4]) (st := []) mlRX10_251 mdX10_lends (Nat.le_of_ble_eq_true rfl) rfl (by decide) (by decide) rfl rfl rfl (Nat.le_of_ble_eq_true rfl) ⟨Nat.le_refl _, Nat.le_refl _⟩ dX10_lendBy_69 ?_
        refine cm_mono hF (fun w zH_42 hF => ?_)
        obtain ⟨zr_43, rfl, hF⟩ := hF
        refine rn_if_eq (tgt := 77) dX10_lendBy_72 (by decide) (fun hc_44 => ?_) (fun hc_44 => ?_)
        · replace hF := hF.1 hc_44
          refine rn_iconst (x := (0 : Int32)) dX10_lendBy_77 (by decide) ?_
          refine ra_istore dX10_lendBy_78 rfl (Nat.le_of_ble_eq_true rfl) ?_
          show Rn _ _ _ _ _ _ _ _ [some (rf E 99), some (.int zx1), some (.int zx2), some (.int zx3), some (.int zx4), some (.int (0 : Int32)), none] _ _ _
          exact rn_wk (L' := [some (rf E 99), some (.int zx1), some (.int zx2), some (.int zx3), some (.int zx4), some (.int (0 : Int32)), none]) (⟨rfl, ⟨rfl, ⟨rfl, ⟨rfl, ⟨rfl, ⟨rfl, trivial⟩⟩⟩⟩⟩⟩) hF
        · replace hF := hF.2 hc_44
          refine rn_iconst (x := (0 : Int32)) dX10_lendBy_75 (by decide) ?_
          exact rm_iret rfl dX10_lendBy_76 hF
      · replace hF := hF.2 hc_38
        refine rn_aload_n dX10_lendBy_32 rfl ?_
        refine rm_getr (r := 111) flRX10_43 rfl (by decide) rfl dX10_lendBy_33 ?_
        refine rn_iload_n dX10_lendBy_36 rfl ?_
        obtain ⟨zj_46, hzj_46, hF⟩ := hF
        refine rj_iald (j := zj_46) hzj_46 rfl (by decide) rfl (by decide) dX10_lendBy_37 ?_
        refine rn_iload_n dX10_lendBy_38 rfl ?_
        refine rn_icmp_ne (tgt := 46) dX10_lendBy_39 (by decide) (fun hc_47 => ?_) (fun hc_47 => ?_)
        · replace hF := hF.1 hc_47
          refine rn_iconst (x := (-1 : Int32)) dX10_lendBy_46 (by decide) ?_
          exact rm_iret rfl dX10_lendBy_47 hF
        · replace hF := hF.2 hc_47
          refine rn_iconst (x := (0 : Int32)) dX10_lendBy_42 (by decide) ?_
          refine rn_goto (tgt := 47) dX10_lendBy_43 (by decide) ?_
          exact rm_iret rfl dX10_lendBy_47 hF
theorem cmX10_lendBy {E : En} {Q : Option Value → Hi → Prop} {H : Hi} {zx1 : Int32} {zx2 : Int32} {zx3 : Int32} {zx4 : Int32} 
    (hF : (zx3 ≤ zx4 → (Cm E mX10_runsTold [rf E 99, .int (zx3 - (1 : Int32))] H (fun w zH_2 => w = none ∧ ((¬ zx3 = 0 → ((zx3 ≤ zx4 → (Cm E mX10_putsBack [rf E 99] zH_2 (fun w zH_5 => w = none ∧ (Cm E mX10_handsOf [rf E 99, .int zx3] zH_5 (fun w zH_6 => w = none ∧ (Cm E mX10_keeps [rf E 99] zH_6 (fun w zH_7 => w = none ∧ (Cm E mX10_lends [rf E 99, .int (-1 : Int32), .int (-1 : Int32), .int zx1, .int zx2, .int zx3, .int zx4] zH_7 (fun w zH_8 => ∃ zr_9 : Int32, w = some (.int zr_9) ∧ ((zr_9 = 0 → (Rm E mX10_lendBy Q 80 [some (rf E 99), some (.int zx1), some (.int zx2), some (.int zx3), some (.int zx4), some (.int (0 : Int32)), none] [] zH_8)) ∧ (¬ zr_9 = 0 → (Q (some (.int (0 : Int32))) zH_8)))))))))))) ∧ (¬ zx3 ≤ zx4 → (∃ zj_12 : Nat, (zj_12 < 8 ∧ zx2 = nI zj_12) ∧ ((¬ (zH_2 111 zj_12) = zx1 → (Q (some (.int (-1 : Int32))) zH_2)) ∧ ((zH_2 111 zj_12) = zx1 → (Q (some (.int (0 : Int32))) zH_2))))))) ∧ (zx3 = 0 → (Cm E mX10_begins [rf E 99] zH_2 (fun w zH_14 => w = none ∧ ((zx3 ≤ zx4 → (Cm E mX10_putsBack [rf E 99] zH_14 (fun w zH_16 => w = none ∧ (Cm E mX10_handsOf [rf E 99, .int zx3] zH_16 (fun w zH_17 => w = none ∧ (Cm E mX10_keeps [rf E 99] zH_17 (fun w zH_18 => w = none ∧ (Cm E mX10_lends [rf E 99, .int (-1 : Int32), .int (-1 : Int32), .int zx1, .int zx2, .int zx3, .int zx4] zH_18 (fun w zH_19 => ∃ zr_20 : Int32, w = some (.int zr_20) ∧ ((zr_20 = 0 → (Rm E mX10_lendBy Q 80 [some (rf E 99), some (.int zx1), some (.int zx2), some (.int zx3), some (.int zx4), some (.int (0 : Int32)), none] [] zH_19)) ∧ (¬ zr_20 = 0 → (Q (some (.int (0 : Int32))) zH_19)))))))))))) ∧ (¬ zx3 ≤ zx4 → (∃ zj_23 : Nat, (zj_23 < 8 ∧ zx2 = nI zj_23) ∧ ((¬ (zH_14 111 zj_23) = zx1 → (Q (some (.int (-1 : Int32))) zH_14)) ∧ ((zH_14 111 zj_23) = zx1 → (Q (some (.int (0 : Int32))) zH_14))))))))))))) ∧ (¬ zx3 ≤ zx4 → (Cm E mX10_runsTold [rf E 99, .int zx4] H (fun w zH_25 => w = none ∧ ((¬ zx3 = 0 → ((zx3 ≤ zx4 → (Cm E mX10_putsBack [rf E 99] zH_25 (fun w zH_28 => w = none ∧ (Cm E mX10_handsOf [rf E 99, .int zx3] zH_28 (fun w zH_29 => w = none ∧ (Cm E mX10_keeps [rf E 99] zH_29 (fun w zH_30 => w = none ∧ (Cm E mX10_lends [rf E 99, .int (-1 : Int32), .int (-1 : Int32), .int zx1, .int zx2, .int zx3, .int zx4] zH_30 (fun w zH_31 => ∃ zr_32 : Int32, w = some (.int zr_32) ∧ ((zr_32 = 0 → (Rm E mX10_lendBy Q 80 [some (rf E 99), some (.int zx1), some (.int zx2), some (.int zx3), some (.int zx4), some (.int (0 : Int32)), none] [] zH_31)) ∧ (¬ zr_32 = 0 → (Q (some (.int (0 : Int32))) zH_31)))))))))))) ∧ (¬ zx3 ≤ zx4 → (∃ zj_35 : Nat, (zj_35 < 8 ∧ zx2 = nI zj_35) ∧ ((¬ (zH_25 111 zj_35) = zx1 → (Q (some (.int (-1 : Int32))) zH_25)) ∧ ((zH_25 111 zj_35) = zx1 → (Q (some (.int (0 : Int32))) zH_25))))))) ∧ (zx3 = 0 → (Cm E mX10_begins [rf E 99] zH_25 (fun w zH_37 => w = none ∧ ((zx3 ≤ zx4 → (Cm E mX10_putsBack [rf E 99] zH_37 (fun w zH_39 => w = none ∧ (Cm E mX10_handsOf [rf E 99, .int zx3] zH_39 (fun w zH_40 => w = none ∧ (Cm E mX10_keeps [rf E 99] zH_40 (fun w zH_41 => w = none ∧ (Cm E mX10_lends [rf E 99, .int (-1 : Int32), .int (-1 : Int32), .int zx1, .int zx2, .int zx3, .int zx4] zH_41 (fun w zH_42 => ∃ zr_43 : Int32, w = some (.int zr_43) ∧ ((zr_43 = 0 → (Rm E mX10_lendBy Q 80 [some (rf E 99), some (.int zx1), some (.int zx2), some (.int zx3), some (.int zx4), some (.int (0 : Int32)), none] [] zH_42)) ∧ (¬ zr_43 = 0 → (Q (some (.int (0 : Int32))) zH_42)))))))))))) ∧ (¬ zx3 ≤ zx4 → (∃ zj_46 : Nat, (zj_46 < 8 ∧ zx2 = nI zj_46) ∧ ((¬ (zH_37 111 zj_46) = zx1 → (Q (some (.int (-1 : Int32))) zH_37)) ∧ ((zH_37 111 zj_46) = zx1 → (Q (some (.int (0 : Int32))) zH_37)))))))))))))) :
    Cm E mX10_lendBy [rf E 99, .int zx1, .int zx2, .int zx3, .int zx4] H Q :=
  cm_of (by decide +kernel : plainName RX10 = true) (Nat.le_of_ble_eq_true rfl) rfl (sgX10_lendBy_0  hF)
theorem sgX10_lendBy_80 {E : En} {Q : Option Value → Hi → Prop} {H : Hi} {zx1 : Int32} {zx2 : Int32} {zx3 : Int32} {zx4 : Int32} {zx5 : Int32} 
    (hF : ((128 : Int32) ≤ zx5 → (Rm E mX10_lendBy Q 123 [some (rf E 99), some (.int zx1), some (.int zx2), some (.int zx3), some (.int zx4), some (.int (0 : Int32)), none] [] H)) ∧ (¬ (128 : Int32) ≤ zx5 → (Cm E mX10_mayCode [rf E 99, .int zx5] H (fun w zH_3 => ∃ zr_4 : Int32, w = some (.int zr_4) ∧ ((zr_4 = 0 → (∀ zx5_6 : Int32, zx5_6 = zx5 + (1 : Int32) → (Rm E mX10_lendBy Q 80 [some (rf E 99), some (.int zx1), some (.int zx2), some (.int zx3), some (.int zx4), some (.int zx5_6), none] [] zH_3))) ∧ (¬ zr_4 = 0 → (Cm E mX10_lends [rf E 99, .int zx5, .int (-1 : Int32), .int zx1, .int zx2, .int zx3, .int zx4] zH_3 (fun w zH_7 => ∃ zr_8 : Int32, w = some (.int zr_8) ∧ ((zr_8 = 0 → (∀ zx5_10 : Int32, zx5_10 = zx5 + (1 : Int32) → (Rm E mX10_lendBy Q 80 [some (rf E 99), some (.int zx1), some (.int zx2), some (.int zx3), some (.int zx4), some (.int zx5_10), none] [] zH_7))) ∧ (¬ zr_8 = 0 → (Q (some (.int (1 : Int32))) zH_7))))))))))) :
    Rm E mX10_lendBy Q 80 [some (rf E 99), some (.int zx1), some (.int zx2), some (.int zx3), some (.int zx4), some (.int zx5), none] [] H := by
  refine rn_iload dX10_lendBy_80 rfl ?_
  refine rn_sipush (x := (128 : Int32)) dX10_lendBy_82 (by decide) ?_
  refine rn_icmp_ge (tgt := 120) dX10_lendBy_85 (by decide) (fun hc_1 => ?_) (fun hc_1 => ?_)
  · replace hF := hF.1 hc_1
    refine rn_iconst (x := (0 : Int32)) dX10_lendBy_120 (by decide) ?_
    refine ra_istore dX10_lendBy_121 rfl (Nat.le_of_ble_eq_true rfl) ?_
    show Rn _ _ _ _ _ _ _ _ [some (rf E 99), some (.int zx1), some (.int zx2), some (.int zx3), some (.int zx4), some (.int (0 : Int32)), none] _ _ _
    exact rn_wk (L' := [some (rf E 99), some (.int zx1), some (.int zx2), some (.int zx3), some (.int zx4), some (.int (0 : Int32)), none]) (⟨rfl, ⟨rfl, ⟨rfl, ⟨rfl, ⟨rfl, ⟨rfl, trivial⟩⟩⟩⟩⟩⟩) hF
  · replace hF := hF.2 hc_1
    refine rn_aload_n dX10_lendBy_88 rfl ?_
    refine rn_iload dX10_lendBy_89 rfl ?_
    refine rm_callV (c0 := 99) (As := [.int zx5]) (st := []) mlRX10_255 mdX10_mayCode (Nat.le_of_ble_eq_true rfl) rfl (by decide) (by decide) rfl rfl rfl (Nat.le_of_ble_eq_true rfl) ⟨Nat.le_refl _, Nat.le_refl _⟩ dX10_lendBy_91 ?_
    refine cm_mono hF (fun w zH_3 hF => ?_)
    obtain ⟨zr_4, rfl, hF⟩ := hF
    refine rn_if_eq (tgt := 114) dX10_lendBy_94 (by decide) (fun hc_5 => ?_) (fun hc_5 => ?_)
    · replace hF := hF.1 hc_5
      refine rn_iinc (w := (1 : Int32)) dX10_lendBy_114 rfl (by decide) rfl (Nat.le_of_ble_eq_true rfl) (fun zx5_6 ezx5_6 => ?_)
      replace hF := hF zx5_6 ezx5_6
      show Rn _ _ _ _ _ _ _ _ [some (rf E 99), some (.int zx1), some (.int zx2), some (.int zx3), some (.int zx4), some (.int zx5_6), none] _ _ _
      refine rn_goto (tgt := 80) dX10_lendBy_117 (by decide) ?_
      exact rn_wk (L' := [some (rf E 99), some (.int zx1), some (.int zx2), some (.int zx3), some (.int zx4), some (.int zx5_6), none]) (⟨rfl, ⟨rfl, ⟨rfl, ⟨rfl, ⟨rfl, ⟨rfl, trivial⟩⟩⟩⟩⟩⟩) hF
    · replace hF := hF.2 hc_5
      refine rn_aload_n dX10_lendBy_97 rfl ?_
      refine rn_iload dX10_lendBy_98 rfl ?_
      refine rn_iconst (x := (-1 : Int32)) dX10_lendBy_100 (by decide) ?_
      refine rn_iload_n dX10_lendBy_101 rfl ?_
      refine rn_iload_n dX10_lendBy_102 rfl ?_
      refine rn_iload_n dX10_lendBy_103 rfl ?_
      refine rn_iload dX10_lendBy_104 rfl ?_
      refine rm_callV (c0 := 99) (As := [.int zx5, .int (-1 : Int32), .int zx1, .int zx2, .int zx3, .int zx4]) (st := []) mlRX10_251 mdX10_lends (Nat.le_of_ble_eq_true rfl) rfl (by decide) (by decide) rfl rfl rfl (Nat.le_of_ble_eq_true rfl) ⟨Nat.le_refl _, Nat.le_refl _⟩ dX10_lendBy_106 ?_
      refine cm_mono hF (fun w zH_7 hF => ?_)
      obtain ⟨zr_8, rfl, hF⟩ := hF
      refine rn_if_eq (tgt := 114) dX10_lendBy_109 (by decide) (fun hc_9 => ?_) (fun hc_9 => ?_)
      · replace hF := hF.1 hc_9
        refine rn_iinc (w := (1 : Int32)) dX10_lendBy_114 rfl (by decide) rfl (Nat.le_of_ble_eq_true rfl) (fun zx5_10 ezx5_10 => ?_)
        replace hF := hF zx5_10 ezx5_10
        show Rn _ _ _ _ _ _ _ _ [some (rf E 99), some (.int zx1), some (.int zx2), some (.int zx3), some (.int zx4), some (.int zx5_10), none] _ _ _
        refine rn_goto (tgt := 80) dX10_lendBy_117 (by decide) ?_
        exact rn_wk (L' := [some (rf E 99), some (.int zx1), some (.int zx2), some (.int zx3), some (.int zx4), some (.int zx5_10), none]) (⟨rfl, ⟨rfl, ⟨rfl, ⟨rfl, ⟨rfl, ⟨rfl, trivial⟩⟩⟩⟩⟩⟩) hF
      · replace hF := hF.2 hc_9
        refine rn_iconst (x := (1 : Int32)) dX10_lendBy_112 (by decide) ?_
        exact rm_iret rfl dX10_lendBy_113 hF
theorem sgX10_lendBy_123 {E : En} {Q : Option Value → Hi → Prop} {H : Hi} {zx1 : Int32} {zx2 : Int32} {zx3 : Int32} {zx4 : Int32} {zx5 : Int32} 
    (hF : ((128 : Int32) ≤ zx5 → (Q (some (.int (-1 : Int32))) H)) ∧ (¬ (128 : Int32) ≤ zx5 → (Rm E mX10_lendBy Q 134 [some (rf E 99), some (.int zx1), some (.int zx2), some (.int zx3), some (.int zx4), some (.int zx5), some (.int (0 : Int32))] [] H))) :
    Rm E mX10_lendBy Q 123 [some (rf E 99), some (.int zx1), some (.int zx2), some (.int zx3), some (.int zx4), some (.int zx5), none] [] H := by
  refine rn_iload dX10_lendBy_123 rfl ?_
  refine rn_sipush (x := (128 : Int32)) dX10_lendBy_125 (by decide) ?_
  refine rn_icmp_ge (tgt := 190) dX10_lendBy_128 (by decide) (fun hc_1 => ?_) (fun hc_1 => ?_)
  · replace hF := hF.1 hc_1
    refine rn_iconst (x := (-1 : Int32)) dX10_lendBy_190 (by decide) ?_
    exact rm_iret rfl dX10_lendBy_191 hF
  · replace hF := hF.2 hc_1
    refine rn_iconst (x := (0 : Int32)) dX10_lendBy_131 (by decide) ?_
    refine ra_istore dX10_lendBy_132 rfl (Nat.le_of_ble_eq_true rfl) ?_
    show Rn _ _ _ _ _ _ _ _ [some (rf E 99), some (.int zx1), some (.int zx2), some (.int zx3), some (.int zx4), some (.int zx5), some (.int (0 : Int32))] _ _ _
    exact rn_wk (L' := [some (rf E 99), some (.int zx1), some (.int zx2), some (.int zx3), some (.int zx4), some (.int zx5), some (.int (0 : Int32))]) (⟨rfl, ⟨rfl, ⟨rfl, ⟨rfl, ⟨rfl, ⟨rfl, ⟨rfl, trivial⟩⟩⟩⟩⟩⟩⟩) hF
theorem sgX10_lendBy_134 {E : En} {Q : Option Value → Hi → Prop} {H : Hi} {zx1 : Int32} {zx2 : Int32} {zx3 : Int32} {zx4 : Int32} {zx5 : Int32} {zx6 : Int32} 
    (hF : ((128 : Int32) ≤ zx6 → (∀ zx5_2 : Int32, zx5_2 = zx5 + (1 : Int32) → (Rm E mX10_lendBy Q 123 [some (rf E 99), some (.int zx1), some (.int zx2), some (.int zx3), some (.int zx4), some (.int zx5_2), none] [] H))) ∧ (¬ (128 : Int32) ≤ zx6 → (Cm E mX10_mayCode [rf E 99, .int zx5] H (fun w zH_3 => ∃ zr_4 : Int32, w = some (.int zr_4) ∧ ((zr_4 = 0 → (∀ zx6_6 : Int32, zx6_6 = zx6 + (1 : Int32) → (Rm E mX10_lendBy Q 134 [some (rf E 99), some (.int zx1), some (.int zx2), some (.int zx3), some (.int zx4), some (.int zx5), some (.int zx6_6)] [] zH_3))) ∧ (¬ zr_4 = 0 → (Cm E mX10_mayCode [rf E 99, .int zx6] zH_3 (fun w zH_7 => ∃ zr_8 : Int32, w = some (.int zr_8) ∧ ((zr_8 = 0 → (∀ zx6_10 : Int32, zx6_10 = zx6 + (1 : Int32) → (Rm E mX10_lendBy Q 134 [some (rf E 99), some (.int zx1), some (.int zx2), some (.int zx3), some (.int zx4), some (.int zx5), some (.int zx6_10)] [] zH_7))) ∧ (¬ zr_8 = 0 → (Cm E mX10_lends [rf E 99, .int zx5, .int zx6, .int zx1, .int zx2, .int zx3, .int zx4] zH_7 (fun w zH_11 => ∃ zr_12 : Int32, w = some (.int zr_12) ∧ ((zr_12 = 0 → (∀ zx6_14 : Int32, zx6_14 = zx6 + (1 : Int32) → (Rm E mX10_lendBy Q 134 [some (rf E 99), some (.int zx1), some (.int zx2), some (.int zx3), some (.int zx4), some (.int zx5), some (.int zx6_14)] [] zH_11))) ∧ (¬ zr_12 = 0 → (Q (some (.int (2 : Int32))) zH_11))))))))))))))) :
    Rm E mX10_lendBy Q 134 [some (rf E 99), some (.int zx1), some (.int zx2), some (.int zx3), some (.int zx4), some (.int zx5), some (.int zx6)] [] H := by
  refine rn_iload dX10_lendBy_134 rfl ?_
  refine rn_sipush (x := (128 : Int32)) dX10_lendBy_136 (by decide) ?_
  refine rn_icmp_ge (tgt := 184) dX10_lendBy_139 (by decide) (fun hc_1 => ?_) (fun hc_1 => ?_)
  · replace hF := hF.1 hc_1
    refine rn_iinc (w := (1 : Int32)) dX10_lendBy_184 rfl (by decide) rfl (Nat.le_of_ble_eq_true rfl) (fun zx5_2 ezx5_2 => ?_)
    replace hF := hF zx5_2 ezx5_2
    show Rn _ _ _ _ _ _ _ _ [some (rf E 99), some (.int zx1), some (.int zx2), some (.int zx3), some (.int zx4), some (.int zx5_2), some (.int zx6)] _ _ _
    refine rn_goto (tgt := 123) dX10_lendBy_187 (by decide) ?_
    exact rn_wk (L' := [some (rf E 99), some (.int zx1), some (.int zx2), some (.int zx3), some (.int zx4), some (.int zx5_2), none]) (⟨rfl, ⟨rfl, ⟨rfl, ⟨rfl, ⟨rfl, ⟨rfl, trivial⟩⟩⟩⟩⟩⟩) hF
  · replace hF := hF.2 hc_1
    refine rn_aload_n dX10_lendBy_142 rfl ?_
    refine rn_iload dX10_lendBy_143 rfl ?_
    refine rm_callV (c0 := 99) (As := [.int zx5]) (st := []) mlRX10_255 mdX10_mayCode (Nat.le_of_ble_eq_true rfl) rfl (by decide) (by decide) rfl rfl rfl (Nat.le_of_ble_eq_true rfl) ⟨Nat.le_refl _, Nat.le_refl _⟩ dX10_lendBy_145 ?_
    refine cm_mono hF (fun w zH_3 hF => ?_)
    obtain ⟨zr_4, rfl, hF⟩ := hF
    refine rn_if_eq (tgt := 178) dX10_lendBy_148 (by decide) (fun hc_5 => ?_) (fun hc_5 => ?_)
    · replace hF := hF.1 hc_5
      refine rn_iinc (w := (1 : Int32)) dX10_lendBy_178 rfl (by decide) rfl (Nat.le_of_ble_eq_true rfl) (fun zx6_6 ezx6_6 => ?_)
      replace hF := hF zx6_6 ezx6_6
      show Rn _ _ _ _ _ _ _ _ [some (rf E 99), some (.int zx1), some (.int zx2), some (.int zx3), some (.int zx4), some (.int zx5), some (.int zx6_6)] _ _ _
      refine rn_goto (tgt := 134) dX10_lendBy_181 (by decide) ?_
      exact rn_wk (L' := [some (rf E 99), some (.int zx1), some (.int zx2), some (.int zx3), some (.int zx4), some (.int zx5), some (.int zx6_6)]) (⟨rfl, ⟨rfl, ⟨rfl, ⟨rfl, ⟨rfl, ⟨rfl, ⟨rfl, trivial⟩⟩⟩⟩⟩⟩⟩) hF
    · replace hF := hF.2 hc_5
      refine rn_aload_n dX10_lendBy_151 rfl ?_
      refine rn_iload dX10_lendBy_152 rfl ?_
      refine rm_callV (c0 := 99) (As := [.int zx6]) (st := []) mlRX10_255 mdX10_mayCode (Nat.le_of_ble_eq_true rfl) rfl (by decide) (by decide) rfl rfl rfl (Nat.le_of_ble_eq_true rfl) ⟨Nat.le_refl _, Nat.le_refl _⟩ dX10_lendBy_154 ?_
      refine cm_mono hF (fun w zH_7 hF => ?_)
      obtain ⟨zr_8, rfl, hF⟩ := hF
      refine rn_if_eq (tgt := 178) dX10_lendBy_157 (by decide) (fun hc_9 => ?_) (fun hc_9 => ?_)
      · replace hF := hF.1 hc_9
        refine rn_iinc (w := (1 : Int32)) dX10_lendBy_178 rfl (by decide) rfl (Nat.le_of_ble_eq_true rfl) (fun zx6_10 ezx6_10 => ?_)
        replace hF := hF zx6_10 ezx6_10
        show Rn _ _ _ _ _ _ _ _ [some (rf E 99), some (.int zx1), some (.int zx2), some (.int zx3), some (.int zx4), some (.int zx5), some (.int zx6_10)] _ _ _
        refine rn_goto (tgt := 134) dX10_lendBy_181 (by decide) ?_
        exact rn_wk (L' := [some (rf E 99), some (.int zx1), some (.int zx2), some (.int zx3), some (.int zx4), some (.int zx5), some (.int zx6_10)]) (⟨rfl, ⟨rfl, ⟨rfl, ⟨rfl, ⟨rfl, ⟨rfl, ⟨rfl, trivial⟩⟩⟩⟩⟩⟩⟩) hF
      · replace hF := hF.2 hc_9
        refine rn_aload_n dX10_lendBy_160 rfl ?_
        refine rn_iload dX10_lendBy_161 rfl ?_
        refine rn_iload dX10_lendBy_163 rfl ?_
        refine rn_iload_n dX10_lendBy_165 rfl ?_
        refine rn_iload_n dX10_lendBy_166 rfl ?_
        refine rn_iload_n dX10_lendBy_167 rfl ?_
        refine rn_iload dX10_lendBy_168 rfl ?_
        refine rm_callV (c0 := 99) (As := [.int zx5, .int zx6, .int zx1, .int zx2, .int zx3, .int zx4]) (st := []) mlRX10_251 mdX10_lends (Nat.le_of_ble_eq_true rfl) rfl (by decide) (by decide) rfl rfl rfl (Nat.le_of_ble_eq_true rfl) ⟨Nat.le_refl _, Nat.le_refl _⟩ dX10_lendBy_170 ?_
        refine cm_mono hF (fun w zH_11 hF => ?_)
        obtain ⟨zr_12, rfl, hF⟩ := hF
        refine rn_if_eq (tgt := 178) dX10_lendBy_173 (by decide) (fun hc_13 => ?_) (fun hc_13 => ?_)
        · replace hF := hF.1 hc_13
          refine rn_iinc (w := (1 : Int32)) dX10_lendBy_178 rfl (by decide) rfl (Nat.le_of_ble_eq_true rfl) (fun zx6_14 ezx6_14 => ?_)
          replace hF := hF zx6_14 ezx6_14
          show Rn _ _ _ _ _ _ _ _ [some (rf E 99), some (.int zx1), some (.int zx2), some (.int zx3), some (.int zx4), some (.int zx5), some (.int zx6_14)] _ _ _
          refine rn_goto (tgt := 134) dX10_lendBy_181 (by decide) ?_
          exact rn_wk (L' := [some (rf E 99), some (.int zx1), some (.int zx2), some (.int zx3), some (.int zx4), some (.int zx5), some (.int zx6_14)]) (⟨rfl, ⟨rfl, ⟨rfl, ⟨rfl, ⟨rfl, ⟨rfl, ⟨rfl, trivial⟩⟩⟩⟩⟩⟩⟩) hF
        · replace hF := hF.2 hc_13
          refine rn_iconst (x := (2 : Int32)) dX10_lendBy_176 (by decide) ?_
          exact rm_iret rfl dX10_lendBy_177 hF
theorem sgX10_ofRow_0 {E : En} {Q : Option Value → Hi → Prop} {H : Hi} {zx1 : Int32} {zx2 : Int32} 
    (hF : (¬ zx2 = (-1 : Int32) → ((zx1 ≤ zx2 → (Q (some (.int (-1 : Int32))) H)) ∧ (¬ zx1 ≤ zx2 → (∃ zj_3 : Nat, (zj_3 < 2 ∧ zx2 = nI zj_3) ∧ (Q (some (.int (H 119 zj_3))) H))))) ∧ (zx2 = (-1 : Int32) → (Q (some (.int zx1)) H))) :
    Rm E mX10_ofRow Q 0 [some (rf E 99), some (.int zx1), some (.int zx2)] [] H := by
  refine rn_iload_n dX10_ofRow_0 rfl ?_
  refine rn_iconst (x := (-1 : Int32)) dX10_ofRow_1 (by decide) ?_
  refine rn_icmp_ne (tgt := 9) dX10_ofRow_2 (by decide) (fun hc_1 => ?_) (fun hc_1 => ?_)
  · replace hF := hF.1 hc_1
    refine rn_iload_n dX10_ofRow_9 rfl ?_
    refine rn_iload_n dX10_ofRow_10 rfl ?_
    refine rn_icmp_ge (tgt := 23) dX10_ofRow_11 (by decide) (fun hc_2 => ?_) (fun hc_2 => ?_)
    · replace hF := hF.1 hc_2
      refine rn_iconst (x := (-1 : Int32)) dX10_ofRow_23 (by decide) ?_
      exact rm_iret rfl dX10_ofRow_24 hF
    · replace hF := hF.2 hc_2
      refine rn_aload_n dX10_ofRow_14 rfl ?_
      refine rm_getr (r := 119) flRX10_68 rfl (by decide) rfl dX10_ofRow_15 ?_
      refine rn_iload_n dX10_ofRow_18 rfl ?_
      obtain ⟨zj_3, hzj_3, hF⟩ := hF
      refine rj_iald (j := zj_3) hzj_3 rfl (by decide) rfl (by decide) dX10_ofRow_19 ?_
      refine rn_goto (tgt := 24) dX10_ofRow_20 (by decide) ?_
      exact rm_iret rfl dX10_ofRow_24 hF
  · replace hF := hF.2 hc_1
    refine rn_iload_n dX10_ofRow_5 rfl ?_
    refine rn_goto (tgt := 24) dX10_ofRow_6 (by decide) ?_
    exact rm_iret rfl dX10_ofRow_24 hF
theorem cmX10_ofRow {E : En} {Q : Option Value → Hi → Prop} {H : Hi} {zx1 : Int32} {zx2 : Int32} 
    (hF : (¬ zx2 = (-1 : Int32) → ((zx1 ≤ zx2 → (Q (some (.int (-1 : Int32))) H)) ∧ (¬ zx1 ≤ zx2 → (∃ zj_3 : Nat, (zj_3 < 2 ∧ zx2 = nI zj_3) ∧ (Q (some (.int (H 119 zj_3))) H))))) ∧ (zx2 = (-1 : Int32) → (Q (some (.int zx1)) H))) :
    Cm E mX10_ofRow [rf E 99, .int zx1, .int zx2] H Q :=
  cm_of (by decide +kernel : plainName RX10 = true) (Nat.le_of_ble_eq_true rfl) rfl (sgX10_ofRow_0  hF)
theorem sgX10_lendOf_0 {E : En} {Q : Option Value → Hi → Prop} {H : Hi} {zx1 : Int32} {zx2 : Int32} {zx3 : Int32} {zx4 : Int32} {zx5 : Int32} 
    (hF : Cm E mX10_lendBy [rf E 99, .int zx1, .int zx2, .int zx3, .int zx4] H (fun w zH_1 => ∃ zr_2 : Int32, w = some (.int zr_2) ∧ (Cm E mX10_ofRow [rf E 99, .int zr_2, .int zx5] zH_1 (fun w zH_3 => ∃ zr_4 : Int32, w = some (.int zr_4) ∧ (Q (some (.int zr_4)) zH_3))))) :
    Rm E mX10_lendOf Q 0 [some (rf E 99), some (.int zx1), some (.int zx2), some (.int zx3), some (.int zx4), some (.int zx5)] [] H := by
  refine rn_aload_n dX10_lendOf_0 rfl ?_
  refine rn_aload_n dX10_lendOf_1 rfl ?_
  refine rn_iload_n dX10_lendOf_2 rfl ?_
  refine rn_iload_n dX10_lendOf_3 rfl ?_
  refine rn_iload_n dX10_lendOf_4 rfl ?_
  refine rn_iload dX10_lendOf_5 rfl ?_
  refine rm_callV (c0 := 99) (As := [.int zx1, .int zx2, .int zx3, .int zx4]) (st := [rf E 99]) mlRX10_258 mdX10_lendBy (Nat.le_of_ble_eq_true rfl) rfl (by decide) (by decide) rfl rfl rfl (Nat.le_of_ble_eq_true rfl) ⟨Nat.le_refl _, Nat.le_refl _⟩ dX10_lendOf_7 ?_
  refine cm_mono hF (fun w zH_1 hF => ?_)
  obtain ⟨zr_2, rfl, hF⟩ := hF
  refine rn_iload dX10_lendOf_10 rfl ?_
  refine rm_callV (c0 := 99) (As := [.int zr_2, .int zx5]) (st := []) mlRX10_261 mdX10_ofRow (Nat.le_of_ble_eq_true rfl) rfl (by decide) (by decide) rfl rfl rfl (Nat.le_of_ble_eq_true rfl) ⟨Nat.le_refl _, Nat.le_refl _⟩ dX10_lendOf_12 ?_
  refine cm_mono hF (fun w zH_3 hF => ?_)
  obtain ⟨zr_4, rfl, hF⟩ := hF
  exact rm_iret rfl dX10_lendOf_15 hF
theorem cmX10_lendOf {E : En} {Q : Option Value → Hi → Prop} {H : Hi} {zx1 : Int32} {zx2 : Int32} {zx3 : Int32} {zx4 : Int32} {zx5 : Int32} 
    (hF : Cm E mX10_lendBy [rf E 99, .int zx1, .int zx2, .int zx3, .int zx4] H (fun w zH_1 => ∃ zr_2 : Int32, w = some (.int zr_2) ∧ (Cm E mX10_ofRow [rf E 99, .int zr_2, .int zx5] zH_1 (fun w zH_3 => ∃ zr_4 : Int32, w = some (.int zr_4) ∧ (Q (some (.int zr_4)) zH_3))))) :
    Cm E mX10_lendOf [rf E 99, .int zx1, .int zx2, .int zx3, .int zx4, .int zx5] H Q :=
  cm_of (by decide +kernel : plainName RX10 = true) (Nat.le_of_ble_eq_true rfl) rfl (sgX10_lendOf_0  hF)
theorem sgX10_lend_0 {E : En} {Q : Option Value → Hi → Prop} {H : Hi} {zx1 : Int32} {zx2 : Int32} {zx3 : Int32} {zx4 : Int32} {zx5 : Int32} 
    (hF : Cm E mX10_isCousin [rf E 99, .int zx1] H (fun w zH_1 => ∃ zr_2 : Int32, w = some (.int zr_2) ∧ ((zr_2 = 0 → (Q (some (.int (-2 : Int32))) zH_1)) ∧ (¬ zr_2 = 0 → (Cm E mX10_isThing [rf E 99, .int zx2] zH_1 (fun w zH_4 => ∃ zr_5 : Int32, w = some (.int zr_5) ∧ ((zr_5 = 0 → (Q (some (.int (-2 : Int32))) zH_4)) ∧ (¬ zr_5 = 0 → (Cm E mX10_isHour [.int zx3] zH_4 (fun w zH_7 => ∃ zr_8 : Int32, w = some (.int zr_8) ∧ ((zr_8 = 0 → (Q (some (.int (-2 : Int32))) zH_7)) ∧ (¬ zr_8 = 0 → (Cm E mX10_isHour [.int zx4] zH_7 (fun w zH_10 => ∃ zr_11 : Int32, w = some (.int zr_11) ∧ ((zr_11 = 0 → (Q (some (.int (-2 : Int32))) zH_10)) ∧ (¬ zr_11 = 0 → (Cm E mX10_in [.int zx5, .int (-1 : Int32), .int (1 : Int32)] zH_10 (fun w zH_13 => ∃ zr_14 : Int32, w = some (.int zr_14) ∧ ((zr_14 = 0 → (Q (some (.int (-2 : Int32))) zH_13)) ∧ (¬ zr_14 = 0 → (Cm E mX10_lendOf [rf E 99, .int zx1, .int zx2, .int zx3, .int zx4, .int zx5] zH_13 (fun w zH_16 => ∃ zr_17 : Int32, w = some (.int zr_17) ∧ (Q (some (.int zr_17)) zH_16))))))))))))))))))))))) :
    Rm E mX10_lend Q 0 [some (rf E 99), some (.int zx1), some (.int zx2), some (.int zx3), some (.int zx4), some (.int zx5)] [] H := by
  refine rn_aload_n dX10_lend_0 rfl ?_
  refine rn_iload_n dX10_lend_1 rfl ?_
  refine rm_callV (c0 := 99) (As := [.int zx1]) (st := []) mlRX10_153 mdX10_isCousin (Nat.le_of_ble_eq_true rfl) rfl (by decide) (by decide) rfl rfl rfl (Nat.le_of_ble_eq_true rfl) ⟨Nat.le_refl _, Nat.le_refl _⟩ dX10_lend_2 ?_
  refine cm_mono hF (fun w zH_1 hF => ?_)
  obtain ⟨zr_2, rfl, hF⟩ := hF
  refine rn_if_eq (tgt := 55) dX10_lend_5 (by decide) (fun hc_3 => ?_) (fun hc_3 => ?_)
  · replace hF := hF.1 hc_3
    refine rn_bipush (x := (-2 : Int32)) dX10_lend_55 (by decide) ?_
    exact rm_iret rfl dX10_lend_57 hF
  · replace hF := hF.2 hc_3
    refine rn_aload_n dX10_lend_8 rfl ?_
    refine rn_iload_n dX10_lend_9 rfl ?_
    refine rm_callV (c0 := 99) (As := [.int zx2]) (st := []) mlRX10_147 mdX10_isThing (Nat.le_of_ble_eq_true rfl) rfl (by decide) (by decide) rfl rfl rfl (Nat.le_of_ble_eq_true rfl) ⟨Nat.le_refl _, Nat.le_refl _⟩ dX10_lend_10 ?_
    refine cm_mono hF (fun w zH_4 hF => ?_)
    obtain ⟨zr_5, rfl, hF⟩ := hF
    refine rn_if_eq (tgt := 55) dX10_lend_13 (by decide) (fun hc_6 => ?_) (fun hc_6 => ?_)
    · replace hF := hF.1 hc_6
      refine rn_bipush (x := (-2 : Int32)) dX10_lend_55 (by decide) ?_
      exact rm_iret rfl dX10_lend_57 hF
    · replace hF := hF.2 hc_6
      refine rn_iload_n dX10_lend_16 rfl ?_
      refine rm_callS (As := [.int zx3]) (st := []) mlRX10_160 mdX10_isHour (Nat.le_of_ble_eq_true rfl) rfl rfl (Nat.le_of_ble_eq_true rfl) ⟨Nat.le_refl _, Nat.le_refl _⟩ dX10_lend_17 ?_
      refine cm_mono hF (fun w zH_7 hF => ?_)
      obtain ⟨zr_8, rfl, hF⟩ := hF
      refine rn_if_eq (tgt := 55) dX10_lend_20 (by decide) (fun hc_9 => ?_) (fun hc_9 => ?_)
      · replace hF := hF.1 hc_9
        refine rn_bipush (x := (-2 : Int32)) dX10_lend_55 (by decide) ?_
        exact rm_iret rfl dX10_lend_57 hF
      · replace hF := hF.2 hc_9
        refine rn_iload dX10_lend_23 rfl ?_
        refine rm_callS (As := [.int zx4]) (st := []) mlRX10_160 mdX10_isHour (Nat.le_of_ble_eq_true rfl) rfl rfl (Nat.le_of_ble_eq_true rfl) ⟨Nat.le_refl _, Nat.le_refl _⟩ dX10_lend_25 ?_
        refine cm_mono hF (fun w zH_10 hF => ?_)
        obtain ⟨zr_11, rfl, hF⟩ := hF
        refine rn_if_eq (tgt := 55) dX10_lend_28 (by decide) (fun hc_12 => ?_) (fun hc_12 => ?_)
        · replace hF := hF.1 hc_12
          refine rn_bipush (x := (-2 : Int32)) dX10_lend_55 (by decide) ?_
          exact rm_iret rfl dX10_lend_57 hF
        · replace hF := hF.2 hc_12
          refine rn_iload dX10_lend_31 rfl ?_
          refine rn_iconst (x := (-1 : Int32)) dX10_lend_33 (by decide) ?_
          refine rn_iconst (x := (1 : Int32)) dX10_lend_34 (by decide) ?_
          refine rm_callS (As := [.int zx5, .int (-1 : Int32), .int (1 : Int32)]) (st := []) mlRX10_110 mdX10_in (Nat.le_of_ble_eq_true rfl) rfl rfl (Nat.le_of_ble_eq_true rfl) ⟨Nat.le_refl _, Nat.le_refl _⟩ dX10_lend_35 ?_
          refine cm_mono hF (fun w zH_13 hF => ?_)
          obtain ⟨zr_14, rfl, hF⟩ := hF
          refine rn_if_eq (tgt := 55) dX10_lend_38 (by decide) (fun hc_15 => ?_) (fun hc_15 => ?_)
          · replace hF := hF.1 hc_15
            refine rn_bipush (x := (-2 : Int32)) dX10_lend_55 (by decide) ?_
            exact rm_iret rfl dX10_lend_57 hF
          · replace hF := hF.2 hc_15
            refine rn_aload_n dX10_lend_41 rfl ?_
            refine rn_iload_n dX10_lend_42 rfl ?_
            refine rn_iload_n dX10_lend_43 rfl ?_
            refine rn_iload_n dX10_lend_44 rfl ?_
            refine rn_iload dX10_lend_45 rfl ?_
            refine rn_iload dX10_lend_47 rfl ?_
            refine rm_callV (c0 := 99) (As := [.int zx1, .int zx2, .int zx3, .int zx4, .int zx5]) (st := []) mlRX10_264 mdX10_lendOf (Nat.le_of_ble_eq_true rfl) rfl (by decide) (by decide) rfl rfl rfl (Nat.le_of_ble_eq_true rfl) ⟨Nat.le_refl _, Nat.le_refl _⟩ dX10_lend_49 ?_
            refine cm_mono hF (fun w zH_16 hF => ?_)
            obtain ⟨zr_17, rfl, hF⟩ := hF
            refine rn_goto (tgt := 57) dX10_lend_52 (by decide) ?_
            exact rm_iret rfl dX10_lend_57 hF
theorem cmX10_lend {E : En} {Q : Option Value → Hi → Prop} {H : Hi} {zx1 : Int32} {zx2 : Int32} {zx3 : Int32} {zx4 : Int32} {zx5 : Int32} 
    (hF : Cm E mX10_isCousin [rf E 99, .int zx1] H (fun w zH_1 => ∃ zr_2 : Int32, w = some (.int zr_2) ∧ ((zr_2 = 0 → (Q (some (.int (-2 : Int32))) zH_1)) ∧ (¬ zr_2 = 0 → (Cm E mX10_isThing [rf E 99, .int zx2] zH_1 (fun w zH_4 => ∃ zr_5 : Int32, w = some (.int zr_5) ∧ ((zr_5 = 0 → (Q (some (.int (-2 : Int32))) zH_4)) ∧ (¬ zr_5 = 0 → (Cm E mX10_isHour [.int zx3] zH_4 (fun w zH_7 => ∃ zr_8 : Int32, w = some (.int zr_8) ∧ ((zr_8 = 0 → (Q (some (.int (-2 : Int32))) zH_7)) ∧ (¬ zr_8 = 0 → (Cm E mX10_isHour [.int zx4] zH_7 (fun w zH_10 => ∃ zr_11 : Int32, w = some (.int zr_11) ∧ ((zr_11 = 0 → (Q (some (.int (-2 : Int32))) zH_10)) ∧ (¬ zr_11 = 0 → (Cm E mX10_in [.int zx5, .int (-1 : Int32), .int (1 : Int32)] zH_10 (fun w zH_13 => ∃ zr_14 : Int32, w = some (.int zr_14) ∧ ((zr_14 = 0 → (Q (some (.int (-2 : Int32))) zH_13)) ∧ (¬ zr_14 = 0 → (Cm E mX10_lendOf [rf E 99, .int zx1, .int zx2, .int zx3, .int zx4, .int zx5] zH_13 (fun w zH_16 => ∃ zr_17 : Int32, w = some (.int zr_17) ∧ (Q (some (.int zr_17)) zH_16))))))))))))))))))))))) :
    Cm E mX10_lend [rf E 99, .int zx1, .int zx2, .int zx3, .int zx4, .int zx5] H Q :=
  cm_of (by decide +kernel : plainName RX10 = true) (Nat.le_of_ble_eq_true rfl) rfl (sgX10_lend_0  hF)
theorem sgX10_hangsOf_0 {E : En} {Q : Option Value → Hi → Prop} {H : Hi} {zx1 : Int32} 
    (hF : Cm E mX10_runsTold [rf E 99, .int (zx1 - (1 : Int32))] H (fun w zH_1 => w = none ∧ ((¬ zx1 = 0 → (Cm E mX10_putsBack [rf E 99] zH_1 (fun w zH_3 => w = none ∧ (Cm E mX10_keeps [rf E 99] zH_3 (fun w zH_4 => w = none ∧ (Rm E mX10_hangsOf Q 27 [some (rf E 99), some (.int zx1), some (.int (0 : Int32)), some (.int (0 : Int32)), none, none, none, none, none, none] [] zH_4)))))) ∧ (zx1 = 0 → (Cm E mX10_begins [rf E 99] zH_1 (fun w zH_7 => w = none ∧ (Cm E mX10_putsBack [rf E 99] zH_7 (fun w zH_8 => w = none ∧ (Cm E mX10_keeps [rf E 99] zH_8 (fun w zH_9 => w = none ∧ (Rm E mX10_hangsOf Q 27 [some (rf E 99), some (.int zx1), some (.int (0 : Int32)), some (.int (0 : Int32)), none, none, none, none, none, none] [] zH_9))))))))))) :
    Rm E mX10_hangsOf Q 0 [some (rf E 99), some (.int zx1), none, none, none, none, none, none, none, none] [] H := by
  refine rn_aload_n dX10_hangsOf_0 rfl ?_
  refine rn_iload_n dX10_hangsOf_1 rfl ?_
  refine rn_iconst (x := (1 : Int32)) dX10_hangsOf_2 (by decide) ?_
  refine rn_isub dX10_hangsOf_3 ?_
  refine rm_callV (c0 := 99) (As := [.int (zx1 - (1 : Int32))]) (st := []) mlRX10_221 mdX10_runsTold (Nat.le_of_ble_eq_true rfl) rfl (by decide) (by decide) rfl rfl rfl (Nat.le_of_ble_eq_true rfl) ⟨Nat.le_refl _, Nat.le_refl _⟩ dX10_hangsOf_4 ?_
  refine cm_mono hF (fun w zH_1 hF => ?_)
  obtain ⟨rfl, hF⟩ := hF
  refine rn_iload_n dX10_hangsOf_7 rfl ?_
  refine rn_if_ne (tgt := 15) dX10_hangsOf_8 (by decide) (fun hc_2 => ?_) (fun hc_2 => ?_)
  · replace hF := hF.1 hc_2
    refine rn_aload_n dX10_hangsOf_15 rfl ?_
    refine rm_callV (c0 := 99) (As := []) (st := []) mlRX10_199 mdX10_putsBack (Nat.le_of_ble_eq_true rfl) rfl (by decide) (by decide) rfl rfl rfl (Nat.le_of_ble_eq_true rfl) ⟨Nat.le_refl _, Nat.le_refl _⟩ dX10_hangsOf_16 ?_
    refine cm_mono hF (fun w zH_3 hF => ?_)
    obtain ⟨rfl, hF⟩ := hF
    refine rn_aload_n dX10_hangsOf_19 rfl ?_
    refine rm_callV (c0 := 99) (As := []) (st := []) mlRX10_248 mdX10_keeps (Nat.le_of_ble_eq_true rfl) rfl (by decide) (by decide) rfl rfl rfl (Nat.le_of_ble_eq_true rfl) ⟨Nat.le_refl _, Nat.le_refl _⟩ dX10_hangsOf_20 ?_
    refine cm_mono hF (fun w zH_4 hF => ?_)
    obtain ⟨rfl, hF⟩ := hF
    refine rn_iconst (x := (0 : Int32)) dX10_hangsOf_23 (by decide) ?_
    refine ra_istore_n dX10_hangsOf_24 rfl (Nat.le_of_ble_eq_true rfl) ?_
    show Rn _ _ _ _ _ _ _ _ [some (rf E 99), some (.int zx1), some (.int (0 : Int32)), none, none, none, none, none, none, none] _ _ _
    refine rn_iconst (x := (0 : Int32)) dX10_hangsOf_25 (by decide) ?_
    refine ra_istore_n dX10_hangsOf_26 rfl (Nat.le_of_ble_eq_true rfl) ?_
    show Rn _ _ _ _ _ _ _ _ [some (rf E 99), some (.int zx1), some (.int (0 : Int32)), some (.int (0 : Int32)), none, none, none, none, none, none] _ _ _
    exact rn_wk (L' := [some (rf E 99), some (.int zx1), some (.int (0 : Int32)), some (.int (0 : Int32)), none, none, none, none, none, none]) (⟨rfl, ⟨rfl, ⟨rfl, ⟨rfl, trivial⟩⟩⟩⟩) hF
  · replace hF := hF.2 hc_2
    refine rn_aload_n dX10_hangsOf_11 rfl ?_
    refine rm_callV (c0 := 99) (As := []) (st := []) mlRX10_209 mdX10_begins (Nat.le_of_ble_eq_true rfl) rfl (by decide) (by decide) rfl rfl rfl (Nat.le_of_ble_eq_true rfl) ⟨Nat.le_refl _, Nat.le_refl _⟩ dX10_hangsOf_12 ?_
    refine cm_mono hF (fun w zH_7 hF => ?_)
    obtain ⟨rfl, hF⟩ := hF
    refine rn_aload_n dX10_hangsOf_15 rfl ?_
    refine rm_callV (c0 := 99) (As := []) (st := []) mlRX10_199 mdX10_putsBack (Nat.le_of_ble_eq_true rfl) rfl (by decide) (by decide) rfl rfl rfl (Nat.le_of_ble_eq_true rfl) ⟨Nat.le_refl _, Nat.le_refl _⟩ dX10_hangsOf_16 ?_
    refine cm_mono hF (fun w zH_8 hF => ?_)
    obtain ⟨rfl, hF⟩ := hF
    refine rn_aload_n dX10_hangsOf_19 rfl ?_
    refine rm_callV (c0 := 99) (As := []) (st := []) mlRX10_248 mdX10_keeps (Nat.le_of_ble_eq_true rfl) rfl (by decide) (by decide) rfl rfl rfl (Nat.le_of_ble_eq_true rfl) ⟨Nat.le_refl _, Nat.le_refl _⟩ dX10_hangsOf_20 ?_
    refine cm_mono hF (fun w zH_9 hF => ?_)
    obtain ⟨rfl, hF⟩ := hF
    refine rn_iconst (x := (0 : Int32)) dX10_hangsOf_23 (by decide) ?_
    refine ra_istore_n dX10_hangsOf_24 rfl (Nat.le_of_ble_eq_true rfl) ?_
    show Rn _ _ _ _ _ _ _ _ [some (rf E 99), some (.int zx1), some (.int (0 : Int32)), none, none, none, none, none, none, none] _ _ _
    refine rn_iconst (x := (0 : Int32)) dX10_hangsOf_25 (by decide) ?_
    refine ra_istore_n dX10_hangsOf_26 rfl (Nat.le_of_ble_eq_true rfl) ?_
    show Rn _ _ _ _ _ _ _ _ [some (rf E 99), some (.int zx1), some (.int (0 : Int32)), some (.int (0 : Int32)), none, none, none, none, none, none] _ _ _
    exact rn_wk (L' := [some (rf E 99), some (.int zx1), some (.int (0 : Int32)), some (.int (0 : Int32)), none, none, none, none, none, none]) (⟨rfl, ⟨rfl, ⟨rfl, ⟨rfl, trivial⟩⟩⟩⟩) hF
theorem cmX10_hangsOf {E : En} {Q : Option Value → Hi → Prop} {H : Hi} {zx1 : Int32} 
    (hF : Cm E mX10_runsTold [rf E 99, .int (zx1 - (1 : Int32))] H (fun w zH_1 => w = none ∧ ((¬ zx1 = 0 → (Cm E mX10_putsBack [rf E 99] zH_1 (fun w zH_3 => w = none ∧ (Cm E mX10_keeps [rf E 99] zH_3 (fun w zH_4 => w = none ∧ (Rm E mX10_hangsOf Q 27 [some (rf E 99), some (.int zx1), some (.int (0 : Int32)), some (.int (0 : Int32)), none, none, none, none, none, none] [] zH_4)))))) ∧ (zx1 = 0 → (Cm E mX10_begins [rf E 99] zH_1 (fun w zH_7 => w = none ∧ (Cm E mX10_putsBack [rf E 99] zH_7 (fun w zH_8 => w = none ∧ (Cm E mX10_keeps [rf E 99] zH_8 (fun w zH_9 => w = none ∧ (Rm E mX10_hangsOf Q 27 [some (rf E 99), some (.int zx1), some (.int (0 : Int32)), some (.int (0 : Int32)), none, none, none, none, none, none] [] zH_9))))))))))) :
    Cm E mX10_hangsOf [rf E 99, .int zx1] H Q :=
  cm_of (by decide +kernel : plainName RX10 = true) (Nat.le_of_ble_eq_true rfl) rfl (sgX10_hangsOf_0  hF)
theorem sgX10_hangsOf_27 {E : En} {Q : Option Value → Hi → Prop} {H : Hi} {zx1 : Int32} {zx2 : Int32} {zx3 : Int32} 
    (hF : ((H 99 11) ≤ zx3 → (((5 : Int32) ≤ zx2 → (Rm E mX10_hangsOf Q 83 [some (rf E 99), some (.int zx1), some (.int zx2), some (.int (5 : Int32)), some (.int (1 : Int32)), some (.int (0 : Int32)), none, none, none, none] [] H)) ∧ (¬ (5 : Int32) ≤ zx2 → (Rm E mX10_hangsOf Q 83 [some (rf E 99), some (.int zx1), some (.int zx2), some (.int zx2), some (.int (1 : Int32)), some (.int (0 : Int32)), none, none, none, none] [] H)))) ∧ (¬ (H 99 11) ≤ zx3 → (∃ zj_9 : Nat, (zj_9 < 44 ∧ zx3 = nI zj_9) ∧ ((¬ (H 107 zj_9) = zx1 → (∀ zx3_11 : Int32, zx3_11 = zx3 + (1 : Int32) → (Rm E mX10_hangsOf Q 27 [some (rf E 99), some (.int zx1), some (.int zx2), some (.int zx3_11), none, none, none, none, none, none] [] H))) ∧ ((H 107 zj_9) = zx1 → (∃ zj_12 : Nat, (zj_12 < 44 ∧ zx3 = nI zj_12) ∧ (∃ zj_13 : Nat, (zj_13 < 20 ∧ zx2 = nI zj_13) ∧ (∀ zH_14 : Hi, zH_14 = up H 120 zj_13 (H 108 zj_12) → (∀ zx2_15 : Int32, zx2_15 = zx2 + (1 : Int32) → (∀ zx3_16 : Int32, zx3_16 = zx3 + (1 : Int32) → (Rm E mX10_hangsOf Q 27 [some (rf E 99), some (.int zx1), some (.int zx2_15), some (.int zx3_16), none, none, none, none, none, none] [] zH_14))))))))))) :
    Rm E mX10_hangsOf Q 27 [some (rf E 99), some (.int zx1), some (.int zx2), some (.int zx3), none, none, none, none, none, none] [] H := by
  refine rn_iload_n dX10_hangsOf_27 rfl ?_
  refine rn_aload_n dX10_hangsOf_28 rfl ?_
  refine rm_geti flRX10_163 rfl (by decide) rfl dX10_hangsOf_29 ?_
  refine rn_icmp_ge (tgt := 66) dX10_hangsOf_32 (by decide) (fun hc_1 => ?_) (fun hc_1 => ?_)
  · replace hF := hF.1 hc_1
    refine rn_iload_n dX10_hangsOf_66 rfl ?_
    refine rn_iconst (x := (5 : Int32)) dX10_hangsOf_67 (by decide) ?_
    refine rn_icmp_ge (tgt := 75) dX10_hangsOf_68 (by decide) (fun hc_2 => ?_) (fun hc_2 => ?_)
    · replace hF := hF.1 hc_2
      refine rn_iconst (x := (5 : Int32)) dX10_hangsOf_75 (by decide) ?_
      refine ra_istore_n dX10_hangsOf_76 rfl (Nat.le_of_ble_eq_true rfl) ?_
      show Rn _ _ _ _ _ _ _ _ [some (rf E 99), some (.int zx1), some (.int zx2), some (.int (5 : Int32)), none, none, none, none, none, none] _ _ _
      refine rn_iconst (x := (1 : Int32)) dX10_hangsOf_77 (by decide) ?_
      refine ra_istore dX10_hangsOf_78 rfl (Nat.le_of_ble_eq_true rfl) ?_
      show Rn _ _ _ _ _ _ _ _ [some (rf E 99), some (.int zx1), some (.int zx2), some (.int (5 : Int32)), some (.int (1 : Int32)), none, none, none, none, none] _ _ _
      refine rn_iconst (x := (0 : Int32)) dX10_hangsOf_80 (by decide) ?_
      refine ra_istore dX10_hangsOf_81 rfl (Nat.le_of_ble_eq_true rfl) ?_
      show Rn _ _ _ _ _ _ _ _ [some (rf E 99), some (.int zx1), some (.int zx2), some (.int (5 : Int32)), some (.int (1 : Int32)), some (.int (0 : Int32)), none, none, none, none] _ _ _
      exact rn_wk (L' := [some (rf E 99), some (.int zx1), some (.int zx2), some (.int (5 : Int32)), some (.int (1 : Int32)), some (.int (0 : Int32)), none, none, none, none]) (⟨rfl, ⟨rfl, ⟨rfl, ⟨rfl, ⟨rfl, ⟨rfl, trivial⟩⟩⟩⟩⟩⟩) hF
    · replace hF := hF.2 hc_2
      refine rn_iload_n dX10_hangsOf_71 rfl ?_
      refine rn_goto (tgt := 76) dX10_hangsOf_72 (by decide) ?_
      refine ra_istore_n dX10_hangsOf_76 rfl (Nat.le_of_ble_eq_true rfl) ?_
      show Rn _ _ _ _ _ _ _ _ [some (rf E 99), some (.int zx1), some (.int zx2), some (.int zx2), none, none, none, none, none, none] _ _ _
      refine rn_iconst (x := (1 : Int32)) dX10_hangsOf_77 (by decide) ?_
      refine ra_istore dX10_hangsOf_78 rfl (Nat.le_of_ble_eq_true rfl) ?_
      show Rn _ _ _ _ _ _ _ _ [some (rf E 99), some (.int zx1), some (.int zx2), some (.int zx2), some (.int (1 : Int32)), none, none, none, none, none] _ _ _
      refine rn_iconst (x := (0 : Int32)) dX10_hangsOf_80 (by decide) ?_
      refine ra_istore dX10_hangsOf_81 rfl (Nat.le_of_ble_eq_true rfl) ?_
      show Rn _ _ _ _ _ _ _ _ [some (rf E 99), some (.int zx1), some (.int zx2), some (.int zx2), some (.int (1 : Int32)), some (.int (0 : Int32)), none, none, none, none] _ _ _
      exact rn_wk (L' := [some (rf E 99), some (.int zx1), some (.int zx2), some (.int zx2), some (.int (1 : Int32)), some (.int (0 : Int32)), none, none, none, none]) (⟨rfl, ⟨rfl, ⟨rfl, ⟨rfl, ⟨rfl, ⟨rfl, trivial⟩⟩⟩⟩⟩⟩) hF
  · replace hF := hF.2 hc_1
    refine rn_aload_n dX10_hangsOf_35 rfl ?_
    refine rm_getr (r := 107) flRX10_31 rfl (by decide) rfl dX10_hangsOf_36 ?_
    refine rn_iload_n dX10_hangsOf_39 rfl ?_
    obtain ⟨zj_9, hzj_9, hF⟩ := hF
    refine rj_iald (j := zj_9) hzj_9 rfl (by decide) rfl (by decide) dX10_hangsOf_40 ?_
    refine rn_iload_n dX10_hangsOf_41 rfl ?_
    refine rn_icmp_ne (tgt := 60) dX10_hangsOf_42 (by decide) (fun hc_10 => ?_) (fun hc_10 => ?_)
    · replace hF := hF.1 hc_10
      refine rn_iinc (w := (1 : Int32)) dX10_hangsOf_60 rfl (by decide) rfl (Nat.le_of_ble_eq_true rfl) (fun zx3_11 ezx3_11 => ?_)
      replace hF := hF zx3_11 ezx3_11
      show Rn _ _ _ _ _ _ _ _ [some (rf E 99), some (.int zx1), some (.int zx2), some (.int zx3_11), none, none, none, none, none, none] _ _ _
      refine rn_goto (tgt := 27) dX10_hangsOf_63 (by decide) ?_
      exact rn_wk (L' := [some (rf E 99), some (.int zx1), some (.int zx2), some (.int zx3_11), none, none, none, none, none, none]) (⟨rfl, ⟨rfl, ⟨rfl, ⟨rfl, trivial⟩⟩⟩⟩) hF
    · replace hF := hF.2 hc_10
      refine rn_aload_n dX10_hangsOf_45 rfl ?_
      refine rm_getr (r := 120) flRX10_71 rfl (by decide) rfl dX10_hangsOf_46 ?_
      refine rn_iload_n dX10_hangsOf_49 rfl ?_
      refine rn_aload_n dX10_hangsOf_50 rfl ?_
      refine rm_getr (r := 108) flRX10_34 rfl (by decide) rfl dX10_hangsOf_51 ?_
      refine rn_iload_n dX10_hangsOf_54 rfl ?_
      obtain ⟨zj_12, hzj_12, hF⟩ := hF
      refine rj_iald (j := zj_12) hzj_12 rfl (by decide) rfl (by decide) dX10_hangsOf_55 ?_
      obtain ⟨zj_13, hzj_13, hF⟩ := hF
      refine rj_iast (j := zj_13) hzj_13 rfl (by decide) rfl (by decide) dX10_hangsOf_56 (fun zH_14 ezH_14 => ?_)
      replace hF := hF zH_14 ezH_14
      refine rn_iinc (w := (1 : Int32)) dX10_hangsOf_57 rfl (by decide) rfl (Nat.le_of_ble_eq_true rfl) (fun zx2_15 ezx2_15 => ?_)
      replace hF := hF zx2_15 ezx2_15
      show Rn _ _ _ _ _ _ _ _ [some (rf E 99), some (.int zx1), some (.int zx2_15), some (.int zx3), none, none, none, none, none, none] _ _ _
      refine rn_iinc (w := (1 : Int32)) dX10_hangsOf_60 rfl (by decide) rfl (Nat.le_of_ble_eq_true rfl) (fun zx3_16 ezx3_16 => ?_)
      replace hF := hF zx3_16 ezx3_16
      show Rn _ _ _ _ _ _ _ _ [some (rf E 99), some (.int zx1), some (.int zx2_15), some (.int zx3_16), none, none, none, none, none, none] _ _ _
      refine rn_goto (tgt := 27) dX10_hangsOf_63 (by decide) ?_
      exact rn_wk (L' := [some (rf E 99), some (.int zx1), some (.int zx2_15), some (.int zx3_16), none, none, none, none, none, none]) (⟨rfl, ⟨rfl, ⟨rfl, ⟨rfl, trivial⟩⟩⟩⟩) hF
theorem sgX10_hangsOf_83 {E : En} {Q : Option Value → Hi → Prop} {H : Hi} {zx1 : Int32} {zx2 : Int32} {zx3 : Int32} {zx4 : Int32} {zx5 : Int32} 
    (hF : (zx3 ≤ zx5 → (Rm E mX10_hangsOf Q 104 [some (rf E 99), some (.int zx1), some (.int zx2), some (.int zx3), some (.int zx4), some (.int (0 : Int32)), none, none, none, none] [] H)) ∧ (¬ zx3 ≤ zx5 → (∀ zx4_3 : Int32, zx4_3 = zx4 * zx3 → (∀ zx5_4 : Int32, zx5_4 = zx5 + (1 : Int32) → (Rm E mX10_hangsOf Q 83 [some (rf E 99), some (.int zx1), some (.int zx2), some (.int zx3), some (.int zx4_3), some (.int zx5_4), none, none, none, none] [] H))))) :
    Rm E mX10_hangsOf Q 83 [some (rf E 99), some (.int zx1), some (.int zx2), some (.int zx3), some (.int zx4), some (.int zx5), none, none, none, none] [] H := by
  refine rn_iload dX10_hangsOf_83 rfl ?_
  refine rn_iload_n dX10_hangsOf_85 rfl ?_
  refine rn_icmp_ge (tgt := 101) dX10_hangsOf_86 (by decide) (fun hc_1 => ?_) (fun hc_1 => ?_)
  · replace hF := hF.1 hc_1
    refine rn_iconst (x := (0 : Int32)) dX10_hangsOf_101 (by decide) ?_
    refine ra_istore dX10_hangsOf_102 rfl (Nat.le_of_ble_eq_true rfl) ?_
    show Rn _ _ _ _ _ _ _ _ [some (rf E 99), some (.int zx1), some (.int zx2), some (.int zx3), some (.int zx4), some (.int (0 : Int32)), none, none, none, none] _ _ _
    exact rn_wk (L' := [some (rf E 99), some (.int zx1), some (.int zx2), some (.int zx3), some (.int zx4), some (.int (0 : Int32)), none, none, none, none]) (⟨rfl, ⟨rfl, ⟨rfl, ⟨rfl, ⟨rfl, ⟨rfl, trivial⟩⟩⟩⟩⟩⟩) hF
  · replace hF := hF.2 hc_1
    refine rn_iload dX10_hangsOf_89 rfl ?_
    refine rn_iload_n dX10_hangsOf_91 rfl ?_
    refine rn_imul dX10_hangsOf_92 ?_
    refine rn_istore dX10_hangsOf_93 rfl (Nat.le_of_ble_eq_true rfl) (fun zx4_3 ezx4_3 => ?_)
    replace hF := hF zx4_3 ezx4_3
    show Rn _ _ _ _ _ _ _ _ [some (rf E 99), some (.int zx1), some (.int zx2), some (.int zx3), some (.int zx4_3), some (.int zx5), none, none, none, none] _ _ _
    refine rn_iinc (w := (1 : Int32)) dX10_hangsOf_95 rfl (by decide) rfl (Nat.le_of_ble_eq_true rfl) (fun zx5_4 ezx5_4 => ?_)
    replace hF := hF zx5_4 ezx5_4
    show Rn _ _ _ _ _ _ _ _ [some (rf E 99), some (.int zx1), some (.int zx2), some (.int zx3), some (.int zx4_3), some (.int zx5_4), none, none, none, none] _ _ _
    refine rn_goto (tgt := 83) dX10_hangsOf_98 (by decide) ?_
    exact rn_wk (L' := [some (rf E 99), some (.int zx1), some (.int zx2), some (.int zx3), some (.int zx4_3), some (.int zx5_4), none, none, none, none]) (⟨rfl, ⟨rfl, ⟨rfl, ⟨rfl, ⟨rfl, ⟨rfl, trivial⟩⟩⟩⟩⟩⟩) hF
theorem sgX10_hangsOf_104 {E : En} {Q : Option Value → Hi → Prop} {H : Hi} {zx1 : Int32} {zx2 : Int32} {zx3 : Int32} {zx4 : Int32} {zx5 : Int32} 
    (hF : ((8 : Int32) ≤ zx5 → (Rm E mX10_hangsOf Q 128 [some (rf E 99), some (.int zx1), some (.int zx2), some (.int zx3), some (.int zx4), some (.int (0 : Int32)), none, none, none, none] [] H)) ∧ (¬ (8 : Int32) ≤ zx5 → (∃ zj_3 : Nat, (zj_3 < 8 ∧ zx5 = nI zj_3) ∧ (∀ zH_4 : Hi, zH_4 = up H 121 zj_3 (0 : Int32) → (∀ zx5_5 : Int32, zx5_5 = zx5 + (1 : Int32) → (Rm E mX10_hangsOf Q 104 [some (rf E 99), some (.int zx1), some (.int zx2), some (.int zx3), some (.int zx4), some (.int zx5_5), none, none, none, none] [] zH_4)))))) :
    Rm E mX10_hangsOf Q 104 [some (rf E 99), some (.int zx1), some (.int zx2), some (.int zx3), some (.int zx4), some (.int zx5), none, none, none, none] [] H := by
  refine rn_iload dX10_hangsOf_104 rfl ?_
  refine rn_bipush (x := (8 : Int32)) dX10_hangsOf_106 (by decide) ?_
  refine rn_icmp_ge (tgt := 125) dX10_hangsOf_108 (by decide) (fun hc_1 => ?_) (fun hc_1 => ?_)
  · replace hF := hF.1 hc_1
    refine rn_iconst (x := (0 : Int32)) dX10_hangsOf_125 (by decide) ?_
    refine ra_istore dX10_hangsOf_126 rfl (Nat.le_of_ble_eq_true rfl) ?_
    show Rn _ _ _ _ _ _ _ _ [some (rf E 99), some (.int zx1), some (.int zx2), some (.int zx3), some (.int zx4), some (.int (0 : Int32)), none, none, none, none] _ _ _
    exact rn_wk (L' := [some (rf E 99), some (.int zx1), some (.int zx2), some (.int zx3), some (.int zx4), some (.int (0 : Int32)), none, none, none, none]) (⟨rfl, ⟨rfl, ⟨rfl, ⟨rfl, ⟨rfl, ⟨rfl, trivial⟩⟩⟩⟩⟩⟩) hF
  · replace hF := hF.2 hc_1
    refine rn_aload_n dX10_hangsOf_111 rfl ?_
    refine rm_getr (r := 121) flRX10_74 rfl (by decide) rfl dX10_hangsOf_112 ?_
    refine rn_iload dX10_hangsOf_115 rfl ?_
    refine rn_iconst (x := (0 : Int32)) dX10_hangsOf_117 (by decide) ?_
    obtain ⟨zj_3, hzj_3, hF⟩ := hF
    refine rj_iast (j := zj_3) hzj_3 rfl (by decide) rfl (by decide) dX10_hangsOf_118 (fun zH_4 ezH_4 => ?_)
    replace hF := hF zH_4 ezH_4
    refine rn_iinc (w := (1 : Int32)) dX10_hangsOf_119 rfl (by decide) rfl (Nat.le_of_ble_eq_true rfl) (fun zx5_5 ezx5_5 => ?_)
    replace hF := hF zx5_5 ezx5_5
    show Rn _ _ _ _ _ _ _ _ [some (rf E 99), some (.int zx1), some (.int zx2), some (.int zx3), some (.int zx4), some (.int zx5_5), none, none, none, none] _ _ _
    refine rn_goto (tgt := 104) dX10_hangsOf_122 (by decide) ?_
    exact rn_wk (L' := [some (rf E 99), some (.int zx1), some (.int zx2), some (.int zx3), some (.int zx4), some (.int zx5_5), none, none, none, none]) (⟨rfl, ⟨rfl, ⟨rfl, ⟨rfl, ⟨rfl, ⟨rfl, trivial⟩⟩⟩⟩⟩⟩) hF
theorem sgX10_hangsOf_128 {E : En} {Q : Option Value → Hi → Prop} {H : Hi} {zx1 : Int32} {zx2 : Int32} {zx3 : Int32} {zx4 : Int32} {zx5 : Int32} 
    (hF : (zx4 ≤ zx5 → (Rm E mX10_hangsOf Q 310 [some (rf E 99), none, none, none, none, some (.int (0 : Int32)), some (.int (0 : Int32)), none, none, none] [] H)) ∧ (¬ zx4 ≤ zx5 → (Rm E mX10_hangsOf Q 145 [some (rf E 99), some (.int zx1), some (.int zx2), some (.int zx3), some (.int zx4), some (.int zx5), some (.int (0 : Int32)), some (.int zx5), some (.int (0 : Int32)), none] [] H))) :
    Rm E mX10_hangsOf Q 128 [some (rf E 99), some (.int zx1), some (.int zx2), some (.int zx3), some (.int zx4), some (.int zx5), none, none, none, none] [] H := by
  refine rn_iload dX10_hangsOf_128 rfl ?_
  refine rn_iload dX10_hangsOf_130 rfl ?_
  refine rn_icmp_ge (tgt := 304) dX10_hangsOf_132 (by decide) (fun hc_1 => ?_) (fun hc_1 => ?_)
  · replace hF := hF.1 hc_1
    refine rn_iconst (x := (0 : Int32)) dX10_hangsOf_304 (by decide) ?_
    refine ra_istore dX10_hangsOf_305 rfl (Nat.le_of_ble_eq_true rfl) ?_
    show Rn _ _ _ _ _ _ _ _ [some (rf E 99), some (.int zx1), some (.int zx2), some (.int zx3), some (.int zx4), some (.int (0 : Int32)), none, none, none, none] _ _ _
    refine rn_iconst (x := (0 : Int32)) dX10_hangsOf_307 (by decide) ?_
    refine ra_istore dX10_hangsOf_308 rfl (Nat.le_of_ble_eq_true rfl) ?_
    show Rn _ _ _ _ _ _ _ _ [some (rf E 99), some (.int zx1), some (.int zx2), some (.int zx3), some (.int zx4), some (.int (0 : Int32)), some (.int (0 : Int32)), none, none, none] _ _ _
    exact rn_wk (L' := [some (rf E 99), none, none, none, none, some (.int (0 : Int32)), some (.int (0 : Int32)), none, none, none]) (⟨rfl, ⟨rfl, ⟨rfl, trivial⟩⟩⟩) hF
  · replace hF := hF.2 hc_1
    refine rn_iconst (x := (0 : Int32)) dX10_hangsOf_135 (by decide) ?_
    refine ra_istore dX10_hangsOf_136 rfl (Nat.le_of_ble_eq_true rfl) ?_
    show Rn _ _ _ _ _ _ _ _ [some (rf E 99), some (.int zx1), some (.int zx2), some (.int zx3), some (.int zx4), some (.int zx5), some (.int (0 : Int32)), none, none, none] _ _ _
    refine rn_iload dX10_hangsOf_138 rfl ?_
    refine ra_istore dX10_hangsOf_140 rfl (Nat.le_of_ble_eq_true rfl) ?_
    show Rn _ _ _ _ _ _ _ _ [some (rf E 99), some (.int zx1), some (.int zx2), some (.int zx3), some (.int zx4), some (.int zx5), some (.int (0 : Int32)), some (.int zx5), none, none] _ _ _
    refine rn_iconst (x := (0 : Int32)) dX10_hangsOf_142 (by decide) ?_
    refine ra_istore dX10_hangsOf_143 rfl (Nat.le_of_ble_eq_true rfl) ?_
    show Rn _ _ _ _ _ _ _ _ [some (rf E 99), some (.int zx1), some (.int zx2), some (.int zx3), some (.int zx4), some (.int zx5), some (.int (0 : Int32)), some (.int zx5), some (.int (0 : Int32)), none] _ _ _
    exact rn_wk (L' := [some (rf E 99), some (.int zx1), some (.int zx2), some (.int zx3), some (.int zx4), some (.int zx5), some (.int (0 : Int32)), some (.int zx5), some (.int (0 : Int32)), none]) (⟨rfl, ⟨rfl, ⟨rfl, ⟨rfl, ⟨rfl, ⟨rfl, ⟨rfl, ⟨rfl, ⟨rfl, trivial⟩⟩⟩⟩⟩⟩⟩⟩⟩) hF
theorem sgX10_hangsOf_310 {E : En} {Q : Option Value → Hi → Prop} {H : Hi} {zx5 : Int32} {zx6 : Int32} 
    (hF : ((H 99 2) ≤ zx6 → (Q (some (.int zx5)) H)) ∧ (¬ (H 99 2) ≤ zx6 → (∃ zj_2 : Nat, (zj_2 < 8 ∧ zx6 = nI zj_2) ∧ (∃ zj_3 : Nat, (zj_3 < 8 ∧ zx6 = nI zj_3) ∧ ((((H 121 zj_2) &&& ((H 121 zj_3) - (1 : Int32))) = 0 → (∀ zx5_5 : Int32, zx5_5 = zx5 ||| (0 : Int32) → (∀ zx6_6 : Int32, zx6_6 = zx6 + (1 : Int32) → (Rm E mX10_hangsOf Q 310 [some (rf E 99), none, none, none, none, some (.int zx5_5), some (.int zx6_6), none, none, none] [] H)))) ∧ (¬ ((H 121 zj_2) &&& ((H 121 zj_3) - (1 : Int32))) = 0 → (∀ zx5_7 : Int32, zx5_7 = zx5 ||| ((1 : Int32) <<< (zx6 &&& 31)) → (∀ zx6_8 : Int32, zx6_8 = zx6 + (1 : Int32) → (Rm E mX10_hangsOf Q 310 [some (rf E 99), none, none, none, none, some (.int zx5_7), some (.int zx6_8), none, none, none] [] H))))))))) :
    Rm E mX10_hangsOf Q 310 [some (rf E 99), none, none, none, none, some (.int zx5), some (.int zx6), none, none, none] [] H := by
  refine rn_iload dX10_hangsOf_310 rfl ?_
  refine rn_aload_n dX10_hangsOf_312 rfl ?_
  refine rm_geti flRX10_125 rfl (by decide) rfl dX10_hangsOf_313 ?_
  refine rn_icmp_ge (tgt := 358) dX10_hangsOf_316 (by decide) (fun hc_1 => ?_) (fun hc_1 => ?_)
  · replace hF := hF.1 hc_1
    refine rn_iload dX10_hangsOf_358 rfl ?_
    exact rm_iret rfl dX10_hangsOf_360 hF
  · replace hF := hF.2 hc_1
    refine rn_iload dX10_hangsOf_319 rfl ?_
    refine rn_aload_n dX10_hangsOf_321 rfl ?_
    refine rm_getr (r := 121) flRX10_74 rfl (by decide) rfl dX10_hangsOf_322 ?_
    refine rn_iload dX10_hangsOf_325 rfl ?_
    obtain ⟨zj_2, hzj_2, hF⟩ := hF
    refine rj_iald (j := zj_2) hzj_2 rfl (by decide) rfl (by decide) dX10_hangsOf_327 ?_
    refine rn_aload_n dX10_hangsOf_328 rfl ?_
    refine rm_getr (r := 121) flRX10_74 rfl (by decide) rfl dX10_hangsOf_329 ?_
    refine rn_iload dX10_hangsOf_332 rfl ?_
    obtain ⟨zj_3, hzj_3, hF⟩ := hF
    refine rj_iald (j := zj_3) hzj_3 rfl (by decide) rfl (by decide) dX10_hangsOf_334 ?_
    refine rn_iconst (x := (1 : Int32)) dX10_hangsOf_335 (by decide) ?_
    refine rn_isub dX10_hangsOf_336 ?_
    refine rn_iand dX10_hangsOf_337 ?_
    refine rn_if_eq (tgt := 348) dX10_hangsOf_338 (by decide) (fun hc_4 => ?_) (fun hc_4 => ?_)
    · replace hF := hF.1 hc_4
      refine rn_iconst (x := (0 : Int32)) dX10_hangsOf_348 (by decide) ?_
      refine rn_ior dX10_hangsOf_349 ?_
      refine rn_istore dX10_hangsOf_350 rfl (Nat.le_of_ble_eq_true rfl) (fun zx5_5 ezx5_5 => ?_)
      replace hF := hF zx5_5 ezx5_5
      show Rn _ _ _ _ _ _ _ _ [some (rf E 99), none, none, none, none, some (.int zx5_5), some (.int zx6), none, none, none] _ _ _
      refine rn_iinc (w := (1 : Int32)) dX10_hangsOf_352 rfl (by decide) rfl (Nat.le_of_ble_eq_true rfl) (fun zx6_6 ezx6_6 => ?_)
      replace hF := hF zx6_6 ezx6_6
      show Rn _ _ _ _ _ _ _ _ [some (rf E 99), none, none, none, none, some (.int zx5_5), some (.int zx6_6), none, none, none] _ _ _
      refine rn_goto (tgt := 310) dX10_hangsOf_355 (by decide) ?_
      exact rn_wk (L' := [some (rf E 99), none, none, none, none, some (.int zx5_5), some (.int zx6_6), none, none, none]) (⟨rfl, ⟨rfl, ⟨rfl, trivial⟩⟩⟩) hF
    · replace hF := hF.2 hc_4
      refine rn_iconst (x := (1 : Int32)) dX10_hangsOf_341 (by decide) ?_
      refine rn_iload dX10_hangsOf_342 rfl ?_
      refine rn_ishl dX10_hangsOf_344 ?_
      refine rn_goto (tgt := 349) dX10_hangsOf_345 (by decide) ?_
      refine rn_ior dX10_hangsOf_349 ?_
      refine rn_istore dX10_hangsOf_350 rfl (Nat.le_of_ble_eq_true rfl) (fun zx5_7 ezx5_7 => ?_)
      replace hF := hF zx5_7 ezx5_7
      show Rn _ _ _ _ _ _ _ _ [some (rf E 99), none, none, none, none, some (.int zx5_7), some (.int zx6), none, none, none] _ _ _
      refine rn_iinc (w := (1 : Int32)) dX10_hangsOf_352 rfl (by decide) rfl (Nat.le_of_ble_eq_true rfl) (fun zx6_8 ezx6_8 => ?_)
      replace hF := hF zx6_8 ezx6_8
      show Rn _ _ _ _ _ _ _ _ [some (rf E 99), none, none, none, none, some (.int zx5_7), some (.int zx6_8), none, none, none] _ _ _
      refine rn_goto (tgt := 310) dX10_hangsOf_355 (by decide) ?_
      exact rn_wk (L' := [some (rf E 99), none, none, none, none, some (.int zx5_7), some (.int zx6_8), none, none, none]) (⟨rfl, ⟨rfl, ⟨rfl, trivial⟩⟩⟩) hF
theorem sgX10_hangsOf_145 {E : En} {Q : Option Value → Hi → Prop} {H : Hi} {zx1 : Int32} {zx2 : Int32} {zx3 : Int32} {zx4 : Int32} {zx5 : Int32} {zx6 : Int32} {zx7 : Int32} {zx8 : Int32} 
    (hF : (zx3 ≤ zx8 → ((¬ zx6 = (((1 : Int32) <<< (zx3 &&& 31)) - (1 : Int32)) → (∀ zx5_3 : Int32, zx5_3 = zx5 + (1 : Int32) → (Rm E mX10_hangsOf Q 128 [some (rf E 99), some (.int zx1), some (.int zx2), some (.int zx3), some (.int zx4), some (.int zx5_3), none, none, none, none] [] H))) ∧ (zx6 = (((1 : Int32) <<< (zx3 &&& 31)) - (1 : Int32)) → (Cm E mX10_restores [rf E 99] H (fun w zH_4 => w = none ∧ (Rm E mX10_hangsOf Q 195 [some (rf E 99), some (.int zx1), some (.int zx2), some (.int zx3), some (.int zx4), some (.int zx5), none, some (.int zx5), some (.int (0 : Int32)), none] [] zH_4)))))) ∧ (¬ zx3 ≤ zx8 → ((¬ zx3 = 0) ∧ (∀ zx6_8 : Int32, zx6_8 = zx6 ||| ((1 : Int32) <<< ((zx7 - zx7 / zx3 * zx3) &&& 31)) → ((¬ zx3 = 0) ∧ (∀ zx7_10 : Int32, zx7_10 = zx7 / zx3 → (∀ zx8_11 : Int32, zx8_11 = zx8 + (1 : Int32) → (Rm E mX10_hangsOf Q 145 [some (rf E 99), some (.int zx1), some (.int zx2), some (.int zx3), some (.int zx4), some (.int zx5), some (.int zx6_8), some (.int zx7_10), some (.int zx8_11), none] [] H)))))))) :
    Rm E mX10_hangsOf Q 145 [some (rf E 99), some (.int zx1), some (.int zx2), some (.int zx3), some (.int zx4), some (.int zx5), some (.int zx6), some (.int zx7), some (.int zx8), none] [] H := by
  refine rn_iload dX10_hangsOf_145 rfl ?_
  refine rn_iload_n dX10_hangsOf_147 rfl ?_
  refine rn_icmp_ge (tgt := 174) dX10_hangsOf_148 (by decide) (fun hc_1 => ?_) (fun hc_1 => ?_)
  · replace hF := hF.1 hc_1
    refine rn_iload dX10_hangsOf_174 rfl ?_
    refine rn_iconst (x := (1 : Int32)) dX10_hangsOf_176 (by decide) ?_
    refine rn_iload_n dX10_hangsOf_177 rfl ?_
    refine rn_ishl dX10_hangsOf_178 ?_
    refine rn_iconst (x := (1 : Int32)) dX10_hangsOf_179 (by decide) ?_
    refine rn_isub dX10_hangsOf_180 ?_
    refine rn_icmp_ne (tgt := 298) dX10_hangsOf_181 (by decide) (fun hc_2 => ?_) (fun hc_2 => ?_)
    · replace hF := hF.1 hc_2
      refine rn_iinc (w := (1 : Int32)) dX10_hangsOf_298 rfl (by decide) rfl (Nat.le_of_ble_eq_true rfl) (fun zx5_3 ezx5_3 => ?_)
      replace hF := hF zx5_3 ezx5_3
      show Rn _ _ _ _ _ _ _ _ [some (rf E 99), some (.int zx1), some (.int zx2), some (.int zx3), some (.int zx4), some (.int zx5_3), some (.int zx6), some (.int zx7), some (.int zx8), none] _ _ _
      refine rn_goto (tgt := 128) dX10_hangsOf_301 (by decide) ?_
      exact rn_wk (L' := [some (rf E 99), some (.int zx1), some (.int zx2), some (.int zx3), some (.int zx4), some (.int zx5_3), none, none, none, none]) (⟨rfl, ⟨rfl, ⟨rfl, ⟨rfl, ⟨rfl, ⟨rfl, trivial⟩⟩⟩⟩⟩⟩) hF
    · replace hF := hF.2 hc_2
      refine rn_aload_n dX10_hangsOf_184 rfl ?_
      refine rm_callV (c0 := 99) (As := []) (st := []) mlRX10_245 mdX10_restores (Nat.le_of_ble_eq_true rfl) rfl (by decide) (by decide) rfl rfl rfl (Nat.le_of_ble_eq_true rfl) ⟨Nat.le_refl _, Nat.le_refl _⟩ dX10_hangsOf_185 ?_
      refine cm_mono hF (fun w zH_4 hF => ?_)
      obtain ⟨rfl, hF⟩ := hF
      refine rn_iload dX10_hangsOf_188 rfl ?_
      refine ra_istore dX10_hangsOf_190 rfl (Nat.le_of_ble_eq_true rfl) ?_
      show Rn _ _ _ _ _ _ _ _ [some (rf E 99), some (.int zx1), some (.int zx2), some (.int zx3), some (.int zx4), some (.int zx5), some (.int zx6), some (.int zx5), some (.int zx8), none] _ _ _
      refine rn_iconst (x := (0 : Int32)) dX10_hangsOf_192 (by decide) ?_
      refine ra_istore dX10_hangsOf_193 rfl (Nat.le_of_ble_eq_true rfl) ?_
      show Rn _ _ _ _ _ _ _ _ [some (rf E 99), some (.int zx1), some (.int zx2), some (.int zx3), some (.int zx4), some (.int zx5), some (.int zx6), some (.int zx5), some (.int (0 : Int32)), none] _ _ _
      exact rn_wk (L' := [some (rf E 99), some (.int zx1), some (.int zx2), some (.int zx3), some (.int zx4), some (.int zx5), none, some (.int zx5), some (.int (0 : Int32)), none]) (⟨rfl, ⟨rfl, ⟨rfl, ⟨rfl, ⟨rfl, ⟨rfl, ⟨rfl, ⟨rfl, trivial⟩⟩⟩⟩⟩⟩⟩⟩) hF
  · replace hF := hF.2 hc_1
    refine rn_iload dX10_hangsOf_151 rfl ?_
    refine rn_iconst (x := (1 : Int32)) dX10_hangsOf_153 (by decide) ?_
    refine rn_iload dX10_hangsOf_154 rfl ?_
    refine rn_iload_n dX10_hangsOf_156 rfl ?_
    obtain ⟨hz_7, hF⟩ := hF
    refine rn_irem dX10_hangsOf_157 hz_7 ?_
    refine rn_ishl dX10_hangsOf_158 ?_
    refine rn_ior dX10_hangsOf_159 ?_
    refine rn_istore dX10_hangsOf_160 rfl (Nat.le_of_ble_eq_true rfl) (fun zx6_8 ezx6_8 => ?_)
    replace hF := hF zx6_8 ezx6_8
    show Rn _ _ _ _ _ _ _ _ [some (rf E 99), some (.int zx1), some (.int zx2), some (.int zx3), some (.int zx4), some (.int zx5), some (.int zx6_8), some (.int zx7), some (.int zx8), none] _ _ _
    refine rn_iload dX10_hangsOf_162 rfl ?_
    refine rn_iload_n dX10_hangsOf_164 rfl ?_
    obtain ⟨hz_9, hF⟩ := hF
    refine rn_idiv dX10_hangsOf_165 hz_9 ?_
    refine rn_istore dX10_hangsOf_166 rfl (Nat.le_of_ble_eq_true rfl) (fun zx7_10 ezx7_10 => ?_)
    replace hF := hF zx7_10 ezx7_10
    show Rn _ _ _ _ _ _ _ _ [some (rf E 99), some (.int zx1), some (.int zx2), some (.int zx3), some (.int zx4), some (.int zx5), some (.int zx6_8), some (.int zx7_10), some (.int zx8), none] _ _ _
    refine rn_iinc (w := (1 : Int32)) dX10_hangsOf_168 rfl (by decide) rfl (Nat.le_of_ble_eq_true rfl) (fun zx8_11 ezx8_11 => ?_)
    replace hF := hF zx8_11 ezx8_11
    show Rn _ _ _ _ _ _ _ _ [some (rf E 99), some (.int zx1), some (.int zx2), some (.int zx3), some (.int zx4), some (.int zx5), some (.int zx6_8), some (.int zx7_10), some (.int zx8_11), none] _ _ _
    refine rn_goto (tgt := 145) dX10_hangsOf_171 (by decide) ?_
    exact rn_wk (L' := [some (rf E 99), some (.int zx1), some (.int zx2), some (.int zx3), some (.int zx4), some (.int zx5), some (.int zx6_8), some (.int zx7_10), some (.int zx8_11), none]) (⟨rfl, ⟨rfl, ⟨rfl, ⟨rfl, ⟨rfl, ⟨rfl, ⟨rfl, ⟨rfl, ⟨rfl, trivial⟩⟩⟩⟩⟩⟩⟩⟩⟩) hF
theorem sgX10_hangsOf_195 {E : En} {Q : Option Value → Hi → Prop} {H : Hi} {zx1 : Int32} {zx2 : Int32} {zx3 : Int32} {zx4 : Int32} {zx5 : Int32} {zx7 : Int32} {zx8 : Int32} 
    (hF : (zx3 ≤ zx8 → (Rm E mX10_hangsOf Q 231 [some (rf E 99), some (.int zx1), some (.int zx2), some (.int zx3), some (.int zx4), some (.int zx5), none, none, some (.int zx3), none] [] H)) ∧ (¬ zx3 ≤ zx8 → ((¬ zx3 = 0) ∧ (∃ zj_4 : Nat, (zj_4 < 20 ∧ zx7 - zx7 / zx3 * zx3 = nI zj_4) ∧ (Cm E mX10_acts [rf E 99, .int (H 120 zj_4)] H (fun w zH_5 => ∃ zr_6 : Int32, w = some (.int zr_6) ∧ ((¬ zx3 = 0) ∧ (∀ zx7_9 : Int32, zx7_9 = zx7 / zx3 → (∀ zx8_10 : Int32, zx8_10 = zx8 + (1 : Int32) → (Rm E mX10_hangsOf Q 195 [some (rf E 99), some (.int zx1), some (.int zx2), some (.int zx3), some (.int zx4), some (.int zx5), none, some (.int zx7_9), some (.int zx8_10), none] [] zH_5)))))))))) :
    Rm E mX10_hangsOf Q 195 [some (rf E 99), some (.int zx1), some (.int zx2), some (.int zx3), some (.int zx4), some (.int zx5), none, some (.int zx7), some (.int zx8), none] [] H := by
  refine rn_iload dX10_hangsOf_195 rfl ?_
  refine rn_iload_n dX10_hangsOf_197 rfl ?_
  refine rn_icmp_ge (tgt := 228) dX10_hangsOf_198 (by decide) (fun hc_1 => ?_) (fun hc_1 => ?_)
  · replace hF := hF.1 hc_1
    refine rn_iload_n dX10_hangsOf_228 rfl ?_
    refine ra_istore dX10_hangsOf_229 rfl (Nat.le_of_ble_eq_true rfl) ?_
    show Rn _ _ _ _ _ _ _ _ [some (rf E 99), some (.int zx1), some (.int zx2), some (.int zx3), some (.int zx4), some (.int zx5), none, some (.int zx7), some (.int zx3), none] _ _ _
    exact rn_wk (L' := [some (rf E 99), some (.int zx1), some (.int zx2), some (.int zx3), some (.int zx4), some (.int zx5), none, none, some (.int zx3), none]) (⟨rfl, ⟨rfl, ⟨rfl, ⟨rfl, ⟨rfl, ⟨rfl, ⟨rfl, trivial⟩⟩⟩⟩⟩⟩⟩) hF
  · replace hF := hF.2 hc_1
    refine rn_aload_n dX10_hangsOf_201 rfl ?_
    refine rn_aload_n dX10_hangsOf_202 rfl ?_
    refine rm_getr (r := 120) flRX10_71 rfl (by decide) rfl dX10_hangsOf_203 ?_
    refine rn_iload dX10_hangsOf_206 rfl ?_
    refine rn_iload_n dX10_hangsOf_208 rfl ?_
    obtain ⟨hz_3, hF⟩ := hF
    refine rn_irem dX10_hangsOf_209 hz_3 ?_
    obtain ⟨zj_4, hzj_4, hF⟩ := hF
    refine rj_iald (j := zj_4) hzj_4 rfl (by decide) rfl (by decide) dX10_hangsOf_210 ?_
    refine rm_callV (c0 := 99) (As := [.int (H 120 zj_4)]) (st := []) mlRX10_196 mdX10_acts (Nat.le_of_ble_eq_true rfl) rfl (by decide) (by decide) rfl rfl rfl (Nat.le_of_ble_eq_true rfl) ⟨Nat.le_refl _, Nat.le_refl _⟩ dX10_hangsOf_211 ?_
    refine cm_mono hF (fun w zH_5 hF => ?_)
    obtain ⟨zr_6, rfl, hF⟩ := hF
    refine ra_istore dX10_hangsOf_214 rfl (Nat.le_of_ble_eq_true rfl) ?_
    show Rn _ _ _ _ _ _ _ _ [some (rf E 99), some (.int zx1), some (.int zx2), some (.int zx3), some (.int zx4), some (.int zx5), none, some (.int zx7), some (.int zx8), some (.int zr_6)] _ _ _
    refine rn_iload dX10_hangsOf_216 rfl ?_
    refine rn_iload_n dX10_hangsOf_218 rfl ?_
    obtain ⟨hz_8, hF⟩ := hF
    refine rn_idiv dX10_hangsOf_219 hz_8 ?_
    refine rn_istore dX10_hangsOf_220 rfl (Nat.le_of_ble_eq_true rfl) (fun zx7_9 ezx7_9 => ?_)
    replace hF := hF zx7_9 ezx7_9
    show Rn _ _ _ _ _ _ _ _ [some (rf E 99), some (.int zx1), some (.int zx2), some (.int zx3), some (.int zx4), some (.int zx5), none, some (.int zx7_9), some (.int zx8), some (.int zr_6)] _ _ _
    refine rn_iinc (w := (1 : Int32)) dX10_hangsOf_222 rfl (by decide) rfl (Nat.le_of_ble_eq_true rfl) (fun zx8_10 ezx8_10 => ?_)
    replace hF := hF zx8_10 ezx8_10
    show Rn _ _ _ _ _ _ _ _ [some (rf E 99), some (.int zx1), some (.int zx2), some (.int zx3), some (.int zx4), some (.int zx5), none, some (.int zx7_9), some (.int zx8_10), some (.int zr_6)] _ _ _
    refine rn_goto (tgt := 195) dX10_hangsOf_225 (by decide) ?_
    exact rn_wk (L' := [some (rf E 99), some (.int zx1), some (.int zx2), some (.int zx3), some (.int zx4), some (.int zx5), none, some (.int zx7_9), some (.int zx8_10), none]) (⟨rfl, ⟨rfl, ⟨rfl, ⟨rfl, ⟨rfl, ⟨rfl, ⟨rfl, ⟨rfl, trivial⟩⟩⟩⟩⟩⟩⟩⟩) hF
theorem sgX10_hangsOf_231 {E : En} {Q : Option Value → Hi → Prop} {H : Hi} {zx1 : Int32} {zx2 : Int32} {zx3 : Int32} {zx4 : Int32} {zx5 : Int32} {zx8 : Int32} 
    (hF : (zx2 ≤ zx8 → (Cm E mX10_ends [rf E 99, .int zx1] H (fun w zH_2 => w = none ∧ (Rm E mX10_hangsOf Q 264 [some (rf E 99), some (.int zx1), some (.int zx2), some (.int zx3), some (.int zx4), some (.int zx5), none, none, some (.int (0 : Int32)), none] [] zH_2)))) ∧ (¬ zx2 ≤ zx8 → (∃ zj_4 : Nat, (zj_4 < 20 ∧ zx8 = nI zj_4) ∧ (Cm E mX10_acts [rf E 99, .int (H 120 zj_4)] H (fun w zH_5 => ∃ zr_6 : Int32, w = some (.int zr_6) ∧ (∀ zx8_8 : Int32, zx8_8 = zx8 + (1 : Int32) → (Rm E mX10_hangsOf Q 231 [some (rf E 99), some (.int zx1), some (.int zx2), some (.int zx3), some (.int zx4), some (.int zx5), none, none, some (.int zx8_8), none] [] zH_5))))))) :
    Rm E mX10_hangsOf Q 231 [some (rf E 99), some (.int zx1), some (.int zx2), some (.int zx3), some (.int zx4), some (.int zx5), none, none, some (.int zx8), none] [] H := by
  refine rn_iload dX10_hangsOf_231 rfl ?_
  refine rn_iload_n dX10_hangsOf_233 rfl ?_
  refine rn_icmp_ge (tgt := 256) dX10_hangsOf_234 (by decide) (fun hc_1 => ?_) (fun hc_1 => ?_)
  · replace hF := hF.1 hc_1
    refine rn_aload_n dX10_hangsOf_256 rfl ?_
    refine rn_iload_n dX10_hangsOf_257 rfl ?_
    refine rm_callV (c0 := 99) (As := [.int zx1]) (st := []) mlRX10_206 mdX10_ends (Nat.le_of_ble_eq_true rfl) rfl (by decide) (by decide) rfl rfl rfl (Nat.le_of_ble_eq_true rfl) ⟨Nat.le_refl _, Nat.le_refl _⟩ dX10_hangsOf_258 ?_
    refine cm_mono hF (fun w zH_2 hF => ?_)
    obtain ⟨rfl, hF⟩ := hF
    refine rn_iconst (x := (0 : Int32)) dX10_hangsOf_261 (by decide) ?_
    refine ra_istore dX10_hangsOf_262 rfl (Nat.le_of_ble_eq_true rfl) ?_
    show Rn _ _ _ _ _ _ _ _ [some (rf E 99), some (.int zx1), some (.int zx2), some (.int zx3), some (.int zx4), some (.int zx5), none, none, some (.int (0 : Int32)), none] _ _ _
    exact rn_wk (L' := [some (rf E 99), some (.int zx1), some (.int zx2), some (.int zx3), some (.int zx4), some (.int zx5), none, none, some (.int (0 : Int32)), none]) (⟨rfl, ⟨rfl, ⟨rfl, ⟨rfl, ⟨rfl, ⟨rfl, ⟨rfl, trivial⟩⟩⟩⟩⟩⟩⟩) hF
  · replace hF := hF.2 hc_1
    refine rn_aload_n dX10_hangsOf_237 rfl ?_
    refine rn_aload_n dX10_hangsOf_238 rfl ?_
    refine rm_getr (r := 120) flRX10_71 rfl (by decide) rfl dX10_hangsOf_239 ?_
    refine rn_iload dX10_hangsOf_242 rfl ?_
    obtain ⟨zj_4, hzj_4, hF⟩ := hF
    refine rj_iald (j := zj_4) hzj_4 rfl (by decide) rfl (by decide) dX10_hangsOf_244 ?_
    refine rm_callV (c0 := 99) (As := [.int (H 120 zj_4)]) (st := []) mlRX10_196 mdX10_acts (Nat.le_of_ble_eq_true rfl) rfl (by decide) (by decide) rfl rfl rfl (Nat.le_of_ble_eq_true rfl) ⟨Nat.le_refl _, Nat.le_refl _⟩ dX10_hangsOf_245 ?_
    refine cm_mono hF (fun w zH_5 hF => ?_)
    obtain ⟨zr_6, rfl, hF⟩ := hF
    refine ra_istore dX10_hangsOf_248 rfl (Nat.le_of_ble_eq_true rfl) ?_
    show Rn _ _ _ _ _ _ _ _ [some (rf E 99), some (.int zx1), some (.int zx2), some (.int zx3), some (.int zx4), some (.int zx5), none, none, some (.int zx8), some (.int zr_6)] _ _ _
    refine rn_iinc (w := (1 : Int32)) dX10_hangsOf_250 rfl (by decide) rfl (Nat.le_of_ble_eq_true rfl) (fun zx8_8 ezx8_8 => ?_)
    replace hF := hF zx8_8 ezx8_8
    show Rn _ _ _ _ _ _ _ _ [some (rf E 99), some (.int zx1), some (.int zx2), some (.int zx3), some (.int zx4), some (.int zx5), none, none, some (.int zx8_8), some (.int zr_6)] _ _ _
    refine rn_goto (tgt := 231) dX10_hangsOf_253 (by decide) ?_
    exact rn_wk (L' := [some (rf E 99), some (.int zx1), some (.int zx2), some (.int zx3), some (.int zx4), some (.int zx5), none, none, some (.int zx8_8), none]) (⟨rfl, ⟨rfl, ⟨rfl, ⟨rfl, ⟨rfl, ⟨rfl, ⟨rfl, trivial⟩⟩⟩⟩⟩⟩⟩) hF
theorem sgX10_hangsOf_264 {E : En} {Q : Option Value → Hi → Prop} {H : Hi} {zx1 : Int32} {zx2 : Int32} {zx3 : Int32} {zx4 : Int32} {zx5 : Int32} {zx8 : Int32} 
    (hF : ((H 99 2) ≤ zx8 → (∀ zx5_2 : Int32, zx5_2 = zx5 + (1 : Int32) → (Rm E mX10_hangsOf Q 128 [some (rf E 99), some (.int zx1), some (.int zx2), some (.int zx3), some (.int zx4), some (.int zx5_2), none, none, none, none] [] H))) ∧ (¬ (H 99 2) ≤ zx8 → (∃ zj_3 : Nat, (zj_3 < 8 ∧ zx8 = nI zj_3) ∧ (∃ zj_4 : Nat, (zj_4 < 8 ∧ zx8 = nI zj_4) ∧ (∃ zj_5 : Nat, (zj_5 < 8 ∧ zx8 = nI zj_5) ∧ (∀ zH_6 : Hi, zH_6 = up H 121 zj_5 ((H 121 zj_3) ||| ((1 : Int32) <<< ((H 111 zj_4) &&& 31))) → (∀ zx8_7 : Int32, zx8_7 = zx8 + (1 : Int32) → (Rm E mX10_hangsOf Q 264 [some (rf E 99), some (.int zx1), some (.int zx2), some (.int zx3), some (.int zx4), some (.int zx5), none, none, some (.int zx8_7), none] [] zH_6)))))))) :
    Rm E mX10_hangsOf Q 264 [some (rf E 99), some (.int zx1), some (.int zx2), some (.int zx3), some (.int zx4), some (.int zx5), none, none, some (.int zx8), none] [] H := by
  refine rn_iload dX10_hangsOf_264 rfl ?_
  refine rn_aload_n dX10_hangsOf_266 rfl ?_
  refine rm_geti flRX10_125 rfl (by decide) rfl dX10_hangsOf_267 ?_
  refine rn_icmp_ge (tgt := 298) dX10_hangsOf_270 (by decide) (fun hc_1 => ?_) (fun hc_1 => ?_)
  · replace hF := hF.1 hc_1
    refine rn_iinc (w := (1 : Int32)) dX10_hangsOf_298 rfl (by decide) rfl (Nat.le_of_ble_eq_true rfl) (fun zx5_2 ezx5_2 => ?_)
    replace hF := hF zx5_2 ezx5_2
    show Rn _ _ _ _ _ _ _ _ [some (rf E 99), some (.int zx1), some (.int zx2), some (.int zx3), some (.int zx4), some (.int zx5_2), none, none, some (.int zx8), none] _ _ _
    refine rn_goto (tgt := 128) dX10_hangsOf_301 (by decide) ?_
    exact rn_wk (L' := [some (rf E 99), some (.int zx1), some (.int zx2), some (.int zx3), some (.int zx4), some (.int zx5_2), none, none, none, none]) (⟨rfl, ⟨rfl, ⟨rfl, ⟨rfl, ⟨rfl, ⟨rfl, trivial⟩⟩⟩⟩⟩⟩) hF
  · replace hF := hF.2 hc_1
    refine rn_aload_n dX10_hangsOf_273 rfl ?_
    refine rm_getr (r := 121) flRX10_74 rfl (by decide) rfl dX10_hangsOf_274 ?_
    refine rn_iload dX10_hangsOf_277 rfl ?_
    refine rn_dup2 dX10_hangsOf_279 rfl rfl ?_
    obtain ⟨zj_3, hzj_3, hF⟩ := hF
    refine rj_iald (j := zj_3) hzj_3 rfl (by decide) rfl (by decide) dX10_hangsOf_280 ?_
    refine rn_iconst (x := (1 : Int32)) dX10_hangsOf_281 (by decide) ?_
    refine rn_aload_n dX10_hangsOf_282 rfl ?_
    refine rm_getr (r := 111) flRX10_43 rfl (by decide) rfl dX10_hangsOf_283 ?_
    refine rn_iload dX10_hangsOf_286 rfl ?_
    obtain ⟨zj_4, hzj_4, hF⟩ := hF
    refine rj_iald (j := zj_4) hzj_4 rfl (by decide) rfl (by decide) dX10_hangsOf_288 ?_
    refine rn_ishl dX10_hangsOf_289 ?_
    refine rn_ior dX10_hangsOf_290 ?_
    obtain ⟨zj_5, hzj_5, hF⟩ := hF
    refine rj_iast (j := zj_5) hzj_5 rfl (by decide) rfl (by decide) dX10_hangsOf_291 (fun zH_6 ezH_6 => ?_)
    replace hF := hF zH_6 ezH_6
    refine rn_iinc (w := (1 : Int32)) dX10_hangsOf_292 rfl (by decide) rfl (Nat.le_of_ble_eq_true rfl) (fun zx8_7 ezx8_7 => ?_)
    replace hF := hF zx8_7 ezx8_7
    show Rn _ _ _ _ _ _ _ _ [some (rf E 99), some (.int zx1), some (.int zx2), some (.int zx3), some (.int zx4), some (.int zx5), none, none, some (.int zx8_7), none] _ _ _
    refine rn_goto (tgt := 264) dX10_hangsOf_295 (by decide) ?_
    exact rn_wk (L' := [some (rf E 99), some (.int zx1), some (.int zx2), some (.int zx3), some (.int zx4), some (.int zx5), none, none, some (.int zx8_7), none]) (⟨rfl, ⟨rfl, ⟨rfl, ⟨rfl, ⟨rfl, ⟨rfl, ⟨rfl, trivial⟩⟩⟩⟩⟩⟩⟩) hF
theorem sgX10_hangs_0 {E : En} {Q : Option Value → Hi → Prop} {H : Hi} {zx1 : Int32} 
    (hF : Cm E mX10_isHour [.int zx1] H (fun w zH_1 => ∃ zr_2 : Int32, w = some (.int zr_2) ∧ ((zr_2 = 0 → (Q (some (.int (-2 : Int32))) zH_1)) ∧ (¬ zr_2 = 0 → (Cm E mX10_hangsOf [rf E 99, .int zx1] zH_1 (fun w zH_4 => ∃ zr_5 : Int32, w = some (.int zr_5) ∧ (Q (some (.int zr_5)) zH_4))))))) :
    Rm E mX10_hangs Q 0 [some (rf E 99), some (.int zx1)] [] H := by
  refine rn_iload_n dX10_hangs_0 rfl ?_
  refine rm_callS (As := [.int zx1]) (st := []) mlRX10_160 mdX10_isHour (Nat.le_of_ble_eq_true rfl) rfl rfl (Nat.le_of_ble_eq_true rfl) ⟨Nat.le_refl _, Nat.le_refl _⟩ dX10_hangs_1 ?_
  refine cm_mono hF (fun w zH_1 hF => ?_)
  obtain ⟨zr_2, rfl, hF⟩ := hF
  refine rn_if_eq (tgt := 15) dX10_hangs_4 (by decide) (fun hc_3 => ?_) (fun hc_3 => ?_)
  · replace hF := hF.1 hc_3
    refine rn_bipush (x := (-2 : Int32)) dX10_hangs_15 (by decide) ?_
    exact rm_iret rfl dX10_hangs_17 hF
  · replace hF := hF.2 hc_3
    refine rn_aload_n dX10_hangs_7 rfl ?_
    refine rn_iload_n dX10_hangs_8 rfl ?_
    refine rm_callV (c0 := 99) (As := [.int zx1]) (st := []) mlRX10_268 mdX10_hangsOf (Nat.le_of_ble_eq_true rfl) rfl (by decide) (by decide) rfl rfl rfl (Nat.le_of_ble_eq_true rfl) ⟨Nat.le_refl _, Nat.le_refl _⟩ dX10_hangs_9 ?_
    refine cm_mono hF (fun w zH_4 hF => ?_)
    obtain ⟨zr_5, rfl, hF⟩ := hF
    refine rn_goto (tgt := 17) dX10_hangs_12 (by decide) ?_
    exact rm_iret rfl dX10_hangs_17 hF
theorem cmX10_hangs {E : En} {Q : Option Value → Hi → Prop} {H : Hi} {zx1 : Int32} 
    (hF : Cm E mX10_isHour [.int zx1] H (fun w zH_1 => ∃ zr_2 : Int32, w = some (.int zr_2) ∧ ((zr_2 = 0 → (Q (some (.int (-2 : Int32))) zH_1)) ∧ (¬ zr_2 = 0 → (Cm E mX10_hangsOf [rf E 99, .int zx1] zH_1 (fun w zH_4 => ∃ zr_5 : Int32, w = some (.int zr_5) ∧ (Q (some (.int zr_5)) zH_4))))))) :
    Cm E mX10_hangs [rf E 99, .int zx1] H Q :=
  cm_of (by decide +kernel : plainName RX10 = true) (Nat.le_of_ble_eq_true rfl) rfl (sgX10_hangs_0  hF)
theorem sgX10_sorts_0 {E : En} {Q : Option Value → Hi → Prop} {H : Hi} {zx1 : Int32} {zx2 : Int32} 
    (hF : Cm E mX10_asTold [rf E 99] H (fun w zH_1 => w = none ∧ (∀ zH_2 : Hi, zH_2 = up zH_1 99 23 zx1 → (Cm E mX10_begins [rf E 99] zH_2 (fun w zH_3 => w = none ∧ (Rm E mX10_sorts Q 15 [some (rf E 99), none, some (.int zx2), some (.int (0 : Int32))] [] zH_3)))))) :
    Rm E mX10_sorts Q 0 [some (rf E 99), some (.int zx1), some (.int zx2), none] [] H := by
  refine rn_aload_n dX10_sorts_0 rfl ?_
  refine rm_callV (c0 := 99) (As := []) (st := []) mlRX10_215 mdX10_asTold (Nat.le_of_ble_eq_true rfl) rfl (by decide) (by decide) rfl rfl rfl (Nat.le_of_ble_eq_true rfl) ⟨Nat.le_refl _, Nat.le_refl _⟩ dX10_sorts_1 ?_
  refine cm_mono hF (fun w zH_1 hF => ?_)
  obtain ⟨rfl, hF⟩ := hF
  refine rn_aload_n dX10_sorts_4 rfl ?_
  refine rn_iload_n dX10_sorts_5 rfl ?_
  refine rm_puti flRX10_182 rfl (by decide) rfl dX10_sorts_6 (fun zH_2 ezH_2 => ?_)
  replace hF := hF zH_2 ezH_2
  refine rn_aload_n dX10_sorts_9 rfl ?_
  refine rm_callV (c0 := 99) (As := []) (st := []) mlRX10_209 mdX10_begins (Nat.le_of_ble_eq_true rfl) rfl (by decide) (by decide) rfl rfl rfl (Nat.le_of_ble_eq_true rfl) ⟨Nat.le_refl _, Nat.le_refl _⟩ dX10_sorts_10 ?_
  refine cm_mono hF (fun w zH_3 hF => ?_)
  obtain ⟨rfl, hF⟩ := hF
  refine rn_iconst (x := (0 : Int32)) dX10_sorts_13 (by decide) ?_
  refine ra_istore_n dX10_sorts_14 rfl (Nat.le_of_ble_eq_true rfl) ?_
  show Rn _ _ _ _ _ _ _ _ [some (rf E 99), some (.int zx1), some (.int zx2), some (.int (0 : Int32))] _ _ _
  exact rn_wk (L' := [some (rf E 99), none, some (.int zx2), some (.int (0 : Int32))]) (⟨rfl, ⟨rfl, ⟨rfl, trivial⟩⟩⟩) hF
theorem cmX10_sorts {E : En} {Q : Option Value → Hi → Prop} {H : Hi} {zx1 : Int32} {zx2 : Int32} 
    (hF : Cm E mX10_asTold [rf E 99] H (fun w zH_1 => w = none ∧ (∀ zH_2 : Hi, zH_2 = up zH_1 99 23 zx1 → (Cm E mX10_begins [rf E 99] zH_2 (fun w zH_3 => w = none ∧ (Rm E mX10_sorts Q 15 [some (rf E 99), none, some (.int zx2), some (.int (0 : Int32))] [] zH_3)))))) :
    Cm E mX10_sorts [rf E 99, .int zx1, .int zx2] H Q :=
  cm_of (by decide +kernel : plainName RX10 = true) (Nat.le_of_ble_eq_true rfl) rfl (sgX10_sorts_0  hF)
theorem sgX10_sorts_15 {E : En} {Q : Option Value → Hi → Prop} {H : Hi} {zx2 : Int32} {zx3 : Int32} 
    (hF : ((24 : Int32) ≤ zx3 → (Q (some (.int (1 : Int32))) H)) ∧ (¬ (24 : Int32) ≤ zx3 → (Cm E mX10_goesBy [rf E 99, .int zx3] H (fun w zH_2 => w = none ∧ (Cm E mX10_loadNow [rf E 99] zH_2 (fun w zH_3 => ∃ zr_4 : Int32, w = some (.int zr_4) ∧ ((zr_4 ≤ zx2 → (∀ zx3_6 : Int32, zx3_6 = zx3 + (1 : Int32) → (Rm E mX10_sorts Q 15 [some (rf E 99), none, some (.int zx2), some (.int zx3_6)] [] zH_3))) ∧ (¬ zr_4 ≤ zx2 → (Q (some (.int (0 : Int32))) zH_3))))))))) :
    Rm E mX10_sorts Q 15 [some (rf E 99), none, some (.int zx2), some (.int zx3)] [] H := by
  refine rn_iload_n dX10_sorts_15 rfl ?_
  refine rn_bipush (x := (24 : Int32)) dX10_sorts_16 (by decide) ?_
  refine rn_icmp_ge (tgt := 42) dX10_sorts_18 (by decide) (fun hc_1 => ?_) (fun hc_1 => ?_)
  · replace hF := hF.1 hc_1
    refine rn_iconst (x := (1 : Int32)) dX10_sorts_42 (by decide) ?_
    exact rm_zret rfl rfl dX10_sorts_43 hF
  · replace hF := hF.2 hc_1
    refine rn_aload_n dX10_sorts_21 rfl ?_
    refine rn_iload_n dX10_sorts_22 rfl ?_
    refine rm_callV (c0 := 99) (As := [.int zx3]) (st := []) mlRX10_212 mdX10_goesBy (Nat.le_of_ble_eq_true rfl) rfl (by decide) (by decide) rfl rfl rfl (Nat.le_of_ble_eq_true rfl) ⟨Nat.le_refl _, Nat.le_refl _⟩ dX10_sorts_23 ?_
    refine cm_mono hF (fun w zH_2 hF => ?_)
    obtain ⟨rfl, hF⟩ := hF
    refine rn_aload_n dX10_sorts_26 rfl ?_
    refine rm_callV (c0 := 99) (As := []) (st := []) mlRX10_185 mdX10_loadNow (Nat.le_of_ble_eq_true rfl) rfl (by decide) (by decide) rfl rfl rfl (Nat.le_of_ble_eq_true rfl) ⟨Nat.le_refl _, Nat.le_refl _⟩ dX10_sorts_27 ?_
    refine cm_mono hF (fun w zH_3 hF => ?_)
    obtain ⟨zr_4, rfl, hF⟩ := hF
    refine rn_iload_n dX10_sorts_30 rfl ?_
    refine rn_icmp_le (tgt := 36) dX10_sorts_31 (by decide) (fun hc_5 => ?_) (fun hc_5 => ?_)
    · replace hF := hF.1 hc_5
      refine rn_iinc (w := (1 : Int32)) dX10_sorts_36 rfl (by decide) rfl (Nat.le_of_ble_eq_true rfl) (fun zx3_6 ezx3_6 => ?_)
      replace hF := hF zx3_6 ezx3_6
      show Rn _ _ _ _ _ _ _ _ [some (rf E 99), none, some (.int zx2), some (.int zx3_6)] _ _ _
      refine rn_goto (tgt := 15) dX10_sorts_39 (by decide) ?_
      exact rn_wk (L' := [some (rf E 99), none, some (.int zx2), some (.int zx3_6)]) (⟨rfl, ⟨rfl, ⟨rfl, trivial⟩⟩⟩) hF
    · replace hF := hF.2 hc_5
      refine rn_iconst (x := (0 : Int32)) dX10_sorts_34 (by decide) ?_
      exact rm_zret rfl rfl dX10_sorts_35 hF
theorem sgX10_sortBy_0 {E : En} {Q : Option Value → Hi → Prop} {H : Hi} {zx1 : Int32} 
    (hF : Cm E mX10_reads [rf E 99] H (fun w zH_1 => w = none ∧ (Cm E mX10_sorts [rf E 99, .int (0 : Int32), .int zx1] zH_1 (fun w zH_2 => ∃ zr_3 : Int32, w = some (.int zr_3) ∧ ((zr_3 = 0 → (Rm E mX10_sortBy Q 17 [some (rf E 99), some (.int zx1), some (.int (0 : Int32)), none] [] zH_2)) ∧ (¬ zr_3 = 0 → (Q (some (.int (0 : Int32))) zH_2))))))) :
    Rm E mX10_sortBy Q 0 [some (rf E 99), some (.int zx1), none, none] [] H := by
  refine rn_aload_n dX10_sortBy_0 rfl ?_
  refine rm_callV (c0 := 99) (As := []) (st := []) mlRX10_144 mdX10_reads (Nat.le_of_ble_eq_true rfl) rfl (by decide) (by decide) rfl rfl rfl (Nat.le_of_ble_eq_true rfl) ⟨Nat.le_refl _, Nat.le_refl _⟩ dX10_sortBy_1 ?_
  refine cm_mono hF (fun w zH_1 hF => ?_)
  obtain ⟨rfl, hF⟩ := hF
  refine rn_aload_n dX10_sortBy_4 rfl ?_
  refine rn_iconst (x := (0 : Int32)) dX10_sortBy_5 (by decide) ?_
  refine rn_iload_n dX10_sortBy_6 rfl ?_
  refine rm_callV (c0 := 99) (As := [.int (0 : Int32), .int zx1]) (st := []) mlRX10_271 mdX10_sorts (Nat.le_of_ble_eq_true rfl) rfl (by decide) (by decide) rfl rfl rfl (Nat.le_of_ble_eq_true rfl) ⟨Nat.le_refl _, Nat.le_refl _⟩ dX10_sortBy_7 ?_
  refine cm_mono hF (fun w zH_2 hF => ?_)
  obtain ⟨zr_3, rfl, hF⟩ := hF
  refine rn_if_eq (tgt := 15) dX10_sortBy_10 (by decide) (fun hc_4 => ?_) (fun hc_4 => ?_)
  · replace hF := hF.1 hc_4
    refine rn_iconst (x := (0 : Int32)) dX10_sortBy_15 (by decide) ?_
    refine ra_istore_n dX10_sortBy_16 rfl (Nat.le_of_ble_eq_true rfl) ?_
    show Rn _ _ _ _ _ _ _ _ [some (rf E 99), some (.int zx1), some (.int (0 : Int32)), none] _ _ _
    exact rn_wk (L' := [some (rf E 99), some (.int zx1), some (.int (0 : Int32)), none]) (⟨rfl, ⟨rfl, ⟨rfl, trivial⟩⟩⟩) hF
  · replace hF := hF.2 hc_4
    refine rn_iconst (x := (0 : Int32)) dX10_sortBy_13 (by decide) ?_
    exact rm_iret rfl dX10_sortBy_14 hF
theorem cmX10_sortBy {E : En} {Q : Option Value → Hi → Prop} {H : Hi} {zx1 : Int32} 
    (hF : Cm E mX10_reads [rf E 99] H (fun w zH_1 => w = none ∧ (Cm E mX10_sorts [rf E 99, .int (0 : Int32), .int zx1] zH_1 (fun w zH_2 => ∃ zr_3 : Int32, w = some (.int zr_3) ∧ ((zr_3 = 0 → (Rm E mX10_sortBy Q 17 [some (rf E 99), some (.int zx1), some (.int (0 : Int32)), none] [] zH_2)) ∧ (¬ zr_3 = 0 → (Q (some (.int (0 : Int32))) zH_2))))))) :
    Cm E mX10_sortBy [rf E 99, .int zx1] H Q :=
  cm_of (by decide +kernel : plainName RX10 = true) (Nat.le_of_ble_eq_true rfl) rfl (sgX10_sortBy_0  hF)
theorem sgX10_sortBy_17 {E : En} {Q : Option Value → Hi → Prop} {H : Hi} {zx1 : Int32} {zx2 : Int32} 
    (hF : ((24 : Int32) ≤ zx2 → (Rm E mX10_sortBy Q 51 [some (rf E 99), some (.int zx1), some (.int (0 : Int32)), none] [] H)) ∧ (¬ (24 : Int32) ≤ zx2 → (∀ zH_3 : Hi, zH_3 = up H 119 0 zx2 → (Cm E mX10_sorts [rf E 99, .int ((1 : Int32) <<< (zx2 &&& 31)), .int zx1] zH_3 (fun w zH_4 => ∃ zr_5 : Int32, w = some (.int zr_5) ∧ ((zr_5 = 0 → (∀ zx2_7 : Int32, zx2_7 = zx2 + (1 : Int32) → (Rm E mX10_sortBy Q 17 [some (rf E 99), some (.int zx1), some (.int zx2_7), none] [] zH_4))) ∧ (¬ zr_5 = 0 → (Q (some (.int (1 : Int32))) zH_4)))))))) :
    Rm E mX10_sortBy Q 17 [some (rf E 99), some (.int zx1), some (.int zx2), none] [] H := by
  refine rn_iload_n dX10_sortBy_17 rfl ?_
  refine rn_bipush (x := (24 : Int32)) dX10_sortBy_18 (by decide) ?_
  refine rn_icmp_ge (tgt := 49) dX10_sortBy_20 (by decide) (fun hc_1 => ?_) (fun hc_1 => ?_)
  · replace hF := hF.1 hc_1
    refine rn_iconst (x := (0 : Int32)) dX10_sortBy_49 (by decide) ?_
    refine ra_istore_n dX10_sortBy_50 rfl (Nat.le_of_ble_eq_true rfl) ?_
    show Rn _ _ _ _ _ _ _ _ [some (rf E 99), some (.int zx1), some (.int (0 : Int32)), none] _ _ _
    exact rn_wk (L' := [some (rf E 99), some (.int zx1), some (.int (0 : Int32)), none]) (⟨rfl, ⟨rfl, ⟨rfl, trivial⟩⟩⟩) hF
  · replace hF := hF.2 hc_1
    refine rn_aload_n dX10_sortBy_23 rfl ?_
    refine rm_getr (r := 119) flRX10_68 rfl (by decide) rfl dX10_sortBy_24 ?_
    refine rn_iconst (x := (0 : Int32)) dX10_sortBy_27 (by decide) ?_
    refine rn_iload_n dX10_sortBy_28 rfl ?_
    refine rj_iast (j := 0) ⟨by decide, by decide⟩ rfl (by decide) rfl (by decide) dX10_sortBy_29 (fun zH_3 ezH_3 => ?_)
    replace hF := hF zH_3 ezH_3
    refine rn_aload_n dX10_sortBy_30 rfl ?_
    refine rn_iconst (x := (1 : Int32)) dX10_sortBy_31 (by decide) ?_
    refine rn_iload_n dX10_sortBy_32 rfl ?_
    refine rn_ishl dX10_sortBy_33 ?_
    refine rn_iload_n dX10_sortBy_34 rfl ?_
    refine rm_callV (c0 := 99) (As := [.int ((1 : Int32) <<< (zx2 &&& 31)), .int zx1]) (st := []) mlRX10_271 mdX10_sorts (Nat.le_of_ble_eq_true rfl) rfl (by decide) (by decide) rfl rfl rfl (Nat.le_of_ble_eq_true rfl) ⟨Nat.le_refl _, Nat.le_refl _⟩ dX10_sortBy_35 ?_
    refine cm_mono hF (fun w zH_4 hF => ?_)
    obtain ⟨zr_5, rfl, hF⟩ := hF
    refine rn_if_eq (tgt := 43) dX10_sortBy_38 (by decide) (fun hc_6 => ?_) (fun hc_6 => ?_)
    · replace hF := hF.1 hc_6
      refine rn_iinc (w := (1 : Int32)) dX10_sortBy_43 rfl (by decide) rfl (Nat.le_of_ble_eq_true rfl) (fun zx2_7 ezx2_7 => ?_)
      replace hF := hF zx2_7 ezx2_7
      show Rn _ _ _ _ _ _ _ _ [some (rf E 99), some (.int zx1), some (.int zx2_7), none] _ _ _
      refine rn_goto (tgt := 17) dX10_sortBy_46 (by decide) ?_
      exact rn_wk (L' := [some (rf E 99), some (.int zx1), some (.int zx2_7), none]) (⟨rfl, ⟨rfl, ⟨rfl, trivial⟩⟩⟩) hF
    · replace hF := hF.2 hc_6
      refine rn_iconst (x := (1 : Int32)) dX10_sortBy_41 (by decide) ?_
      exact rm_iret rfl dX10_sortBy_42 hF
theorem sgX10_sortBy_51 {E : En} {Q : Option Value → Hi → Prop} {H : Hi} {zx1 : Int32} {zx2 : Int32} 
    (hF : ((24 : Int32) ≤ zx2 → (Q (some (.int (-1 : Int32))) H)) ∧ (¬ (24 : Int32) ≤ zx2 → (∀ zx3_2 : Int32, zx3_2 = zx2 + (1 : Int32) → (Rm E mX10_sortBy Q 61 [some (rf E 99), some (.int zx1), some (.int zx2), some (.int zx3_2)] [] H)))) :
    Rm E mX10_sortBy Q 51 [some (rf E 99), some (.int zx1), some (.int zx2), none] [] H := by
  refine rn_iload_n dX10_sortBy_51 rfl ?_
  refine rn_bipush (x := (24 : Int32)) dX10_sortBy_52 (by decide) ?_
  refine rn_icmp_ge (tgt := 110) dX10_sortBy_54 (by decide) (fun hc_1 => ?_) (fun hc_1 => ?_)
  · replace hF := hF.1 hc_1
    refine rn_iconst (x := (-1 : Int32)) dX10_sortBy_110 (by decide) ?_
    exact rm_iret rfl dX10_sortBy_111 hF
  · replace hF := hF.2 hc_1
    refine rn_iload_n dX10_sortBy_57 rfl ?_
    refine rn_iconst (x := (1 : Int32)) dX10_sortBy_58 (by decide) ?_
    refine rn_iadd dX10_sortBy_59 ?_
    refine rn_istore_n dX10_sortBy_60 rfl (Nat.le_of_ble_eq_true rfl) (fun zx3_2 ezx3_2 => ?_)
    replace hF := hF zx3_2 ezx3_2
    show Rn _ _ _ _ _ _ _ _ [some (rf E 99), some (.int zx1), some (.int zx2), some (.int zx3_2)] _ _ _
    exact rn_wk (L' := [some (rf E 99), some (.int zx1), some (.int zx2), some (.int zx3_2)]) (⟨rfl, ⟨rfl, ⟨rfl, ⟨rfl, trivial⟩⟩⟩⟩) hF
theorem sgX10_sortBy_61 {E : En} {Q : Option Value → Hi → Prop} {H : Hi} {zx1 : Int32} {zx2 : Int32} {zx3 : Int32} 
    (hF : ((24 : Int32) ≤ zx3 → (∀ zx2_2 : Int32, zx2_2 = zx2 + (1 : Int32) → (Rm E mX10_sortBy Q 51 [some (rf E 99), some (.int zx1), some (.int zx2_2), none] [] H))) ∧ (¬ (24 : Int32) ≤ zx3 → (∀ zH_3 : Hi, zH_3 = up H 119 0 zx2 → (∀ zH_4 : Hi, zH_4 = up zH_3 119 1 zx3 → (Cm E mX10_sorts [rf E 99, .int (((1 : Int32) <<< (zx2 &&& 31)) ||| ((1 : Int32) <<< (zx3 &&& 31))), .int zx1] zH_4 (fun w zH_5 => ∃ zr_6 : Int32, w = some (.int zr_6) ∧ ((zr_6 = 0 → (∀ zx3_8 : Int32, zx3_8 = zx3 + (1 : Int32) → (Rm E mX10_sortBy Q 61 [some (rf E 99), some (.int zx1), some (.int zx2), some (.int zx3_8)] [] zH_5))) ∧ (¬ zr_6 = 0 → (Q (some (.int (2 : Int32))) zH_5))))))))) :
    Rm E mX10_sortBy Q 61 [some (rf E 99), some (.int zx1), some (.int zx2), some (.int zx3)] [] H := by
  refine rn_iload_n dX10_sortBy_61 rfl ?_
  refine rn_bipush (x := (24 : Int32)) dX10_sortBy_62 (by decide) ?_
  refine rn_icmp_ge (tgt := 104) dX10_sortBy_64 (by decide) (fun hc_1 => ?_) (fun hc_1 => ?_)
  · replace hF := hF.1 hc_1
    refine rn_iinc (w := (1 : Int32)) dX10_sortBy_104 rfl (by decide) rfl (Nat.le_of_ble_eq_true rfl) (fun zx2_2 ezx2_2 => ?_)
    replace hF := hF zx2_2 ezx2_2
    show Rn _ _ _ _ _ _ _ _ [some (rf E 99), some (.int zx1), some (.int zx2_2), some (.int zx3)] _ _ _
    refine rn_goto (tgt := 51) dX10_sortBy_107 (by decide) ?_
    exact rn_wk (L' := [some (rf E 99), some (.int zx1), some (.int zx2_2), none]) (⟨rfl, ⟨rfl, ⟨rfl, trivial⟩⟩⟩) hF
  · replace hF := hF.2 hc_1
    refine rn_aload_n dX10_sortBy_67 rfl ?_
    refine rm_getr (r := 119) flRX10_68 rfl (by decide) rfl dX10_sortBy_68 ?_
    refine rn_iconst (x := (0 : Int32)) dX10_sortBy_71 (by decide) ?_
    refine rn_iload_n dX10_sortBy_72 rfl ?_
    refine rj_iast (j := 0) ⟨by decide, by decide⟩ rfl (by decide) rfl (by decide) dX10_sortBy_73 (fun zH_3 ezH_3 => ?_)
    replace hF := hF zH_3 ezH_3
    refine rn_aload_n dX10_sortBy_74 rfl ?_
    refine rm_getr (r := 119) flRX10_68 rfl (by decide) rfl dX10_sortBy_75 ?_
    refine rn_iconst (x := (1 : Int32)) dX10_sortBy_78 (by decide) ?_
    refine rn_iload_n dX10_sortBy_79 rfl ?_
    refine rj_iast (j := 1) ⟨by decide, by decide⟩ rfl (by decide) rfl (by decide) dX10_sortBy_80 (fun zH_4 ezH_4 => ?_)
    replace hF := hF zH_4 ezH_4
    refine rn_aload_n dX10_sortBy_81 rfl ?_
    refine rn_iconst (x := (1 : Int32)) dX10_sortBy_82 (by decide) ?_
    refine rn_iload_n dX10_sortBy_83 rfl ?_
    refine rn_ishl dX10_sortBy_84 ?_
    refine rn_iconst (x := (1 : Int32)) dX10_sortBy_85 (by decide) ?_
    refine rn_iload_n dX10_sortBy_86 rfl ?_
    refine rn_ishl dX10_sortBy_87 ?_
    refine rn_ior dX10_sortBy_88 ?_
    refine rn_iload_n dX10_sortBy_89 rfl ?_
    refine rm_callV (c0 := 99) (As := [.int (((1 : Int32) <<< (zx2 &&& 31)) ||| ((1 : Int32) <<< (zx3 &&& 31))), .int zx1]) (st := []) mlRX10_271 mdX10_sorts (Nat.le_of_ble_eq_true rfl) rfl (by decide) (by decide) rfl rfl rfl (Nat.le_of_ble_eq_true rfl) ⟨Nat.le_refl _, Nat.le_refl _⟩ dX10_sortBy_90 ?_
    refine cm_mono hF (fun w zH_5 hF => ?_)
    obtain ⟨zr_6, rfl, hF⟩ := hF
    refine rn_if_eq (tgt := 98) dX10_sortBy_93 (by decide) (fun hc_7 => ?_) (fun hc_7 => ?_)
    · replace hF := hF.1 hc_7
      refine rn_iinc (w := (1 : Int32)) dX10_sortBy_98 rfl (by decide) rfl (Nat.le_of_ble_eq_true rfl) (fun zx3_8 ezx3_8 => ?_)
      replace hF := hF zx3_8 ezx3_8
      show Rn _ _ _ _ _ _ _ _ [some (rf E 99), some (.int zx1), some (.int zx2), some (.int zx3_8)] _ _ _
      refine rn_goto (tgt := 61) dX10_sortBy_101 (by decide) ?_
      exact rn_wk (L' := [some (rf E 99), some (.int zx1), some (.int zx2), some (.int zx3_8)]) (⟨rfl, ⟨rfl, ⟨rfl, ⟨rfl, trivial⟩⟩⟩⟩) hF
    · replace hF := hF.2 hc_7
      refine rn_iconst (x := (2 : Int32)) dX10_sortBy_96 (by decide) ?_
      exact rm_iret rfl dX10_sortBy_97 hF
theorem sgX10_sort_0 {E : En} {Q : Option Value → Hi → Prop} {H : Hi} {zx1 : Int32} {zx2 : Int32} 
    (hF : Cm E mX10_in [.int zx1, .int (0 : Int32), .int (72 : Int32)] H (fun w zH_1 => ∃ zr_2 : Int32, w = some (.int zr_2) ∧ ((zr_2 = 0 → (Q (some (.int (-2 : Int32))) zH_1)) ∧ (¬ zr_2 = 0 → (Cm E mX10_in [.int zx2, .int (-1 : Int32), .int (1 : Int32)] zH_1 (fun w zH_4 => ∃ zr_5 : Int32, w = some (.int zr_5) ∧ ((zr_5 = 0 → (Q (some (.int (-2 : Int32))) zH_4)) ∧ (¬ zr_5 = 0 → (Cm E mX10_sortBy [rf E 99, .int zx1] zH_4 (fun w zH_7 => ∃ zr_8 : Int32, w = some (.int zr_8) ∧ (Cm E mX10_ofRow [rf E 99, .int zr_8, .int zx2] zH_7 (fun w zH_9 => ∃ zr_10 : Int32, w = some (.int zr_10) ∧ (Q (some (.int zr_10)) zH_9))))))))))))) :
    Rm E mX10_sort Q 0 [some (rf E 99), some (.int zx1), some (.int zx2)] [] H := by
  refine rn_iload_n dX10_sort_0 rfl ?_
  refine rn_iconst (x := (0 : Int32)) dX10_sort_1 (by decide) ?_
  refine rn_bipush (x := (72 : Int32)) dX10_sort_2 (by decide) ?_
  refine rm_callS (As := [.int zx1, .int (0 : Int32), .int (72 : Int32)]) (st := []) mlRX10_110 mdX10_in (Nat.le_of_ble_eq_true rfl) rfl rfl (Nat.le_of_ble_eq_true rfl) ⟨Nat.le_refl _, Nat.le_refl _⟩ dX10_sort_4 ?_
  refine cm_mono hF (fun w zH_1 hF => ?_)
  obtain ⟨zr_2, rfl, hF⟩ := hF
  refine rn_if_eq (tgt := 32) dX10_sort_7 (by decide) (fun hc_3 => ?_) (fun hc_3 => ?_)
  · replace hF := hF.1 hc_3
    refine rn_bipush (x := (-2 : Int32)) dX10_sort_32 (by decide) ?_
    exact rm_iret rfl dX10_sort_34 hF
  · replace hF := hF.2 hc_3
    refine rn_iload_n dX10_sort_10 rfl ?_
    refine rn_iconst (x := (-1 : Int32)) dX10_sort_11 (by decide) ?_
    refine rn_iconst (x := (1 : Int32)) dX10_sort_12 (by decide) ?_
    refine rm_callS (As := [.int zx2, .int (-1 : Int32), .int (1 : Int32)]) (st := []) mlRX10_110 mdX10_in (Nat.le_of_ble_eq_true rfl) rfl rfl (Nat.le_of_ble_eq_true rfl) ⟨Nat.le_refl _, Nat.le_refl _⟩ dX10_sort_13 ?_
    refine cm_mono hF (fun w zH_4 hF => ?_)
    obtain ⟨zr_5, rfl, hF⟩ := hF
    refine rn_if_eq (tgt := 32) dX10_sort_16 (by decide) (fun hc_6 => ?_) (fun hc_6 => ?_)
    · replace hF := hF.1 hc_6
      refine rn_bipush (x := (-2 : Int32)) dX10_sort_32 (by decide) ?_
      exact rm_iret rfl dX10_sort_34 hF
    · replace hF := hF.2 hc_6
      refine rn_aload_n dX10_sort_19 rfl ?_
      refine rn_aload_n dX10_sort_20 rfl ?_
      refine rn_iload_n dX10_sort_21 rfl ?_
      refine rm_callV (c0 := 99) (As := [.int zx1]) (st := [rf E 99]) mlRX10_274 mdX10_sortBy (Nat.le_of_ble_eq_true rfl) rfl (by decide) (by decide) rfl rfl rfl (Nat.le_of_ble_eq_true rfl) ⟨Nat.le_refl _, Nat.le_refl _⟩ dX10_sort_22 ?_
      refine cm_mono hF (fun w zH_7 hF => ?_)
      obtain ⟨zr_8, rfl, hF⟩ := hF
      refine rn_iload_n dX10_sort_25 rfl ?_
      refine rm_callV (c0 := 99) (As := [.int zr_8, .int zx2]) (st := []) mlRX10_261 mdX10_ofRow (Nat.le_of_ble_eq_true rfl) rfl (by decide) (by decide) rfl rfl rfl (Nat.le_of_ble_eq_true rfl) ⟨Nat.le_refl _, Nat.le_refl _⟩ dX10_sort_26 ?_
      refine cm_mono hF (fun w zH_9 hF => ?_)
      obtain ⟨zr_10, rfl, hF⟩ := hF
      refine rn_goto (tgt := 34) dX10_sort_29 (by decide) ?_
      exact rm_iret rfl dX10_sort_34 hF
theorem cmX10_sort {E : En} {Q : Option Value → Hi → Prop} {H : Hi} {zx1 : Int32} {zx2 : Int32} 
    (hF : Cm E mX10_in [.int zx1, .int (0 : Int32), .int (72 : Int32)] H (fun w zH_1 => ∃ zr_2 : Int32, w = some (.int zr_2) ∧ ((zr_2 = 0 → (Q (some (.int (-2 : Int32))) zH_1)) ∧ (¬ zr_2 = 0 → (Cm E mX10_in [.int zx2, .int (-1 : Int32), .int (1 : Int32)] zH_1 (fun w zH_4 => ∃ zr_5 : Int32, w = some (.int zr_5) ∧ ((zr_5 = 0 → (Q (some (.int (-2 : Int32))) zH_4)) ∧ (¬ zr_5 = 0 → (Cm E mX10_sortBy [rf E 99, .int zx1] zH_4 (fun w zH_7 => ∃ zr_8 : Int32, w = some (.int zr_8) ∧ (Cm E mX10_ofRow [rf E 99, .int zr_8, .int zx2] zH_7 (fun w zH_9 => ∃ zr_10 : Int32, w = some (.int zr_10) ∧ (Q (some (.int zr_10)) zH_9))))))))))))) :
    Cm E mX10_sort [rf E 99, .int zx1, .int zx2] H Q :=
  cm_of (by decide +kernel : plainName RX10 = true) (Nat.le_of_ble_eq_true rfl) rfl (sgX10_sort_0  hF)
theorem sgX10_felt_0 {E : En} {Q : Option Value → Hi → Prop} {H : Hi} {zx1 : Int32} {zx2 : Int32} {zx3 : Int32} 
    (hF : Cm E mX10_isHour [.int zx1] H (fun w zH_1 => ∃ zr_2 : Int32, w = some (.int zr_2) ∧ ((zr_2 = 0 → (Q (some (.int (-2 : Int32))) zH_1)) ∧ (¬ zr_2 = 0 → (Cm E mX10_isEight [.int zx2] zH_1 (fun w zH_4 => ∃ zr_5 : Int32, w = some (.int zr_5) ∧ ((zr_5 = 0 → (Q (some (.int (-2 : Int32))) zH_4)) ∧ (¬ zr_5 = 0 → (Cm E mX10_in [.int zx3, .int (0 : Int32), .int (1 : Int32)] zH_4 (fun w zH_7 => ∃ zr_8 : Int32, w = some (.int zr_8) ∧ ((¬ zr_8 = 0 → ((¬ (zH_7 99 30) = (8 : Int32) → (∃ zj_11 : Nat, (zj_11 < 8 ∧ zH_7 99 30 = nI zj_11) ∧ (∀ zH_12 : Hi, zH_12 = up zH_7 122 zj_11 zx1 → (∃ zj_13 : Nat, (zj_13 < 8 ∧ zH_12 99 30 = nI zj_13) ∧ (∀ zH_14 : Hi, zH_14 = up zH_12 123 zj_13 zx2 → (∃ zj_15 : Nat, (zj_15 < 8 ∧ zH_14 99 30 = nI zj_15) ∧ (∀ zH_16 : Hi, zH_16 = up zH_14 124 zj_15 zx3 → (∀ zH_17 : Hi, zH_17 = up zH_16 99 30 ((zH_16 99 30) + (1 : Int32)) → (Q (some (.int (zH_17 99 30))) zH_17))))))))) ∧ ((zH_7 99 30) = (8 : Int32) → (Q (some (.int (-4 : Int32))) zH_7)))) ∧ (zr_8 = 0 → (Q (some (.int (-2 : Int32))) zH_7))))))))))))) :
    Rm E mX10_felt Q 0 [some (rf E 99), some (.int zx1), some (.int zx2), some (.int zx3)] [] H := by
  refine rn_iload_n dX10_felt_0 rfl ?_
  refine rm_callS (As := [.int zx1]) (st := []) mlRX10_160 mdX10_isHour (Nat.le_of_ble_eq_true rfl) rfl rfl (Nat.le_of_ble_eq_true rfl) ⟨Nat.le_refl _, Nat.le_refl _⟩ dX10_felt_1 ?_
  refine cm_mono hF (fun w zH_1 hF => ?_)
  obtain ⟨zr_2, rfl, hF⟩ := hF
  refine rn_if_eq (tgt := 23) dX10_felt_4 (by decide) (fun hc_3 => ?_) (fun hc_3 => ?_)
  · replace hF := hF.1 hc_3
    refine rn_bipush (x := (-2 : Int32)) dX10_felt_23 (by decide) ?_
    exact rm_iret rfl dX10_felt_25 hF
  · replace hF := hF.2 hc_3
    refine rn_iload_n dX10_felt_7 rfl ?_
    refine rm_callS (As := [.int zx2]) (st := []) mlRX10_122 mdX10_isEight (Nat.le_of_ble_eq_true rfl) rfl rfl (Nat.le_of_ble_eq_true rfl) ⟨Nat.le_refl _, Nat.le_refl _⟩ dX10_felt_8 ?_
    refine cm_mono hF (fun w zH_4 hF => ?_)
    obtain ⟨zr_5, rfl, hF⟩ := hF
    refine rn_if_eq (tgt := 23) dX10_felt_11 (by decide) (fun hc_6 => ?_) (fun hc_6 => ?_)
    · replace hF := hF.1 hc_6
      refine rn_bipush (x := (-2 : Int32)) dX10_felt_23 (by decide) ?_
      exact rm_iret rfl dX10_felt_25 hF
    · replace hF := hF.2 hc_6
      refine rn_iload_n dX10_felt_14 rfl ?_
      refine rn_iconst (x := (0 : Int32)) dX10_felt_15 (by decide) ?_
      refine rn_iconst (x := (1 : Int32)) dX10_felt_16 (by decide) ?_
      refine rm_callS (As := [.int zx3, .int (0 : Int32), .int (1 : Int32)]) (st := []) mlRX10_110 mdX10_in (Nat.le_of_ble_eq_true rfl) rfl rfl (Nat.le_of_ble_eq_true rfl) ⟨Nat.le_refl _, Nat.le_refl _⟩ dX10_felt_17 ?_
      refine cm_mono hF (fun w zH_7 hF => ?_)
      obtain ⟨zr_8, rfl, hF⟩ := hF
      refine rn_if_ne (tgt := 26) dX10_felt_20 (by decide) (fun hc_9 => ?_) (fun hc_9 => ?_)
      · replace hF := hF.1 hc_9
        refine rn_aload_n dX10_felt_26 rfl ?_
        refine rm_geti flRX10_277 rfl (by decide) rfl dX10_felt_27 ?_
        refine rn_bipush (x := (8 : Int32)) dX10_felt_30 (by decide) ?_
        refine rn_icmp_ne (tgt := 38) dX10_felt_32 (by decide) (fun hc_10 => ?_) (fun hc_10 => ?_)
        · replace hF := hF.1 hc_10
          refine rn_aload_n dX10_felt_38 rfl ?_
          refine rm_getr (r := 122) flRX10_77 rfl (by decide) rfl dX10_felt_39 ?_
          refine rn_aload_n dX10_felt_42 rfl ?_
          refine rm_geti flRX10_277 rfl (by decide) rfl dX10_felt_43 ?_
          refine rn_iload_n dX10_felt_46 rfl ?_
          obtain ⟨zj_11, hzj_11, hF⟩ := hF
          refine rj_iast (j := zj_11) hzj_11 rfl (by decide) rfl (by decide) dX10_felt_47 (fun zH_12 ezH_12 => ?_)
          replace hF := hF zH_12 ezH_12
          refine rn_aload_n dX10_felt_48 rfl ?_
          refine rm_getr (r := 123) flRX10_80 rfl (by decide) rfl dX10_felt_49 ?_
          refine rn_aload_n dX10_felt_52 rfl ?_
          refine rm_geti flRX10_277 rfl (by decide) rfl dX10_felt_53 ?_
          refine rn_iload_n dX10_felt_56 rfl ?_
          obtain ⟨zj_13, hzj_13, hF⟩ := hF
          refine rj_iast (j := zj_13) hzj_13 rfl (by decide) rfl (by decide) dX10_felt_57 (fun zH_14 ezH_14 => ?_)
          replace hF := hF zH_14 ezH_14
          refine rn_aload_n dX10_felt_58 rfl ?_
          refine rm_getr (r := 124) flRX10_83 rfl (by decide) rfl dX10_felt_59 ?_
          refine rn_aload_n dX10_felt_62 rfl ?_
          refine rm_geti flRX10_277 rfl (by decide) rfl dX10_felt_63 ?_
          refine rn_iload_n dX10_felt_66 rfl ?_
          obtain ⟨zj_15, hzj_15, hF⟩ := hF
          refine rj_iast (j := zj_15) hzj_15 rfl (by decide) rfl (by decide) dX10_felt_67 (fun zH_16 ezH_16 => ?_)
          replace hF := hF zH_16 ezH_16
          refine rn_aload_n dX10_felt_68 rfl ?_
          refine rn_dup dX10_felt_69 rfl ?_
          refine rm_geti flRX10_277 rfl (by decide) rfl dX10_felt_70 ?_
          refine rn_iconst (x := (1 : Int32)) dX10_felt_73 (by decide) ?_
          refine rn_iadd dX10_felt_74 ?_
          refine rm_puti flRX10_277 rfl (by decide) rfl dX10_felt_75 (fun zH_17 ezH_17 => ?_)
          replace hF := hF zH_17 ezH_17
          refine rn_aload_n dX10_felt_78 rfl ?_
          refine rm_geti flRX10_277 rfl (by decide) rfl dX10_felt_79 ?_
          exact rm_iret rfl dX10_felt_82 hF
        · replace hF := hF.2 hc_10
          refine rn_bipush (x := (-4 : Int32)) dX10_felt_35 (by decide) ?_
          exact rm_iret rfl dX10_felt_37 hF
      · replace hF := hF.2 hc_9
        refine rn_bipush (x := (-2 : Int32)) dX10_felt_23 (by decide) ?_
        exact rm_iret rfl dX10_felt_25 hF
theorem cmX10_felt {E : En} {Q : Option Value → Hi → Prop} {H : Hi} {zx1 : Int32} {zx2 : Int32} {zx3 : Int32} 
    (hF : Cm E mX10_isHour [.int zx1] H (fun w zH_1 => ∃ zr_2 : Int32, w = some (.int zr_2) ∧ ((zr_2 = 0 → (Q (some (.int (-2 : Int32))) zH_1)) ∧ (¬ zr_2 = 0 → (Cm E mX10_isEight [.int zx2] zH_1 (fun w zH_4 => ∃ zr_5 : Int32, w = some (.int zr_5) ∧ ((zr_5 = 0 → (Q (some (.int (-2 : Int32))) zH_4)) ∧ (¬ zr_5 = 0 → (Cm E mX10_in [.int zx3, .int (0 : Int32), .int (1 : Int32)] zH_4 (fun w zH_7 => ∃ zr_8 : Int32, w = some (.int zr_8) ∧ ((¬ zr_8 = 0 → ((¬ (zH_7 99 30) = (8 : Int32) → (∃ zj_11 : Nat, (zj_11 < 8 ∧ zH_7 99 30 = nI zj_11) ∧ (∀ zH_12 : Hi, zH_12 = up zH_7 122 zj_11 zx1 → (∃ zj_13 : Nat, (zj_13 < 8 ∧ zH_12 99 30 = nI zj_13) ∧ (∀ zH_14 : Hi, zH_14 = up zH_12 123 zj_13 zx2 → (∃ zj_15 : Nat, (zj_15 < 8 ∧ zH_14 99 30 = nI zj_15) ∧ (∀ zH_16 : Hi, zH_16 = up zH_14 124 zj_15 zx3 → (∀ zH_17 : Hi, zH_17 = up zH_16 99 30 ((zH_16 99 30) + (1 : Int32)) → (Q (some (.int (zH_17 99 30))) zH_17))))))))) ∧ ((zH_7 99 30) = (8 : Int32) → (Q (some (.int (-4 : Int32))) zH_7)))) ∧ (zr_8 = 0 → (Q (some (.int (-2 : Int32))) zH_7))))))))))))) :
    Cm E mX10_felt [rf E 99, .int zx1, .int zx2, .int zx3] H Q :=
  cm_of (by decide +kernel : plainName RX10 = true) (Nat.le_of_ble_eq_true rfl) rfl (sgX10_felt_0  hF)
theorem sgX10_forget_0 {E : En} {Q : Option Value → Hi → Prop} {H : Hi}  
    (hF : ∀ zx1_1 : Int32, zx1_1 = H 99 30 → (∀ zH_2 : Hi, zH_2 = up H 99 30 (0 : Int32) → (Q (some (.int zx1_1)) zH_2))) :
    Rm E mX10_forget Q 0 [some (rf E 99), none] [] H := by
  refine rn_aload_n dX10_forget_0 rfl ?_
  refine rm_geti flRX10_277 rfl (by decide) rfl dX10_forget_1 ?_
  refine rn_istore_n dX10_forget_4 rfl (Nat.le_of_ble_eq_true rfl) (fun zx1_1 ezx1_1 => ?_)
  replace hF := hF zx1_1 ezx1_1
  show Rn _ _ _ _ _ _ _ _ [some (rf E 99), some (.int zx1_1)] _ _ _
  refine rn_aload_n dX10_forget_5 rfl ?_
  refine rn_iconst (x := (0 : Int32)) dX10_forget_6 (by decide) ?_
  refine rm_puti flRX10_277 rfl (by decide) rfl dX10_forget_7 (fun zH_2 ezH_2 => ?_)
  replace hF := hF zH_2 ezH_2
  refine rn_iload_n dX10_forget_10 rfl ?_
  exact rm_iret rfl dX10_forget_11 hF
theorem cmX10_forget {E : En} {Q : Option Value → Hi → Prop} {H : Hi}  
    (hF : ∀ zx1_1 : Int32, zx1_1 = H 99 30 → (∀ zH_2 : Hi, zH_2 = up H 99 30 (0 : Int32) → (Q (some (.int zx1_1)) zH_2))) :
    Cm E mX10_forget [rf E 99] H Q :=
  cm_of (by decide +kernel : plainName RX10 = true) (Nat.le_of_ble_eq_true rfl) rfl (sgX10_forget_0  hF)
theorem sgX10_isFelt_0 {E : En} {Q : Option Value → Hi → Prop} {H : Hi} {zx1 : Int32} 
    (hF : ∀ zH_2 : Hi, zH_2 = up H 99 34 (0 : Int32) → (Cm E mX10_begins [rf E 99] zH_2 (fun w zH_3 => w = none ∧ (Rm E mX10_isFelt Q 13 [some (rf E 99), some (.int zx1), some (.int (1 : Int32)), some (.int (0 : Int32)), none] [] zH_3)))) :
    Rm E mX10_isFelt Q 0 [some (rf E 99), some (.int zx1), none, none, none] [] H := by
  refine rn_iconst (x := (1 : Int32)) dX10_isFelt_0 (by decide) ?_
  refine ra_istore_n dX10_isFelt_1 rfl (Nat.le_of_ble_eq_true rfl) ?_
  show Rn _ _ _ _ _ _ _ _ [some (rf E 99), some (.int zx1), some (.int (1 : Int32)), none, none] _ _ _
  refine rn_aload_n dX10_isFelt_2 rfl ?_
  refine rn_iconst (x := (0 : Int32)) dX10_isFelt_3 (by decide) ?_
  refine rm_puti flRX10_280 rfl (by decide) rfl dX10_isFelt_4 (fun zH_2 ezH_2 => ?_)
  replace hF := hF zH_2 ezH_2
  refine rn_aload_n dX10_isFelt_7 rfl ?_
  refine rm_callV (c0 := 99) (As := []) (st := []) mlRX10_209 mdX10_begins (Nat.le_of_ble_eq_true rfl) rfl (by decide) (by decide) rfl rfl rfl (Nat.le_of_ble_eq_true rfl) ⟨Nat.le_refl _, Nat.le_refl _⟩ dX10_isFelt_8 ?_
  refine cm_mono hF (fun w zH_3 hF => ?_)
  obtain ⟨rfl, hF⟩ := hF
  refine rn_iconst (x := (0 : Int32)) dX10_isFelt_11 (by decide) ?_
  refine ra_istore_n dX10_isFelt_12 rfl (Nat.le_of_ble_eq_true rfl) ?_
  show Rn _ _ _ _ _ _ _ _ [some (rf E 99), some (.int zx1), some (.int (1 : Int32)), some (.int (0 : Int32)), none] _ _ _
  exact rn_wk (L' := [some (rf E 99), some (.int zx1), some (.int (1 : Int32)), some (.int (0 : Int32)), none]) (⟨rfl, ⟨rfl, ⟨rfl, ⟨rfl, trivial⟩⟩⟩⟩) hF
theorem cmX10_isFelt {E : En} {Q : Option Value → Hi → Prop} {H : Hi} {zx1 : Int32} 
    (hF : ∀ zH_2 : Hi, zH_2 = up H 99 34 (0 : Int32) → (Cm E mX10_begins [rf E 99] zH_2 (fun w zH_3 => w = none ∧ (Rm E mX10_isFelt Q 13 [some (rf E 99), some (.int zx1), some (.int (1 : Int32)), some (.int (0 : Int32)), none] [] zH_3)))) :
    Cm E mX10_isFelt [rf E 99, .int zx1] H Q :=
  cm_of (by decide +kernel : plainName RX10 = true) (Nat.le_of_ble_eq_true rfl) rfl (sgX10_isFelt_0  hF)
theorem sgX10_isFelt_13 {E : En} {Q : Option Value → Hi → Prop} {H : Hi} {zx1 : Int32} {zx2 : Int32} {zx3 : Int32} 
    (hF : ((24 : Int32) ≤ zx3 → (narrow .boolean (.int zx2) = .int zx2 ∧ Q (some (.int zx2)) H)) ∧ (¬ (24 : Int32) ≤ zx3 → (Cm E mX10_goesBy [rf E 99, .int zx3] H (fun w zH_2 => w = none ∧ (∃ zj_3 : Nat, (zj_3 < 8 ∧ zx1 = nI zj_3) ∧ ((¬ (zH_2 111 zj_3) = (8 : Int32) → (∀ zH_5 : Hi, zH_5 = up zH_2 99 34 ((zH_2 99 34) ||| (0 : Int32)) → (Rm E mX10_isFelt Q 54 [some (rf E 99), some (.int zx1), some (.int zx2), some (.int zx3), some (.int (0 : Int32))] [] zH_5))) ∧ ((zH_2 111 zj_3) = (8 : Int32) → (∀ zH_7 : Hi, zH_7 = up zH_2 99 34 ((zH_2 99 34) ||| ((1 : Int32) <<< (zx3 &&& 31))) → (Rm E mX10_isFelt Q 54 [some (rf E 99), some (.int zx1), some (.int zx2), some (.int zx3), some (.int (0 : Int32))] [] zH_7))))))))) :
    Rm E mX10_isFelt Q 13 [some (rf E 99), some (.int zx1), some (.int zx2), some (.int zx3), none] [] H := by
  refine rn_iload_n dX10_isFelt_13 rfl ?_
  refine rn_bipush (x := (24 : Int32)) dX10_isFelt_14 (by decide) ?_
  refine rn_icmp_ge (tgt := 137) dX10_isFelt_16 (by decide) (fun hc_1 => ?_) (fun hc_1 => ?_)
  · replace hF := hF.1 hc_1
    refine rn_iload_n dX10_isFelt_137 rfl ?_
    exact rm_zret rfl hF.1 dX10_isFelt_138 hF.2
  · replace hF := hF.2 hc_1
    refine rn_aload_n dX10_isFelt_19 rfl ?_
    refine rn_iload_n dX10_isFelt_20 rfl ?_
    refine rm_callV (c0 := 99) (As := [.int zx3]) (st := []) mlRX10_212 mdX10_goesBy (Nat.le_of_ble_eq_true rfl) rfl (by decide) (by decide) rfl rfl rfl (Nat.le_of_ble_eq_true rfl) ⟨Nat.le_refl _, Nat.le_refl _⟩ dX10_isFelt_21 ?_
    refine cm_mono hF (fun w zH_2 hF => ?_)
    obtain ⟨rfl, hF⟩ := hF
    refine rn_aload_n dX10_isFelt_24 rfl ?_
    refine rn_dup dX10_isFelt_25 rfl ?_
    refine rm_geti flRX10_280 rfl (by decide) rfl dX10_isFelt_26 ?_
    refine rn_aload_n dX10_isFelt_29 rfl ?_
    refine rm_getr (r := 111) flRX10_43 rfl (by decide) rfl dX10_isFelt_30 ?_
    refine rn_iload_n dX10_isFelt_33 rfl ?_
    obtain ⟨zj_3, hzj_3, hF⟩ := hF
    refine rj_iald (j := zj_3) hzj_3 rfl (by decide) rfl (by decide) dX10_isFelt_34 ?_
    refine rn_bipush (x := (8 : Int32)) dX10_isFelt_35 (by decide) ?_
    refine rn_icmp_ne (tgt := 46) dX10_isFelt_37 (by decide) (fun hc_4 => ?_) (fun hc_4 => ?_)
    · replace hF := hF.1 hc_4
      refine rn_iconst (x := (0 : Int32)) dX10_isFelt_46 (by decide) ?_
      refine rn_ior dX10_isFelt_47 ?_
      refine rm_puti flRX10_280 rfl (by decide) rfl dX10_isFelt_48 (fun zH_5 ezH_5 => ?_)
      replace hF := hF zH_5 ezH_5
      refine rn_iconst (x := (0 : Int32)) dX10_isFelt_51 (by decide) ?_
      refine ra_istore dX10_isFelt_52 rfl (Nat.le_of_ble_eq_true rfl) ?_
      show Rn _ _ _ _ _ _ _ _ [some (rf E 99), some (.int zx1), some (.int zx2), some (.int zx3), some (.int (0 : Int32))] _ _ _
      exact rn_wk (L' := [some (rf E 99), some (.int zx1), some (.int zx2), some (.int zx3), some (.int (0 : Int32))]) (⟨rfl, ⟨rfl, ⟨rfl, ⟨rfl, ⟨rfl, trivial⟩⟩⟩⟩⟩) hF
    · replace hF := hF.2 hc_4
      refine rn_iconst (x := (1 : Int32)) dX10_isFelt_40 (by decide) ?_
      refine rn_iload_n dX10_isFelt_41 rfl ?_
      refine rn_ishl dX10_isFelt_42 ?_
      refine rn_goto (tgt := 47) dX10_isFelt_43 (by decide) ?_
      refine rn_ior dX10_isFelt_47 ?_
      refine rm_puti flRX10_280 rfl (by decide) rfl dX10_isFelt_48 (fun zH_7 ezH_7 => ?_)
      replace hF := hF zH_7 ezH_7
      refine rn_iconst (x := (0 : Int32)) dX10_isFelt_51 (by decide) ?_
      refine ra_istore dX10_isFelt_52 rfl (Nat.le_of_ble_eq_true rfl) ?_
      show Rn _ _ _ _ _ _ _ _ [some (rf E 99), some (.int zx1), some (.int zx2), some (.int zx3), some (.int (0 : Int32))] _ _ _
      exact rn_wk (L' := [some (rf E 99), some (.int zx1), some (.int zx2), some (.int zx3), some (.int (0 : Int32))]) (⟨rfl, ⟨rfl, ⟨rfl, ⟨rfl, ⟨rfl, trivial⟩⟩⟩⟩⟩) hF
theorem sgX10_isFelt_54 {E : En} {Q : Option Value → Hi → Prop} {H : Hi} {zx1 : Int32} {zx2 : Int32} {zx3 : Int32} {zx4 : Int32} 
    (hF : ((H 99 30) ≤ zx4 → (∀ zx3_2 : Int32, zx3_2 = zx3 + (1 : Int32) → (Rm E mX10_isFelt Q 13 [some (rf E 99), some (.int zx1), some (.int zx2), some (.int zx3_2), none] [] H))) ∧ (¬ (H 99 30) ≤ zx4 → ((zx2 = 0 → (∀ zx4_5 : Int32, zx4_5 = zx4 + (1 : Int32) → (Rm E mX10_isFelt Q 54 [some (rf E 99), some (.int zx1), some (.int (0 : Int32)), some (.int zx3), some (.int zx4_5)] [] H))) ∧ (¬ zx2 = 0 → (∃ zj_6 : Nat, (zj_6 < 8 ∧ zx4 = nI zj_6) ∧ ((¬ (H 122 zj_6) = zx3 → (∀ zx4_9 : Int32, zx4_9 = zx4 + (1 : Int32) → (Rm E mX10_isFelt Q 54 [some (rf E 99), some (.int zx1), some (.int (1 : Int32)), some (.int zx3), some (.int zx4_9)] [] H))) ∧ ((H 122 zj_6) = zx3 → (∃ zj_10 : Nat, (zj_10 < 8 ∧ zx4 = nI zj_10) ∧ (∃ zj_11 : Nat, (zj_11 < 8 ∧ H 123 zj_10 = nI zj_11) ∧ ((¬ (H 111 zj_11) = (8 : Int32) → (∃ zj_13 : Nat, (zj_13 < 8 ∧ zx4 = nI zj_13) ∧ ((¬ (H 124 zj_13) = (1 : Int32) → ((¬ (0 : Int32) = (0 : Int32) → (∀ zx4_17 : Int32, zx4_17 = zx4 + (1 : Int32) → (Rm E mX10_isFelt Q 54 [some (rf E 99), some (.int zx1), some (.int (0 : Int32)), some (.int zx3), some (.int zx4_17)] [] H))) ∧ ((0 : Int32) = (0 : Int32) → (∀ zx4_19 : Int32, zx4_19 = zx4 + (1 : Int32) → (Rm E mX10_isFelt Q 54 [some (rf E 99), some (.int zx1), some (.int (1 : Int32)), some (.int zx3), some (.int zx4_19)] [] H))))) ∧ ((H 124 zj_13) = (1 : Int32) → ((¬ (0 : Int32) = (1 : Int32) → (∀ zx4_22 : Int32, zx4_22 = zx4 + (1 : Int32) → (Rm E mX10_isFelt Q 54 [some (rf E 99), some (.int zx1), some (.int (0 : Int32)), some (.int zx3), some (.int zx4_22)] [] H))) ∧ ((0 : Int32) = (1 : Int32) → (∀ zx4_24 : Int32, zx4_24 = zx4 + (1 : Int32) → (Rm E mX10_isFelt Q 54 [some (rf E 99), some (.int zx1), some (.int (1 : Int32)), some (.int zx3), some (.int zx4_24)] [] H)))))))) ∧ ((H 111 zj_11) = (8 : Int32) → (∃ zj_25 : Nat, (zj_25 < 8 ∧ zx4 = nI zj_25) ∧ ((¬ (H 124 zj_25) = (1 : Int32) → ((¬ (1 : Int32) = (0 : Int32) → (∀ zx4_29 : Int32, zx4_29 = zx4 + (1 : Int32) → (Rm E mX10_isFelt Q 54 [some (rf E 99), some (.int zx1), some (.int (0 : Int32)), some (.int zx3), some (.int zx4_29)] [] H))) ∧ ((1 : Int32) = (0 : Int32) → (∀ zx4_31 : Int32, zx4_31 = zx4 + (1 : Int32) → (Rm E mX10_isFelt Q 54 [some (rf E 99), some (.int zx1), some (.int (1 : Int32)), some (.int zx3), some (.int zx4_31)] [] H))))) ∧ ((H 124 zj_25) = (1 : Int32) → ((¬ (1 : Int32) = (1 : Int32) → (∀ zx4_34 : Int32, zx4_34 = zx4 + (1 : Int32) → (Rm E mX10_isFelt Q 54 [some (rf E 99), some (.int zx1), some (.int (0 : Int32)), some (.int zx3), some (.int zx4_34)] [] H))) ∧ ((1 : Int32) = (1 : Int32) → (∀ zx4_36 : Int32, zx4_36 = zx4 + (1 : Int32) → (Rm E mX10_isFelt Q 54 [some (rf E 99), some (.int zx1), some (.int (1 : Int32)), some (.int zx3), some (.int zx4_36)] [] H)))))))))))))))))) :
    Rm E mX10_isFelt Q 54 [some (rf E 99), some (.int zx1), some (.int zx2), some (.int zx3), some (.int zx4)] [] H := by
  refine rn_iload dX10_isFelt_54 rfl ?_
  refine rn_aload_n dX10_isFelt_56 rfl ?_
  refine rm_geti flRX10_277 rfl (by decide) rfl dX10_isFelt_57 ?_
  refine rn_icmp_ge (tgt := 131) dX10_isFelt_60 (by decide) (fun hc_1 => ?_) (fun hc_1 => ?_)
  · replace hF := hF.1 hc_1
    refine rn_iinc (w := (1 : Int32)) dX10_isFelt_131 rfl (by decide) rfl (Nat.le_of_ble_eq_true rfl) (fun zx3_2 ezx3_2 => ?_)
    replace hF := hF zx3_2 ezx3_2
    show Rn _ _ _ _ _ _ _ _ [some (rf E 99), some (.int zx1), some (.int zx2), some (.int zx3_2), some (.int zx4)] _ _ _
    refine rn_goto (tgt := 13) dX10_isFelt_134 (by decide) ?_
    exact rn_wk (L' := [some (rf E 99), some (.int zx1), some (.int zx2), some (.int zx3_2), none]) (⟨rfl, ⟨rfl, ⟨rfl, ⟨rfl, trivial⟩⟩⟩⟩) hF
  · replace hF := hF.2 hc_1
    refine rn_iload_n dX10_isFelt_63 rfl ?_
    refine rn_if_eq (tgt := 123) dX10_isFelt_64 (by decide) (fun hc_3 => ?_) (fun hc_3 => ?_)
    · replace hF := hF.1 hc_3
      refine rn_iconst (x := (0 : Int32)) dX10_isFelt_123 (by decide) ?_
      refine ra_istore_n dX10_isFelt_124 rfl (Nat.le_of_ble_eq_true rfl) ?_
      show Rn _ _ _ _ _ _ _ _ [some (rf E 99), some (.int zx1), some (.int (0 : Int32)), some (.int zx3), some (.int zx4)] _ _ _
      refine rn_iinc (w := (1 : Int32)) dX10_isFelt_125 rfl (by decide) rfl (Nat.le_of_ble_eq_true rfl) (fun zx4_5 ezx4_5 => ?_)
      replace hF := hF zx4_5 ezx4_5
      show Rn _ _ _ _ _ _ _ _ [some (rf E 99), some (.int zx1), some (.int (0 : Int32)), some (.int zx3), some (.int zx4_5)] _ _ _
      refine rn_goto (tgt := 54) dX10_isFelt_128 (by decide) ?_
      exact rn_wk (L' := [some (rf E 99), some (.int zx1), some (.int (0 : Int32)), some (.int zx3), some (.int zx4_5)]) (⟨rfl, ⟨rfl, ⟨rfl, ⟨rfl, ⟨rfl, trivial⟩⟩⟩⟩⟩) hF
    · replace hF := hF.2 hc_3
      refine rn_aload_n dX10_isFelt_67 rfl ?_
      refine rm_getr (r := 122) flRX10_77 rfl (by decide) rfl dX10_isFelt_68 ?_
      refine rn_iload dX10_isFelt_71 rfl ?_
      obtain ⟨zj_6, hzj_6, hF⟩ := hF
      refine rj_iald (j := zj_6) hzj_6 rfl (by decide) rfl (by decide) dX10_isFelt_73 ?_
      refine rn_iload_n dX10_isFelt_74 rfl ?_
      refine rn_icmp_ne (tgt := 119) dX10_isFelt_75 (by decide) (fun hc_7 => ?_) (fun hc_7 => ?_)
      · replace hF := hF.1 hc_7
        refine rn_iconst (x := (1 : Int32)) dX10_isFelt_119 (by decide) ?_
        refine rn_goto (tgt := 124) dX10_isFelt_120 (by decide) ?_
        refine ra_istore_n dX10_isFelt_124 rfl (Nat.le_of_ble_eq_true rfl) ?_
        show Rn _ _ _ _ _ _ _ _ [some (rf E 99), some (.int zx1), some (.int (1 : Int32)), some (.int zx3), some (.int zx4)] _ _ _
        refine rn_iinc (w := (1 : Int32)) dX10_isFelt_125 rfl (by decide) rfl (Nat.le_of_ble_eq_true rfl) (fun zx4_9 ezx4_9 => ?_)
        replace hF := hF zx4_9 ezx4_9
        show Rn _ _ _ _ _ _ _ _ [some (rf E 99), some (.int zx1), some (.int (1 : Int32)), some (.int zx3), some (.int zx4_9)] _ _ _
        refine rn_goto (tgt := 54) dX10_isFelt_128 (by decide) ?_
        exact rn_wk (L' := [some (rf E 99), some (.int zx1), some (.int (1 : Int32)), some (.int zx3), some (.int zx4_9)]) (⟨rfl, ⟨rfl, ⟨rfl, ⟨rfl, ⟨rfl, trivial⟩⟩⟩⟩⟩) hF
      · replace hF := hF.2 hc_7
        refine rn_aload_n dX10_isFelt_78 rfl ?_
        refine rm_getr (r := 111) flRX10_43 rfl (by decide) rfl dX10_isFelt_79 ?_
        refine rn_aload_n dX10_isFelt_82 rfl ?_
        refine rm_getr (r := 123) flRX10_80 rfl (by decide) rfl dX10_isFelt_83 ?_
        refine rn_iload dX10_isFelt_86 rfl ?_
        obtain ⟨zj_10, hzj_10, hF⟩ := hF
        refine rj_iald (j := zj_10) hzj_10 rfl (by decide) rfl (by decide) dX10_isFelt_88 ?_
        obtain ⟨zj_11, hzj_11, hF⟩ := hF
        refine rj_iald (j := zj_11) hzj_11 rfl (by decide) rfl (by decide) dX10_isFelt_89 ?_
        refine rn_bipush (x := (8 : Int32)) dX10_isFelt_90 (by decide) ?_
        refine rn_icmp_ne (tgt := 99) dX10_isFelt_92 (by decide) (fun hc_12 => ?_) (fun hc_12 => ?_)
        · replace hF := hF.1 hc_12
          refine rn_iconst (x := (0 : Int32)) dX10_isFelt_99 (by decide) ?_
          refine rn_aload_n dX10_isFelt_100 rfl ?_
          refine rm_getr (r := 124) flRX10_83 rfl (by decide) rfl dX10_isFelt_101 ?_
          refine rn_iload dX10_isFelt_104 rfl ?_
          obtain ⟨zj_13, hzj_13, hF⟩ := hF
          refine rj_iald (j := zj_13) hzj_13 rfl (by decide) rfl (by decide) dX10_isFelt_106 ?_
          refine rn_iconst (x := (1 : Int32)) dX10_isFelt_107 (by decide) ?_
          refine rn_icmp_ne (tgt := 115) dX10_isFelt_108 (by decide) (fun hc_14 => ?_) (fun hc_14 => ?_)
          · replace hF := hF.1 hc_14
            refine rn_iconst (x := (0 : Int32)) dX10_isFelt_115 (by decide) ?_
            refine rn_icmp_ne (tgt := 123) dX10_isFelt_116 (by decide) (fun hc_15 => ?_) (fun hc_15 => ?_)
            · replace hF := hF.1 hc_15
              refine rn_iconst (x := (0 : Int32)) dX10_isFelt_123 (by decide) ?_
              refine ra_istore_n dX10_isFelt_124 rfl (Nat.le_of_ble_eq_true rfl) ?_
              show Rn _ _ _ _ _ _ _ _ [some (rf E 99), some (.int zx1), some (.int (0 : Int32)), some (.int zx3), some (.int zx4)] _ _ _
              refine rn_iinc (w := (1 : Int32)) dX10_isFelt_125 rfl (by decide) rfl (Nat.le_of_ble_eq_true rfl) (fun zx4_17 ezx4_17 => ?_)
              replace hF := hF zx4_17 ezx4_17
              show Rn _ _ _ _ _ _ _ _ [some (rf E 99), some (.int zx1), some (.int (0 : Int32)), some (.int zx3), some (.int zx4_17)] _ _ _
              refine rn_goto (tgt := 54) dX10_isFelt_128 (by decide) ?_
              exact rn_wk (L' := [some (rf E 99), some (.int zx1), some (.int (0 : Int32)), some (.int zx3), some (.int zx4_17)]) (⟨rfl, ⟨rfl, ⟨rfl, ⟨rfl, ⟨rfl, trivial⟩⟩⟩⟩⟩) hF
            · replace hF := hF.2 hc_15
              refine rn_iconst (x := (1 : Int32)) dX10_isFelt_119 (by decide) ?_
              refine rn_goto (tgt := 124) dX10_isFelt_120 (by decide) ?_
              refine ra_istore_n dX10_isFelt_124 rfl (Nat.le_of_ble_eq_true rfl) ?_
              show Rn _ _ _ _ _ _ _ _ [some (rf E 99), some (.int zx1), some (.int (1 : Int32)), some (.int zx3), some (.int zx4)] _ _ _
              refine rn_iinc (w := (1 : Int32)) dX10_isFelt_125 rfl (by decide) rfl (Nat.le_of_ble_eq_true rfl) (fun zx4_19 ezx4_19 => ?_)
              replace hF := hF zx4_19 ezx4_19
              show Rn _ _ _ _ _ _ _ _ [some (rf E 99), some (.int zx1), some (.int (1 : Int32)), some (.int zx3), some (.int zx4_19)] _ _ _
              refine rn_goto (tgt := 54) dX10_isFelt_128 (by decide) ?_
              exact rn_wk (L' := [some (rf E 99), some (.int zx1), some (.int (1 : Int32)), some (.int zx3), some (.int zx4_19)]) (⟨rfl, ⟨rfl, ⟨rfl, ⟨rfl, ⟨rfl, trivial⟩⟩⟩⟩⟩) hF
          · replace hF := hF.2 hc_14
            refine rn_iconst (x := (1 : Int32)) dX10_isFelt_111 (by decide) ?_
            refine rn_goto (tgt := 116) dX10_isFelt_112 (by decide) ?_
            refine rn_icmp_ne (tgt := 123) dX10_isFelt_116 (by decide) (fun hc_20 => ?_) (fun hc_20 => ?_)
            · replace hF := hF.1 hc_20
              refine rn_iconst (x := (0 : Int32)) dX10_isFelt_123 (by decide) ?_
              refine ra_istore_n dX10_isFelt_124 rfl (Nat.le_of_ble_eq_true rfl) ?_
              show Rn _ _ _ _ _ _ _ _ [some (rf E 99), some (.int zx1), some (.int (0 : Int32)), some (.int zx3), some (.int zx4)] _ _ _
              refine rn_iinc (w := (1 : Int32)) dX10_isFelt_125 rfl (by decide) rfl (Nat.le_of_ble_eq_true rfl) (fun zx4_22 ezx4_22 => ?_)
              replace hF := hF zx4_22 ezx4_22
              show Rn _ _ _ _ _ _ _ _ [some (rf E 99), some (.int zx1), some (.int (0 : Int32)), some (.int zx3), some (.int zx4_22)] _ _ _
              refine rn_goto (tgt := 54) dX10_isFelt_128 (by decide) ?_
              exact rn_wk (L' := [some (rf E 99), some (.int zx1), some (.int (0 : Int32)), some (.int zx3), some (.int zx4_22)]) (⟨rfl, ⟨rfl, ⟨rfl, ⟨rfl, ⟨rfl, trivial⟩⟩⟩⟩⟩) hF
            · replace hF := hF.2 hc_20
              refine rn_iconst (x := (1 : Int32)) dX10_isFelt_119 (by decide) ?_
              refine rn_goto (tgt := 124) dX10_isFelt_120 (by decide) ?_
              refine ra_istore_n dX10_isFelt_124 rfl (Nat.le_of_ble_eq_true rfl) ?_
              show Rn _ _ _ _ _ _ _ _ [some (rf E 99), some (.int zx1), some (.int (1 : Int32)), some (.int zx3), some (.int zx4)] _ _ _
              refine rn_iinc (w := (1 : Int32)) dX10_isFelt_125 rfl (by decide) rfl (Nat.le_of_ble_eq_true rfl) (fun zx4_24 ezx4_24 => ?_)
              replace hF := hF zx4_24 ezx4_24
              show Rn _ _ _ _ _ _ _ _ [some (rf E 99), some (.int zx1), some (.int (1 : Int32)), some (.int zx3), some (.int zx4_24)] _ _ _
              refine rn_goto (tgt := 54) dX10_isFelt_128 (by decide) ?_
              exact rn_wk (L' := [some (rf E 99), some (.int zx1), some (.int (1 : Int32)), some (.int zx3), some (.int zx4_24)]) (⟨rfl, ⟨rfl, ⟨rfl, ⟨rfl, ⟨rfl, trivial⟩⟩⟩⟩⟩) hF
        · replace hF := hF.2 hc_12
          refine rn_iconst (x := (1 : Int32)) dX10_isFelt_95 (by decide) ?_
          refine rn_goto (tgt := 100) dX10_isFelt_96 (by decide) ?_
          refine rn_aload_n dX10_isFelt_100 rfl ?_
          refine rm_getr (r := 124) flRX10_83 rfl (by decide) rfl dX10_isFelt_101 ?_
          refine rn_iload dX10_isFelt_104 rfl ?_
          obtain ⟨zj_25, hzj_25, hF⟩ := hF
          refine rj_iald (j := zj_25) hzj_25 rfl (by decide) rfl (by decide) dX10_isFelt_106 ?_
          refine rn_iconst (x := (1 : Int32)) dX10_isFelt_107 (by decide) ?_
          refine rn_icmp_ne (tgt := 115) dX10_isFelt_108 (by decide) (fun hc_26 => ?_) (fun hc_26 => ?_)
          · replace hF := hF.1 hc_26
            refine rn_iconst (x := (0 : Int32)) dX10_isFelt_115 (by decide) ?_
            refine rn_icmp_ne (tgt := 123) dX10_isFelt_116 (by decide) (fun hc_27 => ?_) (fun hc_27 => ?_)
            · replace hF := hF.1 hc_27
              refine rn_iconst (x := (0 : Int32)) dX10_isFelt_123 (by decide) ?_
              refine ra_istore_n dX10_isFelt_124 rfl (Nat.le_of_ble_eq_true rfl) ?_
              show Rn _ _ _ _ _ _ _ _ [some (rf E 99), some (.int zx1), some (.int (0 : Int32)), some (.int zx3), some (.int zx4)] _ _ _
              refine rn_iinc (w := (1 : Int32)) dX10_isFelt_125 rfl (by decide) rfl (Nat.le_of_ble_eq_true rfl) (fun zx4_29 ezx4_29 => ?_)
              replace hF := hF zx4_29 ezx4_29
              show Rn _ _ _ _ _ _ _ _ [some (rf E 99), some (.int zx1), some (.int (0 : Int32)), some (.int zx3), some (.int zx4_29)] _ _ _
              refine rn_goto (tgt := 54) dX10_isFelt_128 (by decide) ?_
              exact rn_wk (L' := [some (rf E 99), some (.int zx1), some (.int (0 : Int32)), some (.int zx3), some (.int zx4_29)]) (⟨rfl, ⟨rfl, ⟨rfl, ⟨rfl, ⟨rfl, trivial⟩⟩⟩⟩⟩) hF
            · replace hF := hF.2 hc_27
              refine rn_iconst (x := (1 : Int32)) dX10_isFelt_119 (by decide) ?_
              refine rn_goto (tgt := 124) dX10_isFelt_120 (by decide) ?_
              refine ra_istore_n dX10_isFelt_124 rfl (Nat.le_of_ble_eq_true rfl) ?_
              show Rn _ _ _ _ _ _ _ _ [some (rf E 99), some (.int zx1), some (.int (1 : Int32)), some (.int zx3), some (.int zx4)] _ _ _
              refine rn_iinc (w := (1 : Int32)) dX10_isFelt_125 rfl (by decide) rfl (Nat.le_of_ble_eq_true rfl) (fun zx4_31 ezx4_31 => ?_)
              replace hF := hF zx4_31 ezx4_31
              show Rn _ _ _ _ _ _ _ _ [some (rf E 99), some (.int zx1), some (.int (1 : Int32)), some (.int zx3), some (.int zx4_31)] _ _ _
              refine rn_goto (tgt := 54) dX10_isFelt_128 (by decide) ?_
              exact rn_wk (L' := [some (rf E 99), some (.int zx1), some (.int (1 : Int32)), some (.int zx3), some (.int zx4_31)]) (⟨rfl, ⟨rfl, ⟨rfl, ⟨rfl, ⟨rfl, trivial⟩⟩⟩⟩⟩) hF
          · replace hF := hF.2 hc_26
            refine rn_iconst (x := (1 : Int32)) dX10_isFelt_111 (by decide) ?_
            refine rn_goto (tgt := 116) dX10_isFelt_112 (by decide) ?_
            refine rn_icmp_ne (tgt := 123) dX10_isFelt_116 (by decide) (fun hc_32 => ?_) (fun hc_32 => ?_)
            · replace hF := hF.1 hc_32
              refine rn_iconst (x := (0 : Int32)) dX10_isFelt_123 (by decide) ?_
              refine ra_istore_n dX10_isFelt_124 rfl (Nat.le_of_ble_eq_true rfl) ?_
              show Rn _ _ _ _ _ _ _ _ [some (rf E 99), some (.int zx1), some (.int (0 : Int32)), some (.int zx3), some (.int zx4)] _ _ _
              refine rn_iinc (w := (1 : Int32)) dX10_isFelt_125 rfl (by decide) rfl (Nat.le_of_ble_eq_true rfl) (fun zx4_34 ezx4_34 => ?_)
              replace hF := hF zx4_34 ezx4_34
              show Rn _ _ _ _ _ _ _ _ [some (rf E 99), some (.int zx1), some (.int (0 : Int32)), some (.int zx3), some (.int zx4_34)] _ _ _
              refine rn_goto (tgt := 54) dX10_isFelt_128 (by decide) ?_
              exact rn_wk (L' := [some (rf E 99), some (.int zx1), some (.int (0 : Int32)), some (.int zx3), some (.int zx4_34)]) (⟨rfl, ⟨rfl, ⟨rfl, ⟨rfl, ⟨rfl, trivial⟩⟩⟩⟩⟩) hF
            · replace hF := hF.2 hc_32
              refine rn_iconst (x := (1 : Int32)) dX10_isFelt_119 (by decide) ?_
              refine rn_goto (tgt := 124) dX10_isFelt_120 (by decide) ?_
              refine ra_istore_n dX10_isFelt_124 rfl (Nat.le_of_ble_eq_true rfl) ?_
              show Rn _ _ _ _ _ _ _ _ [some (rf E 99), some (.int zx1), some (.int (1 : Int32)), some (.int zx3), some (.int zx4)] _ _ _
              refine rn_iinc (w := (1 : Int32)) dX10_isFelt_125 rfl (by decide) rfl (Nat.le_of_ble_eq_true rfl) (fun zx4_36 ezx4_36 => ?_)
              replace hF := hF zx4_36 ezx4_36
              show Rn _ _ _ _ _ _ _ _ [some (rf E 99), some (.int zx1), some (.int (1 : Int32)), some (.int zx3), some (.int zx4_36)] _ _ _
              refine rn_goto (tgt := 54) dX10_isFelt_128 (by decide) ?_
              exact rn_wk (L' := [some (rf E 99), some (.int zx1), some (.int (1 : Int32)), some (.int zx3), some (.int zx4_36)]) (⟨rfl, ⟨rfl, ⟨rfl, ⟨rfl, ⟨rfl, trivial⟩⟩⟩⟩⟩) hF
theorem sgX10_whenOf_0 {E : En} {Q : Option Value → Hi → Prop} {H : Hi} {zx1 : Int32} {zx2 : Int32} 
    (hF : Cm E mX10_reads [rf E 99] H (fun w zH_1 => w = none ∧ (Cm E mX10_asTold [rf E 99] zH_1 (fun w zH_2 => w = none ∧ (∀ zH_3 : Hi, zH_3 = up zH_2 99 22 ((zH_2 99 22) + (1 : Int32)) → (∃ zj_4 : Nat, (zj_4 < 44 ∧ zH_3 99 11 = nI zj_4) ∧ (∀ zH_5 : Hi, zH_5 = up zH_3 108 zj_4 (((64 : Int32) + ((8 : Int32) * zx1)) + zx2) → (Rm E mX10_whenOf Q 41 [some (rf E 99), none, some (.int zx2), some (.int (0 : Int32)), some (.int (0 : Int32))] [] zH_5)))))))) :
    Rm E mX10_whenOf Q 0 [some (rf E 99), some (.int zx1), some (.int zx2), none, none] [] H := by
  refine rn_aload_n dX10_whenOf_0 rfl ?_
  refine rm_callV (c0 := 99) (As := []) (st := []) mlRX10_144 mdX10_reads (Nat.le_of_ble_eq_true rfl) rfl (by decide) (by decide) rfl rfl rfl (Nat.le_of_ble_eq_true rfl) ⟨Nat.le_refl _, Nat.le_refl _⟩ dX10_whenOf_1 ?_
  refine cm_mono hF (fun w zH_1 hF => ?_)
  obtain ⟨rfl, hF⟩ := hF
  refine rn_aload_n dX10_whenOf_4 rfl ?_
  refine rm_callV (c0 := 99) (As := []) (st := []) mlRX10_215 mdX10_asTold (Nat.le_of_ble_eq_true rfl) rfl (by decide) (by decide) rfl rfl rfl (Nat.le_of_ble_eq_true rfl) ⟨Nat.le_refl _, Nat.le_refl _⟩ dX10_whenOf_5 ?_
  refine cm_mono hF (fun w zH_2 hF => ?_)
  obtain ⟨rfl, hF⟩ := hF
  refine rn_aload_n dX10_whenOf_8 rfl ?_
  refine rn_dup dX10_whenOf_9 rfl ?_
  refine rm_geti flRX10_179 rfl (by decide) rfl dX10_whenOf_10 ?_
  refine rn_iconst (x := (1 : Int32)) dX10_whenOf_13 (by decide) ?_
  refine rn_iadd dX10_whenOf_14 ?_
  refine rm_puti flRX10_179 rfl (by decide) rfl dX10_whenOf_15 (fun zH_3 ezH_3 => ?_)
  replace hF := hF zH_3 ezH_3
  refine rn_aload_n dX10_whenOf_18 rfl ?_
  refine rm_getr (r := 108) flRX10_34 rfl (by decide) rfl dX10_whenOf_19 ?_
  refine rn_aload_n dX10_whenOf_22 rfl ?_
  refine rm_geti flRX10_163 rfl (by decide) rfl dX10_whenOf_23 ?_
  refine rn_bipush (x := (64 : Int32)) dX10_whenOf_26 (by decide) ?_
  refine rn_bipush (x := (8 : Int32)) dX10_whenOf_28 (by decide) ?_
  refine rn_iload_n dX10_whenOf_30 rfl ?_
  refine rn_imul dX10_whenOf_31 ?_
  refine rn_iadd dX10_whenOf_32 ?_
  refine rn_iload_n dX10_whenOf_33 rfl ?_
  refine rn_iadd dX10_whenOf_34 ?_
  obtain ⟨zj_4, hzj_4, hF⟩ := hF
  refine rj_iast (j := zj_4) hzj_4 rfl (by decide) rfl (by decide) dX10_whenOf_35 (fun zH_5 ezH_5 => ?_)
  replace hF := hF zH_5 ezH_5
  refine rn_iconst (x := (0 : Int32)) dX10_whenOf_36 (by decide) ?_
  refine ra_istore_n dX10_whenOf_37 rfl (Nat.le_of_ble_eq_true rfl) ?_
  show Rn _ _ _ _ _ _ _ _ [some (rf E 99), some (.int zx1), some (.int zx2), some (.int (0 : Int32)), none] _ _ _
  refine rn_iconst (x := (0 : Int32)) dX10_whenOf_38 (by decide) ?_
  refine ra_istore dX10_whenOf_39 rfl (Nat.le_of_ble_eq_true rfl) ?_
  show Rn _ _ _ _ _ _ _ _ [some (rf E 99), some (.int zx1), some (.int zx2), some (.int (0 : Int32)), some (.int (0 : Int32))] _ _ _
  exact rn_wk (L' := [some (rf E 99), none, some (.int zx2), some (.int (0 : Int32)), some (.int (0 : Int32))]) (⟨rfl, ⟨rfl, ⟨rfl, ⟨rfl, trivial⟩⟩⟩⟩) hF
theorem cmX10_whenOf {E : En} {Q : Option Value → Hi → Prop} {H : Hi} {zx1 : Int32} {zx2 : Int32} 
    (hF : Cm E mX10_reads [rf E 99] H (fun w zH_1 => w = none ∧ (Cm E mX10_asTold [rf E 99] zH_1 (fun w zH_2 => w = none ∧ (∀ zH_3 : Hi, zH_3 = up zH_2 99 22 ((zH_2 99 22) + (1 : Int32)) → (∃ zj_4 : Nat, (zj_4 < 44 ∧ zH_3 99 11 = nI zj_4) ∧ (∀ zH_5 : Hi, zH_5 = up zH_3 108 zj_4 (((64 : Int32) + ((8 : Int32) * zx1)) + zx2) → (Rm E mX10_whenOf Q 41 [some (rf E 99), none, some (.int zx2), some (.int (0 : Int32)), some (.int (0 : Int32))] [] zH_5)))))))) :
    Cm E mX10_whenOf [rf E 99, .int zx1, .int zx2] H Q :=
  cm_of (by decide +kernel : plainName RX10 = true) (Nat.le_of_ble_eq_true rfl) rfl (sgX10_whenOf_0  hF)
theorem sgX10_whenOf_41 {E : En} {Q : Option Value → Hi → Prop} {H : Hi} {zx2 : Int32} {zx3 : Int32} {zx4 : Int32} 
    (hF : ((24 : Int32) ≤ zx4 → (Q (some (.int zx3)) H)) ∧ (¬ (24 : Int32) ≤ zx4 → (∃ zj_2 : Nat, (zj_2 < 44 ∧ H 99 11 = nI zj_2) ∧ (∀ zH_3 : Hi, zH_3 = up H 107 zj_2 zx4 → (Cm E mX10_isFelt [rf E 99, .int zx2] zH_3 (fun w zH_4 => ∃ zr_5 : Int32, w = some (.int zr_5) ∧ ((zr_5 = 0 → (∀ zx3_7 : Int32, zx3_7 = zx3 ||| (0 : Int32) → (∀ zx4_8 : Int32, zx4_8 = zx4 + (1 : Int32) → (Rm E mX10_whenOf Q 41 [some (rf E 99), none, some (.int zx2), some (.int zx3_7), some (.int zx4_8)] [] zH_4)))) ∧ (¬ zr_5 = 0 → (∀ zx3_9 : Int32, zx3_9 = zx3 ||| ((1 : Int32) <<< (zx4 &&& 31)) → (∀ zx4_10 : Int32, zx4_10 = zx4 + (1 : Int32) → (Rm E mX10_whenOf Q 41 [some (rf E 99), none, some (.int zx2), some (.int zx3_9), some (.int zx4_10)] [] zH_4))))))))))) :
    Rm E mX10_whenOf Q 41 [some (rf E 99), none, some (.int zx2), some (.int zx3), some (.int zx4)] [] H := by
  refine rn_iload dX10_whenOf_41 rfl ?_
  refine rn_bipush (x := (24 : Int32)) dX10_whenOf_43 (by decide) ?_
  refine rn_icmp_ge (tgt := 84) dX10_whenOf_45 (by decide) (fun hc_1 => ?_) (fun hc_1 => ?_)
  · replace hF := hF.1 hc_1
    refine rn_iload_n dX10_whenOf_84 rfl ?_
    exact rm_iret rfl dX10_whenOf_85 hF
  · replace hF := hF.2 hc_1
    refine rn_aload_n dX10_whenOf_48 rfl ?_
    refine rm_getr (r := 107) flRX10_31 rfl (by decide) rfl dX10_whenOf_49 ?_
    refine rn_aload_n dX10_whenOf_52 rfl ?_
    refine rm_geti flRX10_163 rfl (by decide) rfl dX10_whenOf_53 ?_
    refine rn_iload dX10_whenOf_56 rfl ?_
    obtain ⟨zj_2, hzj_2, hF⟩ := hF
    refine rj_iast (j := zj_2) hzj_2 rfl (by decide) rfl (by decide) dX10_whenOf_58 (fun zH_3 ezH_3 => ?_)
    replace hF := hF zH_3 ezH_3
    refine rn_iload_n dX10_whenOf_59 rfl ?_
    refine rn_aload_n dX10_whenOf_60 rfl ?_
    refine rn_iload_n dX10_whenOf_61 rfl ?_
    refine rm_callV (c0 := 99) (As := [.int zx2]) (st := [.int zx3]) mlRX10_283 mdX10_isFelt (Nat.le_of_ble_eq_true rfl) rfl (by decide) (by decide) rfl rfl rfl (Nat.le_of_ble_eq_true rfl) ⟨Nat.le_refl _, Nat.le_refl _⟩ dX10_whenOf_62 ?_
    refine cm_mono hF (fun w zH_4 hF => ?_)
    obtain ⟨zr_5, rfl, hF⟩ := hF
    refine rn_if_eq (tgt := 75) dX10_whenOf_65 (by decide) (fun hc_6 => ?_) (fun hc_6 => ?_)
    · replace hF := hF.1 hc_6
      refine rn_iconst (x := (0 : Int32)) dX10_whenOf_75 (by decide) ?_
      refine rn_ior dX10_whenOf_76 ?_
      refine rn_istore_n dX10_whenOf_77 rfl (Nat.le_of_ble_eq_true rfl) (fun zx3_7 ezx3_7 => ?_)
      replace hF := hF zx3_7 ezx3_7
      show Rn _ _ _ _ _ _ _ _ [some (rf E 99), none, some (.int zx2), some (.int zx3_7), some (.int zx4)] _ _ _
      refine rn_iinc (w := (1 : Int32)) dX10_whenOf_78 rfl (by decide) rfl (Nat.le_of_ble_eq_true rfl) (fun zx4_8 ezx4_8 => ?_)
      replace hF := hF zx4_8 ezx4_8
      show Rn _ _ _ _ _ _ _ _ [some (rf E 99), none, some (.int zx2), some (.int zx3_7), some (.int zx4_8)] _ _ _
      refine rn_goto (tgt := 41) dX10_whenOf_81 (by decide) ?_
      exact rn_wk (L' := [some (rf E 99), none, some (.int zx2), some (.int zx3_7), some (.int zx4_8)]) (⟨rfl, ⟨rfl, ⟨rfl, ⟨rfl, trivial⟩⟩⟩⟩) hF
    · replace hF := hF.2 hc_6
      refine rn_iconst (x := (1 : Int32)) dX10_whenOf_68 (by decide) ?_
      refine rn_iload dX10_whenOf_69 rfl ?_
      refine rn_ishl dX10_whenOf_71 ?_
      refine rn_goto (tgt := 76) dX10_whenOf_72 (by decide) ?_
      refine rn_ior dX10_whenOf_76 ?_
      refine rn_istore_n dX10_whenOf_77 rfl (Nat.le_of_ble_eq_true rfl) (fun zx3_9 ezx3_9 => ?_)
      replace hF := hF zx3_9 ezx3_9
      show Rn _ _ _ _ _ _ _ _ [some (rf E 99), none, some (.int zx2), some (.int zx3_9), some (.int zx4)] _ _ _
      refine rn_iinc (w := (1 : Int32)) dX10_whenOf_78 rfl (by decide) rfl (Nat.le_of_ble_eq_true rfl) (fun zx4_10 ezx4_10 => ?_)
      replace hF := hF zx4_10 ezx4_10
      show Rn _ _ _ _ _ _ _ _ [some (rf E 99), none, some (.int zx2), some (.int zx3_9), some (.int zx4_10)] _ _ _
      refine rn_goto (tgt := 41) dX10_whenOf_81 (by decide) ?_
      exact rn_wk (L' := [some (rf E 99), none, some (.int zx2), some (.int zx3_9), some (.int zx4_10)]) (⟨rfl, ⟨rfl, ⟨rfl, ⟨rfl, trivial⟩⟩⟩⟩) hF
theorem sgX10_when_0 {E : En} {Q : Option Value → Hi → Prop} {H : Hi} {zx1 : Int32} {zx2 : Int32} 
    (hF : Cm E mX10_isCousin [rf E 99, .int zx1] H (fun w zH_1 => ∃ zr_2 : Int32, w = some (.int zr_2) ∧ ((zr_2 = 0 → (Q (some (.int (-2 : Int32))) zH_1)) ∧ (¬ zr_2 = 0 → (Cm E mX10_isThing [rf E 99, .int zx2] zH_1 (fun w zH_4 => ∃ zr_5 : Int32, w = some (.int zr_5) ∧ ((zr_5 = 0 → (Q (some (.int (-2 : Int32))) zH_4)) ∧ (¬ zr_5 = 0 → (Cm E mX10_whenOf [rf E 99, .int zx1, .int zx2] zH_4 (fun w zH_7 => ∃ zr_8 : Int32, w = some (.int zr_8) ∧ (Q (some (.int zr_8)) zH_7))))))))))) :
    Rm E mX10_when Q 0 [some (rf E 99), some (.int zx1), some (.int zx2)] [] H := by
  refine rn_aload_n dX10_when_0 rfl ?_
  refine rn_iload_n dX10_when_1 rfl ?_
  refine rm_callV (c0 := 99) (As := [.int zx1]) (st := []) mlRX10_153 mdX10_isCousin (Nat.le_of_ble_eq_true rfl) rfl (by decide) (by decide) rfl rfl rfl (Nat.le_of_ble_eq_true rfl) ⟨Nat.le_refl _, Nat.le_refl _⟩ dX10_when_2 ?_
  refine cm_mono hF (fun w zH_1 hF => ?_)
  obtain ⟨zr_2, rfl, hF⟩ := hF
  refine rn_if_eq (tgt := 25) dX10_when_5 (by decide) (fun hc_3 => ?_) (fun hc_3 => ?_)
  · replace hF := hF.1 hc_3
    refine rn_bipush (x := (-2 : Int32)) dX10_when_25 (by decide) ?_
    exact rm_iret rfl dX10_when_27 hF
  · replace hF := hF.2 hc_3
    refine rn_aload_n dX10_when_8 rfl ?_
    refine rn_iload_n dX10_when_9 rfl ?_
    refine rm_callV (c0 := 99) (As := [.int zx2]) (st := []) mlRX10_147 mdX10_isThing (Nat.le_of_ble_eq_true rfl) rfl (by decide) (by decide) rfl rfl rfl (Nat.le_of_ble_eq_true rfl) ⟨Nat.le_refl _, Nat.le_refl _⟩ dX10_when_10 ?_
    refine cm_mono hF (fun w zH_4 hF => ?_)
    obtain ⟨zr_5, rfl, hF⟩ := hF
    refine rn_if_eq (tgt := 25) dX10_when_13 (by decide) (fun hc_6 => ?_) (fun hc_6 => ?_)
    · replace hF := hF.1 hc_6
      refine rn_bipush (x := (-2 : Int32)) dX10_when_25 (by decide) ?_
      exact rm_iret rfl dX10_when_27 hF
    · replace hF := hF.2 hc_6
      refine rn_aload_n dX10_when_16 rfl ?_
      refine rn_iload_n dX10_when_17 rfl ?_
      refine rn_iload_n dX10_when_18 rfl ?_
      refine rm_callV (c0 := 99) (As := [.int zx1, .int zx2]) (st := []) mlRX10_286 mdX10_whenOf (Nat.le_of_ble_eq_true rfl) rfl (by decide) (by decide) rfl rfl rfl (Nat.le_of_ble_eq_true rfl) ⟨Nat.le_refl _, Nat.le_refl _⟩ dX10_when_19 ?_
      refine cm_mono hF (fun w zH_7 hF => ?_)
      obtain ⟨zr_8, rfl, hF⟩ := hF
      refine rn_goto (tgt := 27) dX10_when_22 (by decide) ?_
      exact rm_iret rfl dX10_when_27 hF
theorem cmX10_when {E : En} {Q : Option Value → Hi → Prop} {H : Hi} {zx1 : Int32} {zx2 : Int32} 
    (hF : Cm E mX10_isCousin [rf E 99, .int zx1] H (fun w zH_1 => ∃ zr_2 : Int32, w = some (.int zr_2) ∧ ((zr_2 = 0 → (Q (some (.int (-2 : Int32))) zH_1)) ∧ (¬ zr_2 = 0 → (Cm E mX10_isThing [rf E 99, .int zx2] zH_1 (fun w zH_4 => ∃ zr_5 : Int32, w = some (.int zr_5) ∧ ((zr_5 = 0 → (Q (some (.int (-2 : Int32))) zH_4)) ∧ (¬ zr_5 = 0 → (Cm E mX10_whenOf [rf E 99, .int zx1, .int zx2] zH_4 (fun w zH_7 => ∃ zr_8 : Int32, w = some (.int zr_8) ∧ (Q (some (.int zr_8)) zH_7))))))))))) :
    Cm E mX10_when [rf E 99, .int zx1, .int zx2] H Q :=
  cm_of (by decide +kernel : plainName RX10 = true) (Nat.le_of_ble_eq_true rfl) rfl (sgX10_when_0  hF)
