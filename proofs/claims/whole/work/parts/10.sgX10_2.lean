theorem sgX10_lendBy_0 {E : En} {Q : Option Value → Hi → Prop} {H : Hi} {x1 : Int32} {x2 : Int32} {x3 : Int32} {x4 : Int32} 
    (hF : (x3 ≤ x4 → (Cm E mX10_runsTold [rf E 99, .int (x3 - (1 : Int32))] H (fun w H_2 => w = none ∧ ((¬ x3 = 0 → ((x3 ≤ x4 → (Cm E mX10_putsBack [rf E 99] H_2 (fun w H_5 => w = none ∧ (Cm E mX10_handsOf [rf E 99, .int x3] H_5 (fun w H_6 => w = none ∧ (Cm E mX10_keeps [rf E 99] H_6 (fun w H_7 => w = none ∧ (Cm E mX10_lends [rf E 99, .int (-1 : Int32), .int (-1 : Int32), .int x1, .int x2, .int x3, .int x4] H_7 (fun w H_8 => ∃ r_9 : Int32, w = some (.int r_9) ∧ ((r_9 = 0 → (Rm E mX10_lendBy Q 80 [some (rf E 99), some (.int x1), some (.int x2), some (.int x3), some (.int x4), some (.int (0 : Int32)), none] [] H_8)) ∧ (¬ r_9 = 0 → (Q (some (.int (0 : Int32))) H_8)))))))))))) ∧ (¬ x3 ≤ x4 → (∃ j_12 : Nat, (j_12 < 8 ∧ x2 = nI j_12) ∧ ((¬ (H_2 111 j_12) = x1 → (Q (some (.int (-1 : Int32))) H_2)) ∧ ((H_2 111 j_12) = x1 → (Q (some (.int (0 : Int32))) H_2))))))) ∧ (x3 = 0 → (Cm E mX10_begins [rf E 99] H_2 (fun w H_14 => w = none ∧ ((x3 ≤ x4 → (Cm E mX10_putsBack [rf E 99] H_14 (fun w H_16 => w = none ∧ (Cm E mX10_handsOf [rf E 99, .int x3] H_16 (fun w H_17 => w = none ∧ (Cm E mX10_keeps [rf E 99] H_17 (fun w H_18 => w = none ∧ (Cm E mX10_lends [rf E 99, .int (-1 : Int32), .int (-1 : Int32), .int x1, .int x2, .int x3, .int x4] H_18 (fun w H_19 => ∃ r_20 : Int32, w = some (.int r_20) ∧ ((r_20 = 0 → (Rm E mX10_lendBy Q 80 [some (rf E 99), some (.int x1), some (.int x2), some (.int x3), some (.int x4), some (.int (0 : Int32)), none] [] H_19)) ∧ (¬ r_20 = 0 → (Q (some (.int (0 : Int32))) H_19)))))))))))) ∧ (¬ x3 ≤ x4 → (∃ j_23 : Nat, (j_23 < 8 ∧ x2 = nI j_23) ∧ ((¬ (H_14 111 j_23) = x1 → (Q (some (.int (-1 : Int32))) H_14)) ∧ ((H_14 111 j_23) = x1 → (Q (some (.int (0 : Int32))) H_14))))))))))))) ∧ (¬ x3 ≤ x4 → (Cm E mX10_runsTold [rf E 99, .int x4] H (fun w H_25 => w = none ∧ ((¬ x3 = 0 → ((x3 ≤ x4 → (Cm E mX10_putsBack [rf E 99] H_25 (fun w H_28 => w = none ∧ (Cm E mX10_handsOf [rf E 99, .int x3] H_28 (fun w H_29 => w = none ∧ (Cm E mX10_keeps [rf E 99] H_29 (fun w H_30 => w = none ∧ (Cm E mX10_lends [rf E 99, .int (-1 : Int32), .int (-1 : Int32), .int x1, .int x2, .int x3, .int x4] H_30 (fun w H_31 => ∃ r_32 : Int32, w = some (.int r_32) ∧ ((r_32 = 0 → (Rm E mX10_lendBy Q 80 [some (rf E 99), some (.int x1), some (.int x2), some (.int x3), some (.int x4), some (.int (0 : Int32)), none] [] H_31)) ∧ (¬ r_32 = 0 → (Q (some (.int (0 : Int32))) H_31)))))))))))) ∧ (¬ x3 ≤ x4 → (∃ j_35 : Nat, (j_35 < 8 ∧ x2 = nI j_35) ∧ ((¬ (H_25 111 j_35) = x1 → (Q (some (.int (-1 : Int32))) H_25)) ∧ ((H_25 111 j_35) = x1 → (Q (some (.int (0 : Int32))) H_25))))))) ∧ (x3 = 0 → (Cm E mX10_begins [rf E 99] H_25 (fun w H_37 => w = none ∧ ((x3 ≤ x4 → (Cm E mX10_putsBack [rf E 99] H_37 (fun w H_39 => w = none ∧ (Cm E mX10_handsOf [rf E 99, .int x3] H_39 (fun w H_40 => w = none ∧ (Cm E mX10_keeps [rf E 99] H_40 (fun w H_41 => w = none ∧ (Cm E mX10_lends [rf E 99, .int (-1 : Int32), .int (-1 : Int32), .int x1, .int x2, .int x3, .int x4] H_41 (fun w H_42 => ∃ r_43 : Int32, w = some (.int r_43) ∧ ((r_43 = 0 → (Rm E mX10_lendBy Q 80 [some (rf E 99), some (.int x1), some (.int x2), some (.int x3), some (.int x4), some (.int (0 : Int32)), none] [] H_42)) ∧ (¬ r_43 = 0 → (Q (some (.int (0 : Int32))) H_42)))))))))))) ∧ (¬ x3 ≤ x4 → (∃ j_46 : Nat, (j_46 < 8 ∧ x2 = nI j_46) ∧ ((¬ (H_37 111 j_46) = x1 → (Q (some (.int (-1 : Int32))) H_37)) ∧ ((H_37 111 j_46) = x1 → (Q (some (.int (0 : Int32))) H_37)))))))))))))) :
    Rm E mX10_lendBy Q 0 [some (rf E 99), some (.int x1), some (.int x2), some (.int x3), some (.int x4), none, none] [] H := by
  refine rn_aload_n dX10_lendBy_0 rfl ?_
  refine rn_iload dX10_lendBy_1 rfl ?_
  refine rn_iload_n dX10_lendBy_3 rfl ?_
  refine rn_icmp_ge (tgt := 12) dX10_lendBy_4 (by decide) (fun hc_1 => ?_) (fun hc_1 => ?_)
  · replace hF := hF.1 hc_1
    refine rn_iload_n dX10_lendBy_12 rfl ?_
    refine rn_iconst (x := (1 : Int32)) dX10_lendBy_13 (by decide) ?_
    refine rn_isub dX10_lendBy_14 ?_
    refine rm_callV (c0 := 99) (As := [.int (x3 - (1 : Int32))]) (st := []) mlRX10_221 mdX10_runsTold (Nat.le_of_ble_eq_true rfl) rfl (by decide) (by decide) rfl rfl rfl (Nat.le_of_ble_eq_true rfl) ⟨Nat.le_refl _, Nat.le_refl _⟩ dX10_lendBy_15 ?_
    refine cm_mono hF (fun w H_2 hF => ?_)
    obtain ⟨rfl, hF⟩ := hF
    refine rn_iload_n dX10_lendBy_18 rfl ?_
    refine rn_if_ne (tgt := 26) dX10_lendBy_19 (by decide) (fun hc_3 => ?_) (fun hc_3 => ?_)
    · replace hF := hF.1 hc_3
      refine rn_iload dX10_lendBy_26 rfl ?_
      refine rn_iload_n dX10_lendBy_28 rfl ?_
      refine rn_icmp_ge (tgt := 48) dX10_lendBy_29 (by decide) (fun hc_4 => ?_) (fun hc_4 => ?_)
      · replace hF := hF.1 hc_4
        refine rn_aload_n dX10_lendBy_48 rfl ?_
        refine rm_callV (c0 := 99) (As := []) (st := []) mlRX10_199 mdX10_putsBack (Nat.le_of_ble_eq_true rfl) rfl (by decide) (by decide) rfl rfl rfl (Nat.le_of_ble_eq_true rfl) ⟨Nat.le_refl _, Nat.le_refl _⟩ dX10_lendBy_49 ?_
        refine cm_mono hF (fun w H_5 hF => ?_)
        obtain ⟨rfl, hF⟩ := hF
        refine rn_aload_n dX10_lendBy_52 rfl ?_
        refine rn_iload_n dX10_lendBy_53 rfl ?_
        refine rm_callV (c0 := 99) (As := [.int x3]) (st := []) mlRX10_202 mdX10_handsOf (Nat.le_of_ble_eq_true rfl) rfl (by decide) (by decide) rfl rfl rfl (Nat.le_of_ble_eq_true rfl) ⟨Nat.le_refl _, Nat.le_refl _⟩ dX10_lendBy_54 ?_
        refine cm_mono hF (fun w H_6 hF => ?_)
        obtain ⟨rfl, hF⟩ := hF
        refine rn_aload_n dX10_lendBy_57 rfl ?_
        refine rm_callV (c0 := 99) (As := []) (st := []) mlRX10_248 mdX10_keeps (Nat.le_of_ble_eq_true rfl) rfl (by decide) (by decide) rfl rfl rfl (Nat.le_of_ble_eq_true rfl) ⟨Nat.le_refl _, Nat.le_refl _⟩ dX10_lendBy_58 ?_
        refine cm_mono hF (fun w H_7 hF => ?_)
        obtain ⟨rfl, hF⟩ := hF
        refine rn_aload_n dX10_lendBy_61 rfl ?_
        refine rn_iconst (x := (-1 : Int32)) dX10_lendBy_62 (by decide) ?_
        refine rn_iconst (x := (-1 : Int32)) dX10_lendBy_63 (by decide) ?_
        refine rn_iload_n dX10_lendBy_64 rfl ?_
        refine rn_iload_n dX10_lendBy_65 rfl ?_
        refine rn_iload_n dX10_lendBy_66 rfl ?_
        refine rn_iload dX10_lendBy_67 rfl ?_
        refine rm_callV (c0 := 99) (As := [.int (-1 : Int32), .int (-1 : Int32), .int x1, .int x2, .int x3, .int x4]) (st := []) mlRX10_251 mdX10_lends (Nat.le_of_ble_eq_true rfl) rfl (by decide) (by decide) rfl rfl rfl (Nat.le_of_ble_eq_true rfl) ⟨Nat.le_refl _, Nat.le_refl _⟩ dX10_lendBy_69 ?_
        refine cm_mono hF (fun w H_8 hF => ?_)
        obtain ⟨r_9, rfl, hF⟩ := hF
        refine rn_if_eq (tgt := 77) dX10_lendBy_72 (by decide) (fun hc_10 => ?_) (fun hc_10 => ?_)
        · replace hF := hF.1 hc_10
          refine rn_iconst (x := (0 : Int32)) dX10_lendBy_77 (by decide) ?_
          refine rn_istore dX10_lendBy_78 rfl (by decide) (fun x5_11 ex5_11 => ?_)
          subst ex5_11
          exact rn_wk (L' := [some (rf E 99), some (.int x1), some (.int x2), some (.int x3), some (.int x4), some (.int (0 : Int32)), none]) (⟨rfl, ⟨rfl, ⟨rfl, ⟨rfl, ⟨rfl, ⟨rfl, trivial⟩⟩⟩⟩⟩⟩) hF
        · replace hF := hF.2 hc_10
          refine rn_iconst (x := (0 : Int32)) dX10_lendBy_75 (by decide) ?_
          exact rm_iret rfl dX10_lendBy_76 hF
      · replace hF := hF.2 hc_4
        refine rn_aload_n dX10_lendBy_32 rfl ?_
        refine rm_getr (r := 111) flRX10_43 rfl (by decide) rfl dX10_lendBy_33 ?_
        refine rn_iload_n dX10_lendBy_36 rfl ?_
        obtain ⟨j_12, hj_12, hF⟩ := hF
        refine rj_iald hj_12 rfl (by decide) rfl (by decide) dX10_lendBy_37 ?_
        refine rn_iload_n dX10_lendBy_38 rfl ?_
        refine rn_icmp_ne (tgt := 46) dX10_lendBy_39 (by decide) (fun hc_13 => ?_) (fun hc_13 => ?_)
        · replace hF := hF.1 hc_13
          refine rn_iconst (x := (-1 : Int32)) dX10_lendBy_46 (by decide) ?_
          exact rm_iret rfl dX10_lendBy_47 hF
        · replace hF := hF.2 hc_13
          refine rn_iconst (x := (0 : Int32)) dX10_lendBy_42 (by decide) ?_
          refine rn_goto (tgt := 47) dX10_lendBy_43 (by decide) ?_
          exact rm_iret rfl dX10_lendBy_47 hF
    · replace hF := hF.2 hc_3
      refine rn_aload_n dX10_lendBy_22 rfl ?_
      refine rm_callV (c0 := 99) (As := []) (st := []) mlRX10_209 mdX10_begins (Nat.le_of_ble_eq_true rfl) rfl (by decide) (by decide) rfl rfl rfl (Nat.le_of_ble_eq_true rfl) ⟨Nat.le_refl _, Nat.le_refl _⟩ dX10_lendBy_23 ?_
      refine cm_mono hF (fun w H_14 hF => ?_)
      obtain ⟨rfl, hF⟩ := hF
      refine rn_iload dX10_lendBy_26 rfl ?_
      refine rn_iload_n dX10_lendBy_28 rfl ?_
      refine rn_icmp_ge (tgt := 48) dX10_lendBy_29 (by decide) (fun hc_15 => ?_) (fun hc_15 => ?_)
      · replace hF := hF.1 hc_15
        refine rn_aload_n dX10_lendBy_48 rfl ?_
        refine rm_callV (c0 := 99) (As := []) (st := []) mlRX10_199 mdX10_putsBack (Nat.le_of_ble_eq_true rfl) rfl (by decide) (by decide) rfl rfl rfl (Nat.le_of_ble_eq_true rfl) ⟨Nat.le_refl _, Nat.le_refl _⟩ dX10_lendBy_49 ?_
        refine cm_mono hF (fun w H_16 hF => ?_)
        obtain ⟨rfl, hF⟩ := hF
        refine rn_aload_n dX10_lendBy_52 rfl ?_
        refine rn_iload_n dX10_lendBy_53 rfl ?_
        refine rm_callV (c0 := 99) (As := [.int x3]) (st := []) mlRX10_202 mdX10_handsOf (Nat.le_of_ble_eq_true rfl) rfl (by decide) (by decide) rfl rfl rfl (Nat.le_of_ble_eq_true rfl) ⟨Nat.le_refl _, Nat.le_refl _⟩ dX10_lendBy_54 ?_
        refine cm_mono hF (fun w H_17 hF => ?_)
        obtain ⟨rfl, hF⟩ := hF
        refine rn_aload_n dX10_lendBy_57 rfl ?_
        refine rm_callV (c0 := 99) (As := []) (st := []) mlRX10_248 mdX10_keeps (Nat.le_of_ble_eq_true rfl) rfl (by decide) (by decide) rfl rfl rfl (Nat.le_of_ble_eq_true rfl) ⟨Nat.le_refl _, Nat.le_refl _⟩ dX10_lendBy_58 ?_
        refine cm_mono hF (fun w H_18 hF => ?_)
        obtain ⟨rfl, hF⟩ := hF
        refine rn_aload_n dX10_lendBy_61 rfl ?_
        refine rn_iconst (x := (-1 : Int32)) dX10_lendBy_62 (by decide) ?_
        refine rn_iconst (x := (-1 : Int32)) dX10_lendBy_63 (by decide) ?_
        refine rn_iload_n dX10_lendBy_64 rfl ?_
        refine rn_iload_n dX10_lendBy_65 rfl ?_
        refine rn_iload_n dX10_lendBy_66 rfl ?_
        refine rn_iload dX10_lendBy_67 rfl ?_
        refine rm_callV (c0 := 99) (As := [.int (-1 : Int32), .int (-1 : Int32), .int x1, .int x2, .int x3, .int x4]) (st := []) mlRX10_251 mdX10_lends (Nat.le_of_ble_eq_true rfl) rfl (by decide) (by decide) rfl rfl rfl (Nat.le_of_ble_eq_true rfl) ⟨Nat.le_refl _, Nat.le_refl _⟩ dX10_lendBy_69 ?_
        refine cm_mono hF (fun w H_19 hF => ?_)
        obtain ⟨r_20, rfl, hF⟩ := hF
        refine rn_if_eq (tgt := 77) dX10_lendBy_72 (by decide) (fun hc_21 => ?_) (fun hc_21 => ?_)
        · replace hF := hF.1 hc_21
          refine rn_iconst (x := (0 : Int32)) dX10_lendBy_77 (by decide) ?_
          refine rn_istore dX10_lendBy_78 rfl (by decide) (fun x5_22 ex5_22 => ?_)
          subst ex5_22
          exact rn_wk (L' := [some (rf E 99), some (.int x1), some (.int x2), some (.int x3), some (.int x4), some (.int (0 : Int32)), none]) (⟨rfl, ⟨rfl, ⟨rfl, ⟨rfl, ⟨rfl, ⟨rfl, trivial⟩⟩⟩⟩⟩⟩) hF
        · replace hF := hF.2 hc_21
          refine rn_iconst (x := (0 : Int32)) dX10_lendBy_75 (by decide) ?_
          exact rm_iret rfl dX10_lendBy_76 hF
      · replace hF := hF.2 hc_15
        refine rn_aload_n dX10_lendBy_32 rfl ?_
        refine rm_getr (r := 111) flRX10_43 rfl (by decide) rfl dX10_lendBy_33 ?_
        refine rn_iload_n dX10_lendBy_36 rfl ?_
        obtain ⟨j_23, hj_23, hF⟩ := hF
        refine rj_iald hj_23 rfl (by decide) rfl (by decide) dX10_lendBy_37 ?_
        refine rn_iload_n dX10_lendBy_38 rfl ?_
        refine rn_icmp_ne (tgt := 46) dX10_lendBy_39 (by decide) (fun hc_24 => ?_) (fun hc_24 => ?_)
        · replace hF := hF.1 hc_24
          refine rn_iconst (x := (-1 : Int32)) dX10_lendBy_46 (by decide) ?_
          exact rm_iret rfl dX10_lendBy_47 hF
        · replace hF := hF.2 hc_24
          refine rn_iconst (x := (0 : Int32)) dX10_lendBy_42 (by decide) ?_
          refine rn_goto (tgt := 47) dX10_lendBy_43 (by decide) ?_
          exact rm_iret rfl dX10_lendBy_47 hF
  · replace hF := hF.2 hc_1
    refine rn_iload dX10_lendBy_7 rfl ?_
    refine rn_goto (tgt := 15) dX10_lendBy_9 (by decide) ?_
    refine rm_callV (c0 := 99) (As := [.int x4]) (st := []) mlRX10_221 mdX10_runsTold (Nat.le_of_ble_eq_true rfl) rfl (by decide) (by decide) rfl rfl rfl (Nat.le_of_ble_eq_true rfl) ⟨Nat.le_refl _, Nat.le_refl _⟩ dX10_lendBy_15 ?_
    refine cm_mono hF (fun w H_25 hF => ?_)
    obtain ⟨rfl, hF⟩ := hF
    refine rn_iload_n dX10_lendBy_18 rfl ?_
    refine rn_if_ne (tgt := 26) dX10_lendBy_19 (by decide) (fun hc_26 => ?_) (fun hc_26 => ?_)
    · replace hF := hF.1 hc_26
      refine rn_iload dX10_lendBy_26 rfl ?_
      refine rn_iload_n dX10_lendBy_28 rfl ?_
      refine rn_icmp_ge (tgt := 48) dX10_lendBy_29 (by decide) (fun hc_27 => ?_) (fun hc_27 => ?_)
      · replace hF := hF.1 hc_27
        refine rn_aload_n dX10_lendBy_48 rfl ?_
        refine rm_callV (c0 := 99) (As := []) (st := []) mlRX10_199 mdX10_putsBack (Nat.le_of_ble_eq_true rfl) rfl (by decide) (by decide) rfl rfl rfl (Nat.le_of_ble_eq_true rfl) ⟨Nat.le_refl _, Nat.le_refl _⟩ dX10_lendBy_49 ?_
        refine cm_mono hF (fun w H_28 hF => ?_)
        obtain ⟨rfl, hF⟩ := hF
        refine rn_aload_n dX10_lendBy_52 rfl ?_
        refine rn_iload_n dX10_lendBy_53 rfl ?_
        refine rm_callV (c0 := 99) (As := [.int x3]) (st := []) mlRX10_202 mdX10_handsOf (Nat.le_of_ble_eq_true rfl) rfl (by decide) (by decide) rfl rfl rfl (Nat.le_of_ble_eq_true rfl) ⟨Nat.le_refl _, Nat.le_refl _⟩ dX10_lendBy_54 ?_
        refine cm_mono hF (fun w H_29 hF => ?_)
        obtain ⟨rfl, hF⟩ := hF
        refine rn_aload_n dX10_lendBy_57 rfl ?_
        refine rm_callV (c0 := 99) (As := []) (st := []) mlRX10_248 mdX10_keeps (Nat.le_of_ble_eq_true rfl) rfl (by decide) (by decide) rfl rfl rfl (Nat.le_of_ble_eq_true rfl) ⟨Nat.le_refl _, Nat.le_refl _⟩ dX10_lendBy_58 ?_
        refine cm_mono hF (fun w H_30 hF => ?_)
        obtain ⟨rfl, hF⟩ := hF
        refine rn_aload_n dX10_lendBy_61 rfl ?_
        refine rn_iconst (x := (-1 : Int32)) dX10_lendBy_62 (by decide) ?_
        refine rn_iconst (x := (-1 : Int32)) dX10_lendBy_63 (by decide) ?_
        refine rn_iload_n dX10_lendBy_64 rfl ?_
        refine rn_iload_n dX10_lendBy_65 rfl ?_
        refine rn_iload_n dX10_lendBy_66 rfl ?_
        refine rn_iload dX10_lendBy_67 rfl ?_
        refine rm_callV (c0 := 99) (As := [.int (-1 : Int32), .int (-1 : Int32), .int x1, .int x2, .int x3, .int x4]) (st := []) mlRX10_251 mdX10_lends (Nat.le_of_ble_eq_true rfl) rfl (by decide) (by decide) rfl rfl rfl (Nat.le_of_ble_eq_true rfl) ⟨Nat.le_refl _, Nat.le_refl _⟩ dX10_lendBy_69 ?_
        refine cm_mono hF (fun w H_31 hF => ?_)
        obtain ⟨r_32, rfl, hF⟩ := hF
        refine rn_if_eq (tgt := 77) dX10_lendBy_72 (by decide) (fun hc_33 => ?_) (fun hc_33 => ?_)
        · replace hF := hF.1 hc_33
          refine rn_iconst (x := (0 : Int32)) dX10_lendBy_77 (by decide) ?_
          refine rn_istore dX10_lendBy_78 rfl (by decide) (fun x5_34 ex5_34 => ?_)
          subst ex5_34
          exact rn_wk (L' := [some (rf E 99), some (.int x1), some (.int x2), some (.int x3), some (.int x4), some (.int (0 : Int32)), none]) (⟨rfl, ⟨rfl, ⟨rfl, ⟨rfl, ⟨rfl, ⟨rfl, trivial⟩⟩⟩⟩⟩⟩) hF
        · replace hF := hF.2 hc_33
          refine rn_iconst (x := (0 : Int32)) dX10_lendBy_75 (by decide) ?_
          exact rm_iret rfl dX10_lendBy_76 hF
      · replace hF := hF.2 hc_27
        refine rn_aload_n dX10_lendBy_32 rfl ?_
        refine rm_getr (r := 111) flRX10_43 rfl (by decide) rfl dX10_lendBy_33 ?_
        refine rn_iload_n dX10_lendBy_36 rfl ?_
        obtain ⟨j_35, hj_35, hF⟩ := hF
        refine rj_iald hj_35 rfl (by decide) rfl (by decide) dX10_lendBy_37 ?_
        refine rn_iload_n dX10_lendBy_38 rfl ?_
        refine rn_icmp_ne (tgt := 46) dX10_lendBy_39 (by decide) (fun hc_36 => ?_) (fun hc_36 => ?_)
        · replace hF := hF.1 hc_36
          refine rn_iconst (x := (-1 : Int32)) dX10_lendBy_46 (by decide) ?_
          exact rm_iret rfl dX10_lendBy_47 hF
        · replace hF := hF.2 hc_36
          refine rn_iconst (x := (0 : Int32)) dX10_lendBy_42 (by decide) ?_
          refine rn_goto (tgt := 47) dX10_lendBy_43 (by decide) ?_
          exact rm_iret rfl dX10_lendBy_47 hF
    · replace hF := hF.2 hc_26
      refine rn_aload_n dX10_lendBy_22 rfl ?_
      refine rm_callV (c0 := 99) (As := []) (st := []) mlRX10_209 mdX10_begins (Nat.le_of_ble_eq_true rfl) rfl (by decide) (by decide) rfl rfl rfl (Nat.le_of_ble_eq_true rfl) ⟨Nat.le_refl _, Nat.le_refl _⟩ dX10_lendBy_23 ?_
      refine cm_mono hF (fun w H_37 hF => ?_)
      obtain ⟨rfl, hF⟩ := hF
      refine rn_iload dX10_lendBy_26 rfl ?_
      refine rn_iload_n dX10_lendBy_28 rfl ?_
      refine rn_icmp_ge (tgt := 48) dX10_lendBy_29 (by decide) (fun hc_38 => ?_) (fun hc_38 => ?_)
      · replace hF := hF.1 hc_38
        refine rn_aload_n dX10_lendBy_48 rfl ?_
        refine rm_callV (c0 := 99) (As := []) (st := []) mlRX10_199 mdX10_putsBack (Nat.le_of_ble_eq_true rfl) rfl (by decide) (by decide) rfl rfl rfl (Nat.le_of_ble_eq_true rfl) ⟨Nat.le_refl _, Nat.le_refl _⟩ dX10_lendBy_49 ?_
        refine cm_mono hF (fun w H_39 hF => ?_)
        obtain ⟨rfl, hF⟩ := hF
        refine rn_aload_n dX10_lendBy_52 rfl ?_
        refine rn_iload_n dX10_lendBy_53 rfl ?_
        refine rm_callV (c0 := 99) (As := [.int x3]) (st := []) mlRX10_202 mdX10_handsOf (Nat.le_of_ble_eq_true rfl) rfl (by decide) (by decide) rfl rfl rfl (Nat.le_of_ble_eq_true rfl) ⟨Nat.le_refl _, Nat.le_refl _⟩ dX10_lendBy_54 ?_
        refine cm_mono hF (fun w H_40 hF => ?_)
        obtain ⟨rfl, hF⟩ := hF
        refine rn_aload_n dX10_lendBy_57 rfl ?_
        refine rm_callV (c0 := 99) (As := []) (st := []) mlRX10_248 mdX10_keeps (Nat.le_of_ble_eq_true rfl) rfl (by decide) (by decide) rfl rfl rfl (Nat.le_of_ble_eq_true rfl) ⟨Nat.le_refl _, Nat.le_refl _⟩ dX10_lendBy_58 ?_
        refine cm_mono hF (fun w H_41 hF => ?_)
        obtain ⟨rfl, hF⟩ := hF
        refine rn_aload_n dX10_lendBy_61 rfl ?_
        refine rn_iconst (x := (-1 : Int32)) dX10_lendBy_62 (by decide) ?_
        refine rn_iconst (x := (-1 : Int32)) dX10_lendBy_63 (by decide) ?_
        refine rn_iload_n dX10_lendBy_64 rfl ?_
        refine rn_iload_n dX10_lendBy_65 rfl ?_
        refine rn_iload_n dX10_lendBy_66 rfl ?_
        refine rn_iload dX10_lendBy_67 rfl ?_
        refine rm_callV (c0 := 99) (As := [.int (-1 : Int32), .int (-1 : Int32), .int x1, .int x2, .int x3, .int x4]) (st := []) mlRX10_251 mdX10_lends (Nat.le_of_ble_eq_true rfl) rfl (by decide) (by decide) rfl rfl rfl (Nat.le_of_ble_eq_true rfl) ⟨Nat.le_refl _, Nat.le_refl _⟩ dX10_lendBy_69 ?_
        refine cm_mono hF (fun w H_42 hF => ?_)
        obtain ⟨r_43, rfl, hF⟩ := hF
        refine rn_if_eq (tgt := 77) dX10_lendBy_72 (by decide) (fun hc_44 => ?_) (fun hc_44 => ?_)
        · replace hF := hF.1 hc_44
          refine rn_iconst (x := (0 : Int32)) dX10_lendBy_77 (by decide) ?_
          refine rn_istore dX10_lendBy_78 rfl (by decide) (fun x5_45 ex5_45 => ?_)
          subst ex5_45
          exact rn_wk (L' := [some (rf E 99), some (.int x1), some (.int x2), some (.int x3), some (.int x4), some (.int (0 : Int32)), none]) (⟨rfl, ⟨rfl, ⟨rfl, ⟨rfl, ⟨rfl, ⟨rfl, trivial⟩⟩⟩⟩⟩⟩) hF
        · replace hF := hF.2 hc_44
          refine rn_iconst (x := (0 : Int32)) dX10_lendBy_75 (by decide) ?_
          exact rm_iret rfl dX10_lendBy_76 hF
      · replace hF := hF.2 hc_38
        refine rn_aload_n dX10_lendBy_32 rfl ?_
        refine rm_getr (r := 111) flRX10_43 rfl (by decide) rfl dX10_lendBy_33 ?_
        refine rn_iload_n dX10_lendBy_36 rfl ?_
        obtain ⟨j_46, hj_46, hF⟩ := hF
        refine rj_iald hj_46 rfl (by decide) rfl (by decide) dX10_lendBy_37 ?_
        refine rn_iload_n dX10_lendBy_38 rfl ?_
        refine rn_icmp_ne (tgt := 46) dX10_lendBy_39 (by decide) (fun hc_47 => ?_) (fun hc_47 => ?_)
        · replace hF := hF.1 hc_47
          refine rn_iconst (x := (-1 : Int32)) dX10_lendBy_46 (by decide) ?_
          exact rm_iret rfl dX10_lendBy_47 hF
        · replace hF := hF.2 hc_47
          refine rn_iconst (x := (0 : Int32)) dX10_lendBy_42 (by decide) ?_
          refine rn_goto (tgt := 47) dX10_lendBy_43 (by decide) ?_
          exact rm_iret rfl dX10_lendBy_47 hF
theorem cmX10_lendBy {E : En} {Q : Option Value → Hi → Prop} {H : Hi} {x1 : Int32} {x2 : Int32} {x3 : Int32} {x4 : Int32} 
    (hF : (x3 ≤ x4 → (Cm E mX10_runsTold [rf E 99, .int (x3 - (1 : Int32))] H (fun w H_2 => w = none ∧ ((¬ x3 = 0 → ((x3 ≤ x4 → (Cm E mX10_putsBack [rf E 99] H_2 (fun w H_5 => w = none ∧ (Cm E mX10_handsOf [rf E 99, .int x3] H_5 (fun w H_6 => w = none ∧ (Cm E mX10_keeps [rf E 99] H_6 (fun w H_7 => w = none ∧ (Cm E mX10_lends [rf E 99, .int (-1 : Int32), .int (-1 : Int32), .int x1, .int x2, .int x3, .int x4] H_7 (fun w H_8 => ∃ r_9 : Int32, w = some (.int r_9) ∧ ((r_9 = 0 → (Rm E mX10_lendBy Q 80 [some (rf E 99), some (.int x1), some (.int x2), some (.int x3), some (.int x4), some (.int (0 : Int32)), none] [] H_8)) ∧ (¬ r_9 = 0 → (Q (some (.int (0 : Int32))) H_8)))))))))))) ∧ (¬ x3 ≤ x4 → (∃ j_12 : Nat, (j_12 < 8 ∧ x2 = nI j_12) ∧ ((¬ (H_2 111 j_12) = x1 → (Q (some (.int (-1 : Int32))) H_2)) ∧ ((H_2 111 j_12) = x1 → (Q (some (.int (0 : Int32))) H_2))))))) ∧ (x3 = 0 → (Cm E mX10_begins [rf E 99] H_2 (fun w H_14 => w = none ∧ ((x3 ≤ x4 → (Cm E mX10_putsBack [rf E 99] H_14 (fun w H_16 => w = none ∧ (Cm E mX10_handsOf [rf E 99, .int x3] H_16 (fun w H_17 => w = none ∧ (Cm E mX10_keeps [rf E 99] H_17 (fun w H_18 => w = none ∧ (Cm E mX10_lends [rf E 99, .int (-1 : Int32), .int (-1 : Int32), .int x1, .int x2, .int x3, .int x4] H_18 (fun w H_19 => ∃ r_20 : Int32, w = some (.int r_20) ∧ ((r_20 = 0 → (Rm E mX10_lendBy Q 80 [some (rf E 99), some (.int x1), some (.int x2), some (.int x3), some (.int x4), some (.int (0 : Int32)), none] [] H_19)) ∧ (¬ r_20 = 0 → (Q (some (.int (0 : Int32))) H_19)))))))))))) ∧ (¬ x3 ≤ x4 → (∃ j_23 : Nat, (j_23 < 8 ∧ x2 = nI j_23) ∧ ((¬ (H_14 111 j_23) = x1 → (Q (some (.int (-1 : Int32))) H_14)) ∧ ((H_14 111 j_23) = x1 → (Q (some (.int (0 : Int32))) H_14))))))))))))) ∧ (¬ x3 ≤ x4 → (Cm E mX10_runsTold [rf E 99, .int x4] H (fun w H_25 => w = none ∧ ((¬ x3 = 0 → ((x3 ≤ x4 → (Cm E mX10_putsBack [rf E 99] H_25 (fun w H_28 => w = none ∧ (Cm E mX10_handsOf [rf E 99, .int x3] H_28 (fun w H_29 => w = none ∧ (Cm E mX10_keeps [rf E 99] H_29 (fun w H_30 => w = none ∧ (Cm E mX10_lends [rf E 99, .int (-1 : Int32), .int (-1 : Int32), .int x1, .int x2, .int x3, .int x4] H_30 (fun w H_31 => ∃ r_32 : Int32, w = some (.int r_32) ∧ ((r_32 = 0 → (Rm E mX10_lendBy Q 80 [some (rf E 99), some (.int x1), some (.int x2), some (.int x3), some (.int x4), some (.int (0 : Int32)), none] [] H_31)) ∧ (¬ r_32 = 0 → (Q (some (.int (0 : Int32))) H_31)))))))))))) ∧ (¬ x3 ≤ x4 → (∃ j_35 : Nat, (j_35 < 8 ∧ x2 = nI j_35) ∧ ((¬ (H_25 111 j_35) = x1 → (Q (some (.int (-1 : Int32))) H_25)) ∧ ((H_25 111 j_35) = x1 → (Q (some (.int (0 : Int32))) H_25))))))) ∧ (x3 = 0 → (Cm E mX10_begins [rf E 99] H_25 (fun w H_37 => w = none ∧ ((x3 ≤ x4 → (Cm E mX10_putsBack [rf E 99] H_37 (fun w H_39 => w = none ∧ (Cm E mX10_handsOf [rf E 99, .int x3] H_39 (fun w H_40 => w = none ∧ (Cm E mX10_keeps [rf E 99] H_40 (fun w H_41 => w = none ∧ (Cm E mX10_lends [rf E 99, .int (-1 : Int32), .int (-1 : Int32), .int x1, .int x2, .int x3, .int x4] H_41 (fun w H_42 => ∃ r_43 : Int32, w = some (.int r_43) ∧ ((r_43 = 0 → (Rm E mX10_lendBy Q 80 [some (rf E 99), some (.int x1), some (.int x2), some (.int x3), some (.int x4), some (.int (0 : Int32)), none] [] H_42)) ∧ (¬ r_43 = 0 → (Q (some (.int (0 : Int32))) H_42)))))))))))) ∧ (¬ x3 ≤ x4 → (∃ j_46 : Nat, (j_46 < 8 ∧ x2 = nI j_46) ∧ ((¬ (H_37 111 j_46) = x1 → (Q (some (.int (-1 : Int32))) H_37)) ∧ ((H_37 111 j_46) = x1 → (Q (some (.int (0 : Int32))) H_37)))))))))))))) :
    Cm E mX10_lendBy [rf E 99, .int x1, .int x2, .int x3, .int x4] H Q :=
  cm_of (by decide +kernel) (Nat.le_of_ble_eq_true rfl) rfl (sgX10_lendBy_0  hF)
theorem sgX10_lendBy_80 {E : En} {Q : Option Value → Hi → Prop} {H : Hi} {x1 : Int32} {x2 : Int32} {x3 : Int32} {x4 : Int32} {x5 : Int32} 
    (hF : ((128 : Int32) ≤ x5 → (Rm E mX10_lendBy Q 123 [some (rf E 99), some (.int x1), some (.int x2), some (.int x3), some (.int x4), some (.int (0 : Int32)), none] [] H)) ∧ (¬ (128 : Int32) ≤ x5 → (Cm E mX10_mayCode [rf E 99, .int x5] H (fun w H_3 => ∃ r_4 : Int32, w = some (.int r_4) ∧ ((r_4 = 0 → (∀ x5_6 : Int32, x5_6 = x5 + (1 : Int32) → (Rm E mX10_lendBy Q 80 [some (rf E 99), some (.int x1), some (.int x2), some (.int x3), some (.int x4), some (.int x5_6), none] [] H_3))) ∧ (¬ r_4 = 0 → (Cm E mX10_lends [rf E 99, .int x5, .int (-1 : Int32), .int x1, .int x2, .int x3, .int x4] H_3 (fun w H_7 => ∃ r_8 : Int32, w = some (.int r_8) ∧ ((r_8 = 0 → (∀ x5_10 : Int32, x5_10 = x5 + (1 : Int32) → (Rm E mX10_lendBy Q 80 [some (rf E 99), some (.int x1), some (.int x2), some (.int x3), some (.int x4), some (.int x5_10), none] [] H_7))) ∧ (¬ r_8 = 0 → (Q (some (.int (1 : Int32))) H_7))))))))))) :
    Rm E mX10_lendBy Q 80 [some (rf E 99), some (.int x1), some (.int x2), some (.int x3), some (.int x4), some (.int x5), none] [] H := by
  refine rn_iload dX10_lendBy_80 rfl ?_
  refine rn_sipush (x := (128 : Int32)) dX10_lendBy_82 (by decide) ?_
  refine rn_icmp_ge (tgt := 120) dX10_lendBy_85 (by decide) (fun hc_1 => ?_) (fun hc_1 => ?_)
  · replace hF := hF.1 hc_1
    refine rn_iconst (x := (0 : Int32)) dX10_lendBy_120 (by decide) ?_
    refine rn_istore dX10_lendBy_121 rfl (by decide) (fun x5_2 ex5_2 => ?_)
    subst ex5_2
    exact rn_wk (L' := [some (rf E 99), some (.int x1), some (.int x2), some (.int x3), some (.int x4), some (.int (0 : Int32)), none]) (⟨rfl, ⟨rfl, ⟨rfl, ⟨rfl, ⟨rfl, ⟨rfl, trivial⟩⟩⟩⟩⟩⟩) hF
  · replace hF := hF.2 hc_1
    refine rn_aload_n dX10_lendBy_88 rfl ?_
    refine rn_iload dX10_lendBy_89 rfl ?_
    refine rm_callV (c0 := 99) (As := [.int x5]) (st := []) mlRX10_255 mdX10_mayCode (Nat.le_of_ble_eq_true rfl) rfl (by decide) (by decide) rfl rfl rfl (Nat.le_of_ble_eq_true rfl) ⟨Nat.le_refl _, Nat.le_refl _⟩ dX10_lendBy_91 ?_
    refine cm_mono hF (fun w H_3 hF => ?_)
    obtain ⟨r_4, rfl, hF⟩ := hF
    refine rn_if_eq (tgt := 114) dX10_lendBy_94 (by decide) (fun hc_5 => ?_) (fun hc_5 => ?_)
    · replace hF := hF.1 hc_5
      refine rn_iinc (w := (1 : Int32)) dX10_lendBy_114 rfl (by decide) rfl (by decide) (fun x5_6 ex5_6 => ?_)
      replace hF := hF x5_6 ex5_6
      refine rn_goto (tgt := 80) dX10_lendBy_117 (by decide) ?_
      exact rn_wk (L' := [some (rf E 99), some (.int x1), some (.int x2), some (.int x3), some (.int x4), some (.int x5_6), none]) (⟨rfl, ⟨rfl, ⟨rfl, ⟨rfl, ⟨rfl, ⟨rfl, trivial⟩⟩⟩⟩⟩⟩) hF
    · replace hF := hF.2 hc_5
      refine rn_aload_n dX10_lendBy_97 rfl ?_
      refine rn_iload dX10_lendBy_98 rfl ?_
      refine rn_iconst (x := (-1 : Int32)) dX10_lendBy_100 (by decide) ?_
      refine rn_iload_n dX10_lendBy_101 rfl ?_
      refine rn_iload_n dX10_lendBy_102 rfl ?_
      refine rn_iload_n dX10_lendBy_103 rfl ?_
      refine rn_iload dX10_lendBy_104 rfl ?_
      refine rm_callV (c0 := 99) (As := [.int x5, .int (-1 : Int32), .int x1, .int x2, .int x3, .int x4]) (st := []) mlRX10_251 mdX10_lends (Nat.le_of_ble_eq_true rfl) rfl (by decide) (by decide) rfl rfl rfl (Nat.le_of_ble_eq_true rfl) ⟨Nat.le_refl _, Nat.le_refl _⟩ dX10_lendBy_106 ?_
      refine cm_mono hF (fun w H_7 hF => ?_)
      obtain ⟨r_8, rfl, hF⟩ := hF
      refine rn_if_eq (tgt := 114) dX10_lendBy_109 (by decide) (fun hc_9 => ?_) (fun hc_9 => ?_)
      · replace hF := hF.1 hc_9
        refine rn_iinc (w := (1 : Int32)) dX10_lendBy_114 rfl (by decide) rfl (by decide) (fun x5_10 ex5_10 => ?_)
        replace hF := hF x5_10 ex5_10
        refine rn_goto (tgt := 80) dX10_lendBy_117 (by decide) ?_
        exact rn_wk (L' := [some (rf E 99), some (.int x1), some (.int x2), some (.int x3), some (.int x4), some (.int x5_10), none]) (⟨rfl, ⟨rfl, ⟨rfl, ⟨rfl, ⟨rfl, ⟨rfl, trivial⟩⟩⟩⟩⟩⟩) hF
      · replace hF := hF.2 hc_9
        refine rn_iconst (x := (1 : Int32)) dX10_lendBy_112 (by decide) ?_
        exact rm_iret rfl dX10_lendBy_113 hF
theorem sgX10_lendBy_123 {E : En} {Q : Option Value → Hi → Prop} {H : Hi} {x1 : Int32} {x2 : Int32} {x3 : Int32} {x4 : Int32} {x5 : Int32} 
    (hF : ((128 : Int32) ≤ x5 → (Q (some (.int (-1 : Int32))) H)) ∧ (¬ (128 : Int32) ≤ x5 → (Rm E mX10_lendBy Q 134 [some (rf E 99), some (.int x1), some (.int x2), some (.int x3), some (.int x4), some (.int x5), some (.int (0 : Int32))] [] H))) :
    Rm E mX10_lendBy Q 123 [some (rf E 99), some (.int x1), some (.int x2), some (.int x3), some (.int x4), some (.int x5), none] [] H := by
  refine rn_iload dX10_lendBy_123 rfl ?_
  refine rn_sipush (x := (128 : Int32)) dX10_lendBy_125 (by decide) ?_
  refine rn_icmp_ge (tgt := 190) dX10_lendBy_128 (by decide) (fun hc_1 => ?_) (fun hc_1 => ?_)
  · replace hF := hF.1 hc_1
    refine rn_iconst (x := (-1 : Int32)) dX10_lendBy_190 (by decide) ?_
    exact rm_iret rfl dX10_lendBy_191 hF
  · replace hF := hF.2 hc_1
    refine rn_iconst (x := (0 : Int32)) dX10_lendBy_131 (by decide) ?_
    refine rn_istore dX10_lendBy_132 rfl (by decide) (fun x6_2 ex6_2 => ?_)
    subst ex6_2
    exact rn_wk (L' := [some (rf E 99), some (.int x1), some (.int x2), some (.int x3), some (.int x4), some (.int x5), some (.int (0 : Int32))]) (⟨rfl, ⟨rfl, ⟨rfl, ⟨rfl, ⟨rfl, ⟨rfl, ⟨rfl, trivial⟩⟩⟩⟩⟩⟩⟩) hF
theorem sgX10_lendBy_134 {E : En} {Q : Option Value → Hi → Prop} {H : Hi} {x1 : Int32} {x2 : Int32} {x3 : Int32} {x4 : Int32} {x5 : Int32} {x6 : Int32} 
    (hF : ((128 : Int32) ≤ x6 → (∀ x5_2 : Int32, x5_2 = x5 + (1 : Int32) → (Rm E mX10_lendBy Q 123 [some (rf E 99), some (.int x1), some (.int x2), some (.int x3), some (.int x4), some (.int x5_2), none] [] H))) ∧ (¬ (128 : Int32) ≤ x6 → (Cm E mX10_mayCode [rf E 99, .int x5] H (fun w H_3 => ∃ r_4 : Int32, w = some (.int r_4) ∧ ((r_4 = 0 → (∀ x6_6 : Int32, x6_6 = x6 + (1 : Int32) → (Rm E mX10_lendBy Q 134 [some (rf E 99), some (.int x1), some (.int x2), some (.int x3), some (.int x4), some (.int x5), some (.int x6_6)] [] H_3))) ∧ (¬ r_4 = 0 → (Cm E mX10_mayCode [rf E 99, .int x6] H_3 (fun w H_7 => ∃ r_8 : Int32, w = some (.int r_8) ∧ ((r_8 = 0 → (∀ x6_10 : Int32, x6_10 = x6 + (1 : Int32) → (Rm E mX10_lendBy Q 134 [some (rf E 99), some (.int x1), some (.int x2), some (.int x3), some (.int x4), some (.int x5), some (.int x6_10)] [] H_7))) ∧ (¬ r_8 = 0 → (Cm E mX10_lends [rf E 99, .int x5, .int x6, .int x1, .int x2, .int x3, .int x4] H_7 (fun w H_11 => ∃ r_12 : Int32, w = some (.int r_12) ∧ ((r_12 = 0 → (∀ x6_14 : Int32, x6_14 = x6 + (1 : Int32) → (Rm E mX10_lendBy Q 134 [some (rf E 99), some (.int x1), some (.int x2), some (.int x3), some (.int x4), some (.int x5), some (.int x6_14)] [] H_11))) ∧ (¬ r_12 = 0 → (Q (some (.int (2 : Int32))) H_11))))))))))))))) :
    Rm E mX10_lendBy Q 134 [some (rf E 99), some (.int x1), some (.int x2), some (.int x3), some (.int x4), some (.int x5), some (.int x6)] [] H := by
  refine rn_iload dX10_lendBy_134 rfl ?_
  refine rn_sipush (x := (128 : Int32)) dX10_lendBy_136 (by decide) ?_
  refine rn_icmp_ge (tgt := 184) dX10_lendBy_139 (by decide) (fun hc_1 => ?_) (fun hc_1 => ?_)
  · replace hF := hF.1 hc_1
    refine rn_iinc (w := (1 : Int32)) dX10_lendBy_184 rfl (by decide) rfl (by decide) (fun x5_2 ex5_2 => ?_)
    replace hF := hF x5_2 ex5_2
    refine rn_goto (tgt := 123) dX10_lendBy_187 (by decide) ?_
    exact rn_wk (L' := [some (rf E 99), some (.int x1), some (.int x2), some (.int x3), some (.int x4), some (.int x5_2), none]) (⟨rfl, ⟨rfl, ⟨rfl, ⟨rfl, ⟨rfl, ⟨rfl, trivial⟩⟩⟩⟩⟩⟩) hF
  · replace hF := hF.2 hc_1
    refine rn_aload_n dX10_lendBy_142 rfl ?_
    refine rn_iload dX10_lendBy_143 rfl ?_
    refine rm_callV (c0 := 99) (As := [.int x5]) (st := []) mlRX10_255 mdX10_mayCode (Nat.le_of_ble_eq_true rfl) rfl (by decide) (by decide) rfl rfl rfl (Nat.le_of_ble_eq_true rfl) ⟨Nat.le_refl _, Nat.le_refl _⟩ dX10_lendBy_145 ?_
    refine cm_mono hF (fun w H_3 hF => ?_)
    obtain ⟨r_4, rfl, hF⟩ := hF
    refine rn_if_eq (tgt := 178) dX10_lendBy_148 (by decide) (fun hc_5 => ?_) (fun hc_5 => ?_)
    · replace hF := hF.1 hc_5
      refine rn_iinc (w := (1 : Int32)) dX10_lendBy_178 rfl (by decide) rfl (by decide) (fun x6_6 ex6_6 => ?_)
      replace hF := hF x6_6 ex6_6
      refine rn_goto (tgt := 134) dX10_lendBy_181 (by decide) ?_
      exact rn_wk (L' := [some (rf E 99), some (.int x1), some (.int x2), some (.int x3), some (.int x4), some (.int x5), some (.int x6_6)]) (⟨rfl, ⟨rfl, ⟨rfl, ⟨rfl, ⟨rfl, ⟨rfl, ⟨rfl, trivial⟩⟩⟩⟩⟩⟩⟩) hF
    · replace hF := hF.2 hc_5
      refine rn_aload_n dX10_lendBy_151 rfl ?_
      refine rn_iload dX10_lendBy_152 rfl ?_
      refine rm_callV (c0 := 99) (As := [.int x6]) (st := []) mlRX10_255 mdX10_mayCode (Nat.le_of_ble_eq_true rfl) rfl (by decide) (by decide) rfl rfl rfl (Nat.le_of_ble_eq_true rfl) ⟨Nat.le_refl _, Nat.le_refl _⟩ dX10_lendBy_154 ?_
      refine cm_mono hF (fun w H_7 hF => ?_)
      obtain ⟨r_8, rfl, hF⟩ := hF
      refine rn_if_eq (tgt := 178) dX10_lendBy_157 (by decide) (fun hc_9 => ?_) (fun hc_9 => ?_)
      · replace hF := hF.1 hc_9
        refine rn_iinc (w := (1 : Int32)) dX10_lendBy_178 rfl (by decide) rfl (by decide) (fun x6_10 ex6_10 => ?_)
        replace hF := hF x6_10 ex6_10
        refine rn_goto (tgt := 134) dX10_lendBy_181 (by decide) ?_
        exact rn_wk (L' := [some (rf E 99), some (.int x1), some (.int x2), some (.int x3), some (.int x4), some (.int x5), some (.int x6_10)]) (⟨rfl, ⟨rfl, ⟨rfl, ⟨rfl, ⟨rfl, ⟨rfl, ⟨rfl, trivial⟩⟩⟩⟩⟩⟩⟩) hF
      · replace hF := hF.2 hc_9
        refine rn_aload_n dX10_lendBy_160 rfl ?_
        refine rn_iload dX10_lendBy_161 rfl ?_
        refine rn_iload dX10_lendBy_163 rfl ?_
        refine rn_iload_n dX10_lendBy_165 rfl ?_
        refine rn_iload_n dX10_lendBy_166 rfl ?_
        refine rn_iload_n dX10_lendBy_167 rfl ?_
        refine rn_iload dX10_lendBy_168 rfl ?_
        refine rm_callV (c0 := 99) (As := [.int x5, .int x6, .int x1, .int x2, .int x3, .int x4]) (st := []) mlRX10_251 mdX10_lends (Nat.le_of_ble_eq_true rfl) rfl (by decide) (by decide) rfl rfl rfl (Nat.le_of_ble_eq_true rfl) ⟨Nat.le_refl _, Nat.le_refl _⟩ dX10_lendBy_170 ?_
        refine cm_mono hF (fun w H_11 hF => ?_)
        obtain ⟨r_12, rfl, hF⟩ := hF
        refine rn_if_eq (tgt := 178) dX10_lendBy_173 (by decide) (fun hc_13 => ?_) (fun hc_13 => ?_)
        · replace hF := hF.1 hc_13
          refine rn_iinc (w := (1 : Int32)) dX10_lendBy_178 rfl (by decide) rfl (by decide) (fun x6_14 ex6_14 => ?_)
          replace hF := hF x6_14 ex6_14
          refine rn_goto (tgt := 134) dX10_lendBy_181 (by decide) ?_
          exact rn_wk (L' := [some (rf E 99), some (.int x1), some (.int x2), some (.int x3), some (.int x4), some (.int x5), some (.int x6_14)]) (⟨rfl, ⟨rfl, ⟨rfl, ⟨rfl, ⟨rfl, ⟨rfl, ⟨rfl, trivial⟩⟩⟩⟩⟩⟩⟩) hF
        · replace hF := hF.2 hc_13
          refine rn_iconst (x := (2 : Int32)) dX10_lendBy_176 (by decide) ?_
          exact rm_iret rfl dX10_lendBy_177 hF
theorem sgX10_ofRow_0 {E : En} {Q : Option Value → Hi → Prop} {H : Hi} {x1 : Int32} {x2 : Int32} 
    (hF : (¬ x2 = (-1 : Int32) → ((x1 ≤ x2 → (Q (some (.int (-1 : Int32))) H)) ∧ (¬ x1 ≤ x2 → (∃ j_3 : Nat, (j_3 < 2 ∧ x2 = nI j_3) ∧ (Q (some (.int (H 119 j_3))) H))))) ∧ (x2 = (-1 : Int32) → (Q (some (.int x1)) H))) :
    Rm E mX10_ofRow Q 0 [some (rf E 99), some (.int x1), some (.int x2)] [] H := by
  refine rn_iload_n dX10_ofRow_0 rfl ?_
  refine rn_iconst (x := (-1 : Int32)) dX10_ofRow_1 (by decide) ?_
  refine rn_icmp_ne (tgt := 9) dX10_ofRow_2 (by decide) (fun hc_1 => ?_) (fun hc_1 => ?_)
  · replace hF := hF.1 hc_1
    refine rn_iload_n dX10_ofRow_9 rfl ?_
    refine rn_iload_n dX10_ofRow_10 rfl ?_
    refine rn_icmp_ge (tgt := 23) dX10_ofRow_11 (by decide) (fun hc_2 => ?_) (fun hc_2 => ?_)
    · replace hF := hF.1 hc_2
      refine rn_iconst (x := (-1 : Int32)) dX10_ofRow_23 (by decide) ?_
      exact rm_iret rfl dX10_ofRow_24 hF
    · replace hF := hF.2 hc_2
      refine rn_aload_n dX10_ofRow_14 rfl ?_
      refine rm_getr (r := 119) flRX10_68 rfl (by decide) rfl dX10_ofRow_15 ?_
      refine rn_iload_n dX10_ofRow_18 rfl ?_
      obtain ⟨j_3, hj_3, hF⟩ := hF
      refine rj_iald hj_3 rfl (by decide) rfl (by decide) dX10_ofRow_19 ?_
      refine rn_goto (tgt := 24) dX10_ofRow_20 (by decide) ?_
      exact rm_iret rfl dX10_ofRow_24 hF
  · replace hF := hF.2 hc_1
    refine rn_iload_n dX10_ofRow_5 rfl ?_
    refine rn_goto (tgt := 24) dX10_ofRow_6 (by decide) ?_
    exact rm_iret rfl dX10_ofRow_24 hF
theorem cmX10_ofRow {E : En} {Q : Option Value → Hi → Prop} {H : Hi} {x1 : Int32} {x2 : Int32} 
    (hF : (¬ x2 = (-1 : Int32) → ((x1 ≤ x2 → (Q (some (.int (-1 : Int32))) H)) ∧ (¬ x1 ≤ x2 → (∃ j_3 : Nat, (j_3 < 2 ∧ x2 = nI j_3) ∧ (Q (some (.int (H 119 j_3))) H))))) ∧ (x2 = (-1 : Int32) → (Q (some (.int x1)) H))) :
    Cm E mX10_ofRow [rf E 99, .int x1, .int x2] H Q :=
  cm_of (by decide +kernel) (Nat.le_of_ble_eq_true rfl) rfl (sgX10_ofRow_0  hF)
theorem sgX10_lendOf_0 {E : En} {Q : Option Value → Hi → Prop} {H : Hi} {x1 : Int32} {x2 : Int32} {x3 : Int32} {x4 : Int32} {x5 : Int32} 
    (hF : Cm E mX10_lendBy [rf E 99, .int x1, .int x2, .int x3, .int x4] H (fun w H_1 => ∃ r_2 : Int32, w = some (.int r_2) ∧ (Cm E mX10_ofRow [rf E 99, .int r_2, .int x5] H_1 (fun w H_3 => ∃ r_4 : Int32, w = some (.int r_4) ∧ (Q (some (.int r_4)) H_3))))) :
    Rm E mX10_lendOf Q 0 [some (rf E 99), some (.int x1), some (.int x2), some (.int x3), some (.int x4), some (.int x5)] [] H := by
  refine rn_aload_n dX10_lendOf_0 rfl ?_
  refine rn_aload_n dX10_lendOf_1 rfl ?_
  refine rn_iload_n dX10_lendOf_2 rfl ?_
  refine rn_iload_n dX10_lendOf_3 rfl ?_
  refine rn_iload_n dX10_lendOf_4 rfl ?_
  refine rn_iload dX10_lendOf_5 rfl ?_
  refine rm_callV (c0 := 99) (As := [.int x1, .int x2, .int x3, .int x4]) (st := [rf E 99]) mlRX10_258 mdX10_lendBy (Nat.le_of_ble_eq_true rfl) rfl (by decide) (by decide) rfl rfl rfl (Nat.le_of_ble_eq_true rfl) ⟨Nat.le_refl _, Nat.le_refl _⟩ dX10_lendOf_7 ?_
  refine cm_mono hF (fun w H_1 hF => ?_)
  obtain ⟨r_2, rfl, hF⟩ := hF
  refine rn_iload dX10_lendOf_10 rfl ?_
  refine rm_callV (c0 := 99) (As := [.int r_2, .int x5]) (st := []) mlRX10_261 mdX10_ofRow (Nat.le_of_ble_eq_true rfl) rfl (by decide) (by decide) rfl rfl rfl (Nat.le_of_ble_eq_true rfl) ⟨Nat.le_refl _, Nat.le_refl _⟩ dX10_lendOf_12 ?_
  refine cm_mono hF (fun w H_3 hF => ?_)
  obtain ⟨r_4, rfl, hF⟩ := hF
  exact rm_iret rfl dX10_lendOf_15 hF
theorem cmX10_lendOf {E : En} {Q : Option Value → Hi → Prop} {H : Hi} {x1 : Int32} {x2 : Int32} {x3 : Int32} {x4 : Int32} {x5 : Int32} 
    (hF : Cm E mX10_lendBy [rf E 99, .int x1, .int x2, .int x3, .int x4] H (fun w H_1 => ∃ r_2 : Int32, w = some (.int r_2) ∧ (Cm E mX10_ofRow [rf E 99, .int r_2, .int x5] H_1 (fun w H_3 => ∃ r_4 : Int32, w = some (.int r_4) ∧ (Q (some (.int r_4)) H_3))))) :
    Cm E mX10_lendOf [rf E 99, .int x1, .int x2, .int x3, .int x4, .int x5] H Q :=
  cm_of (by decide +kernel) (Nat.le_of_ble_eq_true rfl) rfl (sgX10_lendOf_0  hF)
theorem sgX10_lend_0 {E : En} {Q : Option Value → Hi → Prop} {H : Hi} {x1 : Int32} {x2 : Int32} {x3 : Int32} {x4 : Int32} {x5 : Int32} 
    (hF : Cm E mX10_isCousin [rf E 99, .int x1] H (fun w H_1 => ∃ r_2 : Int32, w = some (.int r_2) ∧ ((r_2 = 0 → (Q (some (.int (-2 : Int32))) H_1)) ∧ (¬ r_2 = 0 → (Cm E mX10_isThing [rf E 99, .int x2] H_1 (fun w H_4 => ∃ r_5 : Int32, w = some (.int r_5) ∧ ((r_5 = 0 → (Q (some (.int (-2 : Int32))) H_4)) ∧ (¬ r_5 = 0 → (Cm E mX10_isHour [.int x3] H_4 (fun w H_7 => ∃ r_8 : Int32, w = some (.int r_8) ∧ ((r_8 = 0 → (Q (some (.int (-2 : Int32))) H_7)) ∧ (¬ r_8 = 0 → (Cm E mX10_isHour [.int x4] H_7 (fun w H_10 => ∃ r_11 : Int32, w = some (.int r_11) ∧ ((r_11 = 0 → (Q (some (.int (-2 : Int32))) H_10)) ∧ (¬ r_11 = 0 → (Cm E mX10_in [.int x5, .int (-1 : Int32), .int (1 : Int32)] H_10 (fun w H_13 => ∃ r_14 : Int32, w = some (.int r_14) ∧ ((r_14 = 0 → (Q (some (.int (-2 : Int32))) H_13)) ∧ (¬ r_14 = 0 → (Cm E mX10_lendOf [rf E 99, .int x1, .int x2, .int x3, .int x4, .int x5] H_13 (fun w H_16 => ∃ r_17 : Int32, w = some (.int r_17) ∧ (Q (some (.int r_17)) H_16))))))))))))))))))))))) :
    Rm E mX10_lend Q 0 [some (rf E 99), some (.int x1), some (.int x2), some (.int x3), some (.int x4), some (.int x5)] [] H := by
  refine rn_aload_n dX10_lend_0 rfl ?_
  refine rn_iload_n dX10_lend_1 rfl ?_
  refine rm_callV (c0 := 99) (As := [.int x1]) (st := []) mlRX10_153 mdX10_isCousin (Nat.le_of_ble_eq_true rfl) rfl (by decide) (by decide) rfl rfl rfl (Nat.le_of_ble_eq_true rfl) ⟨Nat.le_refl _, Nat.le_refl _⟩ dX10_lend_2 ?_
  refine cm_mono hF (fun w H_1 hF => ?_)
  obtain ⟨r_2, rfl, hF⟩ := hF
  refine rn_if_eq (tgt := 55) dX10_lend_5 (by decide) (fun hc_3 => ?_) (fun hc_3 => ?_)
  · replace hF := hF.1 hc_3
    refine rn_bipush (x := (-2 : Int32)) dX10_lend_55 (by decide) ?_
    exact rm_iret rfl dX10_lend_57 hF
  · replace hF := hF.2 hc_3
    refine rn_aload_n dX10_lend_8 rfl ?_
    refine rn_iload_n dX10_lend_9 rfl ?_
    refine rm_callV (c0 := 99) (As := [.int x2]) (st := []) mlRX10_147 mdX10_isThing (Nat.le_of_ble_eq_true rfl) rfl (by decide) (by decide) rfl rfl rfl (Nat.le_of_ble_eq_true rfl) ⟨Nat.le_refl _, Nat.le_refl _⟩ dX10_lend_10 ?_
    refine cm_mono hF (fun w H_4 hF => ?_)
    obtain ⟨r_5, rfl, hF⟩ := hF
    refine rn_if_eq (tgt := 55) dX10_lend_13 (by decide) (fun hc_6 => ?_) (fun hc_6 => ?_)
    · replace hF := hF.1 hc_6
      refine rn_bipush (x := (-2 : Int32)) dX10_lend_55 (by decide) ?_
      exact rm_iret rfl dX10_lend_57 hF
    · replace hF := hF.2 hc_6
      refine rn_iload_n dX10_lend_16 rfl ?_
      refine rm_callS (As := [.int x3]) (st := []) mlRX10_160 mdX10_isHour (Nat.le_of_ble_eq_true rfl) rfl rfl (Nat.le_of_ble_eq_true rfl) ⟨Nat.le_refl _, Nat.le_refl _⟩ dX10_lend_17 ?_
      refine cm_mono hF (fun w H_7 hF => ?_)
      obtain ⟨r_8, rfl, hF⟩ := hF
      refine rn_if_eq (tgt := 55) dX10_lend_20 (by decide) (fun hc_9 => ?_) (fun hc_9 => ?_)
      · replace hF := hF.1 hc_9
        refine rn_bipush (x := (-2 : Int32)) dX10_lend_55 (by decide) ?_
        exact rm_iret rfl dX10_lend_57 hF
      · replace hF := hF.2 hc_9
        refine rn_iload dX10_lend_23 rfl ?_
        refine rm_callS (As := [.int x4]) (st := []) mlRX10_160 mdX10_isHour (Nat.le_of_ble_eq_true rfl) rfl rfl (Nat.le_of_ble_eq_true rfl) ⟨Nat.le_refl _, Nat.le_refl _⟩ dX10_lend_25 ?_
        refine cm_mono hF (fun w H_10 hF => ?_)
        obtain ⟨r_11, rfl, hF⟩ := hF
        refine rn_if_eq (tgt := 55) dX10_lend_28 (by decide) (fun hc_12 => ?_) (fun hc_12 => ?_)
        · replace hF := hF.1 hc_12
          refine rn_bipush (x := (-2 : Int32)) dX10_lend_55 (by decide) ?_
          exact rm_iret rfl dX10_lend_57 hF
        · replace hF := hF.2 hc_12
          refine rn_iload dX10_lend_31 rfl ?_
          refine rn_iconst (x := (-1 : Int32)) dX10_lend_33 (by decide) ?_
          refine rn_iconst (x := (1 : Int32)) dX10_lend_34 (by decide) ?_
          refine rm_callS (As := [.int x5, .int (-1 : Int32), .int (1 : Int32)]) (st := []) mlRX10_110 mdX10_in (Nat.le_of_ble_eq_true rfl) rfl rfl (Nat.le_of_ble_eq_true rfl) ⟨Nat.le_refl _, Nat.le_refl _⟩ dX10_lend_35 ?_
          refine cm_mono hF (fun w H_13 hF => ?_)
          obtain ⟨r_14, rfl, hF⟩ := hF
          refine rn_if_eq (tgt := 55) dX10_lend_38 (by decide) (fun hc_15 => ?_) (fun hc_15 => ?_)
          · replace hF := hF.1 hc_15
            refine rn_bipush (x := (-2 : Int32)) dX10_lend_55 (by decide) ?_
            exact rm_iret rfl dX10_lend_57 hF
          · replace hF := hF.2 hc_15
            refine rn_aload_n dX10_lend_41 rfl ?_
            refine rn_iload_n dX10_lend_42 rfl ?_
            refine rn_iload_n dX10_lend_43 rfl ?_
            refine rn_iload_n dX10_lend_44 rfl ?_
            refine rn_iload dX10_lend_45 rfl ?_
            refine rn_iload dX10_lend_47 rfl ?_
            refine rm_callV (c0 := 99) (As := [.int x1, .int x2, .int x3, .int x4, .int x5]) (st := []) mlRX10_264 mdX10_lendOf (Nat.le_of_ble_eq_true rfl) rfl (by decide) (by decide) rfl rfl rfl (Nat.le_of_ble_eq_true rfl) ⟨Nat.le_refl _, Nat.le_refl _⟩ dX10_lend_49 ?_
            refine cm_mono hF (fun w H_16 hF => ?_)
            obtain ⟨r_17, rfl, hF⟩ := hF
            refine rn_goto (tgt := 57) dX10_lend_52 (by decide) ?_
            exact rm_iret rfl dX10_lend_57 hF
theorem cmX10_lend {E : En} {Q : Option Value → Hi → Prop} {H : Hi} {x1 : Int32} {x2 : Int32} {x3 : Int32} {x4 : Int32} {x5 : Int32} 
    (hF : Cm E mX10_isCousin [rf E 99, .int x1] H (fun w H_1 => ∃ r_2 : Int32, w = some (.int r_2) ∧ ((r_2 = 0 → (Q (some (.int (-2 : Int32))) H_1)) ∧ (¬ r_2 = 0 → (Cm E mX10_isThing [rf E 99, .int x2] H_1 (fun w H_4 => ∃ r_5 : Int32, w = some (.int r_5) ∧ ((r_5 = 0 → (Q (some (.int (-2 : Int32))) H_4)) ∧ (¬ r_5 = 0 → (Cm E mX10_isHour [.int x3] H_4 (fun w H_7 => ∃ r_8 : Int32, w = some (.int r_8) ∧ ((r_8 = 0 → (Q (some (.int (-2 : Int32))) H_7)) ∧ (¬ r_8 = 0 → (Cm E mX10_isHour [.int x4] H_7 (fun w H_10 => ∃ r_11 : Int32, w = some (.int r_11) ∧ ((r_11 = 0 → (Q (some (.int (-2 : Int32))) H_10)) ∧ (¬ r_11 = 0 → (Cm E mX10_in [.int x5, .int (-1 : Int32), .int (1 : Int32)] H_10 (fun w H_13 => ∃ r_14 : Int32, w = some (.int r_14) ∧ ((r_14 = 0 → (Q (some (.int (-2 : Int32))) H_13)) ∧ (¬ r_14 = 0 → (Cm E mX10_lendOf [rf E 99, .int x1, .int x2, .int x3, .int x4, .int x5] H_13 (fun w H_16 => ∃ r_17 : Int32, w = some (.int r_17) ∧ (Q (some (.int r_17)) H_16))))))))))))))))))))))) :
    Cm E mX10_lend [rf E 99, .int x1, .int x2, .int x3, .int x4, .int x5] H Q :=
  cm_of (by decide +kernel) (Nat.le_of_ble_eq_true rfl) rfl (sgX10_lend_0  hF)
theorem sgX10_hangsOf_0 {E : En} {Q : Option Value → Hi → Prop} {H : Hi} {x1 : Int32} 
    (hF : Cm E mX10_runsTold [rf E 99, .int (x1 - (1 : Int32))] H (fun w H_1 => w = none ∧ ((¬ x1 = 0 → (Cm E mX10_putsBack [rf E 99] H_1 (fun w H_3 => w = none ∧ (Cm E mX10_keeps [rf E 99] H_3 (fun w H_4 => w = none ∧ (Rm E mX10_hangsOf Q 27 [some (rf E 99), some (.int x1), some (.int (0 : Int32)), some (.int (0 : Int32)), none, none, none, none, none, none] [] H_4)))))) ∧ (x1 = 0 → (Cm E mX10_begins [rf E 99] H_1 (fun w H_7 => w = none ∧ (Cm E mX10_putsBack [rf E 99] H_7 (fun w H_8 => w = none ∧ (Cm E mX10_keeps [rf E 99] H_8 (fun w H_9 => w = none ∧ (Rm E mX10_hangsOf Q 27 [some (rf E 99), some (.int x1), some (.int (0 : Int32)), some (.int (0 : Int32)), none, none, none, none, none, none] [] H_9))))))))))) :
    Rm E mX10_hangsOf Q 0 [some (rf E 99), some (.int x1), none, none, none, none, none, none, none, none] [] H := by
  refine rn_aload_n dX10_hangsOf_0 rfl ?_
  refine rn_iload_n dX10_hangsOf_1 rfl ?_
  refine rn_iconst (x := (1 : Int32)) dX10_hangsOf_2 (by decide) ?_
  refine rn_isub dX10_hangsOf_3 ?_
  refine rm_callV (c0 := 99) (As := [.int (x1 - (1 : Int32))]) (st := []) mlRX10_221 mdX10_runsTold (Nat.le_of_ble_eq_true rfl) rfl (by decide) (by decide) rfl rfl rfl (Nat.le_of_ble_eq_true rfl) ⟨Nat.le_refl _, Nat.le_refl _⟩ dX10_hangsOf_4 ?_
  refine cm_mono hF (fun w H_1 hF => ?_)
  obtain ⟨rfl, hF⟩ := hF
  refine rn_iload_n dX10_hangsOf_7 rfl ?_
  refine rn_if_ne (tgt := 15) dX10_hangsOf_8 (by decide) (fun hc_2 => ?_) (fun hc_2 => ?_)
  · replace hF := hF.1 hc_2
    refine rn_aload_n dX10_hangsOf_15 rfl ?_
    refine rm_callV (c0 := 99) (As := []) (st := []) mlRX10_199 mdX10_putsBack (Nat.le_of_ble_eq_true rfl) rfl (by decide) (by decide) rfl rfl rfl (Nat.le_of_ble_eq_true rfl) ⟨Nat.le_refl _, Nat.le_refl _⟩ dX10_hangsOf_16 ?_
    refine cm_mono hF (fun w H_3 hF => ?_)
    obtain ⟨rfl, hF⟩ := hF
    refine rn_aload_n dX10_hangsOf_19 rfl ?_
    refine rm_callV (c0 := 99) (As := []) (st := []) mlRX10_248 mdX10_keeps (Nat.le_of_ble_eq_true rfl) rfl (by decide) (by decide) rfl rfl rfl (Nat.le_of_ble_eq_true rfl) ⟨Nat.le_refl _, Nat.le_refl _⟩ dX10_hangsOf_20 ?_
    refine cm_mono hF (fun w H_4 hF => ?_)
    obtain ⟨rfl, hF⟩ := hF
    refine rn_iconst (x := (0 : Int32)) dX10_hangsOf_23 (by decide) ?_
    refine rn_istore_n dX10_hangsOf_24 rfl (by decide) (fun x2_5 ex2_5 => ?_)
    subst ex2_5
    refine rn_iconst (x := (0 : Int32)) dX10_hangsOf_25 (by decide) ?_
    refine rn_istore_n dX10_hangsOf_26 rfl (by decide) (fun x3_6 ex3_6 => ?_)
    subst ex3_6
    exact rn_wk (L' := [some (rf E 99), some (.int x1), some (.int (0 : Int32)), some (.int (0 : Int32)), none, none, none, none, none, none]) (⟨rfl, ⟨rfl, ⟨rfl, ⟨rfl, trivial⟩⟩⟩⟩) hF
  · replace hF := hF.2 hc_2
    refine rn_aload_n dX10_hangsOf_11 rfl ?_
    refine rm_callV (c0 := 99) (As := []) (st := []) mlRX10_209 mdX10_begins (Nat.le_of_ble_eq_true rfl) rfl (by decide) (by decide) rfl rfl rfl (Nat.le_of_ble_eq_true rfl) ⟨Nat.le_refl _, Nat.le_refl _⟩ dX10_hangsOf_12 ?_
    refine cm_mono hF (fun w H_7 hF => ?_)
    obtain ⟨rfl, hF⟩ := hF
    refine rn_aload_n dX10_hangsOf_15 rfl ?_
    refine rm_callV (c0 := 99) (As := []) (st := []) mlRX10_199 mdX10_putsBack (Nat.le_of_ble_eq_true rfl) rfl (by decide) (by decide) rfl rfl rfl (Nat.le_of_ble_eq_true rfl) ⟨Nat.le_refl _, Nat.le_refl _⟩ dX10_hangsOf_16 ?_
    refine cm_mono hF (fun w H_8 hF => ?_)
    obtain ⟨rfl, hF⟩ := hF
    refine rn_aload_n dX10_hangsOf_19 rfl ?_
    refine rm_callV (c0 := 99) (As := []) (st := []) mlRX10_248 mdX10_keeps (Nat.le_of_ble_eq_true rfl) rfl (by decide) (by decide) rfl rfl rfl (Nat.le_of_ble_eq_true rfl) ⟨Nat.le_refl _, Nat.le_refl _⟩ dX10_hangsOf_20 ?_
    refine cm_mono hF (fun w H_9 hF => ?_)
    obtain ⟨rfl, hF⟩ := hF
    refine rn_iconst (x := (0 : Int32)) dX10_hangsOf_23 (by decide) ?_
    refine rn_istore_n dX10_hangsOf_24 rfl (by decide) (fun x2_10 ex2_10 => ?_)
    subst ex2_10
    refine rn_iconst (x := (0 : Int32)) dX10_hangsOf_25 (by decide) ?_
    refine rn_istore_n dX10_hangsOf_26 rfl (by decide) (fun x3_11 ex3_11 => ?_)
    subst ex3_11
    exact rn_wk (L' := [some (rf E 99), some (.int x1), some (.int (0 : Int32)), some (.int (0 : Int32)), none, none, none, none, none, none]) (⟨rfl, ⟨rfl, ⟨rfl, ⟨rfl, trivial⟩⟩⟩⟩) hF
theorem cmX10_hangsOf {E : En} {Q : Option Value → Hi → Prop} {H : Hi} {x1 : Int32} 
    (hF : Cm E mX10_runsTold [rf E 99, .int (x1 - (1 : Int32))] H (fun w H_1 => w = none ∧ ((¬ x1 = 0 → (Cm E mX10_putsBack [rf E 99] H_1 (fun w H_3 => w = none ∧ (Cm E mX10_keeps [rf E 99] H_3 (fun w H_4 => w = none ∧ (Rm E mX10_hangsOf Q 27 [some (rf E 99), some (.int x1), some (.int (0 : Int32)), some (.int (0 : Int32)), none, none, none, none, none, none] [] H_4)))))) ∧ (x1 = 0 → (Cm E mX10_begins [rf E 99] H_1 (fun w H_7 => w = none ∧ (Cm E mX10_putsBack [rf E 99] H_7 (fun w H_8 => w = none ∧ (Cm E mX10_keeps [rf E 99] H_8 (fun w H_9 => w = none ∧ (Rm E mX10_hangsOf Q 27 [some (rf E 99), some (.int x1), some (.int (0 : Int32)), some (.int (0 : Int32)), none, none, none, none, none, none] [] H_9))))))))))) :
    Cm E mX10_hangsOf [rf E 99, .int x1] H Q :=
  cm_of (by decide +kernel) (Nat.le_of_ble_eq_true rfl) rfl (sgX10_hangsOf_0  hF)
theorem sgX10_hangsOf_27 {E : En} {Q : Option Value → Hi → Prop} {H : Hi} {x1 : Int32} {x2 : Int32} {x3 : Int32} 
    (hF : ((H 99 11) ≤ x3 → (((5 : Int32) ≤ x2 → (Rm E mX10_hangsOf Q 83 [some (rf E 99), some (.int x1), some (.int x2), some (.int (5 : Int32)), some (.int (1 : Int32)), some (.int (0 : Int32)), none, none, none, none] [] H)) ∧ (¬ (5 : Int32) ≤ x2 → (Rm E mX10_hangsOf Q 83 [some (rf E 99), some (.int x1), some (.int x2), some (.int x2), some (.int (1 : Int32)), some (.int (0 : Int32)), none, none, none, none] [] H)))) ∧ (¬ (H 99 11) ≤ x3 → (∃ j_9 : Nat, (j_9 < 44 ∧ x3 = nI j_9) ∧ ((¬ (H 107 j_9) = x1 → (∀ x3_11 : Int32, x3_11 = x3 + (1 : Int32) → (Rm E mX10_hangsOf Q 27 [some (rf E 99), some (.int x1), some (.int x2), some (.int x3_11), none, none, none, none, none, none] [] H))) ∧ ((H 107 j_9) = x1 → (∃ j_12 : Nat, (j_12 < 44 ∧ x3 = nI j_12) ∧ (∃ j_13 : Nat, (j_13 < 20 ∧ x2 = nI j_13) ∧ (∀ H_14 : Hi, H_14 = up H 120 j_13 (H 108 j_12) → (∀ x2_15 : Int32, x2_15 = x2 + (1 : Int32) → (∀ x3_16 : Int32, x3_16 = x3 + (1 : Int32) → (Rm E mX10_hangsOf Q 27 [some (rf E 99), some (.int x1), some (.int x2_15), some (.int x3_16), none, none, none, none, none, none] [] H_14))))))))))) :
    Rm E mX10_hangsOf Q 27 [some (rf E 99), some (.int x1), some (.int x2), some (.int x3), none, none, none, none, none, none] [] H := by
  refine rn_iload_n dX10_hangsOf_27 rfl ?_
  refine rn_aload_n dX10_hangsOf_28 rfl ?_
  refine rm_geti flRX10_163 rfl (by decide) rfl dX10_hangsOf_29 ?_
  refine rn_icmp_ge (tgt := 66) dX10_hangsOf_32 (by decide) (fun hc_1 => ?_) (fun hc_1 => ?_)
  · replace hF := hF.1 hc_1
    refine rn_iload_n dX10_hangsOf_66 rfl ?_
    refine rn_iconst (x := (5 : Int32)) dX10_hangsOf_67 (by decide) ?_
    refine rn_icmp_ge (tgt := 75) dX10_hangsOf_68 (by decide) (fun hc_2 => ?_) (fun hc_2 => ?_)
    · replace hF := hF.1 hc_2
      refine rn_iconst (x := (5 : Int32)) dX10_hangsOf_75 (by decide) ?_
      refine rn_istore_n dX10_hangsOf_76 rfl (by decide) (fun x3_3 ex3_3 => ?_)
      subst ex3_3
      refine rn_iconst (x := (1 : Int32)) dX10_hangsOf_77 (by decide) ?_
      refine rn_istore dX10_hangsOf_78 rfl (by decide) (fun x4_4 ex4_4 => ?_)
      subst ex4_4
      refine rn_iconst (x := (0 : Int32)) dX10_hangsOf_80 (by decide) ?_
      refine rn_istore dX10_hangsOf_81 rfl (by decide) (fun x5_5 ex5_5 => ?_)
      subst ex5_5
      exact rn_wk (L' := [some (rf E 99), some (.int x1), some (.int x2), some (.int (5 : Int32)), some (.int (1 : Int32)), some (.int (0 : Int32)), none, none, none, none]) (⟨rfl, ⟨rfl, ⟨rfl, ⟨rfl, ⟨rfl, ⟨rfl, trivial⟩⟩⟩⟩⟩⟩) hF
    · replace hF := hF.2 hc_2
      refine rn_iload_n dX10_hangsOf_71 rfl ?_
      refine rn_goto (tgt := 76) dX10_hangsOf_72 (by decide) ?_
      refine rn_istore_n dX10_hangsOf_76 rfl (by decide) (fun x3_6 ex3_6 => ?_)
      subst ex3_6
      refine rn_iconst (x := (1 : Int32)) dX10_hangsOf_77 (by decide) ?_
      refine rn_istore dX10_hangsOf_78 rfl (by decide) (fun x4_7 ex4_7 => ?_)
      subst ex4_7
      refine rn_iconst (x := (0 : Int32)) dX10_hangsOf_80 (by decide) ?_
      refine rn_istore dX10_hangsOf_81 rfl (by decide) (fun x5_8 ex5_8 => ?_)
      subst ex5_8
      exact rn_wk (L' := [some (rf E 99), some (.int x1), some (.int x2), some (.int x2), some (.int (1 : Int32)), some (.int (0 : Int32)), none, none, none, none]) (⟨rfl, ⟨rfl, ⟨rfl, ⟨rfl, ⟨rfl, ⟨rfl, trivial⟩⟩⟩⟩⟩⟩) hF
  · replace hF := hF.2 hc_1
    refine rn_aload_n dX10_hangsOf_35 rfl ?_
    refine rm_getr (r := 107) flRX10_31 rfl (by decide) rfl dX10_hangsOf_36 ?_
    refine rn_iload_n dX10_hangsOf_39 rfl ?_
    obtain ⟨j_9, hj_9, hF⟩ := hF
    refine rj_iald hj_9 rfl (by decide) rfl (by decide) dX10_hangsOf_40 ?_
    refine rn_iload_n dX10_hangsOf_41 rfl ?_
    refine rn_icmp_ne (tgt := 60) dX10_hangsOf_42 (by decide) (fun hc_10 => ?_) (fun hc_10 => ?_)
    · replace hF := hF.1 hc_10
      refine rn_iinc (w := (1 : Int32)) dX10_hangsOf_60 rfl (by decide) rfl (by decide) (fun x3_11 ex3_11 => ?_)
      replace hF := hF x3_11 ex3_11
      refine rn_goto (tgt := 27) dX10_hangsOf_63 (by decide) ?_
      exact rn_wk (L' := [some (rf E 99), some (.int x1), some (.int x2), some (.int x3_11), none, none, none, none, none, none]) (⟨rfl, ⟨rfl, ⟨rfl, ⟨rfl, trivial⟩⟩⟩⟩) hF
    · replace hF := hF.2 hc_10
      refine rn_aload_n dX10_hangsOf_45 rfl ?_
      refine rm_getr (r := 120) flRX10_71 rfl (by decide) rfl dX10_hangsOf_46 ?_
      refine rn_iload_n dX10_hangsOf_49 rfl ?_
      refine rn_aload_n dX10_hangsOf_50 rfl ?_
      refine rm_getr (r := 108) flRX10_34 rfl (by decide) rfl dX10_hangsOf_51 ?_
      refine rn_iload_n dX10_hangsOf_54 rfl ?_
      obtain ⟨j_12, hj_12, hF⟩ := hF
      refine rj_iald hj_12 rfl (by decide) rfl (by decide) dX10_hangsOf_55 ?_
      obtain ⟨j_13, hj_13, hF⟩ := hF
      refine rj_iast hj_13 rfl (by decide) rfl (by decide) dX10_hangsOf_56 (fun H_14 eH_14 => ?_)
      replace hF := hF H_14 eH_14
      refine rn_iinc (w := (1 : Int32)) dX10_hangsOf_57 rfl (by decide) rfl (by decide) (fun x2_15 ex2_15 => ?_)
      replace hF := hF x2_15 ex2_15
      refine rn_iinc (w := (1 : Int32)) dX10_hangsOf_60 rfl (by decide) rfl (by decide) (fun x3_16 ex3_16 => ?_)
      replace hF := hF x3_16 ex3_16
      refine rn_goto (tgt := 27) dX10_hangsOf_63 (by decide) ?_
      exact rn_wk (L' := [some (rf E 99), some (.int x1), some (.int x2_15), some (.int x3_16), none, none, none, none, none, none]) (⟨rfl, ⟨rfl, ⟨rfl, ⟨rfl, trivial⟩⟩⟩⟩) hF
theorem sgX10_hangsOf_83 {E : En} {Q : Option Value → Hi → Prop} {H : Hi} {x1 : Int32} {x2 : Int32} {x3 : Int32} {x4 : Int32} {x5 : Int32} 
    (hF : (x3 ≤ x5 → (Rm E mX10_hangsOf Q 104 [some (rf E 99), some (.int x1), some (.int x2), some (.int x3), some (.int x4), some (.int (0 : Int32)), none, none, none, none] [] H)) ∧ (¬ x3 ≤ x5 → (∀ x4_3 : Int32, x4_3 = x4 * x3 → (∀ x5_4 : Int32, x5_4 = x5 + (1 : Int32) → (Rm E mX10_hangsOf Q 83 [some (rf E 99), some (.int x1), some (.int x2), some (.int x3), some (.int x4_3), some (.int x5_4), none, none, none, none] [] H))))) :
    Rm E mX10_hangsOf Q 83 [some (rf E 99), some (.int x1), some (.int x2), some (.int x3), some (.int x4), some (.int x5), none, none, none, none] [] H := by
  refine rn_iload dX10_hangsOf_83 rfl ?_
  refine rn_iload_n dX10_hangsOf_85 rfl ?_
  refine rn_icmp_ge (tgt := 101) dX10_hangsOf_86 (by decide) (fun hc_1 => ?_) (fun hc_1 => ?_)
  · replace hF := hF.1 hc_1
    refine rn_iconst (x := (0 : Int32)) dX10_hangsOf_101 (by decide) ?_
    refine rn_istore dX10_hangsOf_102 rfl (by decide) (fun x5_2 ex5_2 => ?_)
    subst ex5_2
    exact rn_wk (L' := [some (rf E 99), some (.int x1), some (.int x2), some (.int x3), some (.int x4), some (.int (0 : Int32)), none, none, none, none]) (⟨rfl, ⟨rfl, ⟨rfl, ⟨rfl, ⟨rfl, ⟨rfl, trivial⟩⟩⟩⟩⟩⟩) hF
  · replace hF := hF.2 hc_1
    refine rn_iload dX10_hangsOf_89 rfl ?_
    refine rn_iload_n dX10_hangsOf_91 rfl ?_
    refine rn_imul dX10_hangsOf_92 ?_
    refine rn_istore dX10_hangsOf_93 rfl (by decide) (fun x4_3 ex4_3 => ?_)
    replace hF := hF x4_3 ex4_3
    refine rn_iinc (w := (1 : Int32)) dX10_hangsOf_95 rfl (by decide) rfl (by decide) (fun x5_4 ex5_4 => ?_)
    replace hF := hF x5_4 ex5_4
    refine rn_goto (tgt := 83) dX10_hangsOf_98 (by decide) ?_
    exact rn_wk (L' := [some (rf E 99), some (.int x1), some (.int x2), some (.int x3), some (.int x4_3), some (.int x5_4), none, none, none, none]) (⟨rfl, ⟨rfl, ⟨rfl, ⟨rfl, ⟨rfl, ⟨rfl, trivial⟩⟩⟩⟩⟩⟩) hF
theorem sgX10_hangsOf_104 {E : En} {Q : Option Value → Hi → Prop} {H : Hi} {x1 : Int32} {x2 : Int32} {x3 : Int32} {x4 : Int32} {x5 : Int32} 
    (hF : ((8 : Int32) ≤ x5 → (Rm E mX10_hangsOf Q 128 [some (rf E 99), some (.int x1), some (.int x2), some (.int x3), some (.int x4), some (.int (0 : Int32)), none, none, none, none] [] H)) ∧ (¬ (8 : Int32) ≤ x5 → (∃ j_3 : Nat, (j_3 < 8 ∧ x5 = nI j_3) ∧ (∀ H_4 : Hi, H_4 = up H 121 j_3 (0 : Int32) → (∀ x5_5 : Int32, x5_5 = x5 + (1 : Int32) → (Rm E mX10_hangsOf Q 104 [some (rf E 99), some (.int x1), some (.int x2), some (.int x3), some (.int x4), some (.int x5_5), none, none, none, none] [] H_4)))))) :
    Rm E mX10_hangsOf Q 104 [some (rf E 99), some (.int x1), some (.int x2), some (.int x3), some (.int x4), some (.int x5), none, none, none, none] [] H := by
  refine rn_iload dX10_hangsOf_104 rfl ?_
  refine rn_bipush (x := (8 : Int32)) dX10_hangsOf_106 (by decide) ?_
  refine rn_icmp_ge (tgt := 125) dX10_hangsOf_108 (by decide) (fun hc_1 => ?_) (fun hc_1 => ?_)
  · replace hF := hF.1 hc_1
    refine rn_iconst (x := (0 : Int32)) dX10_hangsOf_125 (by decide) ?_
    refine rn_istore dX10_hangsOf_126 rfl (by decide) (fun x5_2 ex5_2 => ?_)
    subst ex5_2
    exact rn_wk (L' := [some (rf E 99), some (.int x1), some (.int x2), some (.int x3), some (.int x4), some (.int (0 : Int32)), none, none, none, none]) (⟨rfl, ⟨rfl, ⟨rfl, ⟨rfl, ⟨rfl, ⟨rfl, trivial⟩⟩⟩⟩⟩⟩) hF
  · replace hF := hF.2 hc_1
    refine rn_aload_n dX10_hangsOf_111 rfl ?_
    refine rm_getr (r := 121) flRX10_74 rfl (by decide) rfl dX10_hangsOf_112 ?_
    refine rn_iload dX10_hangsOf_115 rfl ?_
    refine rn_iconst (x := (0 : Int32)) dX10_hangsOf_117 (by decide) ?_
    obtain ⟨j_3, hj_3, hF⟩ := hF
    refine rj_iast hj_3 rfl (by decide) rfl (by decide) dX10_hangsOf_118 (fun H_4 eH_4 => ?_)
    replace hF := hF H_4 eH_4
    refine rn_iinc (w := (1 : Int32)) dX10_hangsOf_119 rfl (by decide) rfl (by decide) (fun x5_5 ex5_5 => ?_)
    replace hF := hF x5_5 ex5_5
    refine rn_goto (tgt := 104) dX10_hangsOf_122 (by decide) ?_
    exact rn_wk (L' := [some (rf E 99), some (.int x1), some (.int x2), some (.int x3), some (.int x4), some (.int x5_5), none, none, none, none]) (⟨rfl, ⟨rfl, ⟨rfl, ⟨rfl, ⟨rfl, ⟨rfl, trivial⟩⟩⟩⟩⟩⟩) hF
theorem sgX10_hangsOf_128 {E : En} {Q : Option Value → Hi → Prop} {H : Hi} {x1 : Int32} {x2 : Int32} {x3 : Int32} {x4 : Int32} {x5 : Int32} 
    (hF : (x4 ≤ x5 → (Rm E mX10_hangsOf Q 310 [some (rf E 99), none, none, none, none, some (.int (0 : Int32)), some (.int (0 : Int32)), none, none, none] [] H)) ∧ (¬ x4 ≤ x5 → (Rm E mX10_hangsOf Q 145 [some (rf E 99), some (.int x1), some (.int x2), some (.int x3), some (.int x4), some (.int x5), some (.int (0 : Int32)), some (.int x5), some (.int (0 : Int32)), none] [] H))) :
    Rm E mX10_hangsOf Q 128 [some (rf E 99), some (.int x1), some (.int x2), some (.int x3), some (.int x4), some (.int x5), none, none, none, none] [] H := by
  refine rn_iload dX10_hangsOf_128 rfl ?_
  refine rn_iload dX10_hangsOf_130 rfl ?_
  refine rn_icmp_ge (tgt := 304) dX10_hangsOf_132 (by decide) (fun hc_1 => ?_) (fun hc_1 => ?_)
  · replace hF := hF.1 hc_1
    refine rn_iconst (x := (0 : Int32)) dX10_hangsOf_304 (by decide) ?_
    refine rn_istore dX10_hangsOf_305 rfl (by decide) (fun x5_2 ex5_2 => ?_)
    subst ex5_2
    refine rn_iconst (x := (0 : Int32)) dX10_hangsOf_307 (by decide) ?_
    refine rn_istore dX10_hangsOf_308 rfl (by decide) (fun x6_3 ex6_3 => ?_)
    subst ex6_3
    exact rn_wk (L' := [some (rf E 99), none, none, none, none, some (.int (0 : Int32)), some (.int (0 : Int32)), none, none, none]) (⟨rfl, ⟨rfl, ⟨rfl, trivial⟩⟩⟩) hF
  · replace hF := hF.2 hc_1
    refine rn_iconst (x := (0 : Int32)) dX10_hangsOf_135 (by decide) ?_
    refine rn_istore dX10_hangsOf_136 rfl (by decide) (fun x6_4 ex6_4 => ?_)
    subst ex6_4
    refine rn_iload dX10_hangsOf_138 rfl ?_
    refine rn_istore dX10_hangsOf_140 rfl (by decide) (fun x7_5 ex7_5 => ?_)
    subst ex7_5
    refine rn_iconst (x := (0 : Int32)) dX10_hangsOf_142 (by decide) ?_
    refine rn_istore dX10_hangsOf_143 rfl (by decide) (fun x8_6 ex8_6 => ?_)
    subst ex8_6
    exact rn_wk (L' := [some (rf E 99), some (.int x1), some (.int x2), some (.int x3), some (.int x4), some (.int x5), some (.int (0 : Int32)), some (.int x5), some (.int (0 : Int32)), none]) (⟨rfl, ⟨rfl, ⟨rfl, ⟨rfl, ⟨rfl, ⟨rfl, ⟨rfl, ⟨rfl, ⟨rfl, trivial⟩⟩⟩⟩⟩⟩⟩⟩⟩) hF
theorem sgX10_hangsOf_310 {E : En} {Q : Option Value → Hi → Prop} {H : Hi} {x5 : Int32} {x6 : Int32} 
    (hF : ((H 99 2) ≤ x6 → (Q (some (.int x5)) H)) ∧ (¬ (H 99 2) ≤ x6 → (∃ j_2 : Nat, (j_2 < 8 ∧ x6 = nI j_2) ∧ (∃ j_3 : Nat, (j_3 < 8 ∧ x6 = nI j_3) ∧ ((((H 121 j_2) &&& ((H 121 j_3) - (1 : Int32))) = 0 → (∀ x5_5 : Int32, x5_5 = x5 ||| (0 : Int32) → (∀ x6_6 : Int32, x6_6 = x6 + (1 : Int32) → (Rm E mX10_hangsOf Q 310 [some (rf E 99), none, none, none, none, some (.int x5_5), some (.int x6_6), none, none, none] [] H)))) ∧ (¬ ((H 121 j_2) &&& ((H 121 j_3) - (1 : Int32))) = 0 → (∀ x5_7 : Int32, x5_7 = x5 ||| ((1 : Int32) <<< (x6 &&& 31)) → (∀ x6_8 : Int32, x6_8 = x6 + (1 : Int32) → (Rm E mX10_hangsOf Q 310 [some (rf E 99), none, none, none, none, some (.int x5_7), some (.int x6_8), none, none, none] [] H))))))))) :
    Rm E mX10_hangsOf Q 310 [some (rf E 99), none, none, none, none, some (.int x5), some (.int x6), none, none, none] [] H := by
  refine rn_iload dX10_hangsOf_310 rfl ?_
  refine rn_aload_n dX10_hangsOf_312 rfl ?_
  refine rm_geti flRX10_125 rfl (by decide) rfl dX10_hangsOf_313 ?_
  refine rn_icmp_ge (tgt := 358) dX10_hangsOf_316 (by decide) (fun hc_1 => ?_) (fun hc_1 => ?_)
  · replace hF := hF.1 hc_1
    refine rn_iload dX10_hangsOf_358 rfl ?_
    exact rm_iret rfl dX10_hangsOf_360 hF
  · replace hF := hF.2 hc_1
    refine rn_iload dX10_hangsOf_319 rfl ?_
    refine rn_aload_n dX10_hangsOf_321 rfl ?_
    refine rm_getr (r := 121) flRX10_74 rfl (by decide) rfl dX10_hangsOf_322 ?_
    refine rn_iload dX10_hangsOf_325 rfl ?_
    obtain ⟨j_2, hj_2, hF⟩ := hF
    refine rj_iald hj_2 rfl (by decide) rfl (by decide) dX10_hangsOf_327 ?_
    refine rn_aload_n dX10_hangsOf_328 rfl ?_
    refine rm_getr (r := 121) flRX10_74 rfl (by decide) rfl dX10_hangsOf_329 ?_
    refine rn_iload dX10_hangsOf_332 rfl ?_
    obtain ⟨j_3, hj_3, hF⟩ := hF
    refine rj_iald hj_3 rfl (by decide) rfl (by decide) dX10_hangsOf_334 ?_
    refine rn_iconst (x := (1 : Int32)) dX10_hangsOf_335 (by decide) ?_
    refine rn_isub dX10_hangsOf_336 ?_
    refine rn_iand dX10_hangsOf_337 ?_
    refine rn_if_eq (tgt := 348) dX10_hangsOf_338 (by decide) (fun hc_4 => ?_) (fun hc_4 => ?_)
    · replace hF := hF.1 hc_4
      refine rn_iconst (x := (0 : Int32)) dX10_hangsOf_348 (by decide) ?_
      refine rn_ior dX10_hangsOf_349 ?_
      refine rn_istore dX10_hangsOf_350 rfl (by decide) (fun x5_5 ex5_5 => ?_)
      replace hF := hF x5_5 ex5_5
      refine rn_iinc (w := (1 : Int32)) dX10_hangsOf_352 rfl (by decide) rfl (by decide) (fun x6_6 ex6_6 => ?_)
      replace hF := hF x6_6 ex6_6
      refine rn_goto (tgt := 310) dX10_hangsOf_355 (by decide) ?_
      exact rn_wk (L' := [some (rf E 99), none, none, none, none, some (.int x5_5), some (.int x6_6), none, none, none]) (⟨rfl, ⟨rfl, ⟨rfl, trivial⟩⟩⟩) hF
    · replace hF := hF.2 hc_4
      refine rn_iconst (x := (1 : Int32)) dX10_hangsOf_341 (by decide) ?_
      refine rn_iload dX10_hangsOf_342 rfl ?_
      refine rn_ishl dX10_hangsOf_344 ?_
      refine rn_goto (tgt := 349) dX10_hangsOf_345 (by decide) ?_
      refine rn_ior dX10_hangsOf_349 ?_
      refine rn_istore dX10_hangsOf_350 rfl (by decide) (fun x5_7 ex5_7 => ?_)
      replace hF := hF x5_7 ex5_7
      refine rn_iinc (w := (1 : Int32)) dX10_hangsOf_352 rfl (by decide) rfl (by decide) (fun x6_8 ex6_8 => ?_)
      replace hF := hF x6_8 ex6_8
      refine rn_goto (tgt := 310) dX10_hangsOf_355 (by decide) ?_
      exact rn_wk (L' := [some (rf E 99), none, none, none, none, some (.int x5_7), some (.int x6_8), none, none, none]) (⟨rfl, ⟨rfl, ⟨rfl, trivial⟩⟩⟩) hF
theorem sgX10_hangsOf_145 {E : En} {Q : Option Value → Hi → Prop} {H : Hi} {x1 : Int32} {x2 : Int32} {x3 : Int32} {x4 : Int32} {x5 : Int32} {x6 : Int32} {x7 : Int32} {x8 : Int32} 
    (hF : (x3 ≤ x8 → ((¬ x6 = (((1 : Int32) <<< (x3 &&& 31)) - (1 : Int32)) → (∀ x5_3 : Int32, x5_3 = x5 + (1 : Int32) → (Rm E mX10_hangsOf Q 128 [some (rf E 99), some (.int x1), some (.int x2), some (.int x3), some (.int x4), some (.int x5_3), none, none, none, none] [] H))) ∧ (x6 = (((1 : Int32) <<< (x3 &&& 31)) - (1 : Int32)) → (Cm E mX10_restores [rf E 99] H (fun w H_4 => w = none ∧ (Rm E mX10_hangsOf Q 195 [some (rf E 99), some (.int x1), some (.int x2), some (.int x3), some (.int x4), some (.int x5), none, some (.int x5), some (.int (0 : Int32)), none] [] H_4)))))) ∧ (¬ x3 ≤ x8 → ((¬ x3 = 0) ∧ (∀ x6_8 : Int32, x6_8 = x6 ||| ((1 : Int32) <<< ((x7 - x7 / x3 * x3) &&& 31)) → ((¬ x3 = 0) ∧ (∀ x7_10 : Int32, x7_10 = x7 / x3 → (∀ x8_11 : Int32, x8_11 = x8 + (1 : Int32) → (Rm E mX10_hangsOf Q 145 [some (rf E 99), some (.int x1), some (.int x2), some (.int x3), some (.int x4), some (.int x5), some (.int x6_8), some (.int x7_10), some (.int x8_11), none] [] H)))))))) :
    Rm E mX10_hangsOf Q 145 [some (rf E 99), some (.int x1), some (.int x2), some (.int x3), some (.int x4), some (.int x5), some (.int x6), some (.int x7), some (.int x8), none] [] H := by
  refine rn_iload dX10_hangsOf_145 rfl ?_
  refine rn_iload_n dX10_hangsOf_147 rfl ?_
  refine rn_icmp_ge (tgt := 174) dX10_hangsOf_148 (by decide) (fun hc_1 => ?_) (fun hc_1 => ?_)
  · replace hF := hF.1 hc_1
    refine rn_iload dX10_hangsOf_174 rfl ?_
    refine rn_iconst (x := (1 : Int32)) dX10_hangsOf_176 (by decide) ?_
    refine rn_iload_n dX10_hangsOf_177 rfl ?_
    refine rn_ishl dX10_hangsOf_178 ?_
    refine rn_iconst (x := (1 : Int32)) dX10_hangsOf_179 (by decide) ?_
    refine rn_isub dX10_hangsOf_180 ?_
    refine rn_icmp_ne (tgt := 298) dX10_hangsOf_181 (by decide) (fun hc_2 => ?_) (fun hc_2 => ?_)
    · replace hF := hF.1 hc_2
      refine rn_iinc (w := (1 : Int32)) dX10_hangsOf_298 rfl (by decide) rfl (by decide) (fun x5_3 ex5_3 => ?_)
      replace hF := hF x5_3 ex5_3
      refine rn_goto (tgt := 128) dX10_hangsOf_301 (by decide) ?_
      exact rn_wk (L' := [some (rf E 99), some (.int x1), some (.int x2), some (.int x3), some (.int x4), some (.int x5_3), none, none, none, none]) (⟨rfl, ⟨rfl, ⟨rfl, ⟨rfl, ⟨rfl, ⟨rfl, trivial⟩⟩⟩⟩⟩⟩) hF
    · replace hF := hF.2 hc_2
      refine rn_aload_n dX10_hangsOf_184 rfl ?_
      refine rm_callV (c0 := 99) (As := []) (st := []) mlRX10_245 mdX10_restores (Nat.le_of_ble_eq_true rfl) rfl (by decide) (by decide) rfl rfl rfl (Nat.le_of_ble_eq_true rfl) ⟨Nat.le_refl _, Nat.le_refl _⟩ dX10_hangsOf_185 ?_
      refine cm_mono hF (fun w H_4 hF => ?_)
      obtain ⟨rfl, hF⟩ := hF
      refine rn_iload dX10_hangsOf_188 rfl ?_
      refine rn_istore dX10_hangsOf_190 rfl (by decide) (fun x7_5 ex7_5 => ?_)
      subst ex7_5
      refine rn_iconst (x := (0 : Int32)) dX10_hangsOf_192 (by decide) ?_
      refine rn_istore dX10_hangsOf_193 rfl (by decide) (fun x8_6 ex8_6 => ?_)
      subst ex8_6
      exact rn_wk (L' := [some (rf E 99), some (.int x1), some (.int x2), some (.int x3), some (.int x4), some (.int x5), none, some (.int x5), some (.int (0 : Int32)), none]) (⟨rfl, ⟨rfl, ⟨rfl, ⟨rfl, ⟨rfl, ⟨rfl, ⟨rfl, ⟨rfl, trivial⟩⟩⟩⟩⟩⟩⟩⟩) hF
  · replace hF := hF.2 hc_1
    refine rn_iload dX10_hangsOf_151 rfl ?_
    refine rn_iconst (x := (1 : Int32)) dX10_hangsOf_153 (by decide) ?_
    refine rn_iload dX10_hangsOf_154 rfl ?_
    refine rn_iload_n dX10_hangsOf_156 rfl ?_
    obtain ⟨hz_7, hF⟩ := hF
    refine rn_irem dX10_hangsOf_157 hz_7 ?_
    refine rn_ishl dX10_hangsOf_158 ?_
    refine rn_ior dX10_hangsOf_159 ?_
    refine rn_istore dX10_hangsOf_160 rfl (by decide) (fun x6_8 ex6_8 => ?_)
    replace hF := hF x6_8 ex6_8
    refine rn_iload dX10_hangsOf_162 rfl ?_
    refine rn_iload_n dX10_hangsOf_164 rfl ?_
    obtain ⟨hz_9, hF⟩ := hF
    refine rn_idiv dX10_hangsOf_165 hz_9 ?_
    refine rn_istore dX10_hangsOf_166 rfl (by decide) (fun x7_10 ex7_10 => ?_)
    replace hF := hF x7_10 ex7_10
    refine rn_iinc (w := (1 : Int32)) dX10_hangsOf_168 rfl (by decide) rfl (by decide) (fun x8_11 ex8_11 => ?_)
    replace hF := hF x8_11 ex8_11
    refine rn_goto (tgt := 145) dX10_hangsOf_171 (by decide) ?_
    exact rn_wk (L' := [some (rf E 99), some (.int x1), some (.int x2), some (.int x3), some (.int x4), some (.int x5), some (.int x6_8), some (.int x7_10), some (.int x8_11), none]) (⟨rfl, ⟨rfl, ⟨rfl, ⟨rfl, ⟨rfl, ⟨rfl, ⟨rfl, ⟨rfl, ⟨rfl, trivial⟩⟩⟩⟩⟩⟩⟩⟩⟩) hF
theorem sgX10_hangsOf_195 {E : En} {Q : Option Value → Hi → Prop} {H : Hi} {x1 : Int32} {x2 : Int32} {x3 : Int32} {x4 : Int32} {x5 : Int32} {x7 : Int32} {x8 : Int32} 
    (hF : (x3 ≤ x8 → (Rm E mX10_hangsOf Q 231 [some (rf E 99), some (.int x1), some (.int x2), some (.int x3), some (.int x4), some (.int x5), none, none, some (.int x3), none] [] H)) ∧ (¬ x3 ≤ x8 → ((¬ x3 = 0) ∧ (∃ j_4 : Nat, (j_4 < 20 ∧ x7 - x7 / x3 * x3 = nI j_4) ∧ (Cm E mX10_acts [rf E 99, .int (H 120 j_4)] H (fun w H_5 => ∃ r_6 : Int32, w = some (.int r_6) ∧ ((¬ x3 = 0) ∧ (∀ x7_9 : Int32, x7_9 = x7 / x3 → (∀ x8_10 : Int32, x8_10 = x8 + (1 : Int32) → (Rm E mX10_hangsOf Q 195 [some (rf E 99), some (.int x1), some (.int x2), some (.int x3), some (.int x4), some (.int x5), none, some (.int x7_9), some (.int x8_10), none] [] H_5)))))))))) :
    Rm E mX10_hangsOf Q 195 [some (rf E 99), some (.int x1), some (.int x2), some (.int x3), some (.int x4), some (.int x5), none, some (.int x7), some (.int x8), none] [] H := by
  refine rn_iload dX10_hangsOf_195 rfl ?_
  refine rn_iload_n dX10_hangsOf_197 rfl ?_
  refine rn_icmp_ge (tgt := 228) dX10_hangsOf_198 (by decide) (fun hc_1 => ?_) (fun hc_1 => ?_)
  · replace hF := hF.1 hc_1
    refine rn_iload_n dX10_hangsOf_228 rfl ?_
    refine rn_istore dX10_hangsOf_229 rfl (by decide) (fun x8_2 ex8_2 => ?_)
    subst ex8_2
    exact rn_wk (L' := [some (rf E 99), some (.int x1), some (.int x2), some (.int x3), some (.int x4), some (.int x5), none, none, some (.int x3), none]) (⟨rfl, ⟨rfl, ⟨rfl, ⟨rfl, ⟨rfl, ⟨rfl, ⟨rfl, trivial⟩⟩⟩⟩⟩⟩⟩) hF
  · replace hF := hF.2 hc_1
    refine rn_aload_n dX10_hangsOf_201 rfl ?_
    refine rn_aload_n dX10_hangsOf_202 rfl ?_
    refine rm_getr (r := 120) flRX10_71 rfl (by decide) rfl dX10_hangsOf_203 ?_
    refine rn_iload dX10_hangsOf_206 rfl ?_
    refine rn_iload_n dX10_hangsOf_208 rfl ?_
    obtain ⟨hz_3, hF⟩ := hF
    refine rn_irem dX10_hangsOf_209 hz_3 ?_
    obtain ⟨j_4, hj_4, hF⟩ := hF
    refine rj_iald hj_4 rfl (by decide) rfl (by decide) dX10_hangsOf_210 ?_
    refine rm_callV (c0 := 99) (As := [.int (H 120 j_4)]) (st := []) mlRX10_196 mdX10_acts (Nat.le_of_ble_eq_true rfl) rfl (by decide) (by decide) rfl rfl rfl (Nat.le_of_ble_eq_true rfl) ⟨Nat.le_refl _, Nat.le_refl _⟩ dX10_hangsOf_211 ?_
    refine cm_mono hF (fun w H_5 hF => ?_)
    obtain ⟨r_6, rfl, hF⟩ := hF
    refine rn_istore dX10_hangsOf_214 rfl (by decide) (fun x9_7 ex9_7 => ?_)
    subst ex9_7
    refine rn_iload dX10_hangsOf_216 rfl ?_
    refine rn_iload_n dX10_hangsOf_218 rfl ?_
    obtain ⟨hz_8, hF⟩ := hF
    refine rn_idiv dX10_hangsOf_219 hz_8 ?_
    refine rn_istore dX10_hangsOf_220 rfl (by decide) (fun x7_9 ex7_9 => ?_)
    replace hF := hF x7_9 ex7_9
    refine rn_iinc (w := (1 : Int32)) dX10_hangsOf_222 rfl (by decide) rfl (by decide) (fun x8_10 ex8_10 => ?_)
    replace hF := hF x8_10 ex8_10
    refine rn_goto (tgt := 195) dX10_hangsOf_225 (by decide) ?_
    exact rn_wk (L' := [some (rf E 99), some (.int x1), some (.int x2), some (.int x3), some (.int x4), some (.int x5), none, some (.int x7_9), some (.int x8_10), none]) (⟨rfl, ⟨rfl, ⟨rfl, ⟨rfl, ⟨rfl, ⟨rfl, ⟨rfl, ⟨rfl, trivial⟩⟩⟩⟩⟩⟩⟩⟩) hF
theorem sgX10_hangsOf_231 {E : En} {Q : Option Value → Hi → Prop} {H : Hi} {x1 : Int32} {x2 : Int32} {x3 : Int32} {x4 : Int32} {x5 : Int32} {x8 : Int32} 
    (hF : (x2 ≤ x8 → (Cm E mX10_ends [rf E 99, .int x1] H (fun w H_2 => w = none ∧ (Rm E mX10_hangsOf Q 264 [some (rf E 99), some (.int x1), some (.int x2), some (.int x3), some (.int x4), some (.int x5), none, none, some (.int (0 : Int32)), none] [] H_2)))) ∧ (¬ x2 ≤ x8 → (∃ j_4 : Nat, (j_4 < 20 ∧ x8 = nI j_4) ∧ (Cm E mX10_acts [rf E 99, .int (H 120 j_4)] H (fun w H_5 => ∃ r_6 : Int32, w = some (.int r_6) ∧ (∀ x8_8 : Int32, x8_8 = x8 + (1 : Int32) → (Rm E mX10_hangsOf Q 231 [some (rf E 99), some (.int x1), some (.int x2), some (.int x3), some (.int x4), some (.int x5), none, none, some (.int x8_8), none] [] H_5))))))) :
    Rm E mX10_hangsOf Q 231 [some (rf E 99), some (.int x1), some (.int x2), some (.int x3), some (.int x4), some (.int x5), none, none, some (.int x8), none] [] H := by
  refine rn_iload dX10_hangsOf_231 rfl ?_
  refine rn_iload_n dX10_hangsOf_233 rfl ?_
  refine rn_icmp_ge (tgt := 256) dX10_hangsOf_234 (by decide) (fun hc_1 => ?_) (fun hc_1 => ?_)
  · replace hF := hF.1 hc_1
    refine rn_aload_n dX10_hangsOf_256 rfl ?_
    refine rn_iload_n dX10_hangsOf_257 rfl ?_
    refine rm_callV (c0 := 99) (As := [.int x1]) (st := []) mlRX10_206 mdX10_ends (Nat.le_of_ble_eq_true rfl) rfl (by decide) (by decide) rfl rfl rfl (Nat.le_of_ble_eq_true rfl) ⟨Nat.le_refl _, Nat.le_refl _⟩ dX10_hangsOf_258 ?_
    refine cm_mono hF (fun w H_2 hF => ?_)
    obtain ⟨rfl, hF⟩ := hF
    refine rn_iconst (x := (0 : Int32)) dX10_hangsOf_261 (by decide) ?_
    refine rn_istore dX10_hangsOf_262 rfl (by decide) (fun x8_3 ex8_3 => ?_)
    subst ex8_3
    exact rn_wk (L' := [some (rf E 99), some (.int x1), some (.int x2), some (.int x3), some (.int x4), some (.int x5), none, none, some (.int (0 : Int32)), none]) (⟨rfl, ⟨rfl, ⟨rfl, ⟨rfl, ⟨rfl, ⟨rfl, ⟨rfl, trivial⟩⟩⟩⟩⟩⟩⟩) hF
  · replace hF := hF.2 hc_1
    refine rn_aload_n dX10_hangsOf_237 rfl ?_
    refine rn_aload_n dX10_hangsOf_238 rfl ?_
    refine rm_getr (r := 120) flRX10_71 rfl (by decide) rfl dX10_hangsOf_239 ?_
    refine rn_iload dX10_hangsOf_242 rfl ?_
    obtain ⟨j_4, hj_4, hF⟩ := hF
    refine rj_iald hj_4 rfl (by decide) rfl (by decide) dX10_hangsOf_244 ?_
    refine rm_callV (c0 := 99) (As := [.int (H 120 j_4)]) (st := []) mlRX10_196 mdX10_acts (Nat.le_of_ble_eq_true rfl) rfl (by decide) (by decide) rfl rfl rfl (Nat.le_of_ble_eq_true rfl) ⟨Nat.le_refl _, Nat.le_refl _⟩ dX10_hangsOf_245 ?_
    refine cm_mono hF (fun w H_5 hF => ?_)
    obtain ⟨r_6, rfl, hF⟩ := hF
    refine rn_istore dX10_hangsOf_248 rfl (by decide) (fun x9_7 ex9_7 => ?_)
    subst ex9_7
    refine rn_iinc (w := (1 : Int32)) dX10_hangsOf_250 rfl (by decide) rfl (by decide) (fun x8_8 ex8_8 => ?_)
    replace hF := hF x8_8 ex8_8
    refine rn_goto (tgt := 231) dX10_hangsOf_253 (by decide) ?_
    exact rn_wk (L' := [some (rf E 99), some (.int x1), some (.int x2), some (.int x3), some (.int x4), some (.int x5), none, none, some (.int x8_8), none]) (⟨rfl, ⟨rfl, ⟨rfl, ⟨rfl, ⟨rfl, ⟨rfl, ⟨rfl, trivial⟩⟩⟩⟩⟩⟩⟩) hF
theorem sgX10_hangsOf_264 {E : En} {Q : Option Value → Hi → Prop} {H : Hi} {x1 : Int32} {x2 : Int32} {x3 : Int32} {x4 : Int32} {x5 : Int32} {x8 : Int32} 
    (hF : ((H 99 2) ≤ x8 → (∀ x5_2 : Int32, x5_2 = x5 + (1 : Int32) → (Rm E mX10_hangsOf Q 128 [some (rf E 99), some (.int x1), some (.int x2), some (.int x3), some (.int x4), some (.int x5_2), none, none, none, none] [] H))) ∧ (¬ (H 99 2) ≤ x8 → (∃ j_3 : Nat, (j_3 < 8 ∧ x8 = nI j_3) ∧ (∃ j_4 : Nat, (j_4 < 8 ∧ x8 = nI j_4) ∧ (∃ j_5 : Nat, (j_5 < 8 ∧ x8 = nI j_5) ∧ (∀ H_6 : Hi, H_6 = up H 121 j_5 ((H 121 j_3) ||| ((1 : Int32) <<< ((H 111 j_4) &&& 31))) → (∀ x8_7 : Int32, x8_7 = x8 + (1 : Int32) → (Rm E mX10_hangsOf Q 264 [some (rf E 99), some (.int x1), some (.int x2), some (.int x3), some (.int x4), some (.int x5), none, none, some (.int x8_7), none] [] H_6)))))))) :
    Rm E mX10_hangsOf Q 264 [some (rf E 99), some (.int x1), some (.int x2), some (.int x3), some (.int x4), some (.int x5), none, none, some (.int x8), none] [] H := by
  refine rn_iload dX10_hangsOf_264 rfl ?_
  refine rn_aload_n dX10_hangsOf_266 rfl ?_
  refine rm_geti flRX10_125 rfl (by decide) rfl dX10_hangsOf_267 ?_
  refine rn_icmp_ge (tgt := 298) dX10_hangsOf_270 (by decide) (fun hc_1 => ?_) (fun hc_1 => ?_)
  · replace hF := hF.1 hc_1
    refine rn_iinc (w := (1 : Int32)) dX10_hangsOf_298 rfl (by decide) rfl (by decide) (fun x5_2 ex5_2 => ?_)
    replace hF := hF x5_2 ex5_2
    refine rn_goto (tgt := 128) dX10_hangsOf_301 (by decide) ?_
    exact rn_wk (L' := [some (rf E 99), some (.int x1), some (.int x2), some (.int x3), some (.int x4), some (.int x5_2), none, none, none, none]) (⟨rfl, ⟨rfl, ⟨rfl, ⟨rfl, ⟨rfl, ⟨rfl, trivial⟩⟩⟩⟩⟩⟩) hF
  · replace hF := hF.2 hc_1
    refine rn_aload_n dX10_hangsOf_273 rfl ?_
    refine rm_getr (r := 121) flRX10_74 rfl (by decide) rfl dX10_hangsOf_274 ?_
    refine rn_iload dX10_hangsOf_277 rfl ?_
    refine rn_dup2 dX10_hangsOf_279 rfl rfl ?_
    obtain ⟨j_3, hj_3, hF⟩ := hF
    refine rj_iald hj_3 rfl (by decide) rfl (by decide) dX10_hangsOf_280 ?_
    refine rn_iconst (x := (1 : Int32)) dX10_hangsOf_281 (by decide) ?_
    refine rn_aload_n dX10_hangsOf_282 rfl ?_
    refine rm_getr (r := 111) flRX10_43 rfl (by decide) rfl dX10_hangsOf_283 ?_
    refine rn_iload dX10_hangsOf_286 rfl ?_
    obtain ⟨j_4, hj_4, hF⟩ := hF
    refine rj_iald hj_4 rfl (by decide) rfl (by decide) dX10_hangsOf_288 ?_
    refine rn_ishl dX10_hangsOf_289 ?_
    refine rn_ior dX10_hangsOf_290 ?_
    obtain ⟨j_5, hj_5, hF⟩ := hF
    refine rj_iast hj_5 rfl (by decide) rfl (by decide) dX10_hangsOf_291 (fun H_6 eH_6 => ?_)
    replace hF := hF H_6 eH_6
    refine rn_iinc (w := (1 : Int32)) dX10_hangsOf_292 rfl (by decide) rfl (by decide) (fun x8_7 ex8_7 => ?_)
    replace hF := hF x8_7 ex8_7
    refine rn_goto (tgt := 264) dX10_hangsOf_295 (by decide) ?_
    exact rn_wk (L' := [some (rf E 99), some (.int x1), some (.int x2), some (.int x3), some (.int x4), some (.int x5), none, none, some (.int x8_7), none]) (⟨rfl, ⟨rfl, ⟨rfl, ⟨rfl, ⟨rfl, ⟨rfl, ⟨rfl, trivial⟩⟩⟩⟩⟩⟩⟩) hF
theorem sgX10_hangs_0 {E : En} {Q : Option Value → Hi → Prop} {H : Hi} {x1 : Int32} 
    (hF : Cm E mX10_isHour [.int x1] H (fun w H_1 => ∃ r_2 : Int32, w = some (.int r_2) ∧ ((r_2 = 0 → (Q (some (.int (-2 : Int32))) H_1)) ∧ (¬ r_2 = 0 → (Cm E mX10_hangsOf [rf E 99, .int x1] H_1 (fun w H_4 => ∃ r_5 : Int32, w = some (.int r_5) ∧ (Q (some (.int r_5)) H_4))))))) :
    Rm E mX10_hangs Q 0 [some (rf E 99), some (.int x1)] [] H := by
  refine rn_iload_n dX10_hangs_0 rfl ?_
  refine rm_callS (As := [.int x1]) (st := []) mlRX10_160 mdX10_isHour (Nat.le_of_ble_eq_true rfl) rfl rfl (Nat.le_of_ble_eq_true rfl) ⟨Nat.le_refl _, Nat.le_refl _⟩ dX10_hangs_1 ?_
  refine cm_mono hF (fun w H_1 hF => ?_)
  obtain ⟨r_2, rfl, hF⟩ := hF
  refine rn_if_eq (tgt := 15) dX10_hangs_4 (by decide) (fun hc_3 => ?_) (fun hc_3 => ?_)
  · replace hF := hF.1 hc_3
    refine rn_bipush (x := (-2 : Int32)) dX10_hangs_15 (by decide) ?_
    exact rm_iret rfl dX10_hangs_17 hF
  · replace hF := hF.2 hc_3
    refine rn_aload_n dX10_hangs_7 rfl ?_
    refine rn_iload_n dX10_hangs_8 rfl ?_
    refine rm_callV (c0 := 99) (As := [.int x1]) (st := []) mlRX10_268 mdX10_hangsOf (Nat.le_of_ble_eq_true rfl) rfl (by decide) (by decide) rfl rfl rfl (Nat.le_of_ble_eq_true rfl) ⟨Nat.le_refl _, Nat.le_refl _⟩ dX10_hangs_9 ?_
    refine cm_mono hF (fun w H_4 hF => ?_)
    obtain ⟨r_5, rfl, hF⟩ := hF
    refine rn_goto (tgt := 17) dX10_hangs_12 (by decide) ?_
    exact rm_iret rfl dX10_hangs_17 hF
theorem cmX10_hangs {E : En} {Q : Option Value → Hi → Prop} {H : Hi} {x1 : Int32} 
    (hF : Cm E mX10_isHour [.int x1] H (fun w H_1 => ∃ r_2 : Int32, w = some (.int r_2) ∧ ((r_2 = 0 → (Q (some (.int (-2 : Int32))) H_1)) ∧ (¬ r_2 = 0 → (Cm E mX10_hangsOf [rf E 99, .int x1] H_1 (fun w H_4 => ∃ r_5 : Int32, w = some (.int r_5) ∧ (Q (some (.int r_5)) H_4))))))) :
    Cm E mX10_hangs [rf E 99, .int x1] H Q :=
  cm_of (by decide +kernel) (Nat.le_of_ble_eq_true rfl) rfl (sgX10_hangs_0  hF)
theorem sgX10_sorts_0 {E : En} {Q : Option Value → Hi → Prop} {H : Hi} {x1 : Int32} {x2 : Int32} 
    (hF : Cm E mX10_asTold [rf E 99] H (fun w H_1 => w = none ∧ (∀ H_2 : Hi, H_2 = up H_1 99 23 x1 → (Cm E mX10_begins [rf E 99] H_2 (fun w H_3 => w = none ∧ (Rm E mX10_sorts Q 15 [some (rf E 99), none, some (.int x2), some (.int (0 : Int32))] [] H_3)))))) :
    Rm E mX10_sorts Q 0 [some (rf E 99), some (.int x1), some (.int x2), none] [] H := by
  refine rn_aload_n dX10_sorts_0 rfl ?_
  refine rm_callV (c0 := 99) (As := []) (st := []) mlRX10_215 mdX10_asTold (Nat.le_of_ble_eq_true rfl) rfl (by decide) (by decide) rfl rfl rfl (Nat.le_of_ble_eq_true rfl) ⟨Nat.le_refl _, Nat.le_refl _⟩ dX10_sorts_1 ?_
  refine cm_mono hF (fun w H_1 hF => ?_)
  obtain ⟨rfl, hF⟩ := hF
  refine rn_aload_n dX10_sorts_4 rfl ?_
  refine rn_iload_n dX10_sorts_5 rfl ?_
  refine rm_puti flRX10_182 rfl (by decide) rfl dX10_sorts_6 (fun H_2 eH_2 => ?_)
  replace hF := hF H_2 eH_2
  refine rn_aload_n dX10_sorts_9 rfl ?_
  refine rm_callV (c0 := 99) (As := []) (st := []) mlRX10_209 mdX10_begins (Nat.le_of_ble_eq_true rfl) rfl (by decide) (by decide) rfl rfl rfl (Nat.le_of_ble_eq_true rfl) ⟨Nat.le_refl _, Nat.le_refl _⟩ dX10_sorts_10 ?_
  refine cm_mono hF (fun w H_3 hF => ?_)
  obtain ⟨rfl, hF⟩ := hF
  refine rn_iconst (x := (0 : Int32)) dX10_sorts_13 (by decide) ?_
  refine rn_istore_n dX10_sorts_14 rfl (by decide) (fun x3_4 ex3_4 => ?_)
  subst ex3_4
  exact rn_wk (L' := [some (rf E 99), none, some (.int x2), some (.int (0 : Int32))]) (⟨rfl, ⟨rfl, ⟨rfl, trivial⟩⟩⟩) hF
theorem cmX10_sorts {E : En} {Q : Option Value → Hi → Prop} {H : Hi} {x1 : Int32} {x2 : Int32} 
    (hF : Cm E mX10_asTold [rf E 99] H (fun w H_1 => w = none ∧ (∀ H_2 : Hi, H_2 = up H_1 99 23 x1 → (Cm E mX10_begins [rf E 99] H_2 (fun w H_3 => w = none ∧ (Rm E mX10_sorts Q 15 [some (rf E 99), none, some (.int x2), some (.int (0 : Int32))] [] H_3)))))) :
    Cm E mX10_sorts [rf E 99, .int x1, .int x2] H Q :=
  cm_of (by decide +kernel) (Nat.le_of_ble_eq_true rfl) rfl (sgX10_sorts_0  hF)
theorem sgX10_sorts_15 {E : En} {Q : Option Value → Hi → Prop} {H : Hi} {x2 : Int32} {x3 : Int32} 
    (hF : ((24 : Int32) ≤ x3 → (Q (some (.int (1 : Int32))) H)) ∧ (¬ (24 : Int32) ≤ x3 → (Cm E mX10_goesBy [rf E 99, .int x3] H (fun w H_2 => w = none ∧ (Cm E mX10_loadNow [rf E 99] H_2 (fun w H_3 => ∃ r_4 : Int32, w = some (.int r_4) ∧ ((r_4 ≤ x2 → (∀ x3_6 : Int32, x3_6 = x3 + (1 : Int32) → (Rm E mX10_sorts Q 15 [some (rf E 99), none, some (.int x2), some (.int x3_6)] [] H_3))) ∧ (¬ r_4 ≤ x2 → (Q (some (.int (0 : Int32))) H_3))))))))) :
    Rm E mX10_sorts Q 15 [some (rf E 99), none, some (.int x2), some (.int x3)] [] H := by
  refine rn_iload_n dX10_sorts_15 rfl ?_
  refine rn_bipush (x := (24 : Int32)) dX10_sorts_16 (by decide) ?_
  refine rn_icmp_ge (tgt := 42) dX10_sorts_18 (by decide) (fun hc_1 => ?_) (fun hc_1 => ?_)
  · replace hF := hF.1 hc_1
    refine rn_iconst (x := (1 : Int32)) dX10_sorts_42 (by decide) ?_
    exact rm_zret rfl rfl dX10_sorts_43 hF
  · replace hF := hF.2 hc_1
    refine rn_aload_n dX10_sorts_21 rfl ?_
    refine rn_iload_n dX10_sorts_22 rfl ?_
    refine rm_callV (c0 := 99) (As := [.int x3]) (st := []) mlRX10_212 mdX10_goesBy (Nat.le_of_ble_eq_true rfl) rfl (by decide) (by decide) rfl rfl rfl (Nat.le_of_ble_eq_true rfl) ⟨Nat.le_refl _, Nat.le_refl _⟩ dX10_sorts_23 ?_
    refine cm_mono hF (fun w H_2 hF => ?_)
    obtain ⟨rfl, hF⟩ := hF
    refine rn_aload_n dX10_sorts_26 rfl ?_
    refine rm_callV (c0 := 99) (As := []) (st := []) mlRX10_185 mdX10_loadNow (Nat.le_of_ble_eq_true rfl) rfl (by decide) (by decide) rfl rfl rfl (Nat.le_of_ble_eq_true rfl) ⟨Nat.le_refl _, Nat.le_refl _⟩ dX10_sorts_27 ?_
    refine cm_mono hF (fun w H_3 hF => ?_)
    obtain ⟨r_4, rfl, hF⟩ := hF
    refine rn_iload_n dX10_sorts_30 rfl ?_
    refine rn_icmp_le (tgt := 36) dX10_sorts_31 (by decide) (fun hc_5 => ?_) (fun hc_5 => ?_)
    · replace hF := hF.1 hc_5
      refine rn_iinc (w := (1 : Int32)) dX10_sorts_36 rfl (by decide) rfl (by decide) (fun x3_6 ex3_6 => ?_)
      replace hF := hF x3_6 ex3_6
      refine rn_goto (tgt := 15) dX10_sorts_39 (by decide) ?_
      exact rn_wk (L' := [some (rf E 99), none, some (.int x2), some (.int x3_6)]) (⟨rfl, ⟨rfl, ⟨rfl, trivial⟩⟩⟩) hF
    · replace hF := hF.2 hc_5
      refine rn_iconst (x := (0 : Int32)) dX10_sorts_34 (by decide) ?_
      exact rm_zret rfl rfl dX10_sorts_35 hF
theorem sgX10_sortBy_0 {E : En} {Q : Option Value → Hi → Prop} {H : Hi} {x1 : Int32} 
    (hF : Cm E mX10_reads [rf E 99] H (fun w H_1 => w = none ∧ (Cm E mX10_sorts [rf E 99, .int (0 : Int32), .int x1] H_1 (fun w H_2 => ∃ r_3 : Int32, w = some (.int r_3) ∧ ((r_3 = 0 → (Rm E mX10_sortBy Q 17 [some (rf E 99), some (.int x1), some (.int (0 : Int32)), none] [] H_2)) ∧ (¬ r_3 = 0 → (Q (some (.int (0 : Int32))) H_2))))))) :
    Rm E mX10_sortBy Q 0 [some (rf E 99), some (.int x1), none, none] [] H := by
  refine rn_aload_n dX10_sortBy_0 rfl ?_
  refine rm_callV (c0 := 99) (As := []) (st := []) mlRX10_144 mdX10_reads (Nat.le_of_ble_eq_true rfl) rfl (by decide) (by decide) rfl rfl rfl (Nat.le_of_ble_eq_true rfl) ⟨Nat.le_refl _, Nat.le_refl _⟩ dX10_sortBy_1 ?_
  refine cm_mono hF (fun w H_1 hF => ?_)
  obtain ⟨rfl, hF⟩ := hF
  refine rn_aload_n dX10_sortBy_4 rfl ?_
  refine rn_iconst (x := (0 : Int32)) dX10_sortBy_5 (by decide) ?_
  refine rn_iload_n dX10_sortBy_6 rfl ?_
  refine rm_callV (c0 := 99) (As := [.int (0 : Int32), .int x1]) (st := []) mlRX10_271 mdX10_sorts (Nat.le_of_ble_eq_true rfl) rfl (by decide) (by decide) rfl rfl rfl (Nat.le_of_ble_eq_true rfl) ⟨Nat.le_refl _, Nat.le_refl _⟩ dX10_sortBy_7 ?_
  refine cm_mono hF (fun w H_2 hF => ?_)
  obtain ⟨r_3, rfl, hF⟩ := hF
  refine rn_if_eq (tgt := 15) dX10_sortBy_10 (by decide) (fun hc_4 => ?_) (fun hc_4 => ?_)
  · replace hF := hF.1 hc_4
    refine rn_iconst (x := (0 : Int32)) dX10_sortBy_15 (by decide) ?_
    refine rn_istore_n dX10_sortBy_16 rfl (by decide) (fun x2_5 ex2_5 => ?_)
    subst ex2_5
    exact rn_wk (L' := [some (rf E 99), some (.int x1), some (.int (0 : Int32)), none]) (⟨rfl, ⟨rfl, ⟨rfl, trivial⟩⟩⟩) hF
  · replace hF := hF.2 hc_4
    refine rn_iconst (x := (0 : Int32)) dX10_sortBy_13 (by decide) ?_
    exact rm_iret rfl dX10_sortBy_14 hF
theorem cmX10_sortBy {E : En} {Q : Option Value → Hi → Prop} {H : Hi} {x1 : Int32} 
    (hF : Cm E mX10_reads [rf E 99] H (fun w H_1 => w = none ∧ (Cm E mX10_sorts [rf E 99, .int (0 : Int32), .int x1] H_1 (fun w H_2 => ∃ r_3 : Int32, w = some (.int r_3) ∧ ((r_3 = 0 → (Rm E mX10_sortBy Q 17 [some (rf E 99), some (.int x1), some (.int (0 : Int32)), none] [] H_2)) ∧ (¬ r_3 = 0 → (Q (some (.int (0 : Int32))) H_2))))))) :
    Cm E mX10_sortBy [rf E 99, .int x1] H Q :=
  cm_of (by decide +kernel) (Nat.le_of_ble_eq_true rfl) rfl (sgX10_sortBy_0  hF)
theorem sgX10_sortBy_17 {E : En} {Q : Option Value → Hi → Prop} {H : Hi} {x1 : Int32} {x2 : Int32} 
    (hF : ((24 : Int32) ≤ x2 → (Rm E mX10_sortBy Q 51 [some (rf E 99), some (.int x1), some (.int (0 : Int32)), none] [] H)) ∧ (¬ (24 : Int32) ≤ x2 → (∀ H_3 : Hi, H_3 = up H 119 0 x2 → (Cm E mX10_sorts [rf E 99, .int ((1 : Int32) <<< (x2 &&& 31)), .int x1] H_3 (fun w H_4 => ∃ r_5 : Int32, w = some (.int r_5) ∧ ((r_5 = 0 → (∀ x2_7 : Int32, x2_7 = x2 + (1 : Int32) → (Rm E mX10_sortBy Q 17 [some (rf E 99), some (.int x1), some (.int x2_7), none] [] H_4))) ∧ (¬ r_5 = 0 → (Q (some (.int (1 : Int32))) H_4)))))))) :
    Rm E mX10_sortBy Q 17 [some (rf E 99), some (.int x1), some (.int x2), none] [] H := by
  refine rn_iload_n dX10_sortBy_17 rfl ?_
  refine rn_bipush (x := (24 : Int32)) dX10_sortBy_18 (by decide) ?_
  refine rn_icmp_ge (tgt := 49) dX10_sortBy_20 (by decide) (fun hc_1 => ?_) (fun hc_1 => ?_)
  · replace hF := hF.1 hc_1
    refine rn_iconst (x := (0 : Int32)) dX10_sortBy_49 (by decide) ?_
    refine rn_istore_n dX10_sortBy_50 rfl (by decide) (fun x2_2 ex2_2 => ?_)
    subst ex2_2
    exact rn_wk (L' := [some (rf E 99), some (.int x1), some (.int (0 : Int32)), none]) (⟨rfl, ⟨rfl, ⟨rfl, trivial⟩⟩⟩) hF
  · replace hF := hF.2 hc_1
    refine rn_aload_n dX10_sortBy_23 rfl ?_
    refine rm_getr (r := 119) flRX10_68 rfl (by decide) rfl dX10_sortBy_24 ?_
    refine rn_iconst (x := (0 : Int32)) dX10_sortBy_27 (by decide) ?_
    refine rn_iload_n dX10_sortBy_28 rfl ?_
    refine rj_iast ⟨by decide, by decide⟩ rfl (by decide) rfl (by decide) dX10_sortBy_29 (fun H_3 eH_3 => ?_)
    replace hF := hF H_3 eH_3
    refine rn_aload_n dX10_sortBy_30 rfl ?_
    refine rn_iconst (x := (1 : Int32)) dX10_sortBy_31 (by decide) ?_
    refine rn_iload_n dX10_sortBy_32 rfl ?_
    refine rn_ishl dX10_sortBy_33 ?_
    refine rn_iload_n dX10_sortBy_34 rfl ?_
    refine rm_callV (c0 := 99) (As := [.int ((1 : Int32) <<< (x2 &&& 31)), .int x1]) (st := []) mlRX10_271 mdX10_sorts (Nat.le_of_ble_eq_true rfl) rfl (by decide) (by decide) rfl rfl rfl (Nat.le_of_ble_eq_true rfl) ⟨Nat.le_refl _, Nat.le_refl _⟩ dX10_sortBy_35 ?_
    refine cm_mono hF (fun w H_4 hF => ?_)
    obtain ⟨r_5, rfl, hF⟩ := hF
    refine rn_if_eq (tgt := 43) dX10_sortBy_38 (by decide) (fun hc_6 => ?_) (fun hc_6 => ?_)
    · replace hF := hF.1 hc_6
      refine rn_iinc (w := (1 : Int32)) dX10_sortBy_43 rfl (by decide) rfl (by decide) (fun x2_7 ex2_7 => ?_)
      replace hF := hF x2_7 ex2_7
      refine rn_goto (tgt := 17) dX10_sortBy_46 (by decide) ?_
      exact rn_wk (L' := [some (rf E 99), some (.int x1), some (.int x2_7), none]) (⟨rfl, ⟨rfl, ⟨rfl, trivial⟩⟩⟩) hF
    · replace hF := hF.2 hc_6
      refine rn_iconst (x := (1 : Int32)) dX10_sortBy_41 (by decide) ?_
      exact rm_iret rfl dX10_sortBy_42 hF
theorem sgX10_sortBy_51 {E : En} {Q : Option Value → Hi → Prop} {H : Hi} {x1 : Int32} {x2 : Int32} 
    (hF : ((24 : Int32) ≤ x2 → (Q (some (.int (-1 : Int32))) H)) ∧ (¬ (24 : Int32) ≤ x2 → (∀ x3_2 : Int32, x3_2 = x2 + (1 : Int32) → (Rm E mX10_sortBy Q 61 [some (rf E 99), some (.int x1), some (.int x2), some (.int x3_2)] [] H)))) :
    Rm E mX10_sortBy Q 51 [some (rf E 99), some (.int x1), some (.int x2), none] [] H := by
  refine rn_iload_n dX10_sortBy_51 rfl ?_
  refine rn_bipush (x := (24 : Int32)) dX10_sortBy_52 (by decide) ?_
  refine rn_icmp_ge (tgt := 110) dX10_sortBy_54 (by decide) (fun hc_1 => ?_) (fun hc_1 => ?_)
  · replace hF := hF.1 hc_1
    refine rn_iconst (x := (-1 : Int32)) dX10_sortBy_110 (by decide) ?_
    exact rm_iret rfl dX10_sortBy_111 hF
  · replace hF := hF.2 hc_1
    refine rn_iload_n dX10_sortBy_57 rfl ?_
    refine rn_iconst (x := (1 : Int32)) dX10_sortBy_58 (by decide) ?_
    refine rn_iadd dX10_sortBy_59 ?_
    refine rn_istore_n dX10_sortBy_60 rfl (by decide) (fun x3_2 ex3_2 => ?_)
    replace hF := hF x3_2 ex3_2
    exact rn_wk (L' := [some (rf E 99), some (.int x1), some (.int x2), some (.int x3_2)]) (⟨rfl, ⟨rfl, ⟨rfl, ⟨rfl, trivial⟩⟩⟩⟩) hF
theorem sgX10_sortBy_61 {E : En} {Q : Option Value → Hi → Prop} {H : Hi} {x1 : Int32} {x2 : Int32} {x3 : Int32} 
    (hF : ((24 : Int32) ≤ x3 → (∀ x2_2 : Int32, x2_2 = x2 + (1 : Int32) → (Rm E mX10_sortBy Q 51 [some (rf E 99), some (.int x1), some (.int x2_2), none] [] H))) ∧ (¬ (24 : Int32) ≤ x3 → (∀ H_3 : Hi, H_3 = up H 119 0 x2 → (∀ H_4 : Hi, H_4 = up H_3 119 1 x3 → (Cm E mX10_sorts [rf E 99, .int (((1 : Int32) <<< (x2 &&& 31)) ||| ((1 : Int32) <<< (x3 &&& 31))), .int x1] H_4 (fun w H_5 => ∃ r_6 : Int32, w = some (.int r_6) ∧ ((r_6 = 0 → (∀ x3_8 : Int32, x3_8 = x3 + (1 : Int32) → (Rm E mX10_sortBy Q 61 [some (rf E 99), some (.int x1), some (.int x2), some (.int x3_8)] [] H_5))) ∧ (¬ r_6 = 0 → (Q (some (.int (2 : Int32))) H_5))))))))) :
    Rm E mX10_sortBy Q 61 [some (rf E 99), some (.int x1), some (.int x2), some (.int x3)] [] H := by
  refine rn_iload_n dX10_sortBy_61 rfl ?_
  refine rn_bipush (x := (24 : Int32)) dX10_sortBy_62 (by decide) ?_
  refine rn_icmp_ge (tgt := 104) dX10_sortBy_64 (by decide) (fun hc_1 => ?_) (fun hc_1 => ?_)
  · replace hF := hF.1 hc_1
    refine rn_iinc (w := (1 : Int32)) dX10_sortBy_104 rfl (by decide) rfl (by decide) (fun x2_2 ex2_2 => ?_)
    replace hF := hF x2_2 ex2_2
    refine rn_goto (tgt := 51) dX10_sortBy_107 (by decide) ?_
    exact rn_wk (L' := [some (rf E 99), some (.int x1), some (.int x2_2), none]) (⟨rfl, ⟨rfl, ⟨rfl, trivial⟩⟩⟩) hF
  · replace hF := hF.2 hc_1
    refine rn_aload_n dX10_sortBy_67 rfl ?_
    refine rm_getr (r := 119) flRX10_68 rfl (by decide) rfl dX10_sortBy_68 ?_
    refine rn_iconst (x := (0 : Int32)) dX10_sortBy_71 (by decide) ?_
    refine rn_iload_n dX10_sortBy_72 rfl ?_
    refine rj_iast ⟨by decide, by decide⟩ rfl (by decide) rfl (by decide) dX10_sortBy_73 (fun H_3 eH_3 => ?_)
    replace hF := hF H_3 eH_3
    refine rn_aload_n dX10_sortBy_74 rfl ?_
    refine rm_getr (r := 119) flRX10_68 rfl (by decide) rfl dX10_sortBy_75 ?_
    refine rn_iconst (x := (1 : Int32)) dX10_sortBy_78 (by decide) ?_
    refine rn_iload_n dX10_sortBy_79 rfl ?_
    refine rj_iast ⟨by decide, by decide⟩ rfl (by decide) rfl (by decide) dX10_sortBy_80 (fun H_4 eH_4 => ?_)
    replace hF := hF H_4 eH_4
    refine rn_aload_n dX10_sortBy_81 rfl ?_
    refine rn_iconst (x := (1 : Int32)) dX10_sortBy_82 (by decide) ?_
    refine rn_iload_n dX10_sortBy_83 rfl ?_
    refine rn_ishl dX10_sortBy_84 ?_
    refine rn_iconst (x := (1 : Int32)) dX10_sortBy_85 (by decide) ?_
    refine rn_iload_n dX10_sortBy_86 rfl ?_
    refine rn_ishl dX10_sortBy_87 ?_
    refine rn_ior dX10_sortBy_88 ?_
    refine rn_iload_n dX10_sortBy_89 rfl ?_
    refine rm_callV (c0 := 99) (As := [.int (((1 : Int32) <<< (x2 &&& 31)) ||| ((1 : Int32) <<< (x3 &&& 31))), .int x1]) (st := []) mlRX10_271 mdX10_sorts (Nat.le_of_ble_eq_true rfl) rfl (by decide) (by decide) rfl rfl rfl (Nat.le_of_ble_eq_true rfl) ⟨Nat.le_refl _, Nat.le_refl _⟩ dX10_sortBy_90 ?_
    refine cm_mono hF (fun w H_5 hF => ?_)
    obtain ⟨r_6, rfl, hF⟩ := hF
    refine rn_if_eq (tgt := 98) dX10_sortBy_93 (by decide) (fun hc_7 => ?_) (fun hc_7 => ?_)
    · replace hF := hF.1 hc_7
      refine rn_iinc (w := (1 : Int32)) dX10_sortBy_98 rfl (by decide) rfl (by decide) (fun x3_8 ex3_8 => ?_)
      replace hF := hF x3_8 ex3_8
      refine rn_goto (tgt := 61) dX10_sortBy_101 (by decide) ?_
      exact rn_wk (L' := [some (rf E 99), some (.int x1), some (.int x2), some (.int x3_8)]) (⟨rfl, ⟨rfl, ⟨rfl, ⟨rfl, trivial⟩⟩⟩⟩) hF
    · replace hF := hF.2 hc_7
      refine rn_iconst (x := (2 : Int32)) dX10_sortBy_96 (by decide) ?_
      exact rm_iret rfl dX10_sortBy_97 hF
theorem sgX10_sort_0 {E : En} {Q : Option Value → Hi → Prop} {H : Hi} {x1 : Int32} {x2 : Int32} 
    (hF : Cm E mX10_in [.int x1, .int (0 : Int32), .int (72 : Int32)] H (fun w H_1 => ∃ r_2 : Int32, w = some (.int r_2) ∧ ((r_2 = 0 → (Q (some (.int (-2 : Int32))) H_1)) ∧ (¬ r_2 = 0 → (Cm E mX10_in [.int x2, .int (-1 : Int32), .int (1 : Int32)] H_1 (fun w H_4 => ∃ r_5 : Int32, w = some (.int r_5) ∧ ((r_5 = 0 → (Q (some (.int (-2 : Int32))) H_4)) ∧ (¬ r_5 = 0 → (Cm E mX10_sortBy [rf E 99, .int x1] H_4 (fun w H_7 => ∃ r_8 : Int32, w = some (.int r_8) ∧ (Cm E mX10_ofRow [rf E 99, .int r_8, .int x2] H_7 (fun w H_9 => ∃ r_10 : Int32, w = some (.int r_10) ∧ (Q (some (.int r_10)) H_9))))))))))))) :
    Rm E mX10_sort Q 0 [some (rf E 99), some (.int x1), some (.int x2)] [] H := by
  refine rn_iload_n dX10_sort_0 rfl ?_
  refine rn_iconst (x := (0 : Int32)) dX10_sort_1 (by decide) ?_
  refine rn_bipush (x := (72 : Int32)) dX10_sort_2 (by decide) ?_
  refine rm_callS (As := [.int x1, .int (0 : Int32), .int (72 : Int32)]) (st := []) mlRX10_110 mdX10_in (Nat.le_of_ble_eq_true rfl) rfl rfl (Nat.le_of_ble_eq_true rfl) ⟨Nat.le_refl _, Nat.le_refl _⟩ dX10_sort_4 ?_
  refine cm_mono hF (fun w H_1 hF => ?_)
  obtain ⟨r_2, rfl, hF⟩ := hF
  refine rn_if_eq (tgt := 32) dX10_sort_7 (by decide) (fun hc_3 => ?_) (fun hc_3 => ?_)
  · replace hF := hF.1 hc_3
    refine rn_bipush (x := (-2 : Int32)) dX10_sort_32 (by decide) ?_
    exact rm_iret rfl dX10_sort_34 hF
  · replace hF := hF.2 hc_3
    refine rn_iload_n dX10_sort_10 rfl ?_
    refine rn_iconst (x := (-1 : Int32)) dX10_sort_11 (by decide) ?_
    refine rn_iconst (x := (1 : Int32)) dX10_sort_12 (by decide) ?_
    refine rm_callS (As := [.int x2, .int (-1 : Int32), .int (1 : Int32)]) (st := []) mlRX10_110 mdX10_in (Nat.le_of_ble_eq_true rfl) rfl rfl (Nat.le_of_ble_eq_true rfl) ⟨Nat.le_refl _, Nat.le_refl _⟩ dX10_sort_13 ?_
    refine cm_mono hF (fun w H_4 hF => ?_)
    obtain ⟨r_5, rfl, hF⟩ := hF
    refine rn_if_eq (tgt := 32) dX10_sort_16 (by decide) (fun hc_6 => ?_) (fun hc_6 => ?_)
    · replace hF := hF.1 hc_6
      refine rn_bipush (x := (-2 : Int32)) dX10_sort_32 (by decide) ?_
      exact rm_iret rfl dX10_sort_34 hF
    · replace hF := hF.2 hc_6
      refine rn_aload_n dX10_sort_19 rfl ?_
      refine rn_aload_n dX10_sort_20 rfl ?_
      refine rn_iload_n dX10_sort_21 rfl ?_
      refine rm_callV (c0 := 99) (As := [.int x1]) (st := [rf E 99]) mlRX10_274 mdX10_sortBy (Nat.le_of_ble_eq_true rfl) rfl (by decide) (by decide) rfl rfl rfl (Nat.le_of_ble_eq_true rfl) ⟨Nat.le_refl _, Nat.le_refl _⟩ dX10_sort_22 ?_
      refine cm_mono hF (fun w H_7 hF => ?_)
      obtain ⟨r_8, rfl, hF⟩ := hF
      refine rn_iload_n dX10_sort_25 rfl ?_
      refine rm_callV (c0 := 99) (As := [.int r_8, .int x2]) (st := []) mlRX10_261 mdX10_ofRow (Nat.le_of_ble_eq_true rfl) rfl (by decide) (by decide) rfl rfl rfl (Nat.le_of_ble_eq_true rfl) ⟨Nat.le_refl _, Nat.le_refl _⟩ dX10_sort_26 ?_
      refine cm_mono hF (fun w H_9 hF => ?_)
      obtain ⟨r_10, rfl, hF⟩ := hF
      refine rn_goto (tgt := 34) dX10_sort_29 (by decide) ?_
      exact rm_iret rfl dX10_sort_34 hF
theorem cmX10_sort {E : En} {Q : Option Value → Hi → Prop} {H : Hi} {x1 : Int32} {x2 : Int32} 
    (hF : Cm E mX10_in [.int x1, .int (0 : Int32), .int (72 : Int32)] H (fun w H_1 => ∃ r_2 : Int32, w = some (.int r_2) ∧ ((r_2 = 0 → (Q (some (.int (-2 : Int32))) H_1)) ∧ (¬ r_2 = 0 → (Cm E mX10_in [.int x2, .int (-1 : Int32), .int (1 : Int32)] H_1 (fun w H_4 => ∃ r_5 : Int32, w = some (.int r_5) ∧ ((r_5 = 0 → (Q (some (.int (-2 : Int32))) H_4)) ∧ (¬ r_5 = 0 → (Cm E mX10_sortBy [rf E 99, .int x1] H_4 (fun w H_7 => ∃ r_8 : Int32, w = some (.int r_8) ∧ (Cm E mX10_ofRow [rf E 99, .int r_8, .int x2] H_7 (fun w H_9 => ∃ r_10 : Int32, w = some (.int r_10) ∧ (Q (some (.int r_10)) H_9))))))))))))) :
    Cm E mX10_sort [rf E 99, .int x1, .int x2] H Q :=
  cm_of (by decide +kernel) (Nat.le_of_ble_eq_true rfl) rfl (sgX10_sort_0  hF)
theorem sgX10_felt_0 {E : En} {Q : Option Value → Hi → Prop} {H : Hi} {x1 : Int32} {x2 : Int32} {x3 : Int32} 
    (hF : Cm E mX10_isHour [.int x1] H (fun w H_1 => ∃ r_2 : Int32, w = some (.int r_2) ∧ ((r_2 = 0 → (Q (some (.int (-2 : Int32))) H_1)) ∧ (¬ r_2 = 0 → (Cm E mX10_isEight [.int x2] H_1 (fun w H_4 => ∃ r_5 : Int32, w = some (.int r_5) ∧ ((r_5 = 0 → (Q (some (.int (-2 : Int32))) H_4)) ∧ (¬ r_5 = 0 → (Cm E mX10_in [.int x3, .int (0 : Int32), .int (1 : Int32)] H_4 (fun w H_7 => ∃ r_8 : Int32, w = some (.int r_8) ∧ ((¬ r_8 = 0 → ((¬ (H_7 99 30) = (8 : Int32) → (∃ j_11 : Nat, (j_11 < 8 ∧ H_7 99 30 = nI j_11) ∧ (∀ H_12 : Hi, H_12 = up H_7 122 j_11 x1 → (∃ j_13 : Nat, (j_13 < 8 ∧ H_12 99 30 = nI j_13) ∧ (∀ H_14 : Hi, H_14 = up H_12 123 j_13 x2 → (∃ j_15 : Nat, (j_15 < 8 ∧ H_14 99 30 = nI j_15) ∧ (∀ H_16 : Hi, H_16 = up H_14 124 j_15 x3 → (∀ H_17 : Hi, H_17 = up H_16 99 30 ((H_16 99 30) + (1 : Int32)) → (Q (some (.int (H_17 99 30))) H_17))))))))) ∧ ((H_7 99 30) = (8 : Int32) → (Q (some (.int (-4 : Int32))) H_7)))) ∧ (r_8 = 0 → (Q (some (.int (-2 : Int32))) H_7))))))))))))) :
    Rm E mX10_felt Q 0 [some (rf E 99), some (.int x1), some (.int x2), some (.int x3)] [] H := by
  refine rn_iload_n dX10_felt_0 rfl ?_
  refine rm_callS (As := [.int x1]) (st := []) mlRX10_160 mdX10_isHour (Nat.le_of_ble_eq_true rfl) rfl rfl (Nat.le_of_ble_eq_true rfl) ⟨Nat.le_refl _, Nat.le_refl _⟩ dX10_felt_1 ?_
  refine cm_mono hF (fun w H_1 hF => ?_)
  obtain ⟨r_2, rfl, hF⟩ := hF
  refine rn_if_eq (tgt := 23) dX10_felt_4 (by decide) (fun hc_3 => ?_) (fun hc_3 => ?_)
  · replace hF := hF.1 hc_3
    refine rn_bipush (x := (-2 : Int32)) dX10_felt_23 (by decide) ?_
    exact rm_iret rfl dX10_felt_25 hF
  · replace hF := hF.2 hc_3
    refine rn_iload_n dX10_felt_7 rfl ?_
    refine rm_callS (As := [.int x2]) (st := []) mlRX10_122 mdX10_isEight (Nat.le_of_ble_eq_true rfl) rfl rfl (Nat.le_of_ble_eq_true rfl) ⟨Nat.le_refl _, Nat.le_refl _⟩ dX10_felt_8 ?_
    refine cm_mono hF (fun w H_4 hF => ?_)
    obtain ⟨r_5, rfl, hF⟩ := hF
    refine rn_if_eq (tgt := 23) dX10_felt_11 (by decide) (fun hc_6 => ?_) (fun hc_6 => ?_)
    · replace hF := hF.1 hc_6
      refine rn_bipush (x := (-2 : Int32)) dX10_felt_23 (by decide) ?_
      exact rm_iret rfl dX10_felt_25 hF
    · replace hF := hF.2 hc_6
      refine rn_iload_n dX10_felt_14 rfl ?_
      refine rn_iconst (x := (0 : Int32)) dX10_felt_15 (by decide) ?_
      refine rn_iconst (x := (1 : Int32)) dX10_felt_16 (by decide) ?_
      refine rm_callS (As := [.int x3, .int (0 : Int32), .int (1 : Int32)]) (st := []) mlRX10_110 mdX10_in (Nat.le_of_ble_eq_true rfl) rfl rfl (Nat.le_of_ble_eq_true rfl) ⟨Nat.le_refl _, Nat.le_refl _⟩ dX10_felt_17 ?_
      refine cm_mono hF (fun w H_7 hF => ?_)
      obtain ⟨r_8, rfl, hF⟩ := hF
      refine rn_if_ne (tgt := 26) dX10_felt_20 (by decide) (fun hc_9 => ?_) (fun hc_9 => ?_)
      · replace hF := hF.1 hc_9
        refine rn_aload_n dX10_felt_26 rfl ?_
        refine rm_geti flRX10_277 rfl (by decide) rfl dX10_felt_27 ?_
        refine rn_bipush (x := (8 : Int32)) dX10_felt_30 (by decide) ?_
        refine rn_icmp_ne (tgt := 38) dX10_felt_32 (by decide) (fun hc_10 => ?_) (fun hc_10 => ?_)
        · replace hF := hF.1 hc_10
          refine rn_aload_n dX10_felt_38 rfl ?_
          refine rm_getr (r := 122) flRX10_77 rfl (by decide) rfl dX10_felt_39 ?_
          refine rn_aload_n dX10_felt_42 rfl ?_
          refine rm_geti flRX10_277 rfl (by decide) rfl dX10_felt_43 ?_
          refine rn_iload_n dX10_felt_46 rfl ?_
          obtain ⟨j_11, hj_11, hF⟩ := hF
          refine rj_iast hj_11 rfl (by decide) rfl (by decide) dX10_felt_47 (fun H_12 eH_12 => ?_)
          replace hF := hF H_12 eH_12
          refine rn_aload_n dX10_felt_48 rfl ?_
          refine rm_getr (r := 123) flRX10_80 rfl (by decide) rfl dX10_felt_49 ?_
          refine rn_aload_n dX10_felt_52 rfl ?_
          refine rm_geti flRX10_277 rfl (by decide) rfl dX10_felt_53 ?_
          refine rn_iload_n dX10_felt_56 rfl ?_
          obtain ⟨j_13, hj_13, hF⟩ := hF
          refine rj_iast hj_13 rfl (by decide) rfl (by decide) dX10_felt_57 (fun H_14 eH_14 => ?_)
          replace hF := hF H_14 eH_14
          refine rn_aload_n dX10_felt_58 rfl ?_
          refine rm_getr (r := 124) flRX10_83 rfl (by decide) rfl dX10_felt_59 ?_
          refine rn_aload_n dX10_felt_62 rfl ?_
          refine rm_geti flRX10_277 rfl (by decide) rfl dX10_felt_63 ?_
          refine rn_iload_n dX10_felt_66 rfl ?_
          obtain ⟨j_15, hj_15, hF⟩ := hF
          refine rj_iast hj_15 rfl (by decide) rfl (by decide) dX10_felt_67 (fun H_16 eH_16 => ?_)
          replace hF := hF H_16 eH_16
          refine rn_aload_n dX10_felt_68 rfl ?_
          refine rn_dup dX10_felt_69 rfl ?_
          refine rm_geti flRX10_277 rfl (by decide) rfl dX10_felt_70 ?_
          refine rn_iconst (x := (1 : Int32)) dX10_felt_73 (by decide) ?_
          refine rn_iadd dX10_felt_74 ?_
          refine rm_puti flRX10_277 rfl (by decide) rfl dX10_felt_75 (fun H_17 eH_17 => ?_)
          replace hF := hF H_17 eH_17
          refine rn_aload_n dX10_felt_78 rfl ?_
          refine rm_geti flRX10_277 rfl (by decide) rfl dX10_felt_79 ?_
          exact rm_iret rfl dX10_felt_82 hF
        · replace hF := hF.2 hc_10
          refine rn_bipush (x := (-4 : Int32)) dX10_felt_35 (by decide) ?_
          exact rm_iret rfl dX10_felt_37 hF
      · replace hF := hF.2 hc_9
        refine rn_bipush (x := (-2 : Int32)) dX10_felt_23 (by decide) ?_
        exact rm_iret rfl dX10_felt_25 hF
theorem cmX10_felt {E : En} {Q : Option Value → Hi → Prop} {H : Hi} {x1 : Int32} {x2 : Int32} {x3 : Int32} 
    (hF : Cm E mX10_isHour [.int x1] H (fun w H_1 => ∃ r_2 : Int32, w = some (.int r_2) ∧ ((r_2 = 0 → (Q (some (.int (-2 : Int32))) H_1)) ∧ (¬ r_2 = 0 → (Cm E mX10_isEight [.int x2] H_1 (fun w H_4 => ∃ r_5 : Int32, w = some (.int r_5) ∧ ((r_5 = 0 → (Q (some (.int (-2 : Int32))) H_4)) ∧ (¬ r_5 = 0 → (Cm E mX10_in [.int x3, .int (0 : Int32), .int (1 : Int32)] H_4 (fun w H_7 => ∃ r_8 : Int32, w = some (.int r_8) ∧ ((¬ r_8 = 0 → ((¬ (H_7 99 30) = (8 : Int32) → (∃ j_11 : Nat, (j_11 < 8 ∧ H_7 99 30 = nI j_11) ∧ (∀ H_12 : Hi, H_12 = up H_7 122 j_11 x1 → (∃ j_13 : Nat, (j_13 < 8 ∧ H_12 99 30 = nI j_13) ∧ (∀ H_14 : Hi, H_14 = up H_12 123 j_13 x2 → (∃ j_15 : Nat, (j_15 < 8 ∧ H_14 99 30 = nI j_15) ∧ (∀ H_16 : Hi, H_16 = up H_14 124 j_15 x3 → (∀ H_17 : Hi, H_17 = up H_16 99 30 ((H_16 99 30) + (1 : Int32)) → (Q (some (.int (H_17 99 30))) H_17))))))))) ∧ ((H_7 99 30) = (8 : Int32) → (Q (some (.int (-4 : Int32))) H_7)))) ∧ (r_8 = 0 → (Q (some (.int (-2 : Int32))) H_7))))))))))))) :
    Cm E mX10_felt [rf E 99, .int x1, .int x2, .int x3] H Q :=
  cm_of (by decide +kernel) (Nat.le_of_ble_eq_true rfl) rfl (sgX10_felt_0  hF)
theorem sgX10_forget_0 {E : En} {Q : Option Value → Hi → Prop} {H : Hi}  
    (hF : ∀ x1_1 : Int32, x1_1 = H 99 30 → (∀ H_2 : Hi, H_2 = up H 99 30 (0 : Int32) → (Q (some (.int x1_1)) H_2))) :
    Rm E mX10_forget Q 0 [some (rf E 99), none] [] H := by
  refine rn_aload_n dX10_forget_0 rfl ?_
  refine rm_geti flRX10_277 rfl (by decide) rfl dX10_forget_1 ?_
  refine rn_istore_n dX10_forget_4 rfl (by decide) (fun x1_1 ex1_1 => ?_)
  replace hF := hF x1_1 ex1_1
  refine rn_aload_n dX10_forget_5 rfl ?_
  refine rn_iconst (x := (0 : Int32)) dX10_forget_6 (by decide) ?_
  refine rm_puti flRX10_277 rfl (by decide) rfl dX10_forget_7 (fun H_2 eH_2 => ?_)
  replace hF := hF H_2 eH_2
  refine rn_iload_n dX10_forget_10 rfl ?_
  exact rm_iret rfl dX10_forget_11 hF
theorem cmX10_forget {E : En} {Q : Option Value → Hi → Prop} {H : Hi}  
    (hF : ∀ x1_1 : Int32, x1_1 = H 99 30 → (∀ H_2 : Hi, H_2 = up H 99 30 (0 : Int32) → (Q (some (.int x1_1)) H_2))) :
    Cm E mX10_forget [rf E 99] H Q :=
  cm_of (by decide +kernel) (Nat.le_of_ble_eq_true rfl) rfl (sgX10_forget_0  hF)
theorem sgX10_isFelt_0 {E : En} {Q : Option Value → Hi → Prop} {H : Hi} {x1 : Int32} 
    (hF : ∀ H_2 : Hi, H_2 = up H 99 34 (0 : Int32) → (Cm E mX10_begins [rf E 99] H_2 (fun w H_3 => w = none ∧ (Rm E mX10_isFelt Q 13 [some (rf E 99), some (.int x1), some (.int (1 : Int32)), some (.int (0 : Int32)), none] [] H_3)))) :
    Rm E mX10_isFelt Q 0 [some (rf E 99), some (.int x1), none, none, none] [] H := by
  refine rn_iconst (x := (1 : Int32)) dX10_isFelt_0 (by decide) ?_
  refine rn_istore_n dX10_isFelt_1 rfl (by decide) (fun x2_1 ex2_1 => ?_)
  subst ex2_1
  refine rn_aload_n dX10_isFelt_2 rfl ?_
  refine rn_iconst (x := (0 : Int32)) dX10_isFelt_3 (by decide) ?_
  refine rm_puti flRX10_280 rfl (by decide) rfl dX10_isFelt_4 (fun H_2 eH_2 => ?_)
  replace hF := hF H_2 eH_2
  refine rn_aload_n dX10_isFelt_7 rfl ?_
  refine rm_callV (c0 := 99) (As := []) (st := []) mlRX10_209 mdX10_begins (Nat.le_of_ble_eq_true rfl) rfl (by decide) (by decide) rfl rfl rfl (Nat.le_of_ble_eq_true rfl) ⟨Nat.le_refl _, Nat.le_refl _⟩ dX10_isFelt_8 ?_
  refine cm_mono hF (fun w H_3 hF => ?_)
  obtain ⟨rfl, hF⟩ := hF
  refine rn_iconst (x := (0 : Int32)) dX10_isFelt_11 (by decide) ?_
  refine rn_istore_n dX10_isFelt_12 rfl (by decide) (fun x3_4 ex3_4 => ?_)
  subst ex3_4
  exact rn_wk (L' := [some (rf E 99), some (.int x1), some (.int (1 : Int32)), some (.int (0 : Int32)), none]) (⟨rfl, ⟨rfl, ⟨rfl, ⟨rfl, trivial⟩⟩⟩⟩) hF
theorem cmX10_isFelt {E : En} {Q : Option Value → Hi → Prop} {H : Hi} {x1 : Int32} 
    (hF : ∀ H_2 : Hi, H_2 = up H 99 34 (0 : Int32) → (Cm E mX10_begins [rf E 99] H_2 (fun w H_3 => w = none ∧ (Rm E mX10_isFelt Q 13 [some (rf E 99), some (.int x1), some (.int (1 : Int32)), some (.int (0 : Int32)), none] [] H_3)))) :
    Cm E mX10_isFelt [rf E 99, .int x1] H Q :=
  cm_of (by decide +kernel) (Nat.le_of_ble_eq_true rfl) rfl (sgX10_isFelt_0  hF)
theorem sgX10_isFelt_13 {E : En} {Q : Option Value → Hi → Prop} {H : Hi} {x1 : Int32} {x2 : Int32} {x3 : Int32} 
    (hF : ((24 : Int32) ≤ x3 → (narrow .boolean (.int x2) = .int x2 ∧ Q (some (.int x2)) H)) ∧ (¬ (24 : Int32) ≤ x3 → (Cm E mX10_goesBy [rf E 99, .int x3] H (fun w H_2 => w = none ∧ (∃ j_3 : Nat, (j_3 < 8 ∧ x1 = nI j_3) ∧ ((¬ (H_2 111 j_3) = (8 : Int32) → (∀ H_5 : Hi, H_5 = up H_2 99 34 ((H_2 99 34) ||| (0 : Int32)) → (Rm E mX10_isFelt Q 54 [some (rf E 99), some (.int x1), some (.int x2), some (.int x3), some (.int (0 : Int32))] [] H_5))) ∧ ((H_2 111 j_3) = (8 : Int32) → (∀ H_7 : Hi, H_7 = up H_2 99 34 ((H_2 99 34) ||| ((1 : Int32) <<< (x3 &&& 31))) → (Rm E mX10_isFelt Q 54 [some (rf E 99), some (.int x1), some (.int x2), some (.int x3), some (.int (0 : Int32))] [] H_7))))))))) :
    Rm E mX10_isFelt Q 13 [some (rf E 99), some (.int x1), some (.int x2), some (.int x3), none] [] H := by
  refine rn_iload_n dX10_isFelt_13 rfl ?_
  refine rn_bipush (x := (24 : Int32)) dX10_isFelt_14 (by decide) ?_
  refine rn_icmp_ge (tgt := 137) dX10_isFelt_16 (by decide) (fun hc_1 => ?_) (fun hc_1 => ?_)
  · replace hF := hF.1 hc_1
    refine rn_iload_n dX10_isFelt_137 rfl ?_
    exact rm_zret rfl hF.1 dX10_isFelt_138 hF.2
  · replace hF := hF.2 hc_1
    refine rn_aload_n dX10_isFelt_19 rfl ?_
    refine rn_iload_n dX10_isFelt_20 rfl ?_
    refine rm_callV (c0 := 99) (As := [.int x3]) (st := []) mlRX10_212 mdX10_goesBy (Nat.le_of_ble_eq_true rfl) rfl (by decide) (by decide) rfl rfl rfl (Nat.le_of_ble_eq_true rfl) ⟨Nat.le_refl _, Nat.le_refl _⟩ dX10_isFelt_21 ?_
    refine cm_mono hF (fun w H_2 hF => ?_)
    obtain ⟨rfl, hF⟩ := hF
    refine rn_aload_n dX10_isFelt_24 rfl ?_
    refine rn_dup dX10_isFelt_25 rfl ?_
    refine rm_geti flRX10_280 rfl (by decide) rfl dX10_isFelt_26 ?_
    refine rn_aload_n dX10_isFelt_29 rfl ?_
    refine rm_getr (r := 111) flRX10_43 rfl (by decide) rfl dX10_isFelt_30 ?_
    refine rn_iload_n dX10_isFelt_33 rfl ?_
    obtain ⟨j_3, hj_3, hF⟩ := hF
    refine rj_iald hj_3 rfl (by decide) rfl (by decide) dX10_isFelt_34 ?_
    refine rn_bipush (x := (8 : Int32)) dX10_isFelt_35 (by decide) ?_
    refine rn_icmp_ne (tgt := 46) dX10_isFelt_37 (by decide) (fun hc_4 => ?_) (fun hc_4 => ?_)
    · replace hF := hF.1 hc_4
      refine rn_iconst (x := (0 : Int32)) dX10_isFelt_46 (by decide) ?_
      refine rn_ior dX10_isFelt_47 ?_
      refine rm_puti flRX10_280 rfl (by decide) rfl dX10_isFelt_48 (fun H_5 eH_5 => ?_)
      replace hF := hF H_5 eH_5
      refine rn_iconst (x := (0 : Int32)) dX10_isFelt_51 (by decide) ?_
      refine rn_istore dX10_isFelt_52 rfl (by decide) (fun x4_6 ex4_6 => ?_)
      subst ex4_6
      exact rn_wk (L' := [some (rf E 99), some (.int x1), some (.int x2), some (.int x3), some (.int (0 : Int32))]) (⟨rfl, ⟨rfl, ⟨rfl, ⟨rfl, ⟨rfl, trivial⟩⟩⟩⟩⟩) hF
    · replace hF := hF.2 hc_4
      refine rn_iconst (x := (1 : Int32)) dX10_isFelt_40 (by decide) ?_
      refine rn_iload_n dX10_isFelt_41 rfl ?_
      refine rn_ishl dX10_isFelt_42 ?_
      refine rn_goto (tgt := 47) dX10_isFelt_43 (by decide) ?_
      refine rn_ior dX10_isFelt_47 ?_
      refine rm_puti flRX10_280 rfl (by decide) rfl dX10_isFelt_48 (fun H_7 eH_7 => ?_)
      replace hF := hF H_7 eH_7
      refine rn_iconst (x := (0 : Int32)) dX10_isFelt_51 (by decide) ?_
      refine rn_istore dX10_isFelt_52 rfl (by decide) (fun x4_8 ex4_8 => ?_)
      subst ex4_8
      exact rn_wk (L' := [some (rf E 99), some (.int x1), some (.int x2), some (.int x3), some (.int (0 : Int32))]) (⟨rfl, ⟨rfl, ⟨rfl, ⟨rfl, ⟨rfl, trivial⟩⟩⟩⟩⟩) hF
theorem sgX10_isFelt_54 {E : En} {Q : Option Value → Hi → Prop} {H : Hi} {x1 : Int32} {x2 : Int32} {x3 : Int32} {x4 : Int32} 
    (hF : ((H 99 30) ≤ x4 → (∀ x3_2 : Int32, x3_2 = x3 + (1 : Int32) → (Rm E mX10_isFelt Q 13 [some (rf E 99), some (.int x1), some (.int x2), some (.int x3_2), none] [] H))) ∧ (¬ (H 99 30) ≤ x4 → ((x2 = 0 → (∀ x4_5 : Int32, x4_5 = x4 + (1 : Int32) → (Rm E mX10_isFelt Q 54 [some (rf E 99), some (.int x1), some (.int (0 : Int32)), some (.int x3), some (.int x4_5)] [] H))) ∧ (¬ x2 = 0 → (∃ j_6 : Nat, (j_6 < 8 ∧ x4 = nI j_6) ∧ ((¬ (H 122 j_6) = x3 → (∀ x4_9 : Int32, x4_9 = x4 + (1 : Int32) → (Rm E mX10_isFelt Q 54 [some (rf E 99), some (.int x1), some (.int (1 : Int32)), some (.int x3), some (.int x4_9)] [] H))) ∧ ((H 122 j_6) = x3 → (∃ j_10 : Nat, (j_10 < 8 ∧ x4 = nI j_10) ∧ (∃ j_11 : Nat, (j_11 < 8 ∧ H 123 j_10 = nI j_11) ∧ ((¬ (H 111 j_11) = (8 : Int32) → (∃ j_13 : Nat, (j_13 < 8 ∧ x4 = nI j_13) ∧ ((¬ (H 124 j_13) = (1 : Int32) → ((¬ (0 : Int32) = (0 : Int32) → (∀ x4_17 : Int32, x4_17 = x4 + (1 : Int32) → (Rm E mX10_isFelt Q 54 [some (rf E 99), some (.int x1), some (.int (0 : Int32)), some (.int x3), some (.int x4_17)] [] H))) ∧ ((0 : Int32) = (0 : Int32) → (∀ x4_19 : Int32, x4_19 = x4 + (1 : Int32) → (Rm E mX10_isFelt Q 54 [some (rf E 99), some (.int x1), some (.int (1 : Int32)), some (.int x3), some (.int x4_19)] [] H))))) ∧ ((H 124 j_13) = (1 : Int32) → ((¬ (0 : Int32) = (1 : Int32) → (∀ x4_22 : Int32, x4_22 = x4 + (1 : Int32) → (Rm E mX10_isFelt Q 54 [some (rf E 99), some (.int x1), some (.int (0 : Int32)), some (.int x3), some (.int x4_22)] [] H))) ∧ ((0 : Int32) = (1 : Int32) → (∀ x4_24 : Int32, x4_24 = x4 + (1 : Int32) → (Rm E mX10_isFelt Q 54 [some (rf E 99), some (.int x1), some (.int (1 : Int32)), some (.int x3), some (.int x4_24)] [] H)))))))) ∧ ((H 111 j_11) = (8 : Int32) → (∃ j_25 : Nat, (j_25 < 8 ∧ x4 = nI j_25) ∧ ((¬ (H 124 j_25) = (1 : Int32) → ((¬ (1 : Int32) = (0 : Int32) → (∀ x4_29 : Int32, x4_29 = x4 + (1 : Int32) → (Rm E mX10_isFelt Q 54 [some (rf E 99), some (.int x1), some (.int (0 : Int32)), some (.int x3), some (.int x4_29)] [] H))) ∧ ((1 : Int32) = (0 : Int32) → (∀ x4_31 : Int32, x4_31 = x4 + (1 : Int32) → (Rm E mX10_isFelt Q 54 [some (rf E 99), some (.int x1), some (.int (1 : Int32)), some (.int x3), some (.int x4_31)] [] H))))) ∧ ((H 124 j_25) = (1 : Int32) → ((¬ (1 : Int32) = (1 : Int32) → (∀ x4_34 : Int32, x4_34 = x4 + (1 : Int32) → (Rm E mX10_isFelt Q 54 [some (rf E 99), some (.int x1), some (.int (0 : Int32)), some (.int x3), some (.int x4_34)] [] H))) ∧ ((1 : Int32) = (1 : Int32) → (∀ x4_36 : Int32, x4_36 = x4 + (1 : Int32) → (Rm E mX10_isFelt Q 54 [some (rf E 99), some (.int x1), some (.int (1 : Int32)), some (.int x3), some (.int x4_36)] [] H)))))))))))))))))) :
    Rm E mX10_isFelt Q 54 [some (rf E 99), some (.int x1), some (.int x2), some (.int x3), some (.int x4)] [] H := by
  refine rn_iload dX10_isFelt_54 rfl ?_
  refine rn_aload_n dX10_isFelt_56 rfl ?_
  refine rm_geti flRX10_277 rfl (by decide) rfl dX10_isFelt_57 ?_
  refine rn_icmp_ge (tgt := 131) dX10_isFelt_60 (by decide) (fun hc_1 => ?_) (fun hc_1 => ?_)
  · replace hF := hF.1 hc_1
    refine rn_iinc (w := (1 : Int32)) dX10_isFelt_131 rfl (by decide) rfl (by decide) (fun x3_2 ex3_2 => ?_)
    replace hF := hF x3_2 ex3_2
    refine rn_goto (tgt := 13) dX10_isFelt_134 (by decide) ?_
    exact rn_wk (L' := [some (rf E 99), some (.int x1), some (.int x2), some (.int x3_2), none]) (⟨rfl, ⟨rfl, ⟨rfl, ⟨rfl, trivial⟩⟩⟩⟩) hF
  · replace hF := hF.2 hc_1
    refine rn_iload_n dX10_isFelt_63 rfl ?_
    refine rn_if_eq (tgt := 123) dX10_isFelt_64 (by decide) (fun hc_3 => ?_) (fun hc_3 => ?_)
    · replace hF := hF.1 hc_3
      refine rn_iconst (x := (0 : Int32)) dX10_isFelt_123 (by decide) ?_
      refine rn_istore_n dX10_isFelt_124 rfl (by decide) (fun x2_4 ex2_4 => ?_)
      subst ex2_4
      refine rn_iinc (w := (1 : Int32)) dX10_isFelt_125 rfl (by decide) rfl (by decide) (fun x4_5 ex4_5 => ?_)
      replace hF := hF x4_5 ex4_5
      refine rn_goto (tgt := 54) dX10_isFelt_128 (by decide) ?_
      exact rn_wk (L' := [some (rf E 99), some (.int x1), some (.int (0 : Int32)), some (.int x3), some (.int x4_5)]) (⟨rfl, ⟨rfl, ⟨rfl, ⟨rfl, ⟨rfl, trivial⟩⟩⟩⟩⟩) hF
    · replace hF := hF.2 hc_3
      refine rn_aload_n dX10_isFelt_67 rfl ?_
      refine rm_getr (r := 122) flRX10_77 rfl (by decide) rfl dX10_isFelt_68 ?_
      refine rn_iload dX10_isFelt_71 rfl ?_
      obtain ⟨j_6, hj_6, hF⟩ := hF
      refine rj_iald hj_6 rfl (by decide) rfl (by decide) dX10_isFelt_73 ?_
      refine rn_iload_n dX10_isFelt_74 rfl ?_
      refine rn_icmp_ne (tgt := 119) dX10_isFelt_75 (by decide) (fun hc_7 => ?_) (fun hc_7 => ?_)
      · replace hF := hF.1 hc_7
        refine rn_iconst (x := (1 : Int32)) dX10_isFelt_119 (by decide) ?_
        refine rn_goto (tgt := 124) dX10_isFelt_120 (by decide) ?_
        refine rn_istore_n dX10_isFelt_124 rfl (by decide) (fun x2_8 ex2_8 => ?_)
        subst ex2_8
        refine rn_iinc (w := (1 : Int32)) dX10_isFelt_125 rfl (by decide) rfl (by decide) (fun x4_9 ex4_9 => ?_)
        replace hF := hF x4_9 ex4_9
        refine rn_goto (tgt := 54) dX10_isFelt_128 (by decide) ?_
        exact rn_wk (L' := [some (rf E 99), some (.int x1), some (.int (1 : Int32)), some (.int x3), some (.int x4_9)]) (⟨rfl, ⟨rfl, ⟨rfl, ⟨rfl, ⟨rfl, trivial⟩⟩⟩⟩⟩) hF
      · replace hF := hF.2 hc_7
        refine rn_aload_n dX10_isFelt_78 rfl ?_
        refine rm_getr (r := 111) flRX10_43 rfl (by decide) rfl dX10_isFelt_79 ?_
        refine rn_aload_n dX10_isFelt_82 rfl ?_
        refine rm_getr (r := 123) flRX10_80 rfl (by decide) rfl dX10_isFelt_83 ?_
        refine rn_iload dX10_isFelt_86 rfl ?_
        obtain ⟨j_10, hj_10, hF⟩ := hF
        refine rj_iald hj_10 rfl (by decide) rfl (by decide) dX10_isFelt_88 ?_
        obtain ⟨j_11, hj_11, hF⟩ := hF
        refine rj_iald hj_11 rfl (by decide) rfl (by decide) dX10_isFelt_89 ?_
        refine rn_bipush (x := (8 : Int32)) dX10_isFelt_90 (by decide) ?_
        refine rn_icmp_ne (tgt := 99) dX10_isFelt_92 (by decide) (fun hc_12 => ?_) (fun hc_12 => ?_)
        · replace hF := hF.1 hc_12
          refine rn_iconst (x := (0 : Int32)) dX10_isFelt_99 (by decide) ?_
          refine rn_aload_n dX10_isFelt_100 rfl ?_
          refine rm_getr (r := 124) flRX10_83 rfl (by decide) rfl dX10_isFelt_101 ?_
          refine rn_iload dX10_isFelt_104 rfl ?_
          obtain ⟨j_13, hj_13, hF⟩ := hF
          refine rj_iald hj_13 rfl (by decide) rfl (by decide) dX10_isFelt_106 ?_
          refine rn_iconst (x := (1 : Int32)) dX10_isFelt_107 (by decide) ?_
          refine rn_icmp_ne (tgt := 115) dX10_isFelt_108 (by decide) (fun hc_14 => ?_) (fun hc_14 => ?_)
          · replace hF := hF.1 hc_14
            refine rn_iconst (x := (0 : Int32)) dX10_isFelt_115 (by decide) ?_
            refine rn_icmp_ne (tgt := 123) dX10_isFelt_116 (by decide) (fun hc_15 => ?_) (fun hc_15 => ?_)
            · replace hF := hF.1 hc_15
              refine rn_iconst (x := (0 : Int32)) dX10_isFelt_123 (by decide) ?_
              refine rn_istore_n dX10_isFelt_124 rfl (by decide) (fun x2_16 ex2_16 => ?_)
              subst ex2_16
              refine rn_iinc (w := (1 : Int32)) dX10_isFelt_125 rfl (by decide) rfl (by decide) (fun x4_17 ex4_17 => ?_)
              replace hF := hF x4_17 ex4_17
              refine rn_goto (tgt := 54) dX10_isFelt_128 (by decide) ?_
              exact rn_wk (L' := [some (rf E 99), some (.int x1), some (.int (0 : Int32)), some (.int x3), some (.int x4_17)]) (⟨rfl, ⟨rfl, ⟨rfl, ⟨rfl, ⟨rfl, trivial⟩⟩⟩⟩⟩) hF
            · replace hF := hF.2 hc_15
              refine rn_iconst (x := (1 : Int32)) dX10_isFelt_119 (by decide) ?_
              refine rn_goto (tgt := 124) dX10_isFelt_120 (by decide) ?_
              refine rn_istore_n dX10_isFelt_124 rfl (by decide) (fun x2_18 ex2_18 => ?_)
              subst ex2_18
              refine rn_iinc (w := (1 : Int32)) dX10_isFelt_125 rfl (by decide) rfl (by decide) (fun x4_19 ex4_19 => ?_)
              replace hF := hF x4_19 ex4_19
              refine rn_goto (tgt := 54) dX10_isFelt_128 (by decide) ?_
              exact rn_wk (L' := [some (rf E 99), some (.int x1), some (.int (1 : Int32)), some (.int x3), some (.int x4_19)]) (⟨rfl, ⟨rfl, ⟨rfl, ⟨rfl, ⟨rfl, trivial⟩⟩⟩⟩⟩) hF
          · replace hF := hF.2 hc_14
            refine rn_iconst (x := (1 : Int32)) dX10_isFelt_111 (by decide) ?_
            refine rn_goto (tgt := 116) dX10_isFelt_112 (by decide) ?_
            refine rn_icmp_ne (tgt := 123) dX10_isFelt_116 (by decide) (fun hc_20 => ?_) (fun hc_20 => ?_)
            · replace hF := hF.1 hc_20
              refine rn_iconst (x := (0 : Int32)) dX10_isFelt_123 (by decide) ?_
              refine rn_istore_n dX10_isFelt_124 rfl (by decide) (fun x2_21 ex2_21 => ?_)
              subst ex2_21
              refine rn_iinc (w := (1 : Int32)) dX10_isFelt_125 rfl (by decide) rfl (by decide) (fun x4_22 ex4_22 => ?_)
              replace hF := hF x4_22 ex4_22
              refine rn_goto (tgt := 54) dX10_isFelt_128 (by decide) ?_
              exact rn_wk (L' := [some (rf E 99), some (.int x1), some (.int (0 : Int32)), some (.int x3), some (.int x4_22)]) (⟨rfl, ⟨rfl, ⟨rfl, ⟨rfl, ⟨rfl, trivial⟩⟩⟩⟩⟩) hF
            · replace hF := hF.2 hc_20
              refine rn_iconst (x := (1 : Int32)) dX10_isFelt_119 (by decide) ?_
              refine rn_goto (tgt := 124) dX10_isFelt_120 (by decide) ?_
              refine rn_istore_n dX10_isFelt_124 rfl (by decide) (fun x2_23 ex2_23 => ?_)
              subst ex2_23
              refine rn_iinc (w := (1 : Int32)) dX10_isFelt_125 rfl (by decide) rfl (by decide) (fun x4_24 ex4_24 => ?_)
              replace hF := hF x4_24 ex4_24
              refine rn_goto (tgt := 54) dX10_isFelt_128 (by decide) ?_
              exact rn_wk (L' := [some (rf E 99), some (.int x1), some (.int (1 : Int32)), some (.int x3), some (.int x4_24)]) (⟨rfl, ⟨rfl, ⟨rfl, ⟨rfl, ⟨rfl, trivial⟩⟩⟩⟩⟩) hF
        · replace hF := hF.2 hc_12
          refine rn_iconst (x := (1 : Int32)) dX10_isFelt_95 (by decide) ?_
          refine rn_goto (tgt := 100) dX10_isFelt_96 (by decide) ?_
          refine rn_aload_n dX10_isFelt_100 rfl ?_
          refine rm_getr (r := 124) flRX10_83 rfl (by decide) rfl dX10_isFelt_101 ?_
          refine rn_iload dX10_isFelt_104 rfl ?_
          obtain ⟨j_25, hj_25, hF⟩ := hF
          refine rj_iald hj_25 rfl (by decide) rfl (by decide) dX10_isFelt_106 ?_
          refine rn_iconst (x := (1 : Int32)) dX10_isFelt_107 (by decide) ?_
          refine rn_icmp_ne (tgt := 115) dX10_isFelt_108 (by decide) (fun hc_26 => ?_) (fun hc_26 => ?_)
          · replace hF := hF.1 hc_26
            refine rn_iconst (x := (0 : Int32)) dX10_isFelt_115 (by decide) ?_
            refine rn_icmp_ne (tgt := 123) dX10_isFelt_116 (by decide) (fun hc_27 => ?_) (fun hc_27 => ?_)
            · replace hF := hF.1 hc_27
              refine rn_iconst (x := (0 : Int32)) dX10_isFelt_123 (by decide) ?_
              refine rn_istore_n dX10_isFelt_124 rfl (by decide) (fun x2_28 ex2_28 => ?_)
              subst ex2_28
              refine rn_iinc (w := (1 : Int32)) dX10_isFelt_125 rfl (by decide) rfl (by decide) (fun x4_29 ex4_29 => ?_)
              replace hF := hF x4_29 ex4_29
              refine rn_goto (tgt := 54) dX10_isFelt_128 (by decide) ?_
              exact rn_wk (L' := [some (rf E 99), some (.int x1), some (.int (0 : Int32)), some (.int x3), some (.int x4_29)]) (⟨rfl, ⟨rfl, ⟨rfl, ⟨rfl, ⟨rfl, trivial⟩⟩⟩⟩⟩) hF
            · replace hF := hF.2 hc_27
              refine rn_iconst (x := (1 : Int32)) dX10_isFelt_119 (by decide) ?_
              refine rn_goto (tgt := 124) dX10_isFelt_120 (by decide) ?_
              refine rn_istore_n dX10_isFelt_124 rfl (by decide) (fun x2_30 ex2_30 => ?_)
              subst ex2_30
              refine rn_iinc (w := (1 : Int32)) dX10_isFelt_125 rfl (by decide) rfl (by decide) (fun x4_31 ex4_31 => ?_)
              replace hF := hF x4_31 ex4_31
              refine rn_goto (tgt := 54) dX10_isFelt_128 (by decide) ?_
              exact rn_wk (L' := [some (rf E 99), some (.int x1), some (.int (1 : Int32)), some (.int x3), some (.int x4_31)]) (⟨rfl, ⟨rfl, ⟨rfl, ⟨rfl, ⟨rfl, trivial⟩⟩⟩⟩⟩) hF
          · replace hF := hF.2 hc_26
            refine rn_iconst (x := (1 : Int32)) dX10_isFelt_111 (by decide) ?_
            refine rn_goto (tgt := 116) dX10_isFelt_112 (by decide) ?_
            refine rn_icmp_ne (tgt := 123) dX10_isFelt_116 (by decide) (fun hc_32 => ?_) (fun hc_32 => ?_)
            · replace hF := hF.1 hc_32
              refine rn_iconst (x := (0 : Int32)) dX10_isFelt_123 (by decide) ?_
              refine rn_istore_n dX10_isFelt_124 rfl (by decide) (fun x2_33 ex2_33 => ?_)
              subst ex2_33
              refine rn_iinc (w := (1 : Int32)) dX10_isFelt_125 rfl (by decide) rfl (by decide) (fun x4_34 ex4_34 => ?_)
              replace hF := hF x4_34 ex4_34
              refine rn_goto (tgt := 54) dX10_isFelt_128 (by decide) ?_
              exact rn_wk (L' := [some (rf E 99), some (.int x1), some (.int (0 : Int32)), some (.int x3), some (.int x4_34)]) (⟨rfl, ⟨rfl, ⟨rfl, ⟨rfl, ⟨rfl, trivial⟩⟩⟩⟩⟩) hF
            · replace hF := hF.2 hc_32
              refine rn_iconst (x := (1 : Int32)) dX10_isFelt_119 (by decide) ?_
              refine rn_goto (tgt := 124) dX10_isFelt_120 (by decide) ?_
              refine rn_istore_n dX10_isFelt_124 rfl (by decide) (fun x2_35 ex2_35 => ?_)
              subst ex2_35
              refine rn_iinc (w := (1 : Int32)) dX10_isFelt_125 rfl (by decide) rfl (by decide) (fun x4_36 ex4_36 => ?_)
              replace hF := hF x4_36 ex4_36
              refine rn_goto (tgt := 54) dX10_isFelt_128 (by decide) ?_
              exact rn_wk (L' := [some (rf E 99), some (.int x1), some (.int (1 : Int32)), some (.int x3), some (.int x4_36)]) (⟨rfl, ⟨rfl, ⟨rfl, ⟨rfl, ⟨rfl, trivial⟩⟩⟩⟩⟩) hF
theorem sgX10_whenOf_0 {E : En} {Q : Option Value → Hi → Prop} {H : Hi} {x1 : Int32} {x2 : Int32} 
    (hF : Cm E mX10_reads [rf E 99] H (fun w H_1 => w = none ∧ (Cm E mX10_asTold [rf E 99] H_1 (fun w H_2 => w = none ∧ (∀ H_3 : Hi, H_3 = up H_2 99 22 ((H_2 99 22) + (1 : Int32)) → (∃ j_4 : Nat, (j_4 < 44 ∧ H_3 99 11 = nI j_4) ∧ (∀ H_5 : Hi, H_5 = up H_3 108 j_4 (((64 : Int32) + ((8 : Int32) * x1)) + x2) → (Rm E mX10_whenOf Q 41 [some (rf E 99), none, some (.int x2), some (.int (0 : Int32)), some (.int (0 : Int32))] [] H_5)))))))) :
    Rm E mX10_whenOf Q 0 [some (rf E 99), some (.int x1), some (.int x2), none, none] [] H := by
  refine rn_aload_n dX10_whenOf_0 rfl ?_
  refine rm_callV (c0 := 99) (As := []) (st := []) mlRX10_144 mdX10_reads (Nat.le_of_ble_eq_true rfl) rfl (by decide) (by decide) rfl rfl rfl (Nat.le_of_ble_eq_true rfl) ⟨Nat.le_refl _, Nat.le_refl _⟩ dX10_whenOf_1 ?_
  refine cm_mono hF (fun w H_1 hF => ?_)
  obtain ⟨rfl, hF⟩ := hF
  refine rn_aload_n dX10_whenOf_4 rfl ?_
  refine rm_callV (c0 := 99) (As := []) (st := []) mlRX10_215 mdX10_asTold (Nat.le_of_ble_eq_true rfl) rfl (by decide) (by decide) rfl rfl rfl (Nat.le_of_ble_eq_true rfl) ⟨Nat.le_refl _, Nat.le_refl _⟩ dX10_whenOf_5 ?_
  refine cm_mono hF (fun w H_2 hF => ?_)
  obtain ⟨rfl, hF⟩ := hF
  refine rn_aload_n dX10_whenOf_8 rfl ?_
  refine rn_dup dX10_whenOf_9 rfl ?_
  refine rm_geti flRX10_179 rfl (by decide) rfl dX10_whenOf_10 ?_
  refine rn_iconst (x := (1 : Int32)) dX10_whenOf_13 (by decide) ?_
  refine rn_iadd dX10_whenOf_14 ?_
  refine rm_puti flRX10_179 rfl (by decide) rfl dX10_whenOf_15 (fun H_3 eH_3 => ?_)
  replace hF := hF H_3 eH_3
  refine rn_aload_n dX10_whenOf_18 rfl ?_
  refine rm_getr (r := 108) flRX10_34 rfl (by decide) rfl dX10_whenOf_19 ?_
  refine rn_aload_n dX10_whenOf_22 rfl ?_
  refine rm_geti flRX10_163 rfl (by decide) rfl dX10_whenOf_23 ?_
  refine rn_bipush (x := (64 : Int32)) dX10_whenOf_26 (by decide) ?_
  refine rn_bipush (x := (8 : Int32)) dX10_whenOf_28 (by decide) ?_
  refine rn_iload_n dX10_whenOf_30 rfl ?_
  refine rn_imul dX10_whenOf_31 ?_
  refine rn_iadd dX10_whenOf_32 ?_
  refine rn_iload_n dX10_whenOf_33 rfl ?_
  refine rn_iadd dX10_whenOf_34 ?_
  obtain ⟨j_4, hj_4, hF⟩ := hF
  refine rj_iast hj_4 rfl (by decide) rfl (by decide) dX10_whenOf_35 (fun H_5 eH_5 => ?_)
  replace hF := hF H_5 eH_5
  refine rn_iconst (x := (0 : Int32)) dX10_whenOf_36 (by decide) ?_
  refine rn_istore_n dX10_whenOf_37 rfl (by decide) (fun x3_6 ex3_6 => ?_)
  subst ex3_6
  refine rn_iconst (x := (0 : Int32)) dX10_whenOf_38 (by decide) ?_
  refine rn_istore dX10_whenOf_39 rfl (by decide) (fun x4_7 ex4_7 => ?_)
  subst ex4_7
  exact rn_wk (L' := [some (rf E 99), none, some (.int x2), some (.int (0 : Int32)), some (.int (0 : Int32))]) (⟨rfl, ⟨rfl, ⟨rfl, ⟨rfl, trivial⟩⟩⟩⟩) hF
theorem cmX10_whenOf {E : En} {Q : Option Value → Hi → Prop} {H : Hi} {x1 : Int32} {x2 : Int32} 
    (hF : Cm E mX10_reads [rf E 99] H (fun w H_1 => w = none ∧ (Cm E mX10_asTold [rf E 99] H_1 (fun w H_2 => w = none ∧ (∀ H_3 : Hi, H_3 = up H_2 99 22 ((H_2 99 22) + (1 : Int32)) → (∃ j_4 : Nat, (j_4 < 44 ∧ H_3 99 11 = nI j_4) ∧ (∀ H_5 : Hi, H_5 = up H_3 108 j_4 (((64 : Int32) + ((8 : Int32) * x1)) + x2) → (Rm E mX10_whenOf Q 41 [some (rf E 99), none, some (.int x2), some (.int (0 : Int32)), some (.int (0 : Int32))] [] H_5)))))))) :
    Cm E mX10_whenOf [rf E 99, .int x1, .int x2] H Q :=
  cm_of (by decide +kernel) (Nat.le_of_ble_eq_true rfl) rfl (sgX10_whenOf_0  hF)
theorem sgX10_whenOf_41 {E : En} {Q : Option Value → Hi → Prop} {H : Hi} {x2 : Int32} {x3 : Int32} {x4 : Int32} 
    (hF : ((24 : Int32) ≤ x4 → (Q (some (.int x3)) H)) ∧ (¬ (24 : Int32) ≤ x4 → (∃ j_2 : Nat, (j_2 < 44 ∧ H 99 11 = nI j_2) ∧ (∀ H_3 : Hi, H_3 = up H 107 j_2 x4 → (Cm E mX10_isFelt [rf E 99, .int x2] H_3 (fun w H_4 => ∃ r_5 : Int32, w = some (.int r_5) ∧ ((r_5 = 0 → (∀ x3_7 : Int32, x3_7 = x3 ||| (0 : Int32) → (∀ x4_8 : Int32, x4_8 = x4 + (1 : Int32) → (Rm E mX10_whenOf Q 41 [some (rf E 99), none, some (.int x2), some (.int x3_7), some (.int x4_8)] [] H_4)))) ∧ (¬ r_5 = 0 → (∀ x3_9 : Int32, x3_9 = x3 ||| ((1 : Int32) <<< (x4 &&& 31)) → (∀ x4_10 : Int32, x4_10 = x4 + (1 : Int32) → (Rm E mX10_whenOf Q 41 [some (rf E 99), none, some (.int x2), some (.int x3_9), some (.int x4_10)] [] H_4))))))))))) :
    Rm E mX10_whenOf Q 41 [some (rf E 99), none, some (.int x2), some (.int x3), some (.int x4)] [] H := by
  refine rn_iload dX10_whenOf_41 rfl ?_
  refine rn_bipush (x := (24 : Int32)) dX10_whenOf_43 (by decide) ?_
  refine rn_icmp_ge (tgt := 84) dX10_whenOf_45 (by decide) (fun hc_1 => ?_) (fun hc_1 => ?_)
  · replace hF := hF.1 hc_1
    refine rn_iload_n dX10_whenOf_84 rfl ?_
    exact rm_iret rfl dX10_whenOf_85 hF
  · replace hF := hF.2 hc_1
    refine rn_aload_n dX10_whenOf_48 rfl ?_
    refine rm_getr (r := 107) flRX10_31 rfl (by decide) rfl dX10_whenOf_49 ?_
    refine rn_aload_n dX10_whenOf_52 rfl ?_
    refine rm_geti flRX10_163 rfl (by decide) rfl dX10_whenOf_53 ?_
    refine rn_iload dX10_whenOf_56 rfl ?_
    obtain ⟨j_2, hj_2, hF⟩ := hF
    refine rj_iast hj_2 rfl (by decide) rfl (by decide) dX10_whenOf_58 (fun H_3 eH_3 => ?_)
    replace hF := hF H_3 eH_3
    refine rn_iload_n dX10_whenOf_59 rfl ?_
    refine rn_aload_n dX10_whenOf_60 rfl ?_
    refine rn_iload_n dX10_whenOf_61 rfl ?_
    refine rm_callV (c0 := 99) (As := [.int x2]) (st := [.int x3]) mlRX10_283 mdX10_isFelt (Nat.le_of_ble_eq_true rfl) rfl (by decide) (by decide) rfl rfl rfl (Nat.le_of_ble_eq_true rfl) ⟨Nat.le_refl _, Nat.le_refl _⟩ dX10_whenOf_62 ?_
    refine cm_mono hF (fun w H_4 hF => ?_)
    obtain ⟨r_5, rfl, hF⟩ := hF
    refine rn_if_eq (tgt := 75) dX10_whenOf_65 (by decide) (fun hc_6 => ?_) (fun hc_6 => ?_)
    · replace hF := hF.1 hc_6
      refine rn_iconst (x := (0 : Int32)) dX10_whenOf_75 (by decide) ?_
      refine rn_ior dX10_whenOf_76 ?_
      refine rn_istore_n dX10_whenOf_77 rfl (by decide) (fun x3_7 ex3_7 => ?_)
      replace hF := hF x3_7 ex3_7
      refine rn_iinc (w := (1 : Int32)) dX10_whenOf_78 rfl (by decide) rfl (by decide) (fun x4_8 ex4_8 => ?_)
      replace hF := hF x4_8 ex4_8
      refine rn_goto (tgt := 41) dX10_whenOf_81 (by decide) ?_
      exact rn_wk (L' := [some (rf E 99), none, some (.int x2), some (.int x3_7), some (.int x4_8)]) (⟨rfl, ⟨rfl, ⟨rfl, ⟨rfl, trivial⟩⟩⟩⟩) hF
    · replace hF := hF.2 hc_6
      refine rn_iconst (x := (1 : Int32)) dX10_whenOf_68 (by decide) ?_
      refine rn_iload dX10_whenOf_69 rfl ?_
      refine rn_ishl dX10_whenOf_71 ?_
      refine rn_goto (tgt := 76) dX10_whenOf_72 (by decide) ?_
      refine rn_ior dX10_whenOf_76 ?_
      refine rn_istore_n dX10_whenOf_77 rfl (by decide) (fun x3_9 ex3_9 => ?_)
      replace hF := hF x3_9 ex3_9
      refine rn_iinc (w := (1 : Int32)) dX10_whenOf_78 rfl (by decide) rfl (by decide) (fun x4_10 ex4_10 => ?_)
      replace hF := hF x4_10 ex4_10
      refine rn_goto (tgt := 41) dX10_whenOf_81 (by decide) ?_
      exact rn_wk (L' := [some (rf E 99), none, some (.int x2), some (.int x3_9), some (.int x4_10)]) (⟨rfl, ⟨rfl, ⟨rfl, ⟨rfl, trivial⟩⟩⟩⟩) hF
theorem sgX10_when_0 {E : En} {Q : Option Value → Hi → Prop} {H : Hi} {x1 : Int32} {x2 : Int32} 
    (hF : Cm E mX10_isCousin [rf E 99, .int x1] H (fun w H_1 => ∃ r_2 : Int32, w = some (.int r_2) ∧ ((r_2 = 0 → (Q (some (.int (-2 : Int32))) H_1)) ∧ (¬ r_2 = 0 → (Cm E mX10_isThing [rf E 99, .int x2] H_1 (fun w H_4 => ∃ r_5 : Int32, w = some (.int r_5) ∧ ((r_5 = 0 → (Q (some (.int (-2 : Int32))) H_4)) ∧ (¬ r_5 = 0 → (Cm E mX10_whenOf [rf E 99, .int x1, .int x2] H_4 (fun w H_7 => ∃ r_8 : Int32, w = some (.int r_8) ∧ (Q (some (.int r_8)) H_7))))))))))) :
    Rm E mX10_when Q 0 [some (rf E 99), some (.int x1), some (.int x2)] [] H := by
  refine rn_aload_n dX10_when_0 rfl ?_
  refine rn_iload_n dX10_when_1 rfl ?_
  refine rm_callV (c0 := 99) (As := [.int x1]) (st := []) mlRX10_153 mdX10_isCousin (Nat.le_of_ble_eq_true rfl) rfl (by decide) (by decide) rfl rfl rfl (Nat.le_of_ble_eq_true rfl) ⟨Nat.le_refl _, Nat.le_refl _⟩ dX10_when_2 ?_
  refine cm_mono hF (fun w H_1 hF => ?_)
  obtain ⟨r_2, rfl, hF⟩ := hF
  refine rn_if_eq (tgt := 25) dX10_when_5 (by decide) (fun hc_3 => ?_) (fun hc_3 => ?_)
  · replace hF := hF.1 hc_3
    refine rn_bipush (x := (-2 : Int32)) dX10_when_25 (by decide) ?_
    exact rm_iret rfl dX10_when_27 hF
  · replace hF := hF.2 hc_3
    refine rn_aload_n dX10_when_8 rfl ?_
    refine rn_iload_n dX10_when_9 rfl ?_
    refine rm_callV (c0 := 99) (As := [.int x2]) (st := []) mlRX10_147 mdX10_isThing (Nat.le_of_ble_eq_true rfl) rfl (by decide) (by decide) rfl rfl rfl (Nat.le_of_ble_eq_true rfl) ⟨Nat.le_refl _, Nat.le_refl _⟩ dX10_when_10 ?_
    refine cm_mono hF (fun w H_4 hF => ?_)
    obtain ⟨r_5, rfl, hF⟩ := hF
    refine rn_if_eq (tgt := 25) dX10_when_13 (by decide) (fun hc_6 => ?_) (fun hc_6 => ?_)
    · replace hF := hF.1 hc_6
      refine rn_bipush (x := (-2 : Int32)) dX10_when_25 (by decide) ?_
      exact rm_iret rfl dX10_when_27 hF
    · replace hF := hF.2 hc_6
      refine rn_aload_n dX10_when_16 rfl ?_
      refine rn_iload_n dX10_when_17 rfl ?_
      refine rn_iload_n dX10_when_18 rfl ?_
      refine rm_callV (c0 := 99) (As := [.int x1, .int x2]) (st := []) mlRX10_286 mdX10_whenOf (Nat.le_of_ble_eq_true rfl) rfl (by decide) (by decide) rfl rfl rfl (Nat.le_of_ble_eq_true rfl) ⟨Nat.le_refl _, Nat.le_refl _⟩ dX10_when_19 ?_
      refine cm_mono hF (fun w H_7 hF => ?_)
      obtain ⟨r_8, rfl, hF⟩ := hF
      refine rn_goto (tgt := 27) dX10_when_22 (by decide) ?_
      exact rm_iret rfl dX10_when_27 hF
theorem cmX10_when {E : En} {Q : Option Value → Hi → Prop} {H : Hi} {x1 : Int32} {x2 : Int32} 
    (hF : Cm E mX10_isCousin [rf E 99, .int x1] H (fun w H_1 => ∃ r_2 : Int32, w = some (.int r_2) ∧ ((r_2 = 0 → (Q (some (.int (-2 : Int32))) H_1)) ∧ (¬ r_2 = 0 → (Cm E mX10_isThing [rf E 99, .int x2] H_1 (fun w H_4 => ∃ r_5 : Int32, w = some (.int r_5) ∧ ((r_5 = 0 → (Q (some (.int (-2 : Int32))) H_4)) ∧ (¬ r_5 = 0 → (Cm E mX10_whenOf [rf E 99, .int x1, .int x2] H_4 (fun w H_7 => ∃ r_8 : Int32, w = some (.int r_8) ∧ (Q (some (.int r_8)) H_7))))))))))) :
    Cm E mX10_when [rf E 99, .int x1, .int x2] H Q :=
  cm_of (by decide +kernel) (Nat.le_of_ble_eq_true rfl) rfl (sgX10_when_0  hF)
theorem sgX10_thiefOf_0 {E : En} {Q : Option Value → Hi → Prop} {H : Hi} {x1 : Int32} 
    (hF : Cm E mX10_reads [rf E 99] H (fun w H_1 => w = none ∧ (Rm E mX10_thiefOf Q 8 [some (rf E 99), some (.int x1), some (.int (0 : Int32)), some (.int (0 : Int32))] [] H_1))) :
    Rm E mX10_thiefOf Q 0 [some (rf E 99), some (.int x1), none, none] [] H := by
  refine rn_aload_n dX10_thiefOf_0 rfl ?_
  refine rm_callV (c0 := 99) (As := []) (st := []) mlRX10_144 mdX10_reads (Nat.le_of_ble_eq_true rfl) rfl (by decide) (by decide) rfl rfl rfl (Nat.le_of_ble_eq_true rfl) ⟨Nat.le_refl _, Nat.le_refl _⟩ dX10_thiefOf_1 ?_
  refine cm_mono hF (fun w H_1 hF => ?_)
  obtain ⟨rfl, hF⟩ := hF
  refine rn_iconst (x := (0 : Int32)) dX10_thiefOf_4 (by decide) ?_
  refine rn_istore_n dX10_thiefOf_5 rfl (by decide) (fun x2_2 ex2_2 => ?_)
  subst ex2_2
  refine rn_iconst (x := (0 : Int32)) dX10_thiefOf_6 (by decide) ?_
  refine rn_istore_n dX10_thiefOf_7 rfl (by decide) (fun x3_3 ex3_3 => ?_)
  subst ex3_3
  exact rn_wk (L' := [some (rf E 99), some (.int x1), some (.int (0 : Int32)), some (.int (0 : Int32))]) (⟨rfl, ⟨rfl, ⟨rfl, ⟨rfl, trivial⟩⟩⟩⟩) hF
theorem cmX10_thiefOf {E : En} {Q : Option Value → Hi → Prop} {H : Hi} {x1 : Int32} 
    (hF : Cm E mX10_reads [rf E 99] H (fun w H_1 => w = none ∧ (Rm E mX10_thiefOf Q 8 [some (rf E 99), some (.int x1), some (.int (0 : Int32)), some (.int (0 : Int32))] [] H_1))) :
    Cm E mX10_thiefOf [rf E 99, .int x1] H Q :=
  cm_of (by decide +kernel) (Nat.le_of_ble_eq_true rfl) rfl (sgX10_thiefOf_0  hF)
theorem sgX10_thiefOf_8 {E : En} {Q : Option Value → Hi → Prop} {H : Hi} {x1 : Int32} {x2 : Int32} {x3 : Int32} 
    (hF : ((H 99 6) ≤ x3 → (Q (some (.int x2)) H)) ∧ (¬ (H 99 6) ≤ x3 → (Cm E mX10_whenOf [rf E 99, .int x3, .int x1] H (fun w H_2 => ∃ r_3 : Int32, w = some (.int r_3) ∧ ((r_3 = 0 → (∀ x2_5 : Int32, x2_5 = x2 ||| (0 : Int32) → (∀ x3_6 : Int32, x3_6 = x3 + (1 : Int32) → (Rm E mX10_thiefOf Q 8 [some (rf E 99), some (.int x1), some (.int x2_5), some (.int x3_6)] [] H_2)))) ∧ (¬ r_3 = 0 → (∀ x2_7 : Int32, x2_7 = x2 ||| ((1 : Int32) <<< (x3 &&& 31)) → (∀ x3_8 : Int32, x3_8 = x3 + (1 : Int32) → (Rm E mX10_thiefOf Q 8 [some (rf E 99), some (.int x1), some (.int x2_7), some (.int x3_8)] [] H_2))))))))) :
    Rm E mX10_thiefOf Q 8 [some (rf E 99), some (.int x1), some (.int x2), some (.int x3)] [] H := by
  refine rn_iload_n dX10_thiefOf_8 rfl ?_
  refine rn_aload_n dX10_thiefOf_9 rfl ?_
  refine rm_geti flRX10_128 rfl (by decide) rfl dX10_thiefOf_10 ?_
  refine rn_icmp_ge (tgt := 41) dX10_thiefOf_13 (by decide) (fun hc_1 => ?_) (fun hc_1 => ?_)
  · replace hF := hF.1 hc_1
    refine rn_iload_n dX10_thiefOf_41 rfl ?_
    exact rm_iret rfl dX10_thiefOf_42 hF
  · replace hF := hF.2 hc_1
    refine rn_iload_n dX10_thiefOf_16 rfl ?_
    refine rn_aload_n dX10_thiefOf_17 rfl ?_
    refine rn_iload_n dX10_thiefOf_18 rfl ?_
    refine rn_iload_n dX10_thiefOf_19 rfl ?_
    refine rm_callV (c0 := 99) (As := [.int x3, .int x1]) (st := [.int x2]) mlRX10_286 mdX10_whenOf (Nat.le_of_ble_eq_true rfl) rfl (by decide) (by decide) rfl rfl rfl (Nat.le_of_ble_eq_true rfl) ⟨Nat.le_refl _, Nat.le_refl _⟩ dX10_thiefOf_20 ?_
    refine cm_mono hF (fun w H_2 hF => ?_)
    obtain ⟨r_3, rfl, hF⟩ := hF
    refine rn_if_eq (tgt := 32) dX10_thiefOf_23 (by decide) (fun hc_4 => ?_) (fun hc_4 => ?_)
    · replace hF := hF.1 hc_4
      refine rn_iconst (x := (0 : Int32)) dX10_thiefOf_32 (by decide) ?_
      refine rn_ior dX10_thiefOf_33 ?_
      refine rn_istore_n dX10_thiefOf_34 rfl (by decide) (fun x2_5 ex2_5 => ?_)
      replace hF := hF x2_5 ex2_5
      refine rn_iinc (w := (1 : Int32)) dX10_thiefOf_35 rfl (by decide) rfl (by decide) (fun x3_6 ex3_6 => ?_)
      replace hF := hF x3_6 ex3_6
      refine rn_goto (tgt := 8) dX10_thiefOf_38 (by decide) ?_
      exact rn_wk (L' := [some (rf E 99), some (.int x1), some (.int x2_5), some (.int x3_6)]) (⟨rfl, ⟨rfl, ⟨rfl, ⟨rfl, trivial⟩⟩⟩⟩) hF
    · replace hF := hF.2 hc_4
      refine rn_iconst (x := (1 : Int32)) dX10_thiefOf_26 (by decide) ?_
      refine rn_iload_n dX10_thiefOf_27 rfl ?_
      refine rn_ishl dX10_thiefOf_28 ?_
      refine rn_goto (tgt := 33) dX10_thiefOf_29 (by decide) ?_
      refine rn_ior dX10_thiefOf_33 ?_
      refine rn_istore_n dX10_thiefOf_34 rfl (by decide) (fun x2_7 ex2_7 => ?_)
      replace hF := hF x2_7 ex2_7
      refine rn_iinc (w := (1 : Int32)) dX10_thiefOf_35 rfl (by decide) rfl (by decide) (fun x3_8 ex3_8 => ?_)
      replace hF := hF x3_8 ex3_8
      refine rn_goto (tgt := 8) dX10_thiefOf_38 (by decide) ?_
      exact rn_wk (L' := [some (rf E 99), some (.int x1), some (.int x2_7), some (.int x3_8)]) (⟨rfl, ⟨rfl, ⟨rfl, ⟨rfl, trivial⟩⟩⟩⟩) hF
theorem sgX10_thief_0 {E : En} {Q : Option Value → Hi → Prop} {H : Hi} {x1 : Int32} 
    (hF : Cm E mX10_isThing [rf E 99, .int x1] H (fun w H_1 => ∃ r_2 : Int32, w = some (.int r_2) ∧ ((r_2 = 0 → (Q (some (.int (-2 : Int32))) H_1)) ∧ (¬ r_2 = 0 → (Cm E mX10_thiefOf [rf E 99, .int x1] H_1 (fun w H_4 => ∃ r_5 : Int32, w = some (.int r_5) ∧ (Q (some (.int r_5)) H_4))))))) :
    Rm E mX10_thief Q 0 [some (rf E 99), some (.int x1)] [] H := by
  refine rn_aload_n dX10_thief_0 rfl ?_
  refine rn_iload_n dX10_thief_1 rfl ?_
  refine rm_callV (c0 := 99) (As := [.int x1]) (st := []) mlRX10_147 mdX10_isThing (Nat.le_of_ble_eq_true rfl) rfl (by decide) (by decide) rfl rfl rfl (Nat.le_of_ble_eq_true rfl) ⟨Nat.le_refl _, Nat.le_refl _⟩ dX10_thief_2 ?_
  refine cm_mono hF (fun w H_1 hF => ?_)
  obtain ⟨r_2, rfl, hF⟩ := hF
  refine rn_if_eq (tgt := 16) dX10_thief_5 (by decide) (fun hc_3 => ?_) (fun hc_3 => ?_)
  · replace hF := hF.1 hc_3
    refine rn_bipush (x := (-2 : Int32)) dX10_thief_16 (by decide) ?_
    exact rm_iret rfl dX10_thief_18 hF
  · replace hF := hF.2 hc_3
    refine rn_aload_n dX10_thief_8 rfl ?_
    refine rn_iload_n dX10_thief_9 rfl ?_
    refine rm_callV (c0 := 99) (As := [.int x1]) (st := []) mlRX10_289 mdX10_thiefOf (Nat.le_of_ble_eq_true rfl) rfl (by decide) (by decide) rfl rfl rfl (Nat.le_of_ble_eq_true rfl) ⟨Nat.le_refl _, Nat.le_refl _⟩ dX10_thief_10 ?_
    refine cm_mono hF (fun w H_4 hF => ?_)
    obtain ⟨r_5, rfl, hF⟩ := hF
    refine rn_goto (tgt := 18) dX10_thief_13 (by decide) ?_
    exact rm_iret rfl dX10_thief_18 hF
theorem cmX10_thief {E : En} {Q : Option Value → Hi → Prop} {H : Hi} {x1 : Int32} 
    (hF : Cm E mX10_isThing [rf E 99, .int x1] H (fun w H_1 => ∃ r_2 : Int32, w = some (.int r_2) ∧ ((r_2 = 0 → (Q (some (.int (-2 : Int32))) H_1)) ∧ (¬ r_2 = 0 → (Cm E mX10_thiefOf [rf E 99, .int x1] H_1 (fun w H_4 => ∃ r_5 : Int32, w = some (.int r_5) ∧ (Q (some (.int r_5)) H_4))))))) :
    Cm E mX10_thief [rf E 99, .int x1] H Q :=
  cm_of (by decide +kernel) (Nat.le_of_ble_eq_true rfl) rfl (sgX10_thief_0  hF)
