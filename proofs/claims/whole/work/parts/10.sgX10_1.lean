theorem sgX10_putsIn_0 {E : En} {Q : Option Value → Hi → Prop} {H : Hi} {zx1 : Int32} 
    (hF : Cm E mX10_loadNow [rf E 99] H (fun w zH_1 => ∃ zr_2 : Int32, w = some (.int zr_2) ∧ (∃ zj_3 : Nat, (zj_3 < 9 ∧ zx1 = nI zj_3) ∧ (((zH_1 99 9) < (zr_2 + (zH_1 102 zj_3)) → (((0 : Int32) = 0 → (∃ zj_7 : Nat, (zj_7 < 8 ∧ zx1 = nI zj_7) ∧ (∃ zj_8 : Nat, (zj_8 < 8 ∧ zx1 = nI zj_8) ∧ (∀ zH_9 : Hi, zH_9 = up zH_1 111 zj_8 (zH_1 111 zj_7) → (Q (some (.int (0 : Int32))) zH_9))))) ∧ (¬ (0 : Int32) = 0 → (∃ zj_10 : Nat, (zj_10 < 8 ∧ zx1 = nI zj_10) ∧ (∀ zH_11 : Hi, zH_11 = up zH_1 111 zj_10 (8 : Int32) → (Q (some (.int (0 : Int32))) zH_11)))))) ∧ (¬ (zH_1 99 9) < (zr_2 + (zH_1 102 zj_3)) → (((1 : Int32) = 0 → (∃ zj_14 : Nat, (zj_14 < 8 ∧ zx1 = nI zj_14) ∧ (∃ zj_15 : Nat, (zj_15 < 8 ∧ zx1 = nI zj_15) ∧ (∀ zH_16 : Hi, zH_16 = up zH_1 111 zj_15 (zH_1 111 zj_14) → (Q (some (.int (1 : Int32))) zH_16))))) ∧ (¬ (1 : Int32) = 0 → (∃ zj_17 : Nat, (zj_17 < 8 ∧ zx1 = nI zj_17) ∧ (∀ zH_18 : Hi, zH_18 = up zH_1 111 zj_17 (8 : Int32) → (Q (some (.int (1 : Int32))) zH_18)))))))))) :
    Rm E mX10_putsIn Q 0 [some (rf E 99), some (.int zx1), none] [] H := by
  refine rn_aload_n dX10_putsIn_0 rfl ?_
  refine rm_callV (c0 := 99) (As := []) (st := []) mlRX10_185 mdX10_loadNow (Nat.le_of_ble_eq_true rfl) rfl (by decide) (by decide) rfl rfl rfl (Nat.le_of_ble_eq_true rfl) ⟨Nat.le_refl _, Nat.le_refl _⟩ dX10_putsIn_1 ?_
  refine cm_mono hF (fun w zH_1 hF => ?_)
  obtain ⟨zr_2, rfl, hF⟩ := hF
  refine rn_aload_n dX10_putsIn_4 rfl ?_
  refine rm_getr (r := 102) flRX10_16 rfl (by decide) rfl dX10_putsIn_5 ?_
  refine rn_iload_n dX10_putsIn_8 rfl ?_
  obtain ⟨zj_3, hzj_3, hF⟩ := hF
  refine rj_iald (j := zj_3) hzj_3 rfl (by decide) rfl (by decide) dX10_putsIn_9 ?_
  refine rn_iadd dX10_putsIn_10 ?_
  refine rn_aload_n dX10_putsIn_11 rfl ?_
  refine rm_geti flRX10_104 rfl (by decide) rfl dX10_putsIn_12 ?_
  refine rn_icmp_gt (tgt := 22) dX10_putsIn_15 (by decide) (fun hc_4 => ?_) (fun hc_4 => ?_)
  · replace hF := hF.1 hc_4
    refine rn_iconst (x := (0 : Int32)) dX10_putsIn_22 (by decide) ?_
    refine ra_istore_n dX10_putsIn_23 rfl (Nat.le_of_ble_eq_true rfl) ?_
    show Rn _ _ _ _ _ _ _ _ [some (rf E 99), some (.int zx1), some (.int (0 : Int32))] _ _ _
    refine rn_aload_n dX10_putsIn_24 rfl ?_
    refine rm_getr (r := 111) flRX10_43 rfl (by decide) rfl dX10_putsIn_25 ?_
    refine rn_iload_n dX10_putsIn_28 rfl ?_
    refine rn_iload_n dX10_putsIn_29 rfl ?_
    refine rn_if_eq (tgt := 38) dX10_putsIn_30 (by decide) (fun hc_6 => ?_) (fun hc_6 => ?_)
    · replace hF := hF.1 hc_6
      refine rn_aload_n dX10_putsIn_38 rfl ?_
      refine rm_getr (r := 111) flRX10_43 rfl (by decide) rfl dX10_putsIn_39 ?_
      refine rn_iload_n dX10_putsIn_42 rfl ?_
      obtain ⟨zj_7, hzj_7, hF⟩ := hF
      refine rj_iald (j := zj_7) hzj_7 rfl (by decide) rfl (by decide) dX10_putsIn_43 ?_
      obtain ⟨zj_8, hzj_8, hF⟩ := hF
      refine rj_iast (j := zj_8) hzj_8 rfl (by decide) rfl (by decide) dX10_putsIn_44 (fun zH_9 ezH_9 => ?_)
      replace hF := hF zH_9 ezH_9
      refine rn_iload_n dX10_putsIn_45 rfl ?_
      exact rm_zret rfl rfl dX10_putsIn_46 hF
    · replace hF := hF.2 hc_6
      refine rn_bipush (x := (8 : Int32)) dX10_putsIn_33 (by decide) ?_
      refine rn_goto (tgt := 44) dX10_putsIn_35 (by decide) ?_
      obtain ⟨zj_10, hzj_10, hF⟩ := hF
      refine rj_iast (j := zj_10) hzj_10 rfl (by decide) rfl (by decide) dX10_putsIn_44 (fun zH_11 ezH_11 => ?_)
      replace hF := hF zH_11 ezH_11
      refine rn_iload_n dX10_putsIn_45 rfl ?_
      exact rm_zret rfl rfl dX10_putsIn_46 hF
  · replace hF := hF.2 hc_4
    refine rn_iconst (x := (1 : Int32)) dX10_putsIn_18 (by decide) ?_
    refine rn_goto (tgt := 23) dX10_putsIn_19 (by decide) ?_
    refine ra_istore_n dX10_putsIn_23 rfl (Nat.le_of_ble_eq_true rfl) ?_
    show Rn _ _ _ _ _ _ _ _ [some (rf E 99), some (.int zx1), some (.int (1 : Int32))] _ _ _
    refine rn_aload_n dX10_putsIn_24 rfl ?_
    refine rm_getr (r := 111) flRX10_43 rfl (by decide) rfl dX10_putsIn_25 ?_
    refine rn_iload_n dX10_putsIn_28 rfl ?_
    refine rn_iload_n dX10_putsIn_29 rfl ?_
    refine rn_if_eq (tgt := 38) dX10_putsIn_30 (by decide) (fun hc_13 => ?_) (fun hc_13 => ?_)
    · replace hF := hF.1 hc_13
      refine rn_aload_n dX10_putsIn_38 rfl ?_
      refine rm_getr (r := 111) flRX10_43 rfl (by decide) rfl dX10_putsIn_39 ?_
      refine rn_iload_n dX10_putsIn_42 rfl ?_
      obtain ⟨zj_14, hzj_14, hF⟩ := hF
      refine rj_iald (j := zj_14) hzj_14 rfl (by decide) rfl (by decide) dX10_putsIn_43 ?_
      obtain ⟨zj_15, hzj_15, hF⟩ := hF
      refine rj_iast (j := zj_15) hzj_15 rfl (by decide) rfl (by decide) dX10_putsIn_44 (fun zH_16 ezH_16 => ?_)
      replace hF := hF zH_16 ezH_16
      refine rn_iload_n dX10_putsIn_45 rfl ?_
      exact rm_zret rfl rfl dX10_putsIn_46 hF
    · replace hF := hF.2 hc_13
      refine rn_bipush (x := (8 : Int32)) dX10_putsIn_33 (by decide) ?_
      refine rn_goto (tgt := 44) dX10_putsIn_35 (by decide) ?_
      obtain ⟨zj_17, hzj_17, hF⟩ := hF
      refine rj_iast (j := zj_17) hzj_17 rfl (by decide) rfl (by decide) dX10_putsIn_44 (fun zH_18 ezH_18 => ?_)
      replace hF := hF zH_18 ezH_18
      refine rn_iload_n dX10_putsIn_45 rfl ?_
      exact rm_zret rfl rfl dX10_putsIn_46 hF
theorem cmX10_putsIn {E : En} {Q : Option Value → Hi → Prop} {H : Hi} {zx1 : Int32} 
    (hF : Cm E mX10_loadNow [rf E 99] H (fun w zH_1 => ∃ zr_2 : Int32, w = some (.int zr_2) ∧ (∃ zj_3 : Nat, (zj_3 < 9 ∧ zx1 = nI zj_3) ∧ (((zH_1 99 9) < (zr_2 + (zH_1 102 zj_3)) → (((0 : Int32) = 0 → (∃ zj_7 : Nat, (zj_7 < 8 ∧ zx1 = nI zj_7) ∧ (∃ zj_8 : Nat, (zj_8 < 8 ∧ zx1 = nI zj_8) ∧ (∀ zH_9 : Hi, zH_9 = up zH_1 111 zj_8 (zH_1 111 zj_7) → (Q (some (.int (0 : Int32))) zH_9))))) ∧ (¬ (0 : Int32) = 0 → (∃ zj_10 : Nat, (zj_10 < 8 ∧ zx1 = nI zj_10) ∧ (∀ zH_11 : Hi, zH_11 = up zH_1 111 zj_10 (8 : Int32) → (Q (some (.int (0 : Int32))) zH_11)))))) ∧ (¬ (zH_1 99 9) < (zr_2 + (zH_1 102 zj_3)) → (((1 : Int32) = 0 → (∃ zj_14 : Nat, (zj_14 < 8 ∧ zx1 = nI zj_14) ∧ (∃ zj_15 : Nat, (zj_15 < 8 ∧ zx1 = nI zj_15) ∧ (∀ zH_16 : Hi, zH_16 = up zH_1 111 zj_15 (zH_1 111 zj_14) → (Q (some (.int (1 : Int32))) zH_16))))) ∧ (¬ (1 : Int32) = 0 → (∃ zj_17 : Nat, (zj_17 < 8 ∧ zx1 = nI zj_17) ∧ (∀ zH_18 : Hi, zH_18 = up zH_1 111 zj_17 (8 : Int32) → (Q (some (.int (1 : Int32))) zH_18)))))))))) :
    Cm E mX10_putsIn [rf E 99, .int zx1] H Q :=
  cm_of (by decide +kernel : plainName RX10 = true) (Nat.le_of_ble_eq_true rfl) rfl (sgX10_putsIn_0  hF)
theorem sgX10_begins_0 {E : En} {Q : Option Value → Hi → Prop} {H : Hi}  
    (hF : Rm E mX10_begins Q 2 [some (rf E 99), some (.int (0 : Int32))] [] H) :
    Rm E mX10_begins Q 0 [some (rf E 99), none] [] H := by
  refine rn_iconst (x := (0 : Int32)) dX10_begins_0 (by decide) ?_
  refine ra_istore_n dX10_begins_1 rfl (Nat.le_of_ble_eq_true rfl) ?_
  show Rn _ _ _ _ _ _ _ _ [some (rf E 99), some (.int (0 : Int32))] _ _ _
  exact rn_wk (L' := [some (rf E 99), some (.int (0 : Int32))]) (⟨rfl, ⟨rfl, trivial⟩⟩) hF
theorem cmX10_begins {E : En} {Q : Option Value → Hi → Prop} {H : Hi}  
    (hF : Rm E mX10_begins Q 2 [some (rf E 99), some (.int (0 : Int32))] [] H) :
    Cm E mX10_begins [rf E 99] H Q :=
  cm_of (by decide +kernel : plainName RX10 = true) (Nat.le_of_ble_eq_true rfl) rfl (sgX10_begins_0  hF)
theorem sgX10_begins_2 {E : En} {Q : Option Value → Hi → Prop} {H : Hi} {zx1 : Int32} 
    (hF : ((8 : Int32) ≤ zx1 → (Rm E mX10_begins Q 68 [some (rf E 99), some (.int (0 : Int32))] [] H)) ∧ (¬ (8 : Int32) ≤ zx1 → (((H 99 2) ≤ zx1 → (∃ zj_4 : Nat, (zj_4 < 8 ∧ zx1 = nI zj_4) ∧ (∀ zH_5 : Hi, zH_5 = up H 111 zj_4 (9 : Int32) → (∃ zj_6 : Nat, (zj_6 < 8 ∧ zx1 = nI zj_6) ∧ (∀ zH_7 : Hi, zH_7 = up zH_5 112 zj_6 (0 : Int32) → (∃ zj_8 : Nat, (zj_8 < 8 ∧ zx1 = nI zj_8) ∧ (∀ zH_9 : Hi, zH_9 = up zH_7 113 zj_8 (0 : Int32) → (∀ zx1_10 : Int32, zx1_10 = zx1 + (1 : Int32) → (Rm E mX10_begins Q 2 [some (rf E 99), some (.int zx1_10)] [] zH_9))))))))) ∧ (¬ (H 99 2) ≤ zx1 → (∃ zj_11 : Nat, (zj_11 < 9 ∧ zx1 = nI zj_11) ∧ (((H 99 6) ≤ (H 103 zj_11) → (∃ zj_13 : Nat, (zj_13 < 8 ∧ zx1 = nI zj_13) ∧ (∀ zH_14 : Hi, zH_14 = up H 111 zj_13 (9 : Int32) → (∃ zj_15 : Nat, (zj_15 < 8 ∧ zx1 = nI zj_15) ∧ (∀ zH_16 : Hi, zH_16 = up zH_14 112 zj_15 (0 : Int32) → (∃ zj_17 : Nat, (zj_17 < 8 ∧ zx1 = nI zj_17) ∧ (∀ zH_18 : Hi, zH_18 = up zH_16 113 zj_17 (0 : Int32) → (∀ zx1_19 : Int32, zx1_19 = zx1 + (1 : Int32) → (Rm E mX10_begins Q 2 [some (rf E 99), some (.int zx1_19)] [] zH_18))))))))) ∧ (¬ (H 99 6) ≤ (H 103 zj_11) → (∃ zj_20 : Nat, (zj_20 < 9 ∧ zx1 = nI zj_20) ∧ (∃ zj_21 : Nat, (zj_21 < 8 ∧ zx1 = nI zj_21) ∧ (∀ zH_22 : Hi, zH_22 = up H 111 zj_21 (H 103 zj_20) → (∃ zj_23 : Nat, (zj_23 < 8 ∧ zx1 = nI zj_23) ∧ (∀ zH_24 : Hi, zH_24 = up zH_22 112 zj_23 (0 : Int32) → (∃ zj_25 : Nat, (zj_25 < 8 ∧ zx1 = nI zj_25) ∧ (∀ zH_26 : Hi, zH_26 = up zH_24 113 zj_25 (0 : Int32) → (∀ zx1_27 : Int32, zx1_27 = zx1 + (1 : Int32) → (Rm E mX10_begins Q 2 [some (rf E 99), some (.int zx1_27)] [] zH_26)))))))))))))))) :
    Rm E mX10_begins Q 2 [some (rf E 99), some (.int zx1)] [] H := by
  refine rn_iload_n dX10_begins_2 rfl ?_
  refine rn_bipush (x := (8 : Int32)) dX10_begins_3 (by decide) ?_
  refine rn_icmp_ge (tgt := 66) dX10_begins_5 (by decide) (fun hc_1 => ?_) (fun hc_1 => ?_)
  · replace hF := hF.1 hc_1
    refine rn_iconst (x := (0 : Int32)) dX10_begins_66 (by decide) ?_
    refine ra_istore_n dX10_begins_67 rfl (Nat.le_of_ble_eq_true rfl) ?_
    show Rn _ _ _ _ _ _ _ _ [some (rf E 99), some (.int (0 : Int32))] _ _ _
    exact rn_wk (L' := [some (rf E 99), some (.int (0 : Int32))]) (⟨rfl, ⟨rfl, trivial⟩⟩) hF
  · replace hF := hF.2 hc_1
    refine rn_aload_n dX10_begins_8 rfl ?_
    refine rm_getr (r := 111) flRX10_43 rfl (by decide) rfl dX10_begins_9 ?_
    refine rn_iload_n dX10_begins_12 rfl ?_
    refine rn_iload_n dX10_begins_13 rfl ?_
    refine rn_aload_n dX10_begins_14 rfl ?_
    refine rm_geti flRX10_125 rfl (by decide) rfl dX10_begins_15 ?_
    refine rn_icmp_ge (tgt := 43) dX10_begins_18 (by decide) (fun hc_3 => ?_) (fun hc_3 => ?_)
    · replace hF := hF.1 hc_3
      refine rn_bipush (x := (9 : Int32)) dX10_begins_43 (by decide) ?_
      obtain ⟨zj_4, hzj_4, hF⟩ := hF
      refine rj_iast (j := zj_4) hzj_4 rfl (by decide) rfl (by decide) dX10_begins_45 (fun zH_5 ezH_5 => ?_)
      replace hF := hF zH_5 ezH_5
      refine rn_aload_n dX10_begins_46 rfl ?_
      refine rm_getr (r := 112) flRX10_46 rfl (by decide) rfl dX10_begins_47 ?_
      refine rn_iload_n dX10_begins_50 rfl ?_
      refine rn_iconst (x := (0 : Int32)) dX10_begins_51 (by decide) ?_
      obtain ⟨zj_6, hzj_6, hF⟩ := hF
      refine rj_iast (j := zj_6) hzj_6 rfl (by decide) rfl (by decide) dX10_begins_52 (fun zH_7 ezH_7 => ?_)
      replace hF := hF zH_7 ezH_7
      refine rn_aload_n dX10_begins_53 rfl ?_
      refine rm_getr (r := 113) flRX10_49 rfl (by decide) rfl dX10_begins_54 ?_
      refine rn_iload_n dX10_begins_57 rfl ?_
      refine rn_iconst (x := (0 : Int32)) dX10_begins_58 (by decide) ?_
      obtain ⟨zj_8, hzj_8, hF⟩ := hF
      refine rj_iast (j := zj_8) hzj_8 rfl (by decide) rfl (by decide) dX10_begins_59 (fun zH_9 ezH_9 => ?_)
      replace hF := hF zH_9 ezH_9
      refine rn_iinc (w := (1 : Int32)) dX10_begins_60 rfl (by decide) rfl (Nat.le_of_ble_eq_true rfl) (fun zx1_10 ezx1_10 => ?_)
      replace hF := hF zx1_10 ezx1_10
      show Rn _ _ _ _ _ _ _ _ [some (rf E 99), some (.int zx1_10)] _ _ _
      refine rn_goto (tgt := 2) dX10_begins_63 (by decide) ?_
      exact rn_wk (L' := [some (rf E 99), some (.int zx1_10)]) (⟨rfl, ⟨rfl, trivial⟩⟩) hF
    · replace hF := hF.2 hc_3
      refine rn_aload_n dX10_begins_21 rfl ?_
      refine rm_getr (r := 103) flRX10_19 rfl (by decide) rfl dX10_begins_22 ?_
      refine rn_iload_n dX10_begins_25 rfl ?_
      obtain ⟨zj_11, hzj_11, hF⟩ := hF
      refine rj_iald (j := zj_11) hzj_11 rfl (by decide) rfl (by decide) dX10_begins_26 ?_
      refine rn_aload_n dX10_begins_27 rfl ?_
      refine rm_geti flRX10_128 rfl (by decide) rfl dX10_begins_28 ?_
      refine rn_icmp_ge (tgt := 43) dX10_begins_31 (by decide) (fun hc_12 => ?_) (fun hc_12 => ?_)
      · replace hF := hF.1 hc_12
        refine rn_bipush (x := (9 : Int32)) dX10_begins_43 (by decide) ?_
        obtain ⟨zj_13, hzj_13, hF⟩ := hF
        refine rj_iast (j := zj_13) hzj_13 rfl (by decide) rfl (by decide) dX10_begins_45 (fun zH_14 ezH_14 => ?_)
        replace hF := hF zH_14 ezH_14
        refine rn_aload_n dX10_begins_46 rfl ?_
        refine rm_getr (r := 112) flRX10_46 rfl (by decide) rfl dX10_begins_47 ?_
        refine rn_iload_n dX10_begins_50 rfl ?_
        refine rn_iconst (x := (0 : Int32)) dX10_begins_51 (by decide) ?_
        obtain ⟨zj_15, hzj_15, hF⟩ := hF
        refine rj_iast (j := zj_15) hzj_15 rfl (by decide) rfl (by decide) dX10_begins_52 (fun zH_16 ezH_16 => ?_)
        replace hF := hF zH_16 ezH_16
        refine rn_aload_n dX10_begins_53 rfl ?_
        refine rm_getr (r := 113) flRX10_49 rfl (by decide) rfl dX10_begins_54 ?_
        refine rn_iload_n dX10_begins_57 rfl ?_
        refine rn_iconst (x := (0 : Int32)) dX10_begins_58 (by decide) ?_
        obtain ⟨zj_17, hzj_17, hF⟩ := hF
        refine rj_iast (j := zj_17) hzj_17 rfl (by decide) rfl (by decide) dX10_begins_59 (fun zH_18 ezH_18 => ?_)
        replace hF := hF zH_18 ezH_18
        refine rn_iinc (w := (1 : Int32)) dX10_begins_60 rfl (by decide) rfl (Nat.le_of_ble_eq_true rfl) (fun zx1_19 ezx1_19 => ?_)
        replace hF := hF zx1_19 ezx1_19
        show Rn _ _ _ _ _ _ _ _ [some (rf E 99), some (.int zx1_19)] _ _ _
        refine rn_goto (tgt := 2) dX10_begins_63 (by decide) ?_
        exact rn_wk (L' := [some (rf E 99), some (.int zx1_19)]) (⟨rfl, ⟨rfl, trivial⟩⟩) hF
      · replace hF := hF.2 hc_12
        refine rn_aload_n dX10_begins_34 rfl ?_
        refine rm_getr (r := 103) flRX10_19 rfl (by decide) rfl dX10_begins_35 ?_
        refine rn_iload_n dX10_begins_38 rfl ?_
        obtain ⟨zj_20, hzj_20, hF⟩ := hF
        refine rj_iald (j := zj_20) hzj_20 rfl (by decide) rfl (by decide) dX10_begins_39 ?_
        refine rn_goto (tgt := 45) dX10_begins_40 (by decide) ?_
        obtain ⟨zj_21, hzj_21, hF⟩ := hF
        refine rj_iast (j := zj_21) hzj_21 rfl (by decide) rfl (by decide) dX10_begins_45 (fun zH_22 ezH_22 => ?_)
        replace hF := hF zH_22 ezH_22
        refine rn_aload_n dX10_begins_46 rfl ?_
        refine rm_getr (r := 112) flRX10_46 rfl (by decide) rfl dX10_begins_47 ?_
        refine rn_iload_n dX10_begins_50 rfl ?_
        refine rn_iconst (x := (0 : Int32)) dX10_begins_51 (by decide) ?_
        obtain ⟨zj_23, hzj_23, hF⟩ := hF
        refine rj_iast (j := zj_23) hzj_23 rfl (by decide) rfl (by decide) dX10_begins_52 (fun zH_24 ezH_24 => ?_)
        replace hF := hF zH_24 ezH_24
        refine rn_aload_n dX10_begins_53 rfl ?_
        refine rm_getr (r := 113) flRX10_49 rfl (by decide) rfl dX10_begins_54 ?_
        refine rn_iload_n dX10_begins_57 rfl ?_
        refine rn_iconst (x := (0 : Int32)) dX10_begins_58 (by decide) ?_
        obtain ⟨zj_25, hzj_25, hF⟩ := hF
        refine rj_iast (j := zj_25) hzj_25 rfl (by decide) rfl (by decide) dX10_begins_59 (fun zH_26 ezH_26 => ?_)
        replace hF := hF zH_26 ezH_26
        refine rn_iinc (w := (1 : Int32)) dX10_begins_60 rfl (by decide) rfl (Nat.le_of_ble_eq_true rfl) (fun zx1_27 ezx1_27 => ?_)
        replace hF := hF zx1_27 ezx1_27
        show Rn _ _ _ _ _ _ _ _ [some (rf E 99), some (.int zx1_27)] _ _ _
        refine rn_goto (tgt := 2) dX10_begins_63 (by decide) ?_
        exact rn_wk (L' := [some (rf E 99), some (.int zx1_27)]) (⟨rfl, ⟨rfl, trivial⟩⟩) hF
theorem sgX10_begins_68 {E : En} {Q : Option Value → Hi → Prop} {H : Hi} {zx1 : Int32} 
    (hF : ((44 : Int32) ≤ zx1 → (Q none H)) ∧ (¬ (44 : Int32) ≤ zx1 → (∃ zj_2 : Nat, (zj_2 < 44 ∧ zx1 = nI zj_2) ∧ (∀ zH_3 : Hi, zH_3 = up H 115 zj_2 (vp_nar .boolean (0 : Int32)) → (∀ zx1_4 : Int32, zx1_4 = zx1 + (1 : Int32) → (Rm E mX10_begins Q 68 [some (rf E 99), some (.int zx1_4)] [] zH_3)))))) :
    Rm E mX10_begins Q 68 [some (rf E 99), some (.int zx1)] [] H := by
  refine rn_iload_n dX10_begins_68 rfl ?_
  refine rn_bipush (x := (44 : Int32)) dX10_begins_69 (by decide) ?_
  refine rn_icmp_ge (tgt := 87) dX10_begins_71 (by decide) (fun hc_1 => ?_) (fun hc_1 => ?_)
  · replace hF := hF.1 hc_1
    exact rm_vret rfl dX10_begins_87 hF
  · replace hF := hF.2 hc_1
    refine rn_aload_n dX10_begins_74 rfl ?_
    refine rm_getr (r := 115) flRX10_55 rfl (by decide) rfl dX10_begins_75 ?_
    refine rn_iload_n dX10_begins_78 rfl ?_
    refine rn_iconst (x := (0 : Int32)) dX10_begins_79 (by decide) ?_
    obtain ⟨zj_2, hzj_2, hF⟩ := hF
    refine rj_zast (j := zj_2) hzj_2 rfl (by decide) rfl (by decide) dX10_begins_80 (fun zH_3 ezH_3 => ?_)
    replace hF := hF zH_3 ezH_3
    refine rn_iinc (w := (1 : Int32)) dX10_begins_81 rfl (by decide) rfl (Nat.le_of_ble_eq_true rfl) (fun zx1_4 ezx1_4 => ?_)
    replace hF := hF zx1_4 ezx1_4
    show Rn _ _ _ _ _ _ _ _ [some (rf E 99), some (.int zx1_4)] _ _ _
    refine rn_goto (tgt := 68) dX10_begins_84 (by decide) ?_
    exact rn_wk (L' := [some (rf E 99), some (.int zx1_4)]) (⟨rfl, ⟨rfl, trivial⟩⟩) hF
theorem sgX10_putsBack_0 {E : En} {Q : Option Value → Hi → Prop} {H : Hi}  
    (hF : Rm E mX10_putsBack Q 2 [some (rf E 99), some (.int (0 : Int32)), none, none] [] H) :
    Rm E mX10_putsBack Q 0 [some (rf E 99), none, none, none] [] H := by
  refine rn_iconst (x := (0 : Int32)) dX10_putsBack_0 (by decide) ?_
  refine ra_istore_n dX10_putsBack_1 rfl (Nat.le_of_ble_eq_true rfl) ?_
  show Rn _ _ _ _ _ _ _ _ [some (rf E 99), some (.int (0 : Int32)), none, none] _ _ _
  exact rn_wk (L' := [some (rf E 99), some (.int (0 : Int32)), none, none]) (⟨rfl, ⟨rfl, trivial⟩⟩) hF
theorem cmX10_putsBack {E : En} {Q : Option Value → Hi → Prop} {H : Hi}  
    (hF : Rm E mX10_putsBack Q 2 [some (rf E 99), some (.int (0 : Int32)), none, none] [] H) :
    Cm E mX10_putsBack [rf E 99] H Q :=
  cm_of (by decide +kernel : plainName RX10 = true) (Nat.le_of_ble_eq_true rfl) rfl (sgX10_putsBack_0  hF)
theorem sgX10_putsBack_2 {E : En} {Q : Option Value → Hi → Prop} {H : Hi} {zx1 : Int32} 
    (hF : ((8 : Int32) ≤ zx1 → (Rm E mX10_putsBack Q 35 [some (rf E 99), some (.int (0 : Int32)), none, none] [] H)) ∧ (¬ (8 : Int32) ≤ zx1 → (∃ zj_3 : Nat, (zj_3 < 8 ∧ zx1 = nI zj_3) ∧ (∃ zj_4 : Nat, (zj_4 < 8 ∧ zx1 = nI zj_4) ∧ (∀ zH_5 : Hi, zH_5 = up H 114 zj_4 (H 113 zj_3) → (∃ zj_6 : Nat, (zj_6 < 8 ∧ zx1 = nI zj_6) ∧ (∀ zH_7 : Hi, zH_7 = up zH_5 113 zj_6 (0 : Int32) → (∀ zx1_8 : Int32, zx1_8 = zx1 + (1 : Int32) → (Rm E mX10_putsBack Q 2 [some (rf E 99), some (.int zx1_8), none, none] [] zH_7))))))))) :
    Rm E mX10_putsBack Q 2 [some (rf E 99), some (.int zx1), none, none] [] H := by
  refine rn_iload_n dX10_putsBack_2 rfl ?_
  refine rn_bipush (x := (8 : Int32)) dX10_putsBack_3 (by decide) ?_
  refine rn_icmp_ge (tgt := 33) dX10_putsBack_5 (by decide) (fun hc_1 => ?_) (fun hc_1 => ?_)
  · replace hF := hF.1 hc_1
    refine rn_iconst (x := (0 : Int32)) dX10_putsBack_33 (by decide) ?_
    refine ra_istore_n dX10_putsBack_34 rfl (Nat.le_of_ble_eq_true rfl) ?_
    show Rn _ _ _ _ _ _ _ _ [some (rf E 99), some (.int (0 : Int32)), none, none] _ _ _
    exact rn_wk (L' := [some (rf E 99), some (.int (0 : Int32)), none, none]) (⟨rfl, ⟨rfl, trivial⟩⟩) hF
  · replace hF := hF.2 hc_1
    refine rn_aload_n dX10_putsBack_8 rfl ?_
    refine rm_getr (r := 114) flRX10_52 rfl (by decide) rfl dX10_putsBack_9 ?_
    refine rn_iload_n dX10_putsBack_12 rfl ?_
    refine rn_aload_n dX10_putsBack_13 rfl ?_
    refine rm_getr (r := 113) flRX10_49 rfl (by decide) rfl dX10_putsBack_14 ?_
    refine rn_iload_n dX10_putsBack_17 rfl ?_
    obtain ⟨zj_3, hzj_3, hF⟩ := hF
    refine rj_iald (j := zj_3) hzj_3 rfl (by decide) rfl (by decide) dX10_putsBack_18 ?_
    obtain ⟨zj_4, hzj_4, hF⟩ := hF
    refine rj_iast (j := zj_4) hzj_4 rfl (by decide) rfl (by decide) dX10_putsBack_19 (fun zH_5 ezH_5 => ?_)
    replace hF := hF zH_5 ezH_5
    refine rn_aload_n dX10_putsBack_20 rfl ?_
    refine rm_getr (r := 113) flRX10_49 rfl (by decide) rfl dX10_putsBack_21 ?_
    refine rn_iload_n dX10_putsBack_24 rfl ?_
    refine rn_iconst (x := (0 : Int32)) dX10_putsBack_25 (by decide) ?_
    obtain ⟨zj_6, hzj_6, hF⟩ := hF
    refine rj_iast (j := zj_6) hzj_6 rfl (by decide) rfl (by decide) dX10_putsBack_26 (fun zH_7 ezH_7 => ?_)
    replace hF := hF zH_7 ezH_7
    refine rn_iinc (w := (1 : Int32)) dX10_putsBack_27 rfl (by decide) rfl (Nat.le_of_ble_eq_true rfl) (fun zx1_8 ezx1_8 => ?_)
    replace hF := hF zx1_8 ezx1_8
    show Rn _ _ _ _ _ _ _ _ [some (rf E 99), some (.int zx1_8), none, none] _ _ _
    refine rn_goto (tgt := 2) dX10_putsBack_30 (by decide) ?_
    exact rn_wk (L' := [some (rf E 99), some (.int zx1_8), none, none]) (⟨rfl, ⟨rfl, trivial⟩⟩) hF
theorem sgX10_putsBack_35 {E : En} {Q : Option Value → Hi → Prop} {H : Hi} {zx1 : Int32} 
    (hF : ((H 99 6) ≤ zx1 → (Q none H)) ∧ (¬ (H 99 6) ≤ zx1 → (Rm E mX10_putsBack Q 45 [some (rf E 99), some (.int zx1), some (.int (0 : Int32)), none] [] H))) :
    Rm E mX10_putsBack Q 35 [some (rf E 99), some (.int zx1), none, none] [] H := by
  refine rn_iload_n dX10_putsBack_35 rfl ?_
  refine rn_aload_n dX10_putsBack_36 rfl ?_
  refine rm_geti flRX10_128 rfl (by decide) rfl dX10_putsBack_37 ?_
  refine rn_icmp_ge (tgt := 114) dX10_putsBack_40 (by decide) (fun hc_1 => ?_) (fun hc_1 => ?_)
  · replace hF := hF.1 hc_1
    exact rm_vret rfl dX10_putsBack_114 hF
  · replace hF := hF.2 hc_1
    refine rn_iconst (x := (0 : Int32)) dX10_putsBack_43 (by decide) ?_
    refine ra_istore_n dX10_putsBack_44 rfl (Nat.le_of_ble_eq_true rfl) ?_
    show Rn _ _ _ _ _ _ _ _ [some (rf E 99), some (.int zx1), some (.int (0 : Int32)), none] _ _ _
    exact rn_wk (L' := [some (rf E 99), some (.int zx1), some (.int (0 : Int32)), none]) (⟨rfl, ⟨rfl, ⟨rfl, trivial⟩⟩⟩) hF
theorem sgX10_putsBack_45 {E : En} {Q : Option Value → Hi → Prop} {H : Hi} {zx1 : Int32} {zx2 : Int32} 
    (hF : ((H 99 2) ≤ zx2 → (∀ zx1_2 : Int32, zx1_2 = zx1 + (1 : Int32) → (Rm E mX10_putsBack Q 35 [some (rf E 99), some (.int zx1_2), none, none] [] H))) ∧ (¬ (H 99 2) ≤ zx2 → (∃ zj_3 : Nat, (zj_3 < 9 ∧ zx1 = nI zj_3) ∧ ((¬ (H 105 zj_3) = (1 : Int32) → (∀ zx2_5 : Int32, zx2_5 = zx2 + (1 : Int32) → (Rm E mX10_putsBack Q 45 [some (rf E 99), some (.int zx1), some (.int zx2_5), none] [] H))) ∧ ((H 105 zj_3) = (1 : Int32) → (∃ zj_6 : Nat, (zj_6 < 8 ∧ zx1 = nI zj_6) ∧ (Cm E mX10_isIn [.int (H 114 zj_6), .int zx2] H (fun w zH_7 => ∃ zr_8 : Int32, w = some (.int zr_8) ∧ ((zr_8 = 0 → (∀ zx2_10 : Int32, zx2_10 = zx2 + (1 : Int32) → (Rm E mX10_putsBack Q 45 [some (rf E 99), some (.int zx1), some (.int zx2_10), none] [] zH_7))) ∧ (¬ zr_8 = 0 → (∃ zj_11 : Nat, (zj_11 < 9 ∧ zx2 = nI zj_11) ∧ (((zH_7 103 zj_11) = zx1 → (∀ zx2_13 : Int32, zx2_13 = zx2 + (1 : Int32) → (Rm E mX10_putsBack Q 45 [some (rf E 99), some (.int zx1), some (.int zx2_13), none] [] zH_7))) ∧ (¬ (zH_7 103 zj_11) = zx1 → (∃ zj_14 : Nat, (zj_14 < 8 ∧ zx2 = nI zj_14) ∧ ((¬ (zH_7 111 zj_14) = zx1 → (∀ zx2_16 : Int32, zx2_16 = zx2 + (1 : Int32) → (Rm E mX10_putsBack Q 45 [some (rf E 99), some (.int zx1), some (.int zx2_16), none] [] zH_7))) ∧ ((zH_7 111 zj_14) = zx1 → (Cm E mX10_putsIn [rf E 99, .int zx2] zH_7 (fun w zH_17 => ∃ zr_18 : Int32, w = some (.int zr_18) ∧ (∀ zx2_20 : Int32, zx2_20 = zx2 + (1 : Int32) → (Rm E mX10_putsBack Q 45 [some (rf E 99), some (.int zx1), some (.int zx2_20), none] [] zH_17)))))))))))))))))))) :
    Rm E mX10_putsBack Q 45 [some (rf E 99), some (.int zx1), some (.int zx2), none] [] H := by
  refine rn_iload_n dX10_putsBack_45 rfl ?_
  refine rn_aload_n dX10_putsBack_46 rfl ?_
  refine rm_geti flRX10_125 rfl (by decide) rfl dX10_putsBack_47 ?_
  refine rn_icmp_ge (tgt := 108) dX10_putsBack_50 (by decide) (fun hc_1 => ?_) (fun hc_1 => ?_)
  · replace hF := hF.1 hc_1
    refine rn_iinc (w := (1 : Int32)) dX10_putsBack_108 rfl (by decide) rfl (Nat.le_of_ble_eq_true rfl) (fun zx1_2 ezx1_2 => ?_)
    replace hF := hF zx1_2 ezx1_2
    show Rn _ _ _ _ _ _ _ _ [some (rf E 99), some (.int zx1_2), some (.int zx2), none] _ _ _
    refine rn_goto (tgt := 35) dX10_putsBack_111 (by decide) ?_
    exact rn_wk (L' := [some (rf E 99), some (.int zx1_2), none, none]) (⟨rfl, ⟨rfl, trivial⟩⟩) hF
  · replace hF := hF.2 hc_1
    refine rn_aload_n dX10_putsBack_53 rfl ?_
    refine rm_getr (r := 105) flRX10_25 rfl (by decide) rfl dX10_putsBack_54 ?_
    refine rn_iload_n dX10_putsBack_57 rfl ?_
    obtain ⟨zj_3, hzj_3, hF⟩ := hF
    refine rj_iald (j := zj_3) hzj_3 rfl (by decide) rfl (by decide) dX10_putsBack_58 ?_
    refine rn_iconst (x := (1 : Int32)) dX10_putsBack_59 (by decide) ?_
    refine rn_icmp_ne (tgt := 102) dX10_putsBack_60 (by decide) (fun hc_4 => ?_) (fun hc_4 => ?_)
    · replace hF := hF.1 hc_4
      refine rn_iinc (w := (1 : Int32)) dX10_putsBack_102 rfl (by decide) rfl (Nat.le_of_ble_eq_true rfl) (fun zx2_5 ezx2_5 => ?_)
      replace hF := hF zx2_5 ezx2_5
      show Rn _ _ _ _ _ _ _ _ [some (rf E 99), some (.int zx1), some (.int zx2_5), none] _ _ _
      refine rn_goto (tgt := 45) dX10_putsBack_105 (by decide) ?_
      exact rn_wk (L' := [some (rf E 99), some (.int zx1), some (.int zx2_5), none]) (⟨rfl, ⟨rfl, ⟨rfl, trivial⟩⟩⟩) hF
    · replace hF := hF.2 hc_4
      refine rn_aload_n dX10_putsBack_63 rfl ?_
      refine rm_getr (r := 114) flRX10_52 rfl (by decide) rfl dX10_putsBack_64 ?_
      refine rn_iload_n dX10_putsBack_67 rfl ?_
      obtain ⟨zj_6, hzj_6, hF⟩ := hF
      refine rj_iald (j := zj_6) hzj_6 rfl (by decide) rfl (by decide) dX10_putsBack_68 ?_
      refine rn_iload_n dX10_putsBack_69 rfl ?_
      refine rm_callS (As := [.int (H 114 zj_6), .int zx2]) (st := []) mlRX10_189 mdX10_isIn (Nat.le_of_ble_eq_true rfl) rfl rfl (Nat.le_of_ble_eq_true rfl) ⟨Nat.le_refl _, Nat.le_refl _⟩ dX10_putsBack_70 ?_
      refine cm_mono hF (fun w zH_7 hF => ?_)
      obtain ⟨zr_8, rfl, hF⟩ := hF
      refine rn_if_eq (tgt := 102) dX10_putsBack_73 (by decide) (fun hc_9 => ?_) (fun hc_9 => ?_)
      · replace hF := hF.1 hc_9
        refine rn_iinc (w := (1 : Int32)) dX10_putsBack_102 rfl (by decide) rfl (Nat.le_of_ble_eq_true rfl) (fun zx2_10 ezx2_10 => ?_)
        replace hF := hF zx2_10 ezx2_10
        show Rn _ _ _ _ _ _ _ _ [some (rf E 99), some (.int zx1), some (.int zx2_10), none] _ _ _
        refine rn_goto (tgt := 45) dX10_putsBack_105 (by decide) ?_
        exact rn_wk (L' := [some (rf E 99), some (.int zx1), some (.int zx2_10), none]) (⟨rfl, ⟨rfl, ⟨rfl, trivial⟩⟩⟩) hF
      · replace hF := hF.2 hc_9
        refine rn_aload_n dX10_putsBack_76 rfl ?_
        refine rm_getr (r := 103) flRX10_19 rfl (by decide) rfl dX10_putsBack_77 ?_
        refine rn_iload_n dX10_putsBack_80 rfl ?_
        obtain ⟨zj_11, hzj_11, hF⟩ := hF
        refine rj_iald (j := zj_11) hzj_11 rfl (by decide) rfl (by decide) dX10_putsBack_81 ?_
        refine rn_iload_n dX10_putsBack_82 rfl ?_
        refine rn_icmp_eq (tgt := 102) dX10_putsBack_83 (by decide) (fun hc_12 => ?_) (fun hc_12 => ?_)
        · replace hF := hF.1 hc_12
          refine rn_iinc (w := (1 : Int32)) dX10_putsBack_102 rfl (by decide) rfl (Nat.le_of_ble_eq_true rfl) (fun zx2_13 ezx2_13 => ?_)
          replace hF := hF zx2_13 ezx2_13
          show Rn _ _ _ _ _ _ _ _ [some (rf E 99), some (.int zx1), some (.int zx2_13), none] _ _ _
          refine rn_goto (tgt := 45) dX10_putsBack_105 (by decide) ?_
          exact rn_wk (L' := [some (rf E 99), some (.int zx1), some (.int zx2_13), none]) (⟨rfl, ⟨rfl, ⟨rfl, trivial⟩⟩⟩) hF
        · replace hF := hF.2 hc_12
          refine rn_aload_n dX10_putsBack_86 rfl ?_
          refine rm_getr (r := 111) flRX10_43 rfl (by decide) rfl dX10_putsBack_87 ?_
          refine rn_iload_n dX10_putsBack_90 rfl ?_
          obtain ⟨zj_14, hzj_14, hF⟩ := hF
          refine rj_iald (j := zj_14) hzj_14 rfl (by decide) rfl (by decide) dX10_putsBack_91 ?_
          refine rn_iload_n dX10_putsBack_92 rfl ?_
          refine rn_icmp_ne (tgt := 102) dX10_putsBack_93 (by decide) (fun hc_15 => ?_) (fun hc_15 => ?_)
          · replace hF := hF.1 hc_15
            refine rn_iinc (w := (1 : Int32)) dX10_putsBack_102 rfl (by decide) rfl (Nat.le_of_ble_eq_true rfl) (fun zx2_16 ezx2_16 => ?_)
            replace hF := hF zx2_16 ezx2_16
            show Rn _ _ _ _ _ _ _ _ [some (rf E 99), some (.int zx1), some (.int zx2_16), none] _ _ _
            refine rn_goto (tgt := 45) dX10_putsBack_105 (by decide) ?_
            exact rn_wk (L' := [some (rf E 99), some (.int zx1), some (.int zx2_16), none]) (⟨rfl, ⟨rfl, ⟨rfl, trivial⟩⟩⟩) hF
          · replace hF := hF.2 hc_15
            refine rn_aload_n dX10_putsBack_96 rfl ?_
            refine rn_iload_n dX10_putsBack_97 rfl ?_
            refine rm_callV (c0 := 99) (As := [.int zx2]) (st := []) mlRX10_193 mdX10_putsIn (Nat.le_of_ble_eq_true rfl) rfl (by decide) (by decide) rfl rfl rfl (Nat.le_of_ble_eq_true rfl) ⟨Nat.le_refl _, Nat.le_refl _⟩ dX10_putsBack_98 ?_
            refine cm_mono hF (fun w zH_17 hF => ?_)
            obtain ⟨zr_18, rfl, hF⟩ := hF
            refine ra_istore_n dX10_putsBack_101 rfl (Nat.le_of_ble_eq_true rfl) ?_
            show Rn _ _ _ _ _ _ _ _ [some (rf E 99), some (.int zx1), some (.int zx2), some (.int zr_18)] _ _ _
            refine rn_iinc (w := (1 : Int32)) dX10_putsBack_102 rfl (by decide) rfl (Nat.le_of_ble_eq_true rfl) (fun zx2_20 ezx2_20 => ?_)
            replace hF := hF zx2_20 ezx2_20
            show Rn _ _ _ _ _ _ _ _ [some (rf E 99), some (.int zx1), some (.int zx2_20), some (.int zr_18)] _ _ _
            refine rn_goto (tgt := 45) dX10_putsBack_105 (by decide) ?_
            exact rn_wk (L' := [some (rf E 99), some (.int zx1), some (.int zx2_20), none]) (⟨rfl, ⟨rfl, ⟨rfl, trivial⟩⟩⟩) hF
theorem sgX10_acts_0 {E : En} {Q : Option Value → Hi → Prop} {H : Hi} {zx1 : Int32} 
    (hF : ∀ zx2_1 : Int32, zx2_1 = (zx1 / (8 : Int32)) - (zx1 / (8 : Int32)) / (8 : Int32) * (8 : Int32) → (∀ zx3_2 : Int32, zx3_2 = zx1 - zx1 / (8 : Int32) * (8 : Int32) → (((H 99 6) ≤ zx2_1 → (Q (some (.int (0 : Int32))) H)) ∧ (¬ (H 99 6) ≤ zx2_1 → ((zx3_2 < (H 99 2) → (((64 : Int32) ≤ zx1 → (∃ zj_6 : Nat, (zj_6 < 8 ∧ zx3_2 = nI zj_6) ∧ (((H 111 zj_6) = (8 : Int32) → (∃ zj_8 : Nat, (zj_8 < 8 ∧ zx3_2 = nI zj_8) ∧ (∀ zH_9 : Hi, zH_9 = up H 111 zj_8 zx2_1 → (∃ zj_10 : Nat, (zj_10 < 8 ∧ zx2_1 = nI zj_10) ∧ (∃ zj_11 : Nat, (zj_11 < 8 ∧ zx2_1 = nI zj_11) ∧ (∀ zH_12 : Hi, zH_12 = up zH_9 113 zj_11 ((zH_9 113 zj_10) ||| ((1 : Int32) <<< (zx3_2 &&& 31))) → (Q (some (.int (1 : Int32))) zH_12))))))) ∧ (¬ (H 111 zj_6) = (8 : Int32) → (Q (some (.int (0 : Int32))) H))))) ∧ (¬ (64 : Int32) ≤ zx1 → (∃ zj_13 : Nat, (zj_13 < 8 ∧ zx3_2 = nI zj_13) ∧ ((¬ (H 111 zj_13) = zx2_1 → (Q (some (.int (0 : Int32))) H)) ∧ ((H 111 zj_13) = zx2_1 → (Cm E mX10_putsIn [rf E 99, .int zx3_2] H (fun w zH_15 => ∃ zr_16 : Int32, w = some (.int zr_16) ∧ ((zr_16 = 0 → (Q (some (.int (0 : Int32))) zH_15)) ∧ (¬ zr_16 = 0 → (Q (some (.int (1 : Int32))) zH_15))))))))))) ∧ (¬ zx3_2 < (H 99 2) → (Q (some (.int (0 : Int32))) H))))))) :
    Rm E mX10_acts Q 0 [some (rf E 99), some (.int zx1), none, none] [] H := by
  refine rn_iload_n dX10_acts_0 rfl ?_
  refine rn_bipush (x := (8 : Int32)) dX10_acts_1 (by decide) ?_
  refine rn_idiv dX10_acts_3 (by decide) ?_
  refine rn_bipush (x := (8 : Int32)) dX10_acts_4 (by decide) ?_
  refine rn_irem dX10_acts_6 (by decide) ?_
  refine rn_istore_n dX10_acts_7 rfl (Nat.le_of_ble_eq_true rfl) (fun zx2_1 ezx2_1 => ?_)
  replace hF := hF zx2_1 ezx2_1
  show Rn _ _ _ _ _ _ _ _ [some (rf E 99), some (.int zx1), some (.int zx2_1), none] _ _ _
  refine rn_iload_n dX10_acts_8 rfl ?_
  refine rn_bipush (x := (8 : Int32)) dX10_acts_9 (by decide) ?_
  refine rn_irem dX10_acts_11 (by decide) ?_
  refine rn_istore_n dX10_acts_12 rfl (Nat.le_of_ble_eq_true rfl) (fun zx3_2 ezx3_2 => ?_)
  replace hF := hF zx3_2 ezx3_2
  show Rn _ _ _ _ _ _ _ _ [some (rf E 99), some (.int zx1), some (.int zx2_1), some (.int zx3_2)] _ _ _
  refine rn_iload_n dX10_acts_13 rfl ?_
  refine rn_aload_n dX10_acts_14 rfl ?_
  refine rm_geti flRX10_128 rfl (by decide) rfl dX10_acts_15 ?_
  refine rn_icmp_ge (tgt := 29) dX10_acts_18 (by decide) (fun hc_3 => ?_) (fun hc_3 => ?_)
  · replace hF := hF.1 hc_3
    refine rn_iconst (x := (0 : Int32)) dX10_acts_29 (by decide) ?_
    exact rm_zret rfl rfl dX10_acts_30 hF
  · replace hF := hF.2 hc_3
    refine rn_iload_n dX10_acts_21 rfl ?_
    refine rn_aload_n dX10_acts_22 rfl ?_
    refine rm_geti flRX10_125 rfl (by decide) rfl dX10_acts_23 ?_
    refine rn_icmp_lt (tgt := 31) dX10_acts_26 (by decide) (fun hc_4 => ?_) (fun hc_4 => ?_)
    · replace hF := hF.1 hc_4
      refine rn_iload_n dX10_acts_31 rfl ?_
      refine rn_bipush (x := (64 : Int32)) dX10_acts_32 (by decide) ?_
      refine rn_icmp_ge (tgt := 61) dX10_acts_34 (by decide) (fun hc_5 => ?_) (fun hc_5 => ?_)
      · replace hF := hF.1 hc_5
        refine rn_aload_n dX10_acts_61 rfl ?_
        refine rm_getr (r := 111) flRX10_43 rfl (by decide) rfl dX10_acts_62 ?_
        refine rn_iload_n dX10_acts_65 rfl ?_
        obtain ⟨zj_6, hzj_6, hF⟩ := hF
        refine rj_iald (j := zj_6) hzj_6 rfl (by decide) rfl (by decide) dX10_acts_66 ?_
        refine rn_bipush (x := (8 : Int32)) dX10_acts_67 (by decide) ?_
        refine rn_icmp_eq (tgt := 74) dX10_acts_69 (by decide) (fun hc_7 => ?_) (fun hc_7 => ?_)
        · replace hF := hF.1 hc_7
          refine rn_aload_n dX10_acts_74 rfl ?_
          refine rm_getr (r := 111) flRX10_43 rfl (by decide) rfl dX10_acts_75 ?_
          refine rn_iload_n dX10_acts_78 rfl ?_
          refine rn_iload_n dX10_acts_79 rfl ?_
          obtain ⟨zj_8, hzj_8, hF⟩ := hF
          refine rj_iast (j := zj_8) hzj_8 rfl (by decide) rfl (by decide) dX10_acts_80 (fun zH_9 ezH_9 => ?_)
          replace hF := hF zH_9 ezH_9
          refine rn_aload_n dX10_acts_81 rfl ?_
          refine rm_getr (r := 113) flRX10_49 rfl (by decide) rfl dX10_acts_82 ?_
          refine rn_iload_n dX10_acts_85 rfl ?_
          refine rn_dup2 dX10_acts_86 rfl rfl ?_
          obtain ⟨zj_10, hzj_10, hF⟩ := hF
          refine rj_iald (j := zj_10) hzj_10 rfl (by decide) rfl (by decide) dX10_acts_87 ?_
          refine rn_iconst (x := (1 : Int32)) dX10_acts_88 (by decide) ?_
          refine rn_iload_n dX10_acts_89 rfl ?_
          refine rn_ishl dX10_acts_90 ?_
          refine rn_ior dX10_acts_91 ?_
          obtain ⟨zj_11, hzj_11, hF⟩ := hF
          refine rj_iast (j := zj_11) hzj_11 rfl (by decide) rfl (by decide) dX10_acts_92 (fun zH_12 ezH_12 => ?_)
          replace hF := hF zH_12 ezH_12
          refine rn_iconst (x := (1 : Int32)) dX10_acts_93 (by decide) ?_
          exact rm_zret rfl rfl dX10_acts_94 hF
        · replace hF := hF.2 hc_7
          refine rn_iconst (x := (0 : Int32)) dX10_acts_72 (by decide) ?_
          exact rm_zret rfl rfl dX10_acts_73 hF
      · replace hF := hF.2 hc_5
        refine rn_aload_n dX10_acts_37 rfl ?_
        refine rm_getr (r := 111) flRX10_43 rfl (by decide) rfl dX10_acts_38 ?_
        refine rn_iload_n dX10_acts_41 rfl ?_
        obtain ⟨zj_13, hzj_13, hF⟩ := hF
        refine rj_iald (j := zj_13) hzj_13 rfl (by decide) rfl (by decide) dX10_acts_42 ?_
        refine rn_iload_n dX10_acts_43 rfl ?_
        refine rn_icmp_ne (tgt := 59) dX10_acts_44 (by decide) (fun hc_14 => ?_) (fun hc_14 => ?_)
        · replace hF := hF.1 hc_14
          refine rn_iconst (x := (0 : Int32)) dX10_acts_59 (by decide) ?_
          exact rm_zret rfl rfl dX10_acts_60 hF
        · replace hF := hF.2 hc_14
          refine rn_aload_n dX10_acts_47 rfl ?_
          refine rn_iload_n dX10_acts_48 rfl ?_
          refine rm_callV (c0 := 99) (As := [.int zx3_2]) (st := []) mlRX10_193 mdX10_putsIn (Nat.le_of_ble_eq_true rfl) rfl (by decide) (by decide) rfl rfl rfl (Nat.le_of_ble_eq_true rfl) ⟨Nat.le_refl _, Nat.le_refl _⟩ dX10_acts_49 ?_
          refine cm_mono hF (fun w zH_15 hF => ?_)
          obtain ⟨zr_16, rfl, hF⟩ := hF
          refine rn_if_eq (tgt := 59) dX10_acts_52 (by decide) (fun hc_17 => ?_) (fun hc_17 => ?_)
          · replace hF := hF.1 hc_17
            refine rn_iconst (x := (0 : Int32)) dX10_acts_59 (by decide) ?_
            exact rm_zret rfl rfl dX10_acts_60 hF
          · replace hF := hF.2 hc_17
            refine rn_iconst (x := (1 : Int32)) dX10_acts_55 (by decide) ?_
            refine rn_goto (tgt := 60) dX10_acts_56 (by decide) ?_
            exact rm_zret rfl rfl dX10_acts_60 hF
    · replace hF := hF.2 hc_4
      refine rn_iconst (x := (0 : Int32)) dX10_acts_29 (by decide) ?_
      exact rm_zret rfl rfl dX10_acts_30 hF
theorem cmX10_acts {E : En} {Q : Option Value → Hi → Prop} {H : Hi} {zx1 : Int32} 
    (hF : ∀ zx2_1 : Int32, zx2_1 = (zx1 / (8 : Int32)) - (zx1 / (8 : Int32)) / (8 : Int32) * (8 : Int32) → (∀ zx3_2 : Int32, zx3_2 = zx1 - zx1 / (8 : Int32) * (8 : Int32) → (((H 99 6) ≤ zx2_1 → (Q (some (.int (0 : Int32))) H)) ∧ (¬ (H 99 6) ≤ zx2_1 → ((zx3_2 < (H 99 2) → (((64 : Int32) ≤ zx1 → (∃ zj_6 : Nat, (zj_6 < 8 ∧ zx3_2 = nI zj_6) ∧ (((H 111 zj_6) = (8 : Int32) → (∃ zj_8 : Nat, (zj_8 < 8 ∧ zx3_2 = nI zj_8) ∧ (∀ zH_9 : Hi, zH_9 = up H 111 zj_8 zx2_1 → (∃ zj_10 : Nat, (zj_10 < 8 ∧ zx2_1 = nI zj_10) ∧ (∃ zj_11 : Nat, (zj_11 < 8 ∧ zx2_1 = nI zj_11) ∧ (∀ zH_12 : Hi, zH_12 = up zH_9 113 zj_11 ((zH_9 113 zj_10) ||| ((1 : Int32) <<< (zx3_2 &&& 31))) → (Q (some (.int (1 : Int32))) zH_12))))))) ∧ (¬ (H 111 zj_6) = (8 : Int32) → (Q (some (.int (0 : Int32))) H))))) ∧ (¬ (64 : Int32) ≤ zx1 → (∃ zj_13 : Nat, (zj_13 < 8 ∧ zx3_2 = nI zj_13) ∧ ((¬ (H 111 zj_13) = zx2_1 → (Q (some (.int (0 : Int32))) H)) ∧ ((H 111 zj_13) = zx2_1 → (Cm E mX10_putsIn [rf E 99, .int zx3_2] H (fun w zH_15 => ∃ zr_16 : Int32, w = some (.int zr_16) ∧ ((zr_16 = 0 → (Q (some (.int (0 : Int32))) zH_15)) ∧ (¬ zr_16 = 0 → (Q (some (.int (1 : Int32))) zH_15))))))))))) ∧ (¬ zx3_2 < (H 99 2) → (Q (some (.int (0 : Int32))) H))))))) :
    Cm E mX10_acts [rf E 99, .int zx1] H Q :=
  cm_of (by decide +kernel : plainName RX10 = true) (Nat.le_of_ble_eq_true rfl) rfl (sgX10_acts_0  hF)
theorem sgX10_handsOf_0 {E : En} {Q : Option Value → Hi → Prop} {H : Hi} {zx1 : Int32} 
    (hF : Rm E mX10_handsOf Q 2 [some (rf E 99), some (.int zx1), some (.int (0 : Int32))] [] H) :
    Rm E mX10_handsOf Q 0 [some (rf E 99), some (.int zx1), none] [] H := by
  refine rn_iconst (x := (0 : Int32)) dX10_handsOf_0 (by decide) ?_
  refine ra_istore_n dX10_handsOf_1 rfl (Nat.le_of_ble_eq_true rfl) ?_
  show Rn _ _ _ _ _ _ _ _ [some (rf E 99), some (.int zx1), some (.int (0 : Int32))] _ _ _
  exact rn_wk (L' := [some (rf E 99), some (.int zx1), some (.int (0 : Int32))]) (⟨rfl, ⟨rfl, ⟨rfl, trivial⟩⟩⟩) hF
theorem cmX10_handsOf {E : En} {Q : Option Value → Hi → Prop} {H : Hi} {zx1 : Int32} 
    (hF : Rm E mX10_handsOf Q 2 [some (rf E 99), some (.int zx1), some (.int (0 : Int32))] [] H) :
    Cm E mX10_handsOf [rf E 99, .int zx1] H Q :=
  cm_of (by decide +kernel : plainName RX10 = true) (Nat.le_of_ble_eq_true rfl) rfl (sgX10_handsOf_0  hF)
theorem sgX10_handsOf_2 {E : En} {Q : Option Value → Hi → Prop} {H : Hi} {zx1 : Int32} {zx2 : Int32} 
    (hF : ((H 99 22) ≤ zx2 → (Q none H)) ∧ (¬ (H 99 22) ≤ zx2 → (∃ zj_2 : Nat, (zj_2 < 44 ∧ zx2 = nI zj_2) ∧ ((¬ (H 107 zj_2) = zx1 → (∀ zx2_4 : Int32, zx2_4 = zx2 + (1 : Int32) → (Rm E mX10_handsOf Q 2 [some (rf E 99), some (.int zx1), some (.int zx2_4)] [] H))) ∧ ((H 107 zj_2) = zx1 → (∃ zj_5 : Nat, (zj_5 < 44 ∧ zx2 = nI zj_5) ∧ (Cm E mX10_acts [rf E 99, .int (H 108 zj_5)] H (fun w zH_6 => ∃ zr_7 : Int32, w = some (.int zr_7) ∧ (∃ zj_8 : Nat, (zj_8 < 44 ∧ zx2 = nI zj_8) ∧ (∀ zH_9 : Hi, zH_9 = up zH_6 115 zj_8 (vp_nar .boolean zr_7) → (∀ zx2_10 : Int32, zx2_10 = zx2 + (1 : Int32) → (Rm E mX10_handsOf Q 2 [some (rf E 99), some (.int zx1), some (.int zx2_10)] [] zH_9)))))))))))) :
    Rm E mX10_handsOf Q 2 [some (rf E 99), some (.int zx1), some (.int zx2)] [] H := by
  refine rn_iload_n dX10_handsOf_2 rfl ?_
  refine rn_aload_n dX10_handsOf_3 rfl ?_
  refine rm_geti flRX10_179 rfl (by decide) rfl dX10_handsOf_4 ?_
  refine rn_icmp_ge (tgt := 42) dX10_handsOf_7 (by decide) (fun hc_1 => ?_) (fun hc_1 => ?_)
  · replace hF := hF.1 hc_1
    exact rm_vret rfl dX10_handsOf_42 hF
  · replace hF := hF.2 hc_1
    refine rn_aload_n dX10_handsOf_10 rfl ?_
    refine rm_getr (r := 107) flRX10_31 rfl (by decide) rfl dX10_handsOf_11 ?_
    refine rn_iload_n dX10_handsOf_14 rfl ?_
    obtain ⟨zj_2, hzj_2, hF⟩ := hF
    refine rj_iald (j := zj_2) hzj_2 rfl (by decide) rfl (by decide) dX10_handsOf_15 ?_
    refine rn_iload_n dX10_handsOf_16 rfl ?_
    refine rn_icmp_ne (tgt := 36) dX10_handsOf_17 (by decide) (fun hc_3 => ?_) (fun hc_3 => ?_)
    · replace hF := hF.1 hc_3
      refine rn_iinc (w := (1 : Int32)) dX10_handsOf_36 rfl (by decide) rfl (Nat.le_of_ble_eq_true rfl) (fun zx2_4 ezx2_4 => ?_)
      replace hF := hF zx2_4 ezx2_4
      show Rn _ _ _ _ _ _ _ _ [some (rf E 99), some (.int zx1), some (.int zx2_4)] _ _ _
      refine rn_goto (tgt := 2) dX10_handsOf_39 (by decide) ?_
      exact rn_wk (L' := [some (rf E 99), some (.int zx1), some (.int zx2_4)]) (⟨rfl, ⟨rfl, ⟨rfl, trivial⟩⟩⟩) hF
    · replace hF := hF.2 hc_3
      refine rn_aload_n dX10_handsOf_20 rfl ?_
      refine rm_getr (r := 115) flRX10_55 rfl (by decide) rfl dX10_handsOf_21 ?_
      refine rn_iload_n dX10_handsOf_24 rfl ?_
      refine rn_aload_n dX10_handsOf_25 rfl ?_
      refine rn_aload_n dX10_handsOf_26 rfl ?_
      refine rm_getr (r := 108) flRX10_34 rfl (by decide) rfl dX10_handsOf_27 ?_
      refine rn_iload_n dX10_handsOf_30 rfl ?_
      obtain ⟨zj_5, hzj_5, hF⟩ := hF
      refine rj_iald (j := zj_5) hzj_5 rfl (by decide) rfl (by decide) dX10_handsOf_31 ?_
      refine rm_callV (c0 := 99) (As := [.int (H 108 zj_5)]) (st := [.int zx2, rf E 115]) mlRX10_196 mdX10_acts (Nat.le_of_ble_eq_true rfl) rfl (by decide) (by decide) rfl rfl rfl (Nat.le_of_ble_eq_true rfl) ⟨Nat.le_refl _, Nat.le_refl _⟩ dX10_handsOf_32 ?_
      refine cm_mono hF (fun w zH_6 hF => ?_)
      obtain ⟨zr_7, rfl, hF⟩ := hF
      obtain ⟨zj_8, hzj_8, hF⟩ := hF
      refine rj_zast (j := zj_8) hzj_8 rfl (by decide) rfl (by decide) dX10_handsOf_35 (fun zH_9 ezH_9 => ?_)
      replace hF := hF zH_9 ezH_9
      refine rn_iinc (w := (1 : Int32)) dX10_handsOf_36 rfl (by decide) rfl (Nat.le_of_ble_eq_true rfl) (fun zx2_10 ezx2_10 => ?_)
      replace hF := hF zx2_10 ezx2_10
      show Rn _ _ _ _ _ _ _ _ [some (rf E 99), some (.int zx1), some (.int zx2_10)] _ _ _
      refine rn_goto (tgt := 2) dX10_handsOf_39 (by decide) ?_
      exact rn_wk (L' := [some (rf E 99), some (.int zx1), some (.int zx2_10)]) (⟨rfl, ⟨rfl, ⟨rfl, trivial⟩⟩⟩) hF
theorem sgX10_ends_0 {E : En} {Q : Option Value → Hi → Prop} {H : Hi} {zx1 : Int32} 
    (hF : Rm E mX10_ends Q 2 [some (rf E 99), some (.int zx1), some (.int (0 : Int32)), none, none] [] H) :
    Rm E mX10_ends Q 0 [some (rf E 99), some (.int zx1), none, none, none] [] H := by
  refine rn_iconst (x := (0 : Int32)) dX10_ends_0 (by decide) ?_
  refine ra_istore_n dX10_ends_1 rfl (Nat.le_of_ble_eq_true rfl) ?_
  show Rn _ _ _ _ _ _ _ _ [some (rf E 99), some (.int zx1), some (.int (0 : Int32)), none, none] _ _ _
  exact rn_wk (L' := [some (rf E 99), some (.int zx1), some (.int (0 : Int32)), none, none]) (⟨rfl, ⟨rfl, ⟨rfl, trivial⟩⟩⟩) hF
theorem cmX10_ends {E : En} {Q : Option Value → Hi → Prop} {H : Hi} {zx1 : Int32} 
    (hF : Rm E mX10_ends Q 2 [some (rf E 99), some (.int zx1), some (.int (0 : Int32)), none, none] [] H) :
    Cm E mX10_ends [rf E 99, .int zx1] H Q :=
  cm_of (by decide +kernel : plainName RX10 = true) (Nat.le_of_ble_eq_true rfl) rfl (sgX10_ends_0  hF)
theorem sgX10_ends_2 {E : En} {Q : Option Value → Hi → Prop} {H : Hi} {zx1 : Int32} {zx2 : Int32} 
    (hF : ((H 99 14) ≤ zx2 → (Rm E mX10_ends Q 99 [some (rf E 99), some (.int zx1), some (.int (0 : Int32)), none, none] [] H)) ∧ (¬ (H 99 14) ≤ zx2 → (Rm E mX10_ends Q 12 [some (rf E 99), some (.int zx1), some (.int zx2), some (.int (0 : Int32)), none] [] H))) :
    Rm E mX10_ends Q 2 [some (rf E 99), some (.int zx1), some (.int zx2), none, none] [] H := by
  refine rn_iload_n dX10_ends_2 rfl ?_
  refine rn_aload_n dX10_ends_3 rfl ?_
  refine rm_geti flRX10_166 rfl (by decide) rfl dX10_ends_4 ?_
  refine rn_icmp_ge (tgt := 97) dX10_ends_7 (by decide) (fun hc_1 => ?_) (fun hc_1 => ?_)
  · replace hF := hF.1 hc_1
    refine rn_iconst (x := (0 : Int32)) dX10_ends_97 (by decide) ?_
    refine ra_istore_n dX10_ends_98 rfl (Nat.le_of_ble_eq_true rfl) ?_
    show Rn _ _ _ _ _ _ _ _ [some (rf E 99), some (.int zx1), some (.int (0 : Int32)), none, none] _ _ _
    exact rn_wk (L' := [some (rf E 99), some (.int zx1), some (.int (0 : Int32)), none, none]) (⟨rfl, ⟨rfl, ⟨rfl, trivial⟩⟩⟩) hF
  · replace hF := hF.2 hc_1
    refine rn_iconst (x := (0 : Int32)) dX10_ends_10 (by decide) ?_
    refine ra_istore_n dX10_ends_11 rfl (Nat.le_of_ble_eq_true rfl) ?_
    show Rn _ _ _ _ _ _ _ _ [some (rf E 99), some (.int zx1), some (.int zx2), some (.int (0 : Int32)), none] _ _ _
    exact rn_wk (L' := [some (rf E 99), some (.int zx1), some (.int zx2), some (.int (0 : Int32)), none]) (⟨rfl, ⟨rfl, ⟨rfl, ⟨rfl, trivial⟩⟩⟩⟩) hF
theorem sgX10_ends_99 {E : En} {Q : Option Value → Hi → Prop} {H : Hi} {zx1 : Int32} {zx2 : Int32} 
    (hF : ((H 99 2) ≤ zx2 → (Q none H)) ∧ (¬ (H 99 2) ≤ zx2 → (∃ zj_2 : Nat, (zj_2 < 9 ∧ zx2 = nI zj_2) ∧ ((¬ (H 104 zj_2) = (1 : Int32) → (Rm E mX10_ends Q 145 [some (rf E 99), some (.int zx1), some (.int zx2), none, none] [.int (0 : Int32), .int zx2, rf E 112] H)) ∧ ((H 104 zj_2) = (1 : Int32) → (∃ zj_4 : Nat, (zj_4 < 8 ∧ zx2 = nI zj_4) ∧ ((¬ (H 111 zj_4) = (8 : Int32) → (Rm E mX10_ends Q 145 [some (rf E 99), some (.int zx1), some (.int zx2), none, none] [.int (0 : Int32), .int zx2, rf E 112] H)) ∧ ((H 111 zj_4) = (8 : Int32) → (∃ zj_6 : Nat, (zj_6 < 8 ∧ zx2 = nI zj_6) ∧ (Rm E mX10_ends Q 145 [some (rf E 99), some (.int zx1), some (.int zx2), none, none] [.int ((H 112 zj_6) + (1 : Int32)), .int zx2, rf E 112] H)))))))))) :
    Rm E mX10_ends Q 99 [some (rf E 99), some (.int zx1), some (.int zx2), none, none] [] H := by
  refine rn_iload_n dX10_ends_99 rfl ?_
  refine rn_aload_n dX10_ends_100 rfl ?_
  refine rm_geti flRX10_125 rfl (by decide) rfl dX10_ends_101 ?_
  refine rn_icmp_ge (tgt := 226) dX10_ends_104 (by decide) (fun hc_1 => ?_) (fun hc_1 => ?_)
  · replace hF := hF.1 hc_1
    exact rm_vret rfl dX10_ends_226 hF
  · replace hF := hF.2 hc_1
    refine rn_aload_n dX10_ends_107 rfl ?_
    refine rm_getr (r := 112) flRX10_46 rfl (by decide) rfl dX10_ends_108 ?_
    refine rn_iload_n dX10_ends_111 rfl ?_
    refine rn_aload_n dX10_ends_112 rfl ?_
    refine rm_getr (r := 104) flRX10_22 rfl (by decide) rfl dX10_ends_113 ?_
    refine rn_iload_n dX10_ends_116 rfl ?_
    obtain ⟨zj_2, hzj_2, hF⟩ := hF
    refine rj_iald (j := zj_2) hzj_2 rfl (by decide) rfl (by decide) dX10_ends_117 ?_
    refine rn_iconst (x := (1 : Int32)) dX10_ends_118 (by decide) ?_
    refine rn_icmp_ne (tgt := 144) dX10_ends_119 (by decide) (fun hc_3 => ?_) (fun hc_3 => ?_)
    · replace hF := hF.1 hc_3
      refine rn_iconst (x := (0 : Int32)) dX10_ends_144 (by decide) ?_
      exact rn_wk (L' := [some (rf E 99), some (.int zx1), some (.int zx2), none, none]) (⟨rfl, ⟨rfl, ⟨rfl, trivial⟩⟩⟩) hF
    · replace hF := hF.2 hc_3
      refine rn_aload_n dX10_ends_122 rfl ?_
      refine rm_getr (r := 111) flRX10_43 rfl (by decide) rfl dX10_ends_123 ?_
      refine rn_iload_n dX10_ends_126 rfl ?_
      obtain ⟨zj_4, hzj_4, hF⟩ := hF
      refine rj_iald (j := zj_4) hzj_4 rfl (by decide) rfl (by decide) dX10_ends_127 ?_
      refine rn_bipush (x := (8 : Int32)) dX10_ends_128 (by decide) ?_
      refine rn_icmp_ne (tgt := 144) dX10_ends_130 (by decide) (fun hc_5 => ?_) (fun hc_5 => ?_)
      · replace hF := hF.1 hc_5
        refine rn_iconst (x := (0 : Int32)) dX10_ends_144 (by decide) ?_
        exact rn_wk (L' := [some (rf E 99), some (.int zx1), some (.int zx2), none, none]) (⟨rfl, ⟨rfl, ⟨rfl, trivial⟩⟩⟩) hF
      · replace hF := hF.2 hc_5
        refine rn_aload_n dX10_ends_133 rfl ?_
        refine rm_getr (r := 112) flRX10_46 rfl (by decide) rfl dX10_ends_134 ?_
        refine rn_iload_n dX10_ends_137 rfl ?_
        obtain ⟨zj_6, hzj_6, hF⟩ := hF
        refine rj_iald (j := zj_6) hzj_6 rfl (by decide) rfl (by decide) dX10_ends_138 ?_
        refine rn_iconst (x := (1 : Int32)) dX10_ends_139 (by decide) ?_
        refine rn_iadd dX10_ends_140 ?_
        refine rn_goto (tgt := 145) dX10_ends_141 (by decide) ?_
        exact rn_wk (L' := [some (rf E 99), some (.int zx1), some (.int zx2), none, none]) (⟨rfl, ⟨rfl, ⟨rfl, trivial⟩⟩⟩) hF
theorem sgX10_ends_12 {E : En} {Q : Option Value → Hi → Prop} {H : Hi} {zx1 : Int32} {zx2 : Int32} {zx3 : Int32} 
    (hF : ((H 99 2) ≤ zx3 → (∀ zx2_2 : Int32, zx2_2 = zx2 + (1 : Int32) → (Rm E mX10_ends Q 2 [some (rf E 99), some (.int zx1), some (.int zx2_2), none, none] [] H))) ∧ (¬ (H 99 2) ≤ zx3 → (∃ zj_3 : Nat, (zj_3 < 6 ∧ zx2 = nI zj_3) ∧ ((¬ (H 109 zj_3) = zx1 → (Rm E mX10_ends Q 61 [some (rf E 99), some (.int zx1), some (.int zx2), some (.int zx3), none] [.int (0 : Int32)] H)) ∧ ((H 109 zj_3) = zx1 → (∃ zj_5 : Nat, (zj_5 < 8 ∧ zx3 = nI zj_5) ∧ ((¬ (H 111 zj_5) = (8 : Int32) → (Rm E mX10_ends Q 61 [some (rf E 99), some (.int zx1), some (.int zx2), some (.int zx3), none] [.int (0 : Int32)] H)) ∧ ((H 111 zj_5) = (8 : Int32) → (∃ zj_7 : Nat, (zj_7 < 9 ∧ zx3 = nI zj_7) ∧ (∃ zj_8 : Nat, (zj_8 < 6 ∧ zx2 = nI zj_8) ∧ (((H 110 zj_8) < (H 102 zj_7) → (Rm E mX10_ends Q 61 [some (rf E 99), some (.int zx1), some (.int zx2), some (.int zx3), none] [.int (0 : Int32)] H)) ∧ (¬ (H 110 zj_8) < (H 102 zj_7) → (Rm E mX10_ends Q 61 [some (rf E 99), some (.int zx1), some (.int zx2), some (.int zx3), none] [.int (1 : Int32)] H))))))))))))) :
    Rm E mX10_ends Q 12 [some (rf E 99), some (.int zx1), some (.int zx2), some (.int zx3), none] [] H := by
  refine rn_iload_n dX10_ends_12 rfl ?_
  refine rn_aload_n dX10_ends_13 rfl ?_
  refine rm_geti flRX10_125 rfl (by decide) rfl dX10_ends_14 ?_
  refine rn_icmp_ge (tgt := 91) dX10_ends_17 (by decide) (fun hc_1 => ?_) (fun hc_1 => ?_)
  · replace hF := hF.1 hc_1
    refine rn_iinc (w := (1 : Int32)) dX10_ends_91 rfl (by decide) rfl (Nat.le_of_ble_eq_true rfl) (fun zx2_2 ezx2_2 => ?_)
    replace hF := hF zx2_2 ezx2_2
    show Rn _ _ _ _ _ _ _ _ [some (rf E 99), some (.int zx1), some (.int zx2_2), some (.int zx3), none] _ _ _
    refine rn_goto (tgt := 2) dX10_ends_94 (by decide) ?_
    exact rn_wk (L' := [some (rf E 99), some (.int zx1), some (.int zx2_2), none, none]) (⟨rfl, ⟨rfl, ⟨rfl, trivial⟩⟩⟩) hF
  · replace hF := hF.2 hc_1
    refine rn_aload_n dX10_ends_20 rfl ?_
    refine rm_getr (r := 109) flRX10_37 rfl (by decide) rfl dX10_ends_21 ?_
    refine rn_iload_n dX10_ends_24 rfl ?_
    obtain ⟨zj_3, hzj_3, hF⟩ := hF
    refine rj_iald (j := zj_3) hzj_3 rfl (by decide) rfl (by decide) dX10_ends_25 ?_
    refine rn_iload_n dX10_ends_26 rfl ?_
    refine rn_icmp_ne (tgt := 60) dX10_ends_27 (by decide) (fun hc_4 => ?_) (fun hc_4 => ?_)
    · replace hF := hF.1 hc_4
      refine rn_iconst (x := (0 : Int32)) dX10_ends_60 (by decide) ?_
      exact rn_wk (L' := [some (rf E 99), some (.int zx1), some (.int zx2), some (.int zx3), none]) (⟨rfl, ⟨rfl, ⟨rfl, ⟨rfl, trivial⟩⟩⟩⟩) hF
    · replace hF := hF.2 hc_4
      refine rn_aload_n dX10_ends_30 rfl ?_
      refine rm_getr (r := 111) flRX10_43 rfl (by decide) rfl dX10_ends_31 ?_
      refine rn_iload_n dX10_ends_34 rfl ?_
      obtain ⟨zj_5, hzj_5, hF⟩ := hF
      refine rj_iald (j := zj_5) hzj_5 rfl (by decide) rfl (by decide) dX10_ends_35 ?_
      refine rn_bipush (x := (8 : Int32)) dX10_ends_36 (by decide) ?_
      refine rn_icmp_ne (tgt := 60) dX10_ends_38 (by decide) (fun hc_6 => ?_) (fun hc_6 => ?_)
      · replace hF := hF.1 hc_6
        refine rn_iconst (x := (0 : Int32)) dX10_ends_60 (by decide) ?_
        exact rn_wk (L' := [some (rf E 99), some (.int zx1), some (.int zx2), some (.int zx3), none]) (⟨rfl, ⟨rfl, ⟨rfl, ⟨rfl, trivial⟩⟩⟩⟩) hF
      · replace hF := hF.2 hc_6
        refine rn_aload_n dX10_ends_41 rfl ?_
        refine rm_getr (r := 102) flRX10_16 rfl (by decide) rfl dX10_ends_42 ?_
        refine rn_iload_n dX10_ends_45 rfl ?_
        obtain ⟨zj_7, hzj_7, hF⟩ := hF
        refine rj_iald (j := zj_7) hzj_7 rfl (by decide) rfl (by decide) dX10_ends_46 ?_
        refine rn_aload_n dX10_ends_47 rfl ?_
        refine rm_getr (r := 110) flRX10_40 rfl (by decide) rfl dX10_ends_48 ?_
        refine rn_iload_n dX10_ends_51 rfl ?_
        obtain ⟨zj_8, hzj_8, hF⟩ := hF
        refine rj_iald (j := zj_8) hzj_8 rfl (by decide) rfl (by decide) dX10_ends_52 ?_
        refine rn_icmp_gt (tgt := 60) dX10_ends_53 (by decide) (fun hc_9 => ?_) (fun hc_9 => ?_)
        · replace hF := hF.1 hc_9
          refine rn_iconst (x := (0 : Int32)) dX10_ends_60 (by decide) ?_
          exact rn_wk (L' := [some (rf E 99), some (.int zx1), some (.int zx2), some (.int zx3), none]) (⟨rfl, ⟨rfl, ⟨rfl, ⟨rfl, trivial⟩⟩⟩⟩) hF
        · replace hF := hF.2 hc_9
          refine rn_iconst (x := (1 : Int32)) dX10_ends_56 (by decide) ?_
          refine rn_goto (tgt := 61) dX10_ends_57 (by decide) ?_
          exact rn_wk (L' := [some (rf E 99), some (.int zx1), some (.int zx2), some (.int zx3), none]) (⟨rfl, ⟨rfl, ⟨rfl, ⟨rfl, trivial⟩⟩⟩⟩) hF
theorem sgX10_ends_145 {E : En} {Q : Option Value → Hi → Prop} {H : Hi} {zx1 : Int32} {zx2 : Int32} {zt1 : Int32} {zt2 : Int32} 
    (hF : ∃ zj_1 : Nat, (zj_1 < 8 ∧ zt1 = nI zj_1) ∧ (∀ zH_2 : Hi, zH_2 = up H 112 zj_1 zt2 → (∃ zj_3 : Nat, (zj_3 < 8 ∧ zx2 = nI zj_3) ∧ ((¬ (zH_2 112 zj_3) = (3 : Int32) → (∃ zj_5 : Nat, (zj_5 < 8 ∧ zx2 = nI zj_5) ∧ (Rm E mX10_ends Q 172 [some (rf E 99), some (.int zx1), some (.int zx2), none, none] [.int (zH_2 111 zj_5), .int zx2, rf E 111] zH_2))) ∧ ((zH_2 112 zj_3) = (3 : Int32) → (Rm E mX10_ends Q 172 [some (rf E 99), some (.int zx1), some (.int zx2), none, none] [.int (9 : Int32), .int zx2, rf E 111] zH_2)))))) :
    Rm E mX10_ends Q 145 [some (rf E 99), some (.int zx1), some (.int zx2), none, none] [.int zt2, .int zt1, rf E 112] H := by
  obtain ⟨zj_1, hzj_1, hF⟩ := hF
  refine rj_iast (j := zj_1) hzj_1 rfl (by decide) rfl (by decide) dX10_ends_145 (fun zH_2 ezH_2 => ?_)
  replace hF := hF zH_2 ezH_2
  refine rn_aload_n dX10_ends_146 rfl ?_
  refine rm_getr (r := 111) flRX10_43 rfl (by decide) rfl dX10_ends_147 ?_
  refine rn_iload_n dX10_ends_150 rfl ?_
  refine rn_aload_n dX10_ends_151 rfl ?_
  refine rm_getr (r := 112) flRX10_46 rfl (by decide) rfl dX10_ends_152 ?_
  refine rn_iload_n dX10_ends_155 rfl ?_
  obtain ⟨zj_3, hzj_3, hF⟩ := hF
  refine rj_iald (j := zj_3) hzj_3 rfl (by decide) rfl (by decide) dX10_ends_156 ?_
  refine rn_iconst (x := (3 : Int32)) dX10_ends_157 (by decide) ?_
  refine rn_icmp_ne (tgt := 166) dX10_ends_158 (by decide) (fun hc_4 => ?_) (fun hc_4 => ?_)
  · replace hF := hF.1 hc_4
    refine rn_aload_n dX10_ends_166 rfl ?_
    refine rm_getr (r := 111) flRX10_43 rfl (by decide) rfl dX10_ends_167 ?_
    refine rn_iload_n dX10_ends_170 rfl ?_
    obtain ⟨zj_5, hzj_5, hF⟩ := hF
    refine rj_iald (j := zj_5) hzj_5 rfl (by decide) rfl (by decide) dX10_ends_171 ?_
    exact rn_wk (L' := [some (rf E 99), some (.int zx1), some (.int zx2), none, none]) (⟨rfl, ⟨rfl, ⟨rfl, trivial⟩⟩⟩) hF
  · replace hF := hF.2 hc_4
    refine rn_bipush (x := (9 : Int32)) dX10_ends_161 (by decide) ?_
    refine rn_goto (tgt := 172) dX10_ends_163 (by decide) ?_
    exact rn_wk (L' := [some (rf E 99), some (.int zx1), some (.int zx2), none, none]) (⟨rfl, ⟨rfl, ⟨rfl, trivial⟩⟩⟩) hF
theorem sgX10_ends_61 {E : En} {Q : Option Value → Hi → Prop} {H : Hi} {zx1 : Int32} {zx2 : Int32} {zx3 : Int32} {zt0 : Int32} 
    (hF : (zt0 = 0 → (∃ zj_3 : Nat, (zj_3 < 8 ∧ zx3 = nI zj_3) ∧ (Rm E mX10_ends Q 84 [some (rf E 99), some (.int zx1), some (.int zx2), some (.int zx3), none] [.int (H 111 zj_3), .int zx3, rf E 111] H))) ∧ (¬ zt0 = 0 → (Rm E mX10_ends Q 84 [some (rf E 99), some (.int zx1), some (.int zx2), some (.int zx3), none] [.int (9 : Int32), .int zx3, rf E 111] H))) :
    Rm E mX10_ends Q 61 [some (rf E 99), some (.int zx1), some (.int zx2), some (.int zx3), none] [.int zt0] H := by
  refine ra_istore dX10_ends_61 rfl (Nat.le_of_ble_eq_true rfl) ?_
  show Rn _ _ _ _ _ _ _ _ [some (rf E 99), some (.int zx1), some (.int zx2), some (.int zx3), some (.int zt0)] _ _ _
  refine rn_aload_n dX10_ends_63 rfl ?_
  refine rm_getr (r := 111) flRX10_43 rfl (by decide) rfl dX10_ends_64 ?_
  refine rn_iload_n dX10_ends_67 rfl ?_
  refine rn_iload dX10_ends_68 rfl ?_
  refine rn_if_eq (tgt := 78) dX10_ends_70 (by decide) (fun hc_2 => ?_) (fun hc_2 => ?_)
  · replace hF := hF.1 hc_2
    refine rn_aload_n dX10_ends_78 rfl ?_
    refine rm_getr (r := 111) flRX10_43 rfl (by decide) rfl dX10_ends_79 ?_
    refine rn_iload_n dX10_ends_82 rfl ?_
    obtain ⟨zj_3, hzj_3, hF⟩ := hF
    refine rj_iald (j := zj_3) hzj_3 rfl (by decide) rfl (by decide) dX10_ends_83 ?_
    exact rn_wk (L' := [some (rf E 99), some (.int zx1), some (.int zx2), some (.int zx3), none]) (⟨rfl, ⟨rfl, ⟨rfl, ⟨rfl, trivial⟩⟩⟩⟩) hF
  · replace hF := hF.2 hc_2
    refine rn_bipush (x := (9 : Int32)) dX10_ends_73 (by decide) ?_
    refine rn_goto (tgt := 84) dX10_ends_75 (by decide) ?_
    exact rn_wk (L' := [some (rf E 99), some (.int zx1), some (.int zx2), some (.int zx3), none]) (⟨rfl, ⟨rfl, ⟨rfl, ⟨rfl, trivial⟩⟩⟩⟩) hF
theorem sgX10_ends_172 {E : En} {Q : Option Value → Hi → Prop} {H : Hi} {zx1 : Int32} {zx2 : Int32} {zt1 : Int32} {zt2 : Int32} 
    (hF : ∃ zj_1 : Nat, (zj_1 < 8 ∧ zt1 = nI zj_1) ∧ (∀ zH_2 : Hi, zH_2 = up H 111 zj_1 zt2 → (Cm E mX10_isIn [.int (zH_2 99 23), .int zx1] zH_2 (fun w zH_3 => ∃ zr_4 : Int32, w = some (.int zr_4) ∧ ((zr_4 = 0 → (∀ zx2_6 : Int32, zx2_6 = zx2 + (1 : Int32) → (Rm E mX10_ends Q 99 [some (rf E 99), some (.int zx1), some (.int zx2_6), none, none] [] zH_3))) ∧ (¬ zr_4 = 0 → (∃ zj_7 : Nat, (zj_7 < 8 ∧ zx2 = nI zj_7) ∧ ((¬ (zH_3 111 zj_7) = (8 : Int32) → (∀ zx2_9 : Int32, zx2_9 = zx2 + (1 : Int32) → (Rm E mX10_ends Q 99 [some (rf E 99), some (.int zx1), some (.int zx2_9), none, none] [] zH_3))) ∧ ((zH_3 111 zj_7) = (8 : Int32) → (∃ zj_10 : Nat, (zj_10 < 9 ∧ zx2 = nI zj_10) ∧ (((zH_3 99 6) ≤ (zH_3 103 zj_10) → (∀ zx2_12 : Int32, zx2_12 = zx2 + (1 : Int32) → (Rm E mX10_ends Q 99 [some (rf E 99), some (.int zx1), some (.int zx2_12), none, none] [] zH_3))) ∧ (¬ (zH_3 99 6) ≤ (zH_3 103 zj_10) → (∃ zj_13 : Nat, (zj_13 < 9 ∧ zx2 = nI zj_13) ∧ (∃ zj_14 : Nat, (zj_14 < 8 ∧ zx2 = nI zj_14) ∧ (∀ zH_15 : Hi, zH_15 = up zH_3 111 zj_14 (zH_3 103 zj_13) → (Rm E mX10_ends Q 220 [some (rf E 99), some (.int zx1), some (.int zx2), none, none] [] zH_15)))))))))))))))) :
    Rm E mX10_ends Q 172 [some (rf E 99), some (.int zx1), some (.int zx2), none, none] [.int zt2, .int zt1, rf E 111] H := by
  obtain ⟨zj_1, hzj_1, hF⟩ := hF
  refine rj_iast (j := zj_1) hzj_1 rfl (by decide) rfl (by decide) dX10_ends_172 (fun zH_2 ezH_2 => ?_)
  replace hF := hF zH_2 ezH_2
  refine rn_aload_n dX10_ends_173 rfl ?_
  refine rm_geti flRX10_182 rfl (by decide) rfl dX10_ends_174 ?_
  refine rn_iload_n dX10_ends_177 rfl ?_
  refine rm_callS (As := [.int (zH_2 99 23), .int zx1]) (st := []) mlRX10_189 mdX10_isIn (Nat.le_of_ble_eq_true rfl) rfl rfl (Nat.le_of_ble_eq_true rfl) ⟨Nat.le_refl _, Nat.le_refl _⟩ dX10_ends_178 ?_
  refine cm_mono hF (fun w zH_3 hF => ?_)
  obtain ⟨zr_4, rfl, hF⟩ := hF
  refine rn_if_eq (tgt := 220) dX10_ends_181 (by decide) (fun hc_5 => ?_) (fun hc_5 => ?_)
  · replace hF := hF.1 hc_5
    refine rn_iinc (w := (1 : Int32)) dX10_ends_220 rfl (by decide) rfl (Nat.le_of_ble_eq_true rfl) (fun zx2_6 ezx2_6 => ?_)
    replace hF := hF zx2_6 ezx2_6
    show Rn _ _ _ _ _ _ _ _ [some (rf E 99), some (.int zx1), some (.int zx2_6), none, none] _ _ _
    refine rn_goto (tgt := 99) dX10_ends_223 (by decide) ?_
    exact rn_wk (L' := [some (rf E 99), some (.int zx1), some (.int zx2_6), none, none]) (⟨rfl, ⟨rfl, ⟨rfl, trivial⟩⟩⟩) hF
  · replace hF := hF.2 hc_5
    refine rn_aload_n dX10_ends_184 rfl ?_
    refine rm_getr (r := 111) flRX10_43 rfl (by decide) rfl dX10_ends_185 ?_
    refine rn_iload_n dX10_ends_188 rfl ?_
    obtain ⟨zj_7, hzj_7, hF⟩ := hF
    refine rj_iald (j := zj_7) hzj_7 rfl (by decide) rfl (by decide) dX10_ends_189 ?_
    refine rn_bipush (x := (8 : Int32)) dX10_ends_190 (by decide) ?_
    refine rn_icmp_ne (tgt := 220) dX10_ends_192 (by decide) (fun hc_8 => ?_) (fun hc_8 => ?_)
    · replace hF := hF.1 hc_8
      refine rn_iinc (w := (1 : Int32)) dX10_ends_220 rfl (by decide) rfl (Nat.le_of_ble_eq_true rfl) (fun zx2_9 ezx2_9 => ?_)
      replace hF := hF zx2_9 ezx2_9
      show Rn _ _ _ _ _ _ _ _ [some (rf E 99), some (.int zx1), some (.int zx2_9), none, none] _ _ _
      refine rn_goto (tgt := 99) dX10_ends_223 (by decide) ?_
      exact rn_wk (L' := [some (rf E 99), some (.int zx1), some (.int zx2_9), none, none]) (⟨rfl, ⟨rfl, ⟨rfl, trivial⟩⟩⟩) hF
    · replace hF := hF.2 hc_8
      refine rn_aload_n dX10_ends_195 rfl ?_
      refine rm_getr (r := 103) flRX10_19 rfl (by decide) rfl dX10_ends_196 ?_
      refine rn_iload_n dX10_ends_199 rfl ?_
      obtain ⟨zj_10, hzj_10, hF⟩ := hF
      refine rj_iald (j := zj_10) hzj_10 rfl (by decide) rfl (by decide) dX10_ends_200 ?_
      refine rn_aload_n dX10_ends_201 rfl ?_
      refine rm_geti flRX10_128 rfl (by decide) rfl dX10_ends_202 ?_
      refine rn_icmp_ge (tgt := 220) dX10_ends_205 (by decide) (fun hc_11 => ?_) (fun hc_11 => ?_)
      · replace hF := hF.1 hc_11
        refine rn_iinc (w := (1 : Int32)) dX10_ends_220 rfl (by decide) rfl (Nat.le_of_ble_eq_true rfl) (fun zx2_12 ezx2_12 => ?_)
        replace hF := hF zx2_12 ezx2_12
        show Rn _ _ _ _ _ _ _ _ [some (rf E 99), some (.int zx1), some (.int zx2_12), none, none] _ _ _
        refine rn_goto (tgt := 99) dX10_ends_223 (by decide) ?_
        exact rn_wk (L' := [some (rf E 99), some (.int zx1), some (.int zx2_12), none, none]) (⟨rfl, ⟨rfl, ⟨rfl, trivial⟩⟩⟩) hF
      · replace hF := hF.2 hc_11
        refine rn_aload_n dX10_ends_208 rfl ?_
        refine rm_getr (r := 111) flRX10_43 rfl (by decide) rfl dX10_ends_209 ?_
        refine rn_iload_n dX10_ends_212 rfl ?_
        refine rn_aload_n dX10_ends_213 rfl ?_
        refine rm_getr (r := 103) flRX10_19 rfl (by decide) rfl dX10_ends_214 ?_
        refine rn_iload_n dX10_ends_217 rfl ?_
        obtain ⟨zj_13, hzj_13, hF⟩ := hF
        refine rj_iald (j := zj_13) hzj_13 rfl (by decide) rfl (by decide) dX10_ends_218 ?_
        obtain ⟨zj_14, hzj_14, hF⟩ := hF
        refine rj_iast (j := zj_14) hzj_14 rfl (by decide) rfl (by decide) dX10_ends_219 (fun zH_15 ezH_15 => ?_)
        replace hF := hF zH_15 ezH_15
        exact rn_wk (L' := [some (rf E 99), some (.int zx1), some (.int zx2), none, none]) (⟨rfl, ⟨rfl, ⟨rfl, trivial⟩⟩⟩) hF
theorem sgX10_ends_84 {E : En} {Q : Option Value → Hi → Prop} {H : Hi} {zx1 : Int32} {zx2 : Int32} {zx3 : Int32} {zt1 : Int32} {zt2 : Int32} 
    (hF : ∃ zj_1 : Nat, (zj_1 < 8 ∧ zt1 = nI zj_1) ∧ (∀ zH_2 : Hi, zH_2 = up H 111 zj_1 zt2 → (∀ zx3_3 : Int32, zx3_3 = zx3 + (1 : Int32) → (Rm E mX10_ends Q 12 [some (rf E 99), some (.int zx1), some (.int zx2), some (.int zx3_3), none] [] zH_2)))) :
    Rm E mX10_ends Q 84 [some (rf E 99), some (.int zx1), some (.int zx2), some (.int zx3), none] [.int zt2, .int zt1, rf E 111] H := by
  obtain ⟨zj_1, hzj_1, hF⟩ := hF
  refine rj_iast (j := zj_1) hzj_1 rfl (by decide) rfl (by decide) dX10_ends_84 (fun zH_2 ezH_2 => ?_)
  replace hF := hF zH_2 ezH_2
  refine rn_iinc (w := (1 : Int32)) dX10_ends_85 rfl (by decide) rfl (Nat.le_of_ble_eq_true rfl) (fun zx3_3 ezx3_3 => ?_)
  replace hF := hF zx3_3 ezx3_3
  show Rn _ _ _ _ _ _ _ _ [some (rf E 99), some (.int zx1), some (.int zx2), some (.int zx3_3), none] _ _ _
  refine rn_goto (tgt := 12) dX10_ends_88 (by decide) ?_
  exact rn_wk (L' := [some (rf E 99), some (.int zx1), some (.int zx2), some (.int zx3_3), none]) (⟨rfl, ⟨rfl, ⟨rfl, ⟨rfl, trivial⟩⟩⟩⟩) hF
theorem sgX10_ends_220 {E : En} {Q : Option Value → Hi → Prop} {H : Hi} {zx1 : Int32} {zx2 : Int32} 
    (hF : ∀ zx2_1 : Int32, zx2_1 = zx2 + (1 : Int32) → (Rm E mX10_ends Q 99 [some (rf E 99), some (.int zx1), some (.int zx2_1), none, none] [] H)) :
    Rm E mX10_ends Q 220 [some (rf E 99), some (.int zx1), some (.int zx2), none, none] [] H := by
  refine rn_iinc (w := (1 : Int32)) dX10_ends_220 rfl (by decide) rfl (Nat.le_of_ble_eq_true rfl) (fun zx2_1 ezx2_1 => ?_)
  replace hF := hF zx2_1 ezx2_1
  show Rn _ _ _ _ _ _ _ _ [some (rf E 99), some (.int zx1), some (.int zx2_1), none, none] _ _ _
  refine rn_goto (tgt := 99) dX10_ends_223 (by decide) ?_
  exact rn_wk (L' := [some (rf E 99), some (.int zx1), some (.int zx2_1), none, none]) (⟨rfl, ⟨rfl, ⟨rfl, trivial⟩⟩⟩) hF
theorem sgX10_goesBy_0 {E : En} {Q : Option Value → Hi → Prop} {H : Hi} {zx1 : Int32} 
    (hF : Cm E mX10_putsBack [rf E 99] H (fun w zH_1 => w = none ∧ (Cm E mX10_handsOf [rf E 99, .int zx1] zH_1 (fun w zH_2 => w = none ∧ (Cm E mX10_ends [rf E 99, .int zx1] zH_2 (fun w zH_3 => w = none ∧ (Q none zH_3))))))) :
    Rm E mX10_goesBy Q 0 [some (rf E 99), some (.int zx1)] [] H := by
  refine rn_aload_n dX10_goesBy_0 rfl ?_
  refine rm_callV (c0 := 99) (As := []) (st := []) mlRX10_199 mdX10_putsBack (Nat.le_of_ble_eq_true rfl) rfl (by decide) (by decide) rfl rfl rfl (Nat.le_of_ble_eq_true rfl) ⟨Nat.le_refl _, Nat.le_refl _⟩ dX10_goesBy_1 ?_
  refine cm_mono hF (fun w zH_1 hF => ?_)
  obtain ⟨rfl, hF⟩ := hF
  refine rn_aload_n dX10_goesBy_4 rfl ?_
  refine rn_iload_n dX10_goesBy_5 rfl ?_
  refine rm_callV (c0 := 99) (As := [.int zx1]) (st := []) mlRX10_202 mdX10_handsOf (Nat.le_of_ble_eq_true rfl) rfl (by decide) (by decide) rfl rfl rfl (Nat.le_of_ble_eq_true rfl) ⟨Nat.le_refl _, Nat.le_refl _⟩ dX10_goesBy_6 ?_
  refine cm_mono hF (fun w zH_2 hF => ?_)
  obtain ⟨rfl, hF⟩ := hF
  refine rn_aload_n dX10_goesBy_9 rfl ?_
  refine rn_iload_n dX10_goesBy_10 rfl ?_
  refine rm_callV (c0 := 99) (As := [.int zx1]) (st := []) mlRX10_206 mdX10_ends (Nat.le_of_ble_eq_true rfl) rfl (by decide) (by decide) rfl rfl rfl (Nat.le_of_ble_eq_true rfl) ⟨Nat.le_refl _, Nat.le_refl _⟩ dX10_goesBy_11 ?_
  refine cm_mono hF (fun w zH_3 hF => ?_)
  obtain ⟨rfl, hF⟩ := hF
  exact rm_vret rfl dX10_goesBy_14 hF
theorem cmX10_goesBy {E : En} {Q : Option Value → Hi → Prop} {H : Hi} {zx1 : Int32} 
    (hF : Cm E mX10_putsBack [rf E 99] H (fun w zH_1 => w = none ∧ (Cm E mX10_handsOf [rf E 99, .int zx1] zH_1 (fun w zH_2 => w = none ∧ (Cm E mX10_ends [rf E 99, .int zx1] zH_2 (fun w zH_3 => w = none ∧ (Q none zH_3))))))) :
    Cm E mX10_goesBy [rf E 99, .int zx1] H Q :=
  cm_of (by decide +kernel : plainName RX10 = true) (Nat.le_of_ble_eq_true rfl) rfl (sgX10_goesBy_0  hF)
theorem sgX10_runs_0 {E : En} {Q : Option Value → Hi → Prop} {H : Hi} {zx1 : Int32} 
    (hF : Cm E mX10_begins [rf E 99] H (fun w zH_1 => w = none ∧ (Rm E mX10_runs Q 6 [some (rf E 99), some (.int zx1), some (.int (0 : Int32))] [] zH_1))) :
    Rm E mX10_runs Q 0 [some (rf E 99), some (.int zx1), none] [] H := by
  refine rn_aload_n dX10_runs_0 rfl ?_
  refine rm_callV (c0 := 99) (As := []) (st := []) mlRX10_209 mdX10_begins (Nat.le_of_ble_eq_true rfl) rfl (by decide) (by decide) rfl rfl rfl (Nat.le_of_ble_eq_true rfl) ⟨Nat.le_refl _, Nat.le_refl _⟩ dX10_runs_1 ?_
  refine cm_mono hF (fun w zH_1 hF => ?_)
  obtain ⟨rfl, hF⟩ := hF
  refine rn_iconst (x := (0 : Int32)) dX10_runs_4 (by decide) ?_
  refine ra_istore_n dX10_runs_5 rfl (Nat.le_of_ble_eq_true rfl) ?_
  show Rn _ _ _ _ _ _ _ _ [some (rf E 99), some (.int zx1), some (.int (0 : Int32))] _ _ _
  exact rn_wk (L' := [some (rf E 99), some (.int zx1), some (.int (0 : Int32))]) (⟨rfl, ⟨rfl, ⟨rfl, trivial⟩⟩⟩) hF
theorem cmX10_runs {E : En} {Q : Option Value → Hi → Prop} {H : Hi} {zx1 : Int32} 
    (hF : Cm E mX10_begins [rf E 99] H (fun w zH_1 => w = none ∧ (Rm E mX10_runs Q 6 [some (rf E 99), some (.int zx1), some (.int (0 : Int32))] [] zH_1))) :
    Cm E mX10_runs [rf E 99, .int zx1] H Q :=
  cm_of (by decide +kernel : plainName RX10 = true) (Nat.le_of_ble_eq_true rfl) rfl (sgX10_runs_0  hF)
theorem sgX10_runs_6 {E : En} {Q : Option Value → Hi → Prop} {H : Hi} {zx1 : Int32} {zx2 : Int32} 
    (hF : (zx1 < zx2 → (Q none H)) ∧ (¬ zx1 < zx2 → (Cm E mX10_goesBy [rf E 99, .int zx2] H (fun w zH_2 => w = none ∧ (∀ zx2_3 : Int32, zx2_3 = zx2 + (1 : Int32) → (Rm E mX10_runs Q 6 [some (rf E 99), some (.int zx1), some (.int zx2_3)] [] zH_2)))))) :
    Rm E mX10_runs Q 6 [some (rf E 99), some (.int zx1), some (.int zx2)] [] H := by
  refine rn_iload_n dX10_runs_6 rfl ?_
  refine rn_iload_n dX10_runs_7 rfl ?_
  refine rn_icmp_gt (tgt := 22) dX10_runs_8 (by decide) (fun hc_1 => ?_) (fun hc_1 => ?_)
  · replace hF := hF.1 hc_1
    exact rm_vret rfl dX10_runs_22 hF
  · replace hF := hF.2 hc_1
    refine rn_aload_n dX10_runs_11 rfl ?_
    refine rn_iload_n dX10_runs_12 rfl ?_
    refine rm_callV (c0 := 99) (As := [.int zx2]) (st := []) mlRX10_212 mdX10_goesBy (Nat.le_of_ble_eq_true rfl) rfl (by decide) (by decide) rfl rfl rfl (Nat.le_of_ble_eq_true rfl) ⟨Nat.le_refl _, Nat.le_refl _⟩ dX10_runs_13 ?_
    refine cm_mono hF (fun w zH_2 hF => ?_)
    obtain ⟨rfl, hF⟩ := hF
    refine rn_iinc (w := (1 : Int32)) dX10_runs_16 rfl (by decide) rfl (Nat.le_of_ble_eq_true rfl) (fun zx2_3 ezx2_3 => ?_)
    replace hF := hF zx2_3 ezx2_3
    show Rn _ _ _ _ _ _ _ _ [some (rf E 99), some (.int zx1), some (.int zx2_3)] _ _ _
    refine rn_goto (tgt := 6) dX10_runs_19 (by decide) ?_
    exact rn_wk (L' := [some (rf E 99), some (.int zx1), some (.int zx2_3)]) (⟨rfl, ⟨rfl, ⟨rfl, trivial⟩⟩⟩) hF
theorem sgX10_runsTold_0 {E : En} {Q : Option Value → Hi → Prop} {H : Hi} {zx1 : Int32} 
    (hF : Cm E mX10_reads [rf E 99] H (fun w zH_1 => w = none ∧ (Cm E mX10_asTold [rf E 99] zH_1 (fun w zH_2 => w = none ∧ (Cm E mX10_runs [rf E 99, .int zx1] zH_2 (fun w zH_3 => w = none ∧ (Q none zH_3))))))) :
    Rm E mX10_runsTold Q 0 [some (rf E 99), some (.int zx1)] [] H := by
  refine rn_aload_n dX10_runsTold_0 rfl ?_
  refine rm_callV (c0 := 99) (As := []) (st := []) mlRX10_144 mdX10_reads (Nat.le_of_ble_eq_true rfl) rfl (by decide) (by decide) rfl rfl rfl (Nat.le_of_ble_eq_true rfl) ⟨Nat.le_refl _, Nat.le_refl _⟩ dX10_runsTold_1 ?_
  refine cm_mono hF (fun w zH_1 hF => ?_)
  obtain ⟨rfl, hF⟩ := hF
  refine rn_aload_n dX10_runsTold_4 rfl ?_
  refine rm_callV (c0 := 99) (As := []) (st := []) mlRX10_215 mdX10_asTold (Nat.le_of_ble_eq_true rfl) rfl (by decide) (by decide) rfl rfl rfl (Nat.le_of_ble_eq_true rfl) ⟨Nat.le_refl _, Nat.le_refl _⟩ dX10_runsTold_5 ?_
  refine cm_mono hF (fun w zH_2 hF => ?_)
  obtain ⟨rfl, hF⟩ := hF
  refine rn_aload_n dX10_runsTold_8 rfl ?_
  refine rn_iload_n dX10_runsTold_9 rfl ?_
  refine rm_callV (c0 := 99) (As := [.int zx1]) (st := []) mlRX10_218 mdX10_runs (Nat.le_of_ble_eq_true rfl) rfl (by decide) (by decide) rfl rfl rfl (Nat.le_of_ble_eq_true rfl) ⟨Nat.le_refl _, Nat.le_refl _⟩ dX10_runsTold_10 ?_
  refine cm_mono hF (fun w zH_3 hF => ?_)
  obtain ⟨rfl, hF⟩ := hF
  exact rm_vret rfl dX10_runsTold_13 hF
theorem cmX10_runsTold {E : En} {Q : Option Value → Hi → Prop} {H : Hi} {zx1 : Int32} 
    (hF : Cm E mX10_reads [rf E 99] H (fun w zH_1 => w = none ∧ (Cm E mX10_asTold [rf E 99] zH_1 (fun w zH_2 => w = none ∧ (Cm E mX10_runs [rf E 99, .int zx1] zH_2 (fun w zH_3 => w = none ∧ (Q none zH_3))))))) :
    Cm E mX10_runsTold [rf E 99, .int zx1] H Q :=
  cm_of (by decide +kernel : plainName RX10 = true) (Nat.le_of_ble_eq_true rfl) rfl (sgX10_runsTold_0  hF)
theorem sgX10_whereOf_0 {E : En} {Q : Option Value → Hi → Prop} {H : Hi} {zx1 : Int32} {zx2 : Int32} 
    (hF : Cm E mX10_runsTold [rf E 99, .int zx1] H (fun w zH_1 => w = none ∧ (∃ zj_2 : Nat, (zj_2 < 8 ∧ zx2 = nI zj_2) ∧ (Q (some (.int (zH_1 111 zj_2))) zH_1)))) :
    Rm E mX10_whereOf Q 0 [some (rf E 99), some (.int zx1), some (.int zx2)] [] H := by
  refine rn_aload_n dX10_whereOf_0 rfl ?_
  refine rn_iload_n dX10_whereOf_1 rfl ?_
  refine rm_callV (c0 := 99) (As := [.int zx1]) (st := []) mlRX10_221 mdX10_runsTold (Nat.le_of_ble_eq_true rfl) rfl (by decide) (by decide) rfl rfl rfl (Nat.le_of_ble_eq_true rfl) ⟨Nat.le_refl _, Nat.le_refl _⟩ dX10_whereOf_2 ?_
  refine cm_mono hF (fun w zH_1 hF => ?_)
  obtain ⟨rfl, hF⟩ := hF
  refine rn_aload_n dX10_whereOf_5 rfl ?_
  refine rm_getr (r := 111) flRX10_43 rfl (by decide) rfl dX10_whereOf_6 ?_
  refine rn_iload_n dX10_whereOf_9 rfl ?_
  obtain ⟨zj_2, hzj_2, hF⟩ := hF
  refine rj_iald (j := zj_2) hzj_2 rfl (by decide) rfl (by decide) dX10_whereOf_10 ?_
  exact rm_iret rfl dX10_whereOf_11 hF
theorem cmX10_whereOf {E : En} {Q : Option Value → Hi → Prop} {H : Hi} {zx1 : Int32} {zx2 : Int32} 
    (hF : Cm E mX10_runsTold [rf E 99, .int zx1] H (fun w zH_1 => w = none ∧ (∃ zj_2 : Nat, (zj_2 < 8 ∧ zx2 = nI zj_2) ∧ (Q (some (.int (zH_1 111 zj_2))) zH_1)))) :
    Cm E mX10_whereOf [rf E 99, .int zx1, .int zx2] H Q :=
  cm_of (by decide +kernel : plainName RX10 = true) (Nat.le_of_ble_eq_true rfl) rfl (sgX10_whereOf_0  hF)
theorem sgX10_where_0 {E : En} {Q : Option Value → Hi → Prop} {H : Hi} {zx1 : Int32} {zx2 : Int32} 
    (hF : Cm E mX10_isHour [.int zx1] H (fun w zH_1 => ∃ zr_2 : Int32, w = some (.int zr_2) ∧ ((zr_2 = 0 → (Q (some (.int (-2 : Int32))) zH_1)) ∧ (¬ zr_2 = 0 → (Cm E mX10_isThing [rf E 99, .int zx2] zH_1 (fun w zH_4 => ∃ zr_5 : Int32, w = some (.int zr_5) ∧ ((zr_5 = 0 → (Q (some (.int (-2 : Int32))) zH_4)) ∧ (¬ zr_5 = 0 → (Cm E mX10_whereOf [rf E 99, .int zx1, .int zx2] zH_4 (fun w zH_7 => ∃ zr_8 : Int32, w = some (.int zr_8) ∧ (Q (some (.int zr_8)) zH_7))))))))))) :
    Rm E mX10_where Q 0 [some (rf E 99), some (.int zx1), some (.int zx2)] [] H := by
  refine rn_iload_n dX10_where_0 rfl ?_
  refine rm_callS (As := [.int zx1]) (st := []) mlRX10_160 mdX10_isHour (Nat.le_of_ble_eq_true rfl) rfl rfl (Nat.le_of_ble_eq_true rfl) ⟨Nat.le_refl _, Nat.le_refl _⟩ dX10_where_1 ?_
  refine cm_mono hF (fun w zH_1 hF => ?_)
  obtain ⟨zr_2, rfl, hF⟩ := hF
  refine rn_if_eq (tgt := 24) dX10_where_4 (by decide) (fun hc_3 => ?_) (fun hc_3 => ?_)
  · replace hF := hF.1 hc_3
    refine rn_bipush (x := (-2 : Int32)) dX10_where_24 (by decide) ?_
    exact rm_iret rfl dX10_where_26 hF
  · replace hF := hF.2 hc_3
    refine rn_aload_n dX10_where_7 rfl ?_
    refine rn_iload_n dX10_where_8 rfl ?_
    refine rm_callV (c0 := 99) (As := [.int zx2]) (st := []) mlRX10_147 mdX10_isThing (Nat.le_of_ble_eq_true rfl) rfl (by decide) (by decide) rfl rfl rfl (Nat.le_of_ble_eq_true rfl) ⟨Nat.le_refl _, Nat.le_refl _⟩ dX10_where_9 ?_
    refine cm_mono hF (fun w zH_4 hF => ?_)
    obtain ⟨zr_5, rfl, hF⟩ := hF
    refine rn_if_eq (tgt := 24) dX10_where_12 (by decide) (fun hc_6 => ?_) (fun hc_6 => ?_)
    · replace hF := hF.1 hc_6
      refine rn_bipush (x := (-2 : Int32)) dX10_where_24 (by decide) ?_
      exact rm_iret rfl dX10_where_26 hF
    · replace hF := hF.2 hc_6
      refine rn_aload_n dX10_where_15 rfl ?_
      refine rn_iload_n dX10_where_16 rfl ?_
      refine rn_iload_n dX10_where_17 rfl ?_
      refine rm_callV (c0 := 99) (As := [.int zx1, .int zx2]) (st := []) mlRX10_224 mdX10_whereOf (Nat.le_of_ble_eq_true rfl) rfl (by decide) (by decide) rfl rfl rfl (Nat.le_of_ble_eq_true rfl) ⟨Nat.le_refl _, Nat.le_refl _⟩ dX10_where_18 ?_
      refine cm_mono hF (fun w zH_7 hF => ?_)
      obtain ⟨zr_8, rfl, hF⟩ := hF
      refine rn_goto (tgt := 26) dX10_where_21 (by decide) ?_
      exact rm_iret rfl dX10_where_26 hF
theorem cmX10_where {E : En} {Q : Option Value → Hi → Prop} {H : Hi} {zx1 : Int32} {zx2 : Int32} 
    (hF : Cm E mX10_isHour [.int zx1] H (fun w zH_1 => ∃ zr_2 : Int32, w = some (.int zr_2) ∧ ((zr_2 = 0 → (Q (some (.int (-2 : Int32))) zH_1)) ∧ (¬ zr_2 = 0 → (Cm E mX10_isThing [rf E 99, .int zx2] zH_1 (fun w zH_4 => ∃ zr_5 : Int32, w = some (.int zr_5) ∧ ((zr_5 = 0 → (Q (some (.int (-2 : Int32))) zH_4)) ∧ (¬ zr_5 = 0 → (Cm E mX10_whereOf [rf E 99, .int zx1, .int zx2] zH_4 (fun w zH_7 => ∃ zr_8 : Int32, w = some (.int zr_8) ∧ (Q (some (.int zr_8)) zH_7))))))))))) :
    Cm E mX10_where [rf E 99, .int zx1, .int zx2] H Q :=
  cm_of (by decide +kernel : plainName RX10 = true) (Nat.le_of_ble_eq_true rfl) rfl (sgX10_where_0  hF)
theorem sgX10_hasOf_0 {E : En} {Q : Option Value → Hi → Prop} {H : Hi} {zx1 : Int32} {zx2 : Int32} 
    (hF : Cm E mX10_runsTold [rf E 99, .int zx1] H (fun w zH_1 => w = none ∧ (Rm E mX10_hasOf Q 10 [some (rf E 99), none, some (.int zx2), some (.int (0 : Int32)), some (.int (0 : Int32))] [] zH_1))) :
    Rm E mX10_hasOf Q 0 [some (rf E 99), some (.int zx1), some (.int zx2), none, none] [] H := by
  refine rn_aload_n dX10_hasOf_0 rfl ?_
  refine rn_iload_n dX10_hasOf_1 rfl ?_
  refine rm_callV (c0 := 99) (As := [.int zx1]) (st := []) mlRX10_221 mdX10_runsTold (Nat.le_of_ble_eq_true rfl) rfl (by decide) (by decide) rfl rfl rfl (Nat.le_of_ble_eq_true rfl) ⟨Nat.le_refl _, Nat.le_refl _⟩ dX10_hasOf_2 ?_
  refine cm_mono hF (fun w zH_1 hF => ?_)
  obtain ⟨rfl, hF⟩ := hF
  refine rn_iconst (x := (0 : Int32)) dX10_hasOf_5 (by decide) ?_
  refine ra_istore_n dX10_hasOf_6 rfl (Nat.le_of_ble_eq_true rfl) ?_
  show Rn _ _ _ _ _ _ _ _ [some (rf E 99), some (.int zx1), some (.int zx2), some (.int (0 : Int32)), none] _ _ _
  refine rn_iconst (x := (0 : Int32)) dX10_hasOf_7 (by decide) ?_
  refine ra_istore dX10_hasOf_8 rfl (Nat.le_of_ble_eq_true rfl) ?_
  show Rn _ _ _ _ _ _ _ _ [some (rf E 99), some (.int zx1), some (.int zx2), some (.int (0 : Int32)), some (.int (0 : Int32))] _ _ _
  exact rn_wk (L' := [some (rf E 99), none, some (.int zx2), some (.int (0 : Int32)), some (.int (0 : Int32))]) (⟨rfl, ⟨rfl, ⟨rfl, ⟨rfl, trivial⟩⟩⟩⟩) hF
theorem cmX10_hasOf {E : En} {Q : Option Value → Hi → Prop} {H : Hi} {zx1 : Int32} {zx2 : Int32} 
    (hF : Cm E mX10_runsTold [rf E 99, .int zx1] H (fun w zH_1 => w = none ∧ (Rm E mX10_hasOf Q 10 [some (rf E 99), none, some (.int zx2), some (.int (0 : Int32)), some (.int (0 : Int32))] [] zH_1))) :
    Cm E mX10_hasOf [rf E 99, .int zx1, .int zx2] H Q :=
  cm_of (by decide +kernel : plainName RX10 = true) (Nat.le_of_ble_eq_true rfl) rfl (sgX10_hasOf_0  hF)
theorem sgX10_hasOf_10 {E : En} {Q : Option Value → Hi → Prop} {H : Hi} {zx2 : Int32} {zx3 : Int32} {zx4 : Int32} 
    (hF : ((H 99 2) ≤ zx4 → (Q (some (.int zx3)) H)) ∧ (¬ (H 99 2) ≤ zx4 → (∃ zj_2 : Nat, (zj_2 < 8 ∧ zx4 = nI zj_2) ∧ ((¬ (H 111 zj_2) = zx2 → (∀ zx3_4 : Int32, zx3_4 = zx3 ||| (0 : Int32) → (∀ zx4_5 : Int32, zx4_5 = zx4 + (1 : Int32) → (Rm E mX10_hasOf Q 10 [some (rf E 99), none, some (.int zx2), some (.int zx3_4), some (.int zx4_5)] [] H)))) ∧ ((H 111 zj_2) = zx2 → (∀ zx3_6 : Int32, zx3_6 = zx3 ||| ((1 : Int32) <<< (zx4 &&& 31)) → (∀ zx4_7 : Int32, zx4_7 = zx4 + (1 : Int32) → (Rm E mX10_hasOf Q 10 [some (rf E 99), none, some (.int zx2), some (.int zx3_6), some (.int zx4_7)] [] H)))))))) :
    Rm E mX10_hasOf Q 10 [some (rf E 99), none, some (.int zx2), some (.int zx3), some (.int zx4)] [] H := by
  refine rn_iload dX10_hasOf_10 rfl ?_
  refine rn_aload_n dX10_hasOf_12 rfl ?_
  refine rm_geti flRX10_125 rfl (by decide) rfl dX10_hasOf_13 ?_
  refine rn_icmp_ge (tgt := 47) dX10_hasOf_16 (by decide) (fun hc_1 => ?_) (fun hc_1 => ?_)
  · replace hF := hF.1 hc_1
    refine rn_iload_n dX10_hasOf_47 rfl ?_
    exact rm_iret rfl dX10_hasOf_48 hF
  · replace hF := hF.2 hc_1
    refine rn_iload_n dX10_hasOf_19 rfl ?_
    refine rn_aload_n dX10_hasOf_20 rfl ?_
    refine rm_getr (r := 111) flRX10_43 rfl (by decide) rfl dX10_hasOf_21 ?_
    refine rn_iload dX10_hasOf_24 rfl ?_
    obtain ⟨zj_2, hzj_2, hF⟩ := hF
    refine rj_iald (j := zj_2) hzj_2 rfl (by decide) rfl (by decide) dX10_hasOf_26 ?_
    refine rn_iload_n dX10_hasOf_27 rfl ?_
    refine rn_icmp_ne (tgt := 38) dX10_hasOf_28 (by decide) (fun hc_3 => ?_) (fun hc_3 => ?_)
    · replace hF := hF.1 hc_3
      refine rn_iconst (x := (0 : Int32)) dX10_hasOf_38 (by decide) ?_
      refine rn_ior dX10_hasOf_39 ?_
      refine rn_istore_n dX10_hasOf_40 rfl (Nat.le_of_ble_eq_true rfl) (fun zx3_4 ezx3_4 => ?_)
      replace hF := hF zx3_4 ezx3_4
      show Rn _ _ _ _ _ _ _ _ [some (rf E 99), none, some (.int zx2), some (.int zx3_4), some (.int zx4)] _ _ _
      refine rn_iinc (w := (1 : Int32)) dX10_hasOf_41 rfl (by decide) rfl (Nat.le_of_ble_eq_true rfl) (fun zx4_5 ezx4_5 => ?_)
      replace hF := hF zx4_5 ezx4_5
      show Rn _ _ _ _ _ _ _ _ [some (rf E 99), none, some (.int zx2), some (.int zx3_4), some (.int zx4_5)] _ _ _
      refine rn_goto (tgt := 10) dX10_hasOf_44 (by decide) ?_
      exact rn_wk (L' := [some (rf E 99), none, some (.int zx2), some (.int zx3_4), some (.int zx4_5)]) (⟨rfl, ⟨rfl, ⟨rfl, ⟨rfl, trivial⟩⟩⟩⟩) hF
    · replace hF := hF.2 hc_3
      refine rn_iconst (x := (1 : Int32)) dX10_hasOf_31 (by decide) ?_
      refine rn_iload dX10_hasOf_32 rfl ?_
      refine rn_ishl dX10_hasOf_34 ?_
      refine rn_goto (tgt := 39) dX10_hasOf_35 (by decide) ?_
      refine rn_ior dX10_hasOf_39 ?_
      refine rn_istore_n dX10_hasOf_40 rfl (Nat.le_of_ble_eq_true rfl) (fun zx3_6 ezx3_6 => ?_)
      replace hF := hF zx3_6 ezx3_6
      show Rn _ _ _ _ _ _ _ _ [some (rf E 99), none, some (.int zx2), some (.int zx3_6), some (.int zx4)] _ _ _
      refine rn_iinc (w := (1 : Int32)) dX10_hasOf_41 rfl (by decide) rfl (Nat.le_of_ble_eq_true rfl) (fun zx4_7 ezx4_7 => ?_)
      replace hF := hF zx4_7 ezx4_7
      show Rn _ _ _ _ _ _ _ _ [some (rf E 99), none, some (.int zx2), some (.int zx3_6), some (.int zx4_7)] _ _ _
      refine rn_goto (tgt := 10) dX10_hasOf_44 (by decide) ?_
      exact rn_wk (L' := [some (rf E 99), none, some (.int zx2), some (.int zx3_6), some (.int zx4_7)]) (⟨rfl, ⟨rfl, ⟨rfl, ⟨rfl, trivial⟩⟩⟩⟩) hF
theorem sgX10_has_0 {E : En} {Q : Option Value → Hi → Prop} {H : Hi} {zx1 : Int32} {zx2 : Int32} 
    (hF : Cm E mX10_isHour [.int zx1] H (fun w zH_1 => ∃ zr_2 : Int32, w = some (.int zr_2) ∧ ((zr_2 = 0 → (Q (some (.int (-2 : Int32))) zH_1)) ∧ (¬ zr_2 = 0 → (Cm E mX10_isCousin [rf E 99, .int zx2] zH_1 (fun w zH_4 => ∃ zr_5 : Int32, w = some (.int zr_5) ∧ ((zr_5 = 0 → (Q (some (.int (-2 : Int32))) zH_4)) ∧ (¬ zr_5 = 0 → (Cm E mX10_hasOf [rf E 99, .int zx1, .int zx2] zH_4 (fun w zH_7 => ∃ zr_8 : Int32, w = some (.int zr_8) ∧ (Q (some (.int zr_8)) zH_7))))))))))) :
    Rm E mX10_has Q 0 [some (rf E 99), some (.int zx1), some (.int zx2)] [] H := by
  refine rn_iload_n dX10_has_0 rfl ?_
  refine rm_callS (As := [.int zx1]) (st := []) mlRX10_160 mdX10_isHour (Nat.le_of_ble_eq_true rfl) rfl rfl (Nat.le_of_ble_eq_true rfl) ⟨Nat.le_refl _, Nat.le_refl _⟩ dX10_has_1 ?_
  refine cm_mono hF (fun w zH_1 hF => ?_)
  obtain ⟨zr_2, rfl, hF⟩ := hF
  refine rn_if_eq (tgt := 24) dX10_has_4 (by decide) (fun hc_3 => ?_) (fun hc_3 => ?_)
  · replace hF := hF.1 hc_3
    refine rn_bipush (x := (-2 : Int32)) dX10_has_24 (by decide) ?_
    exact rm_iret rfl dX10_has_26 hF
  · replace hF := hF.2 hc_3
    refine rn_aload_n dX10_has_7 rfl ?_
    refine rn_iload_n dX10_has_8 rfl ?_
    refine rm_callV (c0 := 99) (As := [.int zx2]) (st := []) mlRX10_153 mdX10_isCousin (Nat.le_of_ble_eq_true rfl) rfl (by decide) (by decide) rfl rfl rfl (Nat.le_of_ble_eq_true rfl) ⟨Nat.le_refl _, Nat.le_refl _⟩ dX10_has_9 ?_
    refine cm_mono hF (fun w zH_4 hF => ?_)
    obtain ⟨zr_5, rfl, hF⟩ := hF
    refine rn_if_eq (tgt := 24) dX10_has_12 (by decide) (fun hc_6 => ?_) (fun hc_6 => ?_)
    · replace hF := hF.1 hc_6
      refine rn_bipush (x := (-2 : Int32)) dX10_has_24 (by decide) ?_
      exact rm_iret rfl dX10_has_26 hF
    · replace hF := hF.2 hc_6
      refine rn_aload_n dX10_has_15 rfl ?_
      refine rn_iload_n dX10_has_16 rfl ?_
      refine rn_iload_n dX10_has_17 rfl ?_
      refine rm_callV (c0 := 99) (As := [.int zx1, .int zx2]) (st := []) mlRX10_227 mdX10_hasOf (Nat.le_of_ble_eq_true rfl) rfl (by decide) (by decide) rfl rfl rfl (Nat.le_of_ble_eq_true rfl) ⟨Nat.le_refl _, Nat.le_refl _⟩ dX10_has_18 ?_
      refine cm_mono hF (fun w zH_7 hF => ?_)
      obtain ⟨zr_8, rfl, hF⟩ := hF
      refine rn_goto (tgt := 26) dX10_has_21 (by decide) ?_
      exact rm_iret rfl dX10_has_26 hF
theorem cmX10_has {E : En} {Q : Option Value → Hi → Prop} {H : Hi} {zx1 : Int32} {zx2 : Int32} 
    (hF : Cm E mX10_isHour [.int zx1] H (fun w zH_1 => ∃ zr_2 : Int32, w = some (.int zr_2) ∧ ((zr_2 = 0 → (Q (some (.int (-2 : Int32))) zH_1)) ∧ (¬ zr_2 = 0 → (Cm E mX10_isCousin [rf E 99, .int zx2] zH_1 (fun w zH_4 => ∃ zr_5 : Int32, w = some (.int zr_5) ∧ ((zr_5 = 0 → (Q (some (.int (-2 : Int32))) zH_4)) ∧ (¬ zr_5 = 0 → (Cm E mX10_hasOf [rf E 99, .int zx1, .int zx2] zH_4 (fun w zH_7 => ∃ zr_8 : Int32, w = some (.int zr_8) ∧ (Q (some (.int zr_8)) zH_7))))))))))) :
    Cm E mX10_has [rf E 99, .int zx1, .int zx2] H Q :=
  cm_of (by decide +kernel : plainName RX10 = true) (Nat.le_of_ble_eq_true rfl) rfl (sgX10_has_0  hF)
theorem sgX10_loadOf_0 {E : En} {Q : Option Value → Hi → Prop} {H : Hi} {zx1 : Int32} 
    (hF : Cm E mX10_runsTold [rf E 99, .int zx1] H (fun w zH_1 => w = none ∧ (Cm E mX10_loadNow [rf E 99] zH_1 (fun w zH_2 => ∃ zr_3 : Int32, w = some (.int zr_3) ∧ (Q (some (.int zr_3)) zH_2))))) :
    Rm E mX10_loadOf Q 0 [some (rf E 99), some (.int zx1)] [] H := by
  refine rn_aload_n dX10_loadOf_0 rfl ?_
  refine rn_iload_n dX10_loadOf_1 rfl ?_
  refine rm_callV (c0 := 99) (As := [.int zx1]) (st := []) mlRX10_221 mdX10_runsTold (Nat.le_of_ble_eq_true rfl) rfl (by decide) (by decide) rfl rfl rfl (Nat.le_of_ble_eq_true rfl) ⟨Nat.le_refl _, Nat.le_refl _⟩ dX10_loadOf_2 ?_
  refine cm_mono hF (fun w zH_1 hF => ?_)
  obtain ⟨rfl, hF⟩ := hF
  refine rn_aload_n dX10_loadOf_5 rfl ?_
  refine rm_callV (c0 := 99) (As := []) (st := []) mlRX10_185 mdX10_loadNow (Nat.le_of_ble_eq_true rfl) rfl (by decide) (by decide) rfl rfl rfl (Nat.le_of_ble_eq_true rfl) ⟨Nat.le_refl _, Nat.le_refl _⟩ dX10_loadOf_6 ?_
  refine cm_mono hF (fun w zH_2 hF => ?_)
  obtain ⟨zr_3, rfl, hF⟩ := hF
  exact rm_iret rfl dX10_loadOf_9 hF
theorem cmX10_loadOf {E : En} {Q : Option Value → Hi → Prop} {H : Hi} {zx1 : Int32} 
    (hF : Cm E mX10_runsTold [rf E 99, .int zx1] H (fun w zH_1 => w = none ∧ (Cm E mX10_loadNow [rf E 99] zH_1 (fun w zH_2 => ∃ zr_3 : Int32, w = some (.int zr_3) ∧ (Q (some (.int zr_3)) zH_2))))) :
    Cm E mX10_loadOf [rf E 99, .int zx1] H Q :=
  cm_of (by decide +kernel : plainName RX10 = true) (Nat.le_of_ble_eq_true rfl) rfl (sgX10_loadOf_0  hF)
theorem sgX10_load_0 {E : En} {Q : Option Value → Hi → Prop} {H : Hi} {zx1 : Int32} 
    (hF : Cm E mX10_isHour [.int zx1] H (fun w zH_1 => ∃ zr_2 : Int32, w = some (.int zr_2) ∧ ((zr_2 = 0 → (Q (some (.int (-2 : Int32))) zH_1)) ∧ (¬ zr_2 = 0 → (Cm E mX10_loadOf [rf E 99, .int zx1] zH_1 (fun w zH_4 => ∃ zr_5 : Int32, w = some (.int zr_5) ∧ (Q (some (.int zr_5)) zH_4))))))) :
    Rm E mX10_load Q 0 [some (rf E 99), some (.int zx1)] [] H := by
  refine rn_iload_n dX10_load_0 rfl ?_
  refine rm_callS (As := [.int zx1]) (st := []) mlRX10_160 mdX10_isHour (Nat.le_of_ble_eq_true rfl) rfl rfl (Nat.le_of_ble_eq_true rfl) ⟨Nat.le_refl _, Nat.le_refl _⟩ dX10_load_1 ?_
  refine cm_mono hF (fun w zH_1 hF => ?_)
  obtain ⟨zr_2, rfl, hF⟩ := hF
  refine rn_if_eq (tgt := 15) dX10_load_4 (by decide) (fun hc_3 => ?_) (fun hc_3 => ?_)
  · replace hF := hF.1 hc_3
    refine rn_bipush (x := (-2 : Int32)) dX10_load_15 (by decide) ?_
    exact rm_iret rfl dX10_load_17 hF
  · replace hF := hF.2 hc_3
    refine rn_aload_n dX10_load_7 rfl ?_
    refine rn_iload_n dX10_load_8 rfl ?_
    refine rm_callV (c0 := 99) (As := [.int zx1]) (st := []) mlRX10_230 mdX10_loadOf (Nat.le_of_ble_eq_true rfl) rfl (by decide) (by decide) rfl rfl rfl (Nat.le_of_ble_eq_true rfl) ⟨Nat.le_refl _, Nat.le_refl _⟩ dX10_load_9 ?_
    refine cm_mono hF (fun w zH_4 hF => ?_)
    obtain ⟨zr_5, rfl, hF⟩ := hF
    refine rn_goto (tgt := 17) dX10_load_12 (by decide) ?_
    exact rm_iret rfl dX10_load_17 hF
theorem cmX10_load {E : En} {Q : Option Value → Hi → Prop} {H : Hi} {zx1 : Int32} 
    (hF : Cm E mX10_isHour [.int zx1] H (fun w zH_1 => ∃ zr_2 : Int32, w = some (.int zr_2) ∧ ((zr_2 = 0 → (Q (some (.int (-2 : Int32))) zH_1)) ∧ (¬ zr_2 = 0 → (Cm E mX10_loadOf [rf E 99, .int zx1] zH_1 (fun w zH_4 => ∃ zr_5 : Int32, w = some (.int zr_5) ∧ (Q (some (.int zr_5)) zH_4))))))) :
    Cm E mX10_load [rf E 99, .int zx1] H Q :=
  cm_of (by decide +kernel : plainName RX10 = true) (Nat.le_of_ble_eq_true rfl) rfl (sgX10_load_0  hF)
theorem sgX10_happyOf_0 {E : En} {Q : Option Value → Hi → Prop} {H : Hi} {zx1 : Int32} 
    (hF : Cm E mX10_runsTold [rf E 99, .int zx1] H (fun w zH_1 => w = none ∧ (Rm E mX10_happyOf Q 9 [some (rf E 99), none, some (.int (0 : Int32)), some (.int (0 : Int32))] [] zH_1))) :
    Rm E mX10_happyOf Q 0 [some (rf E 99), some (.int zx1), none, none] [] H := by
  refine rn_aload_n dX10_happyOf_0 rfl ?_
  refine rn_iload_n dX10_happyOf_1 rfl ?_
  refine rm_callV (c0 := 99) (As := [.int zx1]) (st := []) mlRX10_221 mdX10_runsTold (Nat.le_of_ble_eq_true rfl) rfl (by decide) (by decide) rfl rfl rfl (Nat.le_of_ble_eq_true rfl) ⟨Nat.le_refl _, Nat.le_refl _⟩ dX10_happyOf_2 ?_
  refine cm_mono hF (fun w zH_1 hF => ?_)
  obtain ⟨rfl, hF⟩ := hF
  refine rn_iconst (x := (0 : Int32)) dX10_happyOf_5 (by decide) ?_
  refine ra_istore_n dX10_happyOf_6 rfl (Nat.le_of_ble_eq_true rfl) ?_
  show Rn _ _ _ _ _ _ _ _ [some (rf E 99), some (.int zx1), some (.int (0 : Int32)), none] _ _ _
  refine rn_iconst (x := (0 : Int32)) dX10_happyOf_7 (by decide) ?_
  refine ra_istore_n dX10_happyOf_8 rfl (Nat.le_of_ble_eq_true rfl) ?_
  show Rn _ _ _ _ _ _ _ _ [some (rf E 99), some (.int zx1), some (.int (0 : Int32)), some (.int (0 : Int32))] _ _ _
  exact rn_wk (L' := [some (rf E 99), none, some (.int (0 : Int32)), some (.int (0 : Int32))]) (⟨rfl, ⟨rfl, ⟨rfl, trivial⟩⟩⟩) hF
theorem cmX10_happyOf {E : En} {Q : Option Value → Hi → Prop} {H : Hi} {zx1 : Int32} 
    (hF : Cm E mX10_runsTold [rf E 99, .int zx1] H (fun w zH_1 => w = none ∧ (Rm E mX10_happyOf Q 9 [some (rf E 99), none, some (.int (0 : Int32)), some (.int (0 : Int32))] [] zH_1))) :
    Cm E mX10_happyOf [rf E 99, .int zx1] H Q :=
  cm_of (by decide +kernel : plainName RX10 = true) (Nat.le_of_ble_eq_true rfl) rfl (sgX10_happyOf_0  hF)
theorem sgX10_happyOf_9 {E : En} {Q : Option Value → Hi → Prop} {H : Hi} {zx2 : Int32} {zx3 : Int32} 
    (hF : ((H 99 6) ≤ zx3 → (Q (some (.int zx2)) H)) ∧ (¬ (H 99 6) ≤ zx3 → (∃ zj_2 : Nat, (zj_2 < 9 ∧ zx3 = nI zj_2) ∧ (Cm E mX10_in [.int (H 106 zj_2), .int (0 : Int32), .int ((H 99 2) - (1 : Int32))] H (fun w zH_3 => ∃ zr_4 : Int32, w = some (.int zr_4) ∧ ((zr_4 = 0 → (∀ zx2_6 : Int32, zx2_6 = zx2 ||| (0 : Int32) → (∀ zx3_7 : Int32, zx3_7 = zx3 + (1 : Int32) → (Rm E mX10_happyOf Q 9 [some (rf E 99), none, some (.int zx2_6), some (.int zx3_7)] [] zH_3)))) ∧ (¬ zr_4 = 0 → (∃ zj_8 : Nat, (zj_8 < 9 ∧ zx3 = nI zj_8) ∧ (∃ zj_9 : Nat, (zj_9 < 8 ∧ zH_3 106 zj_8 = nI zj_9) ∧ ((¬ (zH_3 111 zj_9) = zx3 → (∀ zx2_11 : Int32, zx2_11 = zx2 ||| (0 : Int32) → (∀ zx3_12 : Int32, zx3_12 = zx3 + (1 : Int32) → (Rm E mX10_happyOf Q 9 [some (rf E 99), none, some (.int zx2_11), some (.int zx3_12)] [] zH_3)))) ∧ ((zH_3 111 zj_9) = zx3 → (∀ zx2_13 : Int32, zx2_13 = zx2 ||| ((1 : Int32) <<< (zx3 &&& 31)) → (∀ zx3_14 : Int32, zx3_14 = zx3 + (1 : Int32) → (Rm E mX10_happyOf Q 9 [some (rf E 99), none, some (.int zx2_13), some (.int zx3_14)] [] zH_3)))))))))))))) :
    Rm E mX10_happyOf Q 9 [some (rf E 99), none, some (.int zx2), some (.int zx3)] [] H := by
  refine rn_iload_n dX10_happyOf_9 rfl ?_
  refine rn_aload_n dX10_happyOf_10 rfl ?_
  refine rm_geti flRX10_128 rfl (by decide) rfl dX10_happyOf_11 ?_
  refine rn_icmp_ge (tgt := 67) dX10_happyOf_14 (by decide) (fun hc_1 => ?_) (fun hc_1 => ?_)
  · replace hF := hF.1 hc_1
    refine rn_iload_n dX10_happyOf_67 rfl ?_
    exact rm_iret rfl dX10_happyOf_68 hF
  · replace hF := hF.2 hc_1
    refine rn_iload_n dX10_happyOf_17 rfl ?_
    refine rn_aload_n dX10_happyOf_18 rfl ?_
    refine rm_getr (r := 106) flRX10_28 rfl (by decide) rfl dX10_happyOf_19 ?_
    refine rn_iload_n dX10_happyOf_22 rfl ?_
    obtain ⟨zj_2, hzj_2, hF⟩ := hF
    refine rj_iald (j := zj_2) hzj_2 rfl (by decide) rfl (by decide) dX10_happyOf_23 ?_
    refine rn_iconst (x := (0 : Int32)) dX10_happyOf_24 (by decide) ?_
    refine rn_aload_n dX10_happyOf_25 rfl ?_
    refine rm_geti flRX10_125 rfl (by decide) rfl dX10_happyOf_26 ?_
    refine rn_iconst (x := (1 : Int32)) dX10_happyOf_29 (by decide) ?_
    refine rn_isub dX10_happyOf_30 ?_
    refine rm_callS (As := [.int (H 106 zj_2), .int (0 : Int32), .int ((H 99 2) - (1 : Int32))]) (st := [.int zx2]) mlRX10_110 mdX10_in (Nat.le_of_ble_eq_true rfl) rfl rfl (Nat.le_of_ble_eq_true rfl) ⟨Nat.le_refl _, Nat.le_refl _⟩ dX10_happyOf_31 ?_
    refine cm_mono hF (fun w zH_3 hF => ?_)
    obtain ⟨zr_4, rfl, hF⟩ := hF
    refine rn_if_eq (tgt := 58) dX10_happyOf_34 (by decide) (fun hc_5 => ?_) (fun hc_5 => ?_)
    · replace hF := hF.1 hc_5
      refine rn_iconst (x := (0 : Int32)) dX10_happyOf_58 (by decide) ?_
      refine rn_ior dX10_happyOf_59 ?_
      refine rn_istore_n dX10_happyOf_60 rfl (Nat.le_of_ble_eq_true rfl) (fun zx2_6 ezx2_6 => ?_)
      replace hF := hF zx2_6 ezx2_6
      show Rn _ _ _ _ _ _ _ _ [some (rf E 99), none, some (.int zx2_6), some (.int zx3)] _ _ _
      refine rn_iinc (w := (1 : Int32)) dX10_happyOf_61 rfl (by decide) rfl (Nat.le_of_ble_eq_true rfl) (fun zx3_7 ezx3_7 => ?_)
      replace hF := hF zx3_7 ezx3_7
      show Rn _ _ _ _ _ _ _ _ [some (rf E 99), none, some (.int zx2_6), some (.int zx3_7)] _ _ _
      refine rn_goto (tgt := 9) dX10_happyOf_64 (by decide) ?_
      exact rn_wk (L' := [some (rf E 99), none, some (.int zx2_6), some (.int zx3_7)]) (⟨rfl, ⟨rfl, ⟨rfl, trivial⟩⟩⟩) hF
    · replace hF := hF.2 hc_5
      refine rn_aload_n dX10_happyOf_37 rfl ?_
      refine rm_getr (r := 111) flRX10_43 rfl (by decide) rfl dX10_happyOf_38 ?_
      refine rn_aload_n dX10_happyOf_41 rfl ?_
      refine rm_getr (r := 106) flRX10_28 rfl (by decide) rfl dX10_happyOf_42 ?_
      refine rn_iload_n dX10_happyOf_45 rfl ?_
      obtain ⟨zj_8, hzj_8, hF⟩ := hF
      refine rj_iald (j := zj_8) hzj_8 rfl (by decide) rfl (by decide) dX10_happyOf_46 ?_
      obtain ⟨zj_9, hzj_9, hF⟩ := hF
      refine rj_iald (j := zj_9) hzj_9 rfl (by decide) rfl (by decide) dX10_happyOf_47 ?_
      refine rn_iload_n dX10_happyOf_48 rfl ?_
      refine rn_icmp_ne (tgt := 58) dX10_happyOf_49 (by decide) (fun hc_10 => ?_) (fun hc_10 => ?_)
      · replace hF := hF.1 hc_10
        refine rn_iconst (x := (0 : Int32)) dX10_happyOf_58 (by decide) ?_
        refine rn_ior dX10_happyOf_59 ?_
        refine rn_istore_n dX10_happyOf_60 rfl (Nat.le_of_ble_eq_true rfl) (fun zx2_11 ezx2_11 => ?_)
        replace hF := hF zx2_11 ezx2_11
        show Rn _ _ _ _ _ _ _ _ [some (rf E 99), none, some (.int zx2_11), some (.int zx3)] _ _ _
        refine rn_iinc (w := (1 : Int32)) dX10_happyOf_61 rfl (by decide) rfl (Nat.le_of_ble_eq_true rfl) (fun zx3_12 ezx3_12 => ?_)
        replace hF := hF zx3_12 ezx3_12
        show Rn _ _ _ _ _ _ _ _ [some (rf E 99), none, some (.int zx2_11), some (.int zx3_12)] _ _ _
        refine rn_goto (tgt := 9) dX10_happyOf_64 (by decide) ?_
        exact rn_wk (L' := [some (rf E 99), none, some (.int zx2_11), some (.int zx3_12)]) (⟨rfl, ⟨rfl, ⟨rfl, trivial⟩⟩⟩) hF
      · replace hF := hF.2 hc_10
        refine rn_iconst (x := (1 : Int32)) dX10_happyOf_52 (by decide) ?_
        refine rn_iload_n dX10_happyOf_53 rfl ?_
        refine rn_ishl dX10_happyOf_54 ?_
        refine rn_goto (tgt := 59) dX10_happyOf_55 (by decide) ?_
        refine rn_ior dX10_happyOf_59 ?_
        refine rn_istore_n dX10_happyOf_60 rfl (Nat.le_of_ble_eq_true rfl) (fun zx2_13 ezx2_13 => ?_)
        replace hF := hF zx2_13 ezx2_13
        show Rn _ _ _ _ _ _ _ _ [some (rf E 99), none, some (.int zx2_13), some (.int zx3)] _ _ _
        refine rn_iinc (w := (1 : Int32)) dX10_happyOf_61 rfl (by decide) rfl (Nat.le_of_ble_eq_true rfl) (fun zx3_14 ezx3_14 => ?_)
        replace hF := hF zx3_14 ezx3_14
        show Rn _ _ _ _ _ _ _ _ [some (rf E 99), none, some (.int zx2_13), some (.int zx3_14)] _ _ _
        refine rn_goto (tgt := 9) dX10_happyOf_64 (by decide) ?_
        exact rn_wk (L' := [some (rf E 99), none, some (.int zx2_13), some (.int zx3_14)]) (⟨rfl, ⟨rfl, ⟨rfl, trivial⟩⟩⟩) hF
theorem sgX10_happy_0 {E : En} {Q : Option Value → Hi → Prop} {H : Hi} {zx1 : Int32} 
    (hF : Cm E mX10_isHour [.int zx1] H (fun w zH_1 => ∃ zr_2 : Int32, w = some (.int zr_2) ∧ ((zr_2 = 0 → (Q (some (.int (-2 : Int32))) zH_1)) ∧ (¬ zr_2 = 0 → (Cm E mX10_happyOf [rf E 99, .int zx1] zH_1 (fun w zH_4 => ∃ zr_5 : Int32, w = some (.int zr_5) ∧ (Q (some (.int zr_5)) zH_4))))))) :
    Rm E mX10_happy Q 0 [some (rf E 99), some (.int zx1)] [] H := by
  refine rn_iload_n dX10_happy_0 rfl ?_
  refine rm_callS (As := [.int zx1]) (st := []) mlRX10_160 mdX10_isHour (Nat.le_of_ble_eq_true rfl) rfl rfl (Nat.le_of_ble_eq_true rfl) ⟨Nat.le_refl _, Nat.le_refl _⟩ dX10_happy_1 ?_
  refine cm_mono hF (fun w zH_1 hF => ?_)
  obtain ⟨zr_2, rfl, hF⟩ := hF
  refine rn_if_eq (tgt := 15) dX10_happy_4 (by decide) (fun hc_3 => ?_) (fun hc_3 => ?_)
  · replace hF := hF.1 hc_3
    refine rn_bipush (x := (-2 : Int32)) dX10_happy_15 (by decide) ?_
    exact rm_iret rfl dX10_happy_17 hF
  · replace hF := hF.2 hc_3
    refine rn_aload_n dX10_happy_7 rfl ?_
    refine rn_iload_n dX10_happy_8 rfl ?_
    refine rm_callV (c0 := 99) (As := [.int zx1]) (st := []) mlRX10_233 mdX10_happyOf (Nat.le_of_ble_eq_true rfl) rfl (by decide) (by decide) rfl rfl rfl (Nat.le_of_ble_eq_true rfl) ⟨Nat.le_refl _, Nat.le_refl _⟩ dX10_happy_9 ?_
    refine cm_mono hF (fun w zH_4 hF => ?_)
    obtain ⟨zr_5, rfl, hF⟩ := hF
    refine rn_goto (tgt := 17) dX10_happy_12 (by decide) ?_
    exact rm_iret rfl dX10_happy_17 hF
theorem cmX10_happy {E : En} {Q : Option Value → Hi → Prop} {H : Hi} {zx1 : Int32} 
    (hF : Cm E mX10_isHour [.int zx1] H (fun w zH_1 => ∃ zr_2 : Int32, w = some (.int zr_2) ∧ ((zr_2 = 0 → (Q (some (.int (-2 : Int32))) zH_1)) ∧ (¬ zr_2 = 0 → (Cm E mX10_happyOf [rf E 99, .int zx1] zH_1 (fun w zH_4 => ∃ zr_5 : Int32, w = some (.int zr_5) ∧ (Q (some (.int zr_5)) zH_4))))))) :
    Cm E mX10_happy [rf E 99, .int zx1] H Q :=
  cm_of (by decide +kernel : plainName RX10 = true) (Nat.le_of_ble_eq_true rfl) rfl (sgX10_happy_0  hF)
theorem sgX10_worksOf_0 {E : En} {Q : Option Value → Hi → Prop} {H : Hi} {zx1 : Int32} 
    (hF : Cm E mX10_runsTold [rf E 99, .int (23 : Int32)] H (fun w zH_1 => w = none ∧ (∃ zj_2 : Nat, (zj_2 < 44 ∧ zx1 = nI zj_2) ∧ (((zH_1 115 zj_2) = 0 → (Q (some (.int (0 : Int32))) zH_1)) ∧ (¬ (zH_1 115 zj_2) = 0 → (Q (some (.int (1 : Int32))) zH_1)))))) :
    Rm E mX10_worksOf Q 0 [some (rf E 99), some (.int zx1)] [] H := by
  refine rn_aload_n dX10_worksOf_0 rfl ?_
  refine rn_bipush (x := (23 : Int32)) dX10_worksOf_1 (by decide) ?_
  refine rm_callV (c0 := 99) (As := [.int (23 : Int32)]) (st := []) mlRX10_221 mdX10_runsTold (Nat.le_of_ble_eq_true rfl) rfl (by decide) (by decide) rfl rfl rfl (Nat.le_of_ble_eq_true rfl) ⟨Nat.le_refl _, Nat.le_refl _⟩ dX10_worksOf_3 ?_
  refine cm_mono hF (fun w zH_1 hF => ?_)
  obtain ⟨rfl, hF⟩ := hF
  refine rn_aload_n dX10_worksOf_6 rfl ?_
  refine rm_getr (r := 115) flRX10_55 rfl (by decide) rfl dX10_worksOf_7 ?_
  refine rn_iload_n dX10_worksOf_10 rfl ?_
  obtain ⟨zj_2, hzj_2, hF⟩ := hF
  refine rj_zald (j := zj_2) hzj_2 rfl (by decide) rfl (by decide) dX10_worksOf_11 ?_
  refine rn_if_eq (tgt := 19) dX10_worksOf_12 (by decide) (fun hc_3 => ?_) (fun hc_3 => ?_)
  · replace hF := hF.1 hc_3
    refine rn_iconst (x := (0 : Int32)) dX10_worksOf_19 (by decide) ?_
    exact rm_iret rfl dX10_worksOf_20 hF
  · replace hF := hF.2 hc_3
    refine rn_iconst (x := (1 : Int32)) dX10_worksOf_15 (by decide) ?_
    refine rn_goto (tgt := 20) dX10_worksOf_16 (by decide) ?_
    exact rm_iret rfl dX10_worksOf_20 hF
theorem cmX10_worksOf {E : En} {Q : Option Value → Hi → Prop} {H : Hi} {zx1 : Int32} 
    (hF : Cm E mX10_runsTold [rf E 99, .int (23 : Int32)] H (fun w zH_1 => w = none ∧ (∃ zj_2 : Nat, (zj_2 < 44 ∧ zx1 = nI zj_2) ∧ (((zH_1 115 zj_2) = 0 → (Q (some (.int (0 : Int32))) zH_1)) ∧ (¬ (zH_1 115 zj_2) = 0 → (Q (some (.int (1 : Int32))) zH_1)))))) :
    Cm E mX10_worksOf [rf E 99, .int zx1] H Q :=
  cm_of (by decide +kernel : plainName RX10 = true) (Nat.le_of_ble_eq_true rfl) rfl (sgX10_worksOf_0  hF)
theorem sgX10_works_0 {E : En} {Q : Option Value → Hi → Prop} {H : Hi} {zx1 : Int32} 
    (hF : Cm E mX10_in [.int zx1, .int (0 : Int32), .int ((H 99 11) - (1 : Int32))] H (fun w zH_1 => ∃ zr_2 : Int32, w = some (.int zr_2) ∧ ((zr_2 = 0 → (Q (some (.int (-2 : Int32))) zH_1)) ∧ (¬ zr_2 = 0 → (Cm E mX10_worksOf [rf E 99, .int zx1] zH_1 (fun w zH_4 => ∃ zr_5 : Int32, w = some (.int zr_5) ∧ (Q (some (.int zr_5)) zH_4))))))) :
    Rm E mX10_works Q 0 [some (rf E 99), some (.int zx1)] [] H := by
  refine rn_iload_n dX10_works_0 rfl ?_
  refine rn_iconst (x := (0 : Int32)) dX10_works_1 (by decide) ?_
  refine rn_aload_n dX10_works_2 rfl ?_
  refine rm_geti flRX10_163 rfl (by decide) rfl dX10_works_3 ?_
  refine rn_iconst (x := (1 : Int32)) dX10_works_6 (by decide) ?_
  refine rn_isub dX10_works_7 ?_
  refine rm_callS (As := [.int zx1, .int (0 : Int32), .int ((H 99 11) - (1 : Int32))]) (st := []) mlRX10_110 mdX10_in (Nat.le_of_ble_eq_true rfl) rfl rfl (Nat.le_of_ble_eq_true rfl) ⟨Nat.le_refl _, Nat.le_refl _⟩ dX10_works_8 ?_
  refine cm_mono hF (fun w zH_1 hF => ?_)
  obtain ⟨zr_2, rfl, hF⟩ := hF
  refine rn_if_eq (tgt := 22) dX10_works_11 (by decide) (fun hc_3 => ?_) (fun hc_3 => ?_)
  · replace hF := hF.1 hc_3
    refine rn_bipush (x := (-2 : Int32)) dX10_works_22 (by decide) ?_
    exact rm_iret rfl dX10_works_24 hF
  · replace hF := hF.2 hc_3
    refine rn_aload_n dX10_works_14 rfl ?_
    refine rn_iload_n dX10_works_15 rfl ?_
    refine rm_callV (c0 := 99) (As := [.int zx1]) (st := []) mlRX10_236 mdX10_worksOf (Nat.le_of_ble_eq_true rfl) rfl (by decide) (by decide) rfl rfl rfl (Nat.le_of_ble_eq_true rfl) ⟨Nat.le_refl _, Nat.le_refl _⟩ dX10_works_16 ?_
    refine cm_mono hF (fun w zH_4 hF => ?_)
    obtain ⟨zr_5, rfl, hF⟩ := hF
    refine rn_goto (tgt := 24) dX10_works_19 (by decide) ?_
    exact rm_iret rfl dX10_works_24 hF
theorem cmX10_works {E : En} {Q : Option Value → Hi → Prop} {H : Hi} {zx1 : Int32} 
    (hF : Cm E mX10_in [.int zx1, .int (0 : Int32), .int ((H 99 11) - (1 : Int32))] H (fun w zH_1 => ∃ zr_2 : Int32, w = some (.int zr_2) ∧ ((zr_2 = 0 → (Q (some (.int (-2 : Int32))) zH_1)) ∧ (¬ zr_2 = 0 → (Cm E mX10_worksOf [rf E 99, .int zx1] zH_1 (fun w zH_4 => ∃ zr_5 : Int32, w = some (.int zr_5) ∧ (Q (some (.int zr_5)) zH_4))))))) :
    Cm E mX10_works [rf E 99, .int zx1] H Q :=
  cm_of (by decide +kernel : plainName RX10 = true) (Nat.le_of_ble_eq_true rfl) rfl (sgX10_works_0  hF)
theorem sgX10_failsNow_0 {E : En} {Q : Option Value → Hi → Prop} {H : Hi}  
    (hF : Cm E mX10_runsTold [rf E 99, .int (23 : Int32)] H (fun w zH_1 => w = none ∧ (Rm E mX10_failsNow Q 10 [some (rf E 99), some (.int (-1 : Int32)), some (.int (0 : Int32))] [] zH_1))) :
    Rm E mX10_failsNow Q 0 [some (rf E 99), none, none] [] H := by
  refine rn_aload_n dX10_failsNow_0 rfl ?_
  refine rn_bipush (x := (23 : Int32)) dX10_failsNow_1 (by decide) ?_
  refine rm_callV (c0 := 99) (As := [.int (23 : Int32)]) (st := []) mlRX10_221 mdX10_runsTold (Nat.le_of_ble_eq_true rfl) rfl (by decide) (by decide) rfl rfl rfl (Nat.le_of_ble_eq_true rfl) ⟨Nat.le_refl _, Nat.le_refl _⟩ dX10_failsNow_3 ?_
  refine cm_mono hF (fun w zH_1 hF => ?_)
  obtain ⟨rfl, hF⟩ := hF
  refine rn_iconst (x := (-1 : Int32)) dX10_failsNow_6 (by decide) ?_
  refine ra_istore_n dX10_failsNow_7 rfl (Nat.le_of_ble_eq_true rfl) ?_
  show Rn _ _ _ _ _ _ _ _ [some (rf E 99), some (.int (-1 : Int32)), none] _ _ _
  refine rn_iconst (x := (0 : Int32)) dX10_failsNow_8 (by decide) ?_
  refine ra_istore_n dX10_failsNow_9 rfl (Nat.le_of_ble_eq_true rfl) ?_
  show Rn _ _ _ _ _ _ _ _ [some (rf E 99), some (.int (-1 : Int32)), some (.int (0 : Int32))] _ _ _
  exact rn_wk (L' := [some (rf E 99), some (.int (-1 : Int32)), some (.int (0 : Int32))]) (⟨rfl, ⟨rfl, ⟨rfl, trivial⟩⟩⟩) hF
theorem cmX10_failsNow {E : En} {Q : Option Value → Hi → Prop} {H : Hi}  
    (hF : Cm E mX10_runsTold [rf E 99, .int (23 : Int32)] H (fun w zH_1 => w = none ∧ (Rm E mX10_failsNow Q 10 [some (rf E 99), some (.int (-1 : Int32)), some (.int (0 : Int32))] [] zH_1))) :
    Cm E mX10_failsNow [rf E 99] H Q :=
  cm_of (by decide +kernel : plainName RX10 = true) (Nat.le_of_ble_eq_true rfl) rfl (sgX10_failsNow_0  hF)
theorem sgX10_failsNow_10 {E : En} {Q : Option Value → Hi → Prop} {H : Hi} {zx1 : Int32} {zx2 : Int32} 
    (hF : ((H 99 11) ≤ zx2 → (Q (some (.int zx1)) H)) ∧ (¬ (H 99 11) ≤ zx2 → (∃ zj_2 : Nat, (zj_2 < 44 ∧ zx2 = nI zj_2) ∧ ((¬ (H 115 zj_2) = 0 → (∀ zx2_5 : Int32, zx2_5 = zx2 + (1 : Int32) → (Rm E mX10_failsNow Q 10 [some (rf E 99), some (.int zx1), some (.int zx2_5)] [] H))) ∧ ((H 115 zj_2) = 0 → ((zx1 = (-1 : Int32) → (∀ zx2_8 : Int32, zx2_8 = zx2 + (1 : Int32) → (Rm E mX10_failsNow Q 10 [some (rf E 99), some (.int zx2), some (.int zx2_8)] [] H))) ∧ (¬ zx1 = (-1 : Int32) → (∃ zj_9 : Nat, (zj_9 < 44 ∧ zx2 = nI zj_9) ∧ (∃ zj_10 : Nat, (zj_10 < 44 ∧ zx1 = nI zj_10) ∧ (((H 107 zj_10) ≤ (H 107 zj_9) → (∀ zx2_13 : Int32, zx2_13 = zx2 + (1 : Int32) → (Rm E mX10_failsNow Q 10 [some (rf E 99), some (.int zx1), some (.int zx2_13)] [] H))) ∧ (¬ (H 107 zj_10) ≤ (H 107 zj_9) → (∀ zx2_15 : Int32, zx2_15 = zx2 + (1 : Int32) → (Rm E mX10_failsNow Q 10 [some (rf E 99), some (.int zx2), some (.int zx2_15)] [] H))))))))))))) :
    Rm E mX10_failsNow Q 10 [some (rf E 99), some (.int zx1), some (.int zx2)] [] H := by
  refine rn_iload_n dX10_failsNow_10 rfl ?_
  refine rn_aload_n dX10_failsNow_11 rfl ?_
  refine rm_geti flRX10_163 rfl (by decide) rfl dX10_failsNow_12 ?_
  refine rn_icmp_ge (tgt := 59) dX10_failsNow_15 (by decide) (fun hc_1 => ?_) (fun hc_1 => ?_)
  · replace hF := hF.1 hc_1
    refine rn_iload_n dX10_failsNow_59 rfl ?_
    exact rm_iret rfl dX10_failsNow_60 hF
  · replace hF := hF.2 hc_1
    refine rn_aload_n dX10_failsNow_18 rfl ?_
    refine rm_getr (r := 115) flRX10_55 rfl (by decide) rfl dX10_failsNow_19 ?_
    refine rn_iload_n dX10_failsNow_22 rfl ?_
    obtain ⟨zj_2, hzj_2, hF⟩ := hF
    refine rj_zald (j := zj_2) hzj_2 rfl (by decide) rfl (by decide) dX10_failsNow_23 ?_
    refine rn_if_ne (tgt := 51) dX10_failsNow_24 (by decide) (fun hc_3 => ?_) (fun hc_3 => ?_)
    · replace hF := hF.1 hc_3
      refine rn_iload_n dX10_failsNow_51 rfl ?_
      refine ra_istore_n dX10_failsNow_52 rfl (Nat.le_of_ble_eq_true rfl) ?_
      show Rn _ _ _ _ _ _ _ _ [some (rf E 99), some (.int zx1), some (.int zx2)] _ _ _
      refine rn_iinc (w := (1 : Int32)) dX10_failsNow_53 rfl (by decide) rfl (Nat.le_of_ble_eq_true rfl) (fun zx2_5 ezx2_5 => ?_)
      replace hF := hF zx2_5 ezx2_5
      show Rn _ _ _ _ _ _ _ _ [some (rf E 99), some (.int zx1), some (.int zx2_5)] _ _ _
      refine rn_goto (tgt := 10) dX10_failsNow_56 (by decide) ?_
      exact rn_wk (L' := [some (rf E 99), some (.int zx1), some (.int zx2_5)]) (⟨rfl, ⟨rfl, ⟨rfl, trivial⟩⟩⟩) hF
    · replace hF := hF.2 hc_3
      refine rn_iload_n dX10_failsNow_27 rfl ?_
      refine rn_iconst (x := (-1 : Int32)) dX10_failsNow_28 (by decide) ?_
      refine rn_icmp_eq (tgt := 47) dX10_failsNow_29 (by decide) (fun hc_6 => ?_) (fun hc_6 => ?_)
      · replace hF := hF.1 hc_6
        refine rn_iload_n dX10_failsNow_47 rfl ?_
        refine rn_goto (tgt := 52) dX10_failsNow_48 (by decide) ?_
        refine ra_istore_n dX10_failsNow_52 rfl (Nat.le_of_ble_eq_true rfl) ?_
        show Rn _ _ _ _ _ _ _ _ [some (rf E 99), some (.int zx2), some (.int zx2)] _ _ _
        refine rn_iinc (w := (1 : Int32)) dX10_failsNow_53 rfl (by decide) rfl (Nat.le_of_ble_eq_true rfl) (fun zx2_8 ezx2_8 => ?_)
        replace hF := hF zx2_8 ezx2_8
        show Rn _ _ _ _ _ _ _ _ [some (rf E 99), some (.int zx2), some (.int zx2_8)] _ _ _
        refine rn_goto (tgt := 10) dX10_failsNow_56 (by decide) ?_
        exact rn_wk (L' := [some (rf E 99), some (.int zx2), some (.int zx2_8)]) (⟨rfl, ⟨rfl, ⟨rfl, trivial⟩⟩⟩) hF
      · replace hF := hF.2 hc_6
        refine rn_aload_n dX10_failsNow_32 rfl ?_
        refine rm_getr (r := 107) flRX10_31 rfl (by decide) rfl dX10_failsNow_33 ?_
        refine rn_iload_n dX10_failsNow_36 rfl ?_
        obtain ⟨zj_9, hzj_9, hF⟩ := hF
        refine rj_iald (j := zj_9) hzj_9 rfl (by decide) rfl (by decide) dX10_failsNow_37 ?_
        refine rn_aload_n dX10_failsNow_38 rfl ?_
        refine rm_getr (r := 107) flRX10_31 rfl (by decide) rfl dX10_failsNow_39 ?_
        refine rn_iload_n dX10_failsNow_42 rfl ?_
        obtain ⟨zj_10, hzj_10, hF⟩ := hF
        refine rj_iald (j := zj_10) hzj_10 rfl (by decide) rfl (by decide) dX10_failsNow_43 ?_
        refine rn_icmp_ge (tgt := 51) dX10_failsNow_44 (by decide) (fun hc_11 => ?_) (fun hc_11 => ?_)
        · replace hF := hF.1 hc_11
          refine rn_iload_n dX10_failsNow_51 rfl ?_
          refine ra_istore_n dX10_failsNow_52 rfl (Nat.le_of_ble_eq_true rfl) ?_
          show Rn _ _ _ _ _ _ _ _ [some (rf E 99), some (.int zx1), some (.int zx2)] _ _ _
          refine rn_iinc (w := (1 : Int32)) dX10_failsNow_53 rfl (by decide) rfl (Nat.le_of_ble_eq_true rfl) (fun zx2_13 ezx2_13 => ?_)
          replace hF := hF zx2_13 ezx2_13
          show Rn _ _ _ _ _ _ _ _ [some (rf E 99), some (.int zx1), some (.int zx2_13)] _ _ _
          refine rn_goto (tgt := 10) dX10_failsNow_56 (by decide) ?_
          exact rn_wk (L' := [some (rf E 99), some (.int zx1), some (.int zx2_13)]) (⟨rfl, ⟨rfl, ⟨rfl, trivial⟩⟩⟩) hF
        · replace hF := hF.2 hc_11
          refine rn_iload_n dX10_failsNow_47 rfl ?_
          refine rn_goto (tgt := 52) dX10_failsNow_48 (by decide) ?_
          refine ra_istore_n dX10_failsNow_52 rfl (Nat.le_of_ble_eq_true rfl) ?_
          show Rn _ _ _ _ _ _ _ _ [some (rf E 99), some (.int zx2), some (.int zx2)] _ _ _
          refine rn_iinc (w := (1 : Int32)) dX10_failsNow_53 rfl (by decide) rfl (Nat.le_of_ble_eq_true rfl) (fun zx2_15 ezx2_15 => ?_)
          replace hF := hF zx2_15 ezx2_15
          show Rn _ _ _ _ _ _ _ _ [some (rf E 99), some (.int zx2), some (.int zx2_15)] _ _ _
          refine rn_goto (tgt := 10) dX10_failsNow_56 (by decide) ?_
          exact rn_wk (L' := [some (rf E 99), some (.int zx2), some (.int zx2_15)]) (⟨rfl, ⟨rfl, ⟨rfl, trivial⟩⟩⟩) hF
theorem sgX10_fails_0 {E : En} {Q : Option Value → Hi → Prop} {H : Hi}  
    (hF : Cm E mX10_failsNow [rf E 99] H (fun w zH_1 => ∃ zr_2 : Int32, w = some (.int zr_2) ∧ (Q (some (.int zr_2)) zH_1))) :
    Rm E mX10_fails Q 0 [some (rf E 99)] [] H := by
  refine rn_aload_n dX10_fails_0 rfl ?_
  refine rm_callV (c0 := 99) (As := []) (st := []) mlRX10_239 mdX10_failsNow (Nat.le_of_ble_eq_true rfl) rfl (by decide) (by decide) rfl rfl rfl (Nat.le_of_ble_eq_true rfl) ⟨Nat.le_refl _, Nat.le_refl _⟩ dX10_fails_1 ?_
  refine cm_mono hF (fun w zH_1 hF => ?_)
  obtain ⟨zr_2, rfl, hF⟩ := hF
  exact rm_iret rfl dX10_fails_4 hF
theorem cmX10_fails {E : En} {Q : Option Value → Hi → Prop} {H : Hi}  
    (hF : Cm E mX10_failsNow [rf E 99] H (fun w zH_1 => ∃ zr_2 : Int32, w = some (.int zr_2) ∧ (Q (some (.int zr_2)) zH_1))) :
    Cm E mX10_fails [rf E 99] H Q :=
  cm_of (by decide +kernel : plainName RX10 = true) (Nat.le_of_ble_eq_true rfl) rfl (sgX10_fails_0  hF)
theorem sgX10_wentOf_0 {E : En} {Q : Option Value → Hi → Prop} {H : Hi} {zx1 : Int32} 
    (hF : Cm E mX10_reads [rf E 99] H (fun w zH_1 => w = none ∧ (Cm E mX10_asTold [rf E 99] zH_1 (fun w zH_2 => w = none ∧ (Cm E mX10_begins [rf E 99] zH_2 (fun w zH_3 => w = none ∧ (∃ zj_4 : Nat, (zj_4 < 8 ∧ zx1 = nI zj_4) ∧ ((¬ (zH_3 111 zj_4) = (9 : Int32) → (Rm E mX10_wentOf Q 27 [some (rf E 99), some (.int zx1), some (.int (0 : Int32))] [] zH_3)) ∧ ((zH_3 111 zj_4) = (9 : Int32) → (Q (some (.int (-1 : Int32))) zH_3)))))))))) :
    Rm E mX10_wentOf Q 0 [some (rf E 99), some (.int zx1), none] [] H := by
  refine rn_aload_n dX10_wentOf_0 rfl ?_
  refine rm_callV (c0 := 99) (As := []) (st := []) mlRX10_144 mdX10_reads (Nat.le_of_ble_eq_true rfl) rfl (by decide) (by decide) rfl rfl rfl (Nat.le_of_ble_eq_true rfl) ⟨Nat.le_refl _, Nat.le_refl _⟩ dX10_wentOf_1 ?_
  refine cm_mono hF (fun w zH_1 hF => ?_)
  obtain ⟨rfl, hF⟩ := hF
  refine rn_aload_n dX10_wentOf_4 rfl ?_
  refine rm_callV (c0 := 99) (As := []) (st := []) mlRX10_215 mdX10_asTold (Nat.le_of_ble_eq_true rfl) rfl (by decide) (by decide) rfl rfl rfl (Nat.le_of_ble_eq_true rfl) ⟨Nat.le_refl _, Nat.le_refl _⟩ dX10_wentOf_5 ?_
  refine cm_mono hF (fun w zH_2 hF => ?_)
  obtain ⟨rfl, hF⟩ := hF
  refine rn_aload_n dX10_wentOf_8 rfl ?_
  refine rm_callV (c0 := 99) (As := []) (st := []) mlRX10_209 mdX10_begins (Nat.le_of_ble_eq_true rfl) rfl (by decide) (by decide) rfl rfl rfl (Nat.le_of_ble_eq_true rfl) ⟨Nat.le_refl _, Nat.le_refl _⟩ dX10_wentOf_9 ?_
  refine cm_mono hF (fun w zH_3 hF => ?_)
  obtain ⟨rfl, hF⟩ := hF
  refine rn_aload_n dX10_wentOf_12 rfl ?_
  refine rm_getr (r := 111) flRX10_43 rfl (by decide) rfl dX10_wentOf_13 ?_
  refine rn_iload_n dX10_wentOf_16 rfl ?_
  obtain ⟨zj_4, hzj_4, hF⟩ := hF
  refine rj_iald (j := zj_4) hzj_4 rfl (by decide) rfl (by decide) dX10_wentOf_17 ?_
  refine rn_bipush (x := (9 : Int32)) dX10_wentOf_18 (by decide) ?_
  refine rn_icmp_ne (tgt := 25) dX10_wentOf_20 (by decide) (fun hc_5 => ?_) (fun hc_5 => ?_)
  · replace hF := hF.1 hc_5
    refine rn_iconst (x := (0 : Int32)) dX10_wentOf_25 (by decide) ?_
    refine ra_istore_n dX10_wentOf_26 rfl (Nat.le_of_ble_eq_true rfl) ?_
    show Rn _ _ _ _ _ _ _ _ [some (rf E 99), some (.int zx1), some (.int (0 : Int32))] _ _ _
    exact rn_wk (L' := [some (rf E 99), some (.int zx1), some (.int (0 : Int32))]) (⟨rfl, ⟨rfl, ⟨rfl, trivial⟩⟩⟩) hF
  · replace hF := hF.2 hc_5
    refine rn_iconst (x := (-1 : Int32)) dX10_wentOf_23 (by decide) ?_
    exact rm_iret rfl dX10_wentOf_24 hF
theorem cmX10_wentOf {E : En} {Q : Option Value → Hi → Prop} {H : Hi} {zx1 : Int32} 
    (hF : Cm E mX10_reads [rf E 99] H (fun w zH_1 => w = none ∧ (Cm E mX10_asTold [rf E 99] zH_1 (fun w zH_2 => w = none ∧ (Cm E mX10_begins [rf E 99] zH_2 (fun w zH_3 => w = none ∧ (∃ zj_4 : Nat, (zj_4 < 8 ∧ zx1 = nI zj_4) ∧ ((¬ (zH_3 111 zj_4) = (9 : Int32) → (Rm E mX10_wentOf Q 27 [some (rf E 99), some (.int zx1), some (.int (0 : Int32))] [] zH_3)) ∧ ((zH_3 111 zj_4) = (9 : Int32) → (Q (some (.int (-1 : Int32))) zH_3)))))))))) :
    Cm E mX10_wentOf [rf E 99, .int zx1] H Q :=
  cm_of (by decide +kernel : plainName RX10 = true) (Nat.le_of_ble_eq_true rfl) rfl (sgX10_wentOf_0  hF)
theorem sgX10_wentOf_27 {E : En} {Q : Option Value → Hi → Prop} {H : Hi} {zx1 : Int32} {zx2 : Int32} 
    (hF : ((24 : Int32) ≤ zx2 → (Q (some (.int (-1 : Int32))) H)) ∧ (¬ (24 : Int32) ≤ zx2 → (Cm E mX10_goesBy [rf E 99, .int zx2] H (fun w zH_2 => w = none ∧ (∃ zj_3 : Nat, (zj_3 < 8 ∧ zx1 = nI zj_3) ∧ ((¬ (zH_2 111 zj_3) = (9 : Int32) → (∀ zx2_5 : Int32, zx2_5 = zx2 + (1 : Int32) → (Rm E mX10_wentOf Q 27 [some (rf E 99), some (.int zx1), some (.int zx2_5)] [] zH_2))) ∧ ((zH_2 111 zj_3) = (9 : Int32) → (Q (some (.int zx2)) zH_2)))))))) :
    Rm E mX10_wentOf Q 27 [some (rf E 99), some (.int zx1), some (.int zx2)] [] H := by
  refine rn_iload_n dX10_wentOf_27 rfl ?_
  refine rn_bipush (x := (24 : Int32)) dX10_wentOf_28 (by decide) ?_
  refine rn_icmp_ge (tgt := 57) dX10_wentOf_30 (by decide) (fun hc_1 => ?_) (fun hc_1 => ?_)
  · replace hF := hF.1 hc_1
    refine rn_iconst (x := (-1 : Int32)) dX10_wentOf_57 (by decide) ?_
    exact rm_iret rfl dX10_wentOf_58 hF
  · replace hF := hF.2 hc_1
    refine rn_aload_n dX10_wentOf_33 rfl ?_
    refine rn_iload_n dX10_wentOf_34 rfl ?_
    refine rm_callV (c0 := 99) (As := [.int zx2]) (st := []) mlRX10_212 mdX10_goesBy (Nat.le_of_ble_eq_true rfl) rfl (by decide) (by decide) rfl rfl rfl (Nat.le_of_ble_eq_true rfl) ⟨Nat.le_refl _, Nat.le_refl _⟩ dX10_wentOf_35 ?_
    refine cm_mono hF (fun w zH_2 hF => ?_)
    obtain ⟨rfl, hF⟩ := hF
    refine rn_aload_n dX10_wentOf_38 rfl ?_
    refine rm_getr (r := 111) flRX10_43 rfl (by decide) rfl dX10_wentOf_39 ?_
    refine rn_iload_n dX10_wentOf_42 rfl ?_
    obtain ⟨zj_3, hzj_3, hF⟩ := hF
    refine rj_iald (j := zj_3) hzj_3 rfl (by decide) rfl (by decide) dX10_wentOf_43 ?_
    refine rn_bipush (x := (9 : Int32)) dX10_wentOf_44 (by decide) ?_
    refine rn_icmp_ne (tgt := 51) dX10_wentOf_46 (by decide) (fun hc_4 => ?_) (fun hc_4 => ?_)
    · replace hF := hF.1 hc_4
      refine rn_iinc (w := (1 : Int32)) dX10_wentOf_51 rfl (by decide) rfl (Nat.le_of_ble_eq_true rfl) (fun zx2_5 ezx2_5 => ?_)
      replace hF := hF zx2_5 ezx2_5
      show Rn _ _ _ _ _ _ _ _ [some (rf E 99), some (.int zx1), some (.int zx2_5)] _ _ _
      refine rn_goto (tgt := 27) dX10_wentOf_54 (by decide) ?_
      exact rn_wk (L' := [some (rf E 99), some (.int zx1), some (.int zx2_5)]) (⟨rfl, ⟨rfl, ⟨rfl, trivial⟩⟩⟩) hF
    · replace hF := hF.2 hc_4
      refine rn_iload_n dX10_wentOf_49 rfl ?_
      exact rm_iret rfl dX10_wentOf_50 hF
theorem sgX10_went_0 {E : En} {Q : Option Value → Hi → Prop} {H : Hi} {zx1 : Int32} 
    (hF : Cm E mX10_isThing [rf E 99, .int zx1] H (fun w zH_1 => ∃ zr_2 : Int32, w = some (.int zr_2) ∧ ((zr_2 = 0 → (Q (some (.int (-2 : Int32))) zH_1)) ∧ (¬ zr_2 = 0 → (Cm E mX10_wentOf [rf E 99, .int zx1] zH_1 (fun w zH_4 => ∃ zr_5 : Int32, w = some (.int zr_5) ∧ (Q (some (.int zr_5)) zH_4))))))) :
    Rm E mX10_went Q 0 [some (rf E 99), some (.int zx1)] [] H := by
  refine rn_aload_n dX10_went_0 rfl ?_
  refine rn_iload_n dX10_went_1 rfl ?_
  refine rm_callV (c0 := 99) (As := [.int zx1]) (st := []) mlRX10_147 mdX10_isThing (Nat.le_of_ble_eq_true rfl) rfl (by decide) (by decide) rfl rfl rfl (Nat.le_of_ble_eq_true rfl) ⟨Nat.le_refl _, Nat.le_refl _⟩ dX10_went_2 ?_
  refine cm_mono hF (fun w zH_1 hF => ?_)
  obtain ⟨zr_2, rfl, hF⟩ := hF
  refine rn_if_eq (tgt := 16) dX10_went_5 (by decide) (fun hc_3 => ?_) (fun hc_3 => ?_)
  · replace hF := hF.1 hc_3
    refine rn_bipush (x := (-2 : Int32)) dX10_went_16 (by decide) ?_
    exact rm_iret rfl dX10_went_18 hF
  · replace hF := hF.2 hc_3
    refine rn_aload_n dX10_went_8 rfl ?_
    refine rn_iload_n dX10_went_9 rfl ?_
    refine rm_callV (c0 := 99) (As := [.int zx1]) (st := []) mlRX10_242 mdX10_wentOf (Nat.le_of_ble_eq_true rfl) rfl (by decide) (by decide) rfl rfl rfl (Nat.le_of_ble_eq_true rfl) ⟨Nat.le_refl _, Nat.le_refl _⟩ dX10_went_10 ?_
    refine cm_mono hF (fun w zH_4 hF => ?_)
    obtain ⟨zr_5, rfl, hF⟩ := hF
    refine rn_goto (tgt := 18) dX10_went_13 (by decide) ?_
    exact rm_iret rfl dX10_went_18 hF
theorem cmX10_went {E : En} {Q : Option Value → Hi → Prop} {H : Hi} {zx1 : Int32} 
    (hF : Cm E mX10_isThing [rf E 99, .int zx1] H (fun w zH_1 => ∃ zr_2 : Int32, w = some (.int zr_2) ∧ ((zr_2 = 0 → (Q (some (.int (-2 : Int32))) zH_1)) ∧ (¬ zr_2 = 0 → (Cm E mX10_wentOf [rf E 99, .int zx1] zH_1 (fun w zH_4 => ∃ zr_5 : Int32, w = some (.int zr_5) ∧ (Q (some (.int zr_5)) zH_4))))))) :
    Cm E mX10_went [rf E 99, .int zx1] H Q :=
  cm_of (by decide +kernel : plainName RX10 = true) (Nat.le_of_ble_eq_true rfl) rfl (sgX10_went_0  hF)
theorem sgX10_keeps_0 {E : En} {Q : Option Value → Hi → Prop} {H : Hi}  
    (hF : Rm E mX10_keeps Q 2 [some (rf E 99), some (.int (0 : Int32))] [] H) :
    Rm E mX10_keeps Q 0 [some (rf E 99), none] [] H := by
  refine rn_iconst (x := (0 : Int32)) dX10_keeps_0 (by decide) ?_
  refine ra_istore_n dX10_keeps_1 rfl (Nat.le_of_ble_eq_true rfl) ?_
  show Rn _ _ _ _ _ _ _ _ [some (rf E 99), some (.int (0 : Int32))] _ _ _
  exact rn_wk (L' := [some (rf E 99), some (.int (0 : Int32))]) (⟨rfl, ⟨rfl, trivial⟩⟩) hF
theorem cmX10_keeps {E : En} {Q : Option Value → Hi → Prop} {H : Hi}  
    (hF : Rm E mX10_keeps Q 2 [some (rf E 99), some (.int (0 : Int32))] [] H) :
    Cm E mX10_keeps [rf E 99] H Q :=
  cm_of (by decide +kernel : plainName RX10 = true) (Nat.le_of_ble_eq_true rfl) rfl (sgX10_keeps_0  hF)
theorem sgX10_keeps_2 {E : En} {Q : Option Value → Hi → Prop} {H : Hi} {zx1 : Int32} 
    (hF : ((8 : Int32) ≤ zx1 → (Q none H)) ∧ (¬ (8 : Int32) ≤ zx1 → (∃ zj_2 : Nat, (zj_2 < 8 ∧ zx1 = nI zj_2) ∧ (∃ zj_3 : Nat, (zj_3 < 8 ∧ zx1 = nI zj_3) ∧ (∀ zH_4 : Hi, zH_4 = up H 116 zj_3 (H 111 zj_2) → (∃ zj_5 : Nat, (zj_5 < 8 ∧ zx1 = nI zj_5) ∧ (∃ zj_6 : Nat, (zj_6 < 8 ∧ zx1 = nI zj_6) ∧ (∀ zH_7 : Hi, zH_7 = up zH_4 117 zj_6 (zH_4 112 zj_5) → (∃ zj_8 : Nat, (zj_8 < 8 ∧ zx1 = nI zj_8) ∧ (∃ zj_9 : Nat, (zj_9 < 8 ∧ zx1 = nI zj_9) ∧ (∀ zH_10 : Hi, zH_10 = up zH_7 118 zj_9 (zH_7 113 zj_8) → (∀ zx1_11 : Int32, zx1_11 = zx1 + (1 : Int32) → (Rm E mX10_keeps Q 2 [some (rf E 99), some (.int zx1_11)] [] zH_10))))))))))))) :
    Rm E mX10_keeps Q 2 [some (rf E 99), some (.int zx1)] [] H := by
  refine rn_iload_n dX10_keeps_2 rfl ?_
  refine rn_bipush (x := (8 : Int32)) dX10_keeps_3 (by decide) ?_
  refine rn_icmp_ge (tgt := 50) dX10_keeps_5 (by decide) (fun hc_1 => ?_) (fun hc_1 => ?_)
  · replace hF := hF.1 hc_1
    exact rm_vret rfl dX10_keeps_50 hF
  · replace hF := hF.2 hc_1
    refine rn_aload_n dX10_keeps_8 rfl ?_
    refine rm_getr (r := 116) flRX10_59 rfl (by decide) rfl dX10_keeps_9 ?_
    refine rn_iload_n dX10_keeps_12 rfl ?_
    refine rn_aload_n dX10_keeps_13 rfl ?_
    refine rm_getr (r := 111) flRX10_43 rfl (by decide) rfl dX10_keeps_14 ?_
    refine rn_iload_n dX10_keeps_17 rfl ?_
    obtain ⟨zj_2, hzj_2, hF⟩ := hF
    refine rj_iald (j := zj_2) hzj_2 rfl (by decide) rfl (by decide) dX10_keeps_18 ?_
    obtain ⟨zj_3, hzj_3, hF⟩ := hF
    refine rj_iast (j := zj_3) hzj_3 rfl (by decide) rfl (by decide) dX10_keeps_19 (fun zH_4 ezH_4 => ?_)
    replace hF := hF zH_4 ezH_4
    refine rn_aload_n dX10_keeps_20 rfl ?_
    refine rm_getr (r := 117) flRX10_62 rfl (by decide) rfl dX10_keeps_21 ?_
    refine rn_iload_n dX10_keeps_24 rfl ?_
    refine rn_aload_n dX10_keeps_25 rfl ?_
    refine rm_getr (r := 112) flRX10_46 rfl (by decide) rfl dX10_keeps_26 ?_
    refine rn_iload_n dX10_keeps_29 rfl ?_
    obtain ⟨zj_5, hzj_5, hF⟩ := hF
    refine rj_iald (j := zj_5) hzj_5 rfl (by decide) rfl (by decide) dX10_keeps_30 ?_
    obtain ⟨zj_6, hzj_6, hF⟩ := hF
    refine rj_iast (j := zj_6) hzj_6 rfl (by decide) rfl (by decide) dX10_keeps_31 (fun zH_7 ezH_7 => ?_)
    replace hF := hF zH_7 ezH_7
    refine rn_aload_n dX10_keeps_32 rfl ?_
    refine rm_getr (r := 118) flRX10_65 rfl (by decide) rfl dX10_keeps_33 ?_
    refine rn_iload_n dX10_keeps_36 rfl ?_
    refine rn_aload_n dX10_keeps_37 rfl ?_
    refine rm_getr (r := 113) flRX10_49 rfl (by decide) rfl dX10_keeps_38 ?_
    refine rn_iload_n dX10_keeps_41 rfl ?_
    obtain ⟨zj_8, hzj_8, hF⟩ := hF
    refine rj_iald (j := zj_8) hzj_8 rfl (by decide) rfl (by decide) dX10_keeps_42 ?_
    obtain ⟨zj_9, hzj_9, hF⟩ := hF
    refine rj_iast (j := zj_9) hzj_9 rfl (by decide) rfl (by decide) dX10_keeps_43 (fun zH_10 ezH_10 => ?_)
    replace hF := hF zH_10 ezH_10
    refine rn_iinc (w := (1 : Int32)) dX10_keeps_44 rfl (by decide) rfl (Nat.le_of_ble_eq_true rfl) (fun zx1_11 ezx1_11 => ?_)
    replace hF := hF zx1_11 ezx1_11
    show Rn _ _ _ _ _ _ _ _ [some (rf E 99), some (.int zx1_11)] _ _ _
    refine rn_goto (tgt := 2) dX10_keeps_47 (by decide) ?_
    exact rn_wk (L' := [some (rf E 99), some (.int zx1_11)]) (⟨rfl, ⟨rfl, trivial⟩⟩) hF
theorem sgX10_restores_0 {E : En} {Q : Option Value → Hi → Prop} {H : Hi}  
    (hF : Rm E mX10_restores Q 2 [some (rf E 99), some (.int (0 : Int32))] [] H) :
    Rm E mX10_restores Q 0 [some (rf E 99), none] [] H := by
  refine rn_iconst (x := (0 : Int32)) dX10_restores_0 (by decide) ?_
  refine ra_istore_n dX10_restores_1 rfl (Nat.le_of_ble_eq_true rfl) ?_
  show Rn _ _ _ _ _ _ _ _ [some (rf E 99), some (.int (0 : Int32))] _ _ _
  exact rn_wk (L' := [some (rf E 99), some (.int (0 : Int32))]) (⟨rfl, ⟨rfl, trivial⟩⟩) hF
theorem cmX10_restores {E : En} {Q : Option Value → Hi → Prop} {H : Hi}  
    (hF : Rm E mX10_restores Q 2 [some (rf E 99), some (.int (0 : Int32))] [] H) :
    Cm E mX10_restores [rf E 99] H Q :=
  cm_of (by decide +kernel : plainName RX10 = true) (Nat.le_of_ble_eq_true rfl) rfl (sgX10_restores_0  hF)
theorem sgX10_restores_2 {E : En} {Q : Option Value → Hi → Prop} {H : Hi} {zx1 : Int32} 
    (hF : ((8 : Int32) ≤ zx1 → (Q none H)) ∧ (¬ (8 : Int32) ≤ zx1 → (∃ zj_2 : Nat, (zj_2 < 8 ∧ zx1 = nI zj_2) ∧ (∃ zj_3 : Nat, (zj_3 < 8 ∧ zx1 = nI zj_3) ∧ (∀ zH_4 : Hi, zH_4 = up H 111 zj_3 (H 116 zj_2) → (∃ zj_5 : Nat, (zj_5 < 8 ∧ zx1 = nI zj_5) ∧ (∃ zj_6 : Nat, (zj_6 < 8 ∧ zx1 = nI zj_6) ∧ (∀ zH_7 : Hi, zH_7 = up zH_4 112 zj_6 (zH_4 117 zj_5) → (∃ zj_8 : Nat, (zj_8 < 8 ∧ zx1 = nI zj_8) ∧ (∃ zj_9 : Nat, (zj_9 < 8 ∧ zx1 = nI zj_9) ∧ (∀ zH_10 : Hi, zH_10 = up zH_7 113 zj_9 (zH_7 118 zj_8) → (∀ zx1_11 : Int32, zx1_11 = zx1 + (1 : Int32) → (Rm E mX10_restores Q 2 [some (rf E 99), some (.int zx1_11)] [] zH_10))))))))))))) :
    Rm E mX10_restores Q 2 [some (rf E 99), some (.int zx1)] [] H := by
  refine rn_iload_n dX10_restores_2 rfl ?_
  refine rn_bipush (x := (8 : Int32)) dX10_restores_3 (by decide) ?_
  refine rn_icmp_ge (tgt := 50) dX10_restores_5 (by decide) (fun hc_1 => ?_) (fun hc_1 => ?_)
  · replace hF := hF.1 hc_1
    exact rm_vret rfl dX10_restores_50 hF
  · replace hF := hF.2 hc_1
    refine rn_aload_n dX10_restores_8 rfl ?_
    refine rm_getr (r := 111) flRX10_43 rfl (by decide) rfl dX10_restores_9 ?_
    refine rn_iload_n dX10_restores_12 rfl ?_
    refine rn_aload_n dX10_restores_13 rfl ?_
    refine rm_getr (r := 116) flRX10_59 rfl (by decide) rfl dX10_restores_14 ?_
    refine rn_iload_n dX10_restores_17 rfl ?_
    obtain ⟨zj_2, hzj_2, hF⟩ := hF
    refine rj_iald (j := zj_2) hzj_2 rfl (by decide) rfl (by decide) dX10_restores_18 ?_
    obtain ⟨zj_3, hzj_3, hF⟩ := hF
    refine rj_iast (j := zj_3) hzj_3 rfl (by decide) rfl (by decide) dX10_restores_19 (fun zH_4 ezH_4 => ?_)
    replace hF := hF zH_4 ezH_4
    refine rn_aload_n dX10_restores_20 rfl ?_
    refine rm_getr (r := 112) flRX10_46 rfl (by decide) rfl dX10_restores_21 ?_
    refine rn_iload_n dX10_restores_24 rfl ?_
    refine rn_aload_n dX10_restores_25 rfl ?_
    refine rm_getr (r := 117) flRX10_62 rfl (by decide) rfl dX10_restores_26 ?_
    refine rn_iload_n dX10_restores_29 rfl ?_
    obtain ⟨zj_5, hzj_5, hF⟩ := hF
    refine rj_iald (j := zj_5) hzj_5 rfl (by decide) rfl (by decide) dX10_restores_30 ?_
    obtain ⟨zj_6, hzj_6, hF⟩ := hF
    refine rj_iast (j := zj_6) hzj_6 rfl (by decide) rfl (by decide) dX10_restores_31 (fun zH_7 ezH_7 => ?_)
    replace hF := hF zH_7 ezH_7
    refine rn_aload_n dX10_restores_32 rfl ?_
    refine rm_getr (r := 113) flRX10_49 rfl (by decide) rfl dX10_restores_33 ?_
    refine rn_iload_n dX10_restores_36 rfl ?_
    refine rn_aload_n dX10_restores_37 rfl ?_
    refine rm_getr (r := 118) flRX10_65 rfl (by decide) rfl dX10_restores_38 ?_
    refine rn_iload_n dX10_restores_41 rfl ?_
    obtain ⟨zj_8, hzj_8, hF⟩ := hF
    refine rj_iald (j := zj_8) hzj_8 rfl (by decide) rfl (by decide) dX10_restores_42 ?_
    obtain ⟨zj_9, hzj_9, hF⟩ := hF
    refine rj_iast (j := zj_9) hzj_9 rfl (by decide) rfl (by decide) dX10_restores_43 (fun zH_10 ezH_10 => ?_)
    replace hF := hF zH_10 ezH_10
    refine rn_iinc (w := (1 : Int32)) dX10_restores_44 rfl (by decide) rfl (Nat.le_of_ble_eq_true rfl) (fun zx1_11 ezx1_11 => ?_)
    replace hF := hF zx1_11 ezx1_11
    show Rn _ _ _ _ _ _ _ _ [some (rf E 99), some (.int zx1_11)] _ _ _
    refine rn_goto (tgt := 2) dX10_restores_47 (by decide) ?_
    exact rn_wk (L' := [some (rf E 99), some (.int zx1_11)]) (⟨rfl, ⟨rfl, trivial⟩⟩) hF
theorem sgX10_lends_0 {E : En} {Q : Option Value → Hi → Prop} {H : Hi} {zx1 : Int32} {zx2 : Int32} {zx3 : Int32} {zx4 : Int32} {zx5 : Int32} {zx6 : Int32} 
    (hF : Cm E mX10_restores [rf E 99] H (fun w zH_1 => w = none ∧ ((zx1 = (-1 : Int32) → ((zx2 = (-1 : Int32) → (Cm E mX10_ends [rf E 99, .int zx5] zH_1 (fun w zH_6 => w = none ∧ (∀ zx8_7 : Int32, zx8_7 = zx5 + (1 : Int32) → (Rm E mX10_lends Q 56 [some (rf E 99), some (.int zx1), some (.int zx2), some (.int zx3), some (.int zx4), none, some (.int zx6), none, some (.int zx8_7)] [] zH_6))))) ∧ (¬ zx2 = (-1 : Int32) → (Cm E mX10_acts [rf E 99, .int zx2] zH_1 (fun w zH_8 => ∃ zr_9 : Int32, w = some (.int zr_9) ∧ ((zr_9 = 0 → (Cm E mX10_ends [rf E 99, .int zx5] zH_8 (fun w zH_12 => w = none ∧ (∀ zx8_13 : Int32, zx8_13 = zx5 + (1 : Int32) → (Rm E mX10_lends Q 56 [some (rf E 99), some (.int zx1), some (.int zx2), some (.int zx3), some (.int zx4), none, some (.int zx6), none, some (.int zx8_13)] [] zH_12))))) ∧ (¬ zr_9 = 0 → (Cm E mX10_ends [rf E 99, .int zx5] zH_8 (fun w zH_15 => w = none ∧ (∀ zx8_16 : Int32, zx8_16 = zx5 + (1 : Int32) → (Rm E mX10_lends Q 56 [some (rf E 99), some (.int zx1), some (.int zx2), some (.int zx3), some (.int zx4), none, some (.int zx6), none, some (.int zx8_16)] [] zH_15))))))))))) ∧ (¬ zx1 = (-1 : Int32) → (Cm E mX10_acts [rf E 99, .int zx1] zH_1 (fun w zH_17 => ∃ zr_18 : Int32, w = some (.int zr_18) ∧ ((zr_18 = 0 → ((zx2 = (-1 : Int32) → (Cm E mX10_ends [rf E 99, .int zx5] zH_17 (fun w zH_23 => w = none ∧ (∀ zx8_24 : Int32, zx8_24 = zx5 + (1 : Int32) → (Rm E mX10_lends Q 56 [some (rf E 99), some (.int zx1), some (.int zx2), some (.int zx3), some (.int zx4), none, some (.int zx6), none, some (.int zx8_24)] [] zH_23))))) ∧ (¬ zx2 = (-1 : Int32) → (Cm E mX10_acts [rf E 99, .int zx2] zH_17 (fun w zH_25 => ∃ zr_26 : Int32, w = some (.int zr_26) ∧ ((zr_26 = 0 → (Cm E mX10_ends [rf E 99, .int zx5] zH_25 (fun w zH_29 => w = none ∧ (∀ zx8_30 : Int32, zx8_30 = zx5 + (1 : Int32) → (Rm E mX10_lends Q 56 [some (rf E 99), some (.int zx1), some (.int zx2), some (.int zx3), some (.int zx4), none, some (.int zx6), none, some (.int zx8_30)] [] zH_29))))) ∧ (¬ zr_26 = 0 → (Cm E mX10_ends [rf E 99, .int zx5] zH_25 (fun w zH_32 => w = none ∧ (∀ zx8_33 : Int32, zx8_33 = zx5 + (1 : Int32) → (Rm E mX10_lends Q 56 [some (rf E 99), some (.int zx1), some (.int zx2), some (.int zx3), some (.int zx4), none, some (.int zx6), none, some (.int zx8_33)] [] zH_32))))))))))) ∧ (¬ zr_18 = 0 → ((zx2 = (-1 : Int32) → (Cm E mX10_ends [rf E 99, .int zx5] zH_17 (fun w zH_37 => w = none ∧ (∀ zx8_38 : Int32, zx8_38 = zx5 + (1 : Int32) → (Rm E mX10_lends Q 56 [some (rf E 99), some (.int zx1), some (.int zx2), some (.int zx3), some (.int zx4), none, some (.int zx6), none, some (.int zx8_38)] [] zH_37))))) ∧ (¬ zx2 = (-1 : Int32) → (Cm E mX10_acts [rf E 99, .int zx2] zH_17 (fun w zH_39 => ∃ zr_40 : Int32, w = some (.int zr_40) ∧ ((zr_40 = 0 → (Cm E mX10_ends [rf E 99, .int zx5] zH_39 (fun w zH_43 => w = none ∧ (∀ zx8_44 : Int32, zx8_44 = zx5 + (1 : Int32) → (Rm E mX10_lends Q 56 [some (rf E 99), some (.int zx1), some (.int zx2), some (.int zx3), some (.int zx4), none, some (.int zx6), none, some (.int zx8_44)] [] zH_43))))) ∧ (¬ zr_40 = 0 → (Cm E mX10_ends [rf E 99, .int zx5] zH_39 (fun w zH_46 => w = none ∧ (∀ zx8_47 : Int32, zx8_47 = zx5 + (1 : Int32) → (Rm E mX10_lends Q 56 [some (rf E 99), some (.int zx1), some (.int zx2), some (.int zx3), some (.int zx4), none, some (.int zx6), none, some (.int zx8_47)] [] zH_46)))))))))))))))))) :
    Rm E mX10_lends Q 0 [some (rf E 99), some (.int zx1), some (.int zx2), some (.int zx3), some (.int zx4), some (.int zx5), some (.int zx6), none, none] [] H := by
  refine rn_aload_n dX10_lends_0 rfl ?_
  refine rm_callV (c0 := 99) (As := []) (st := []) mlRX10_245 mdX10_restores (Nat.le_of_ble_eq_true rfl) rfl (by decide) (by decide) rfl rfl rfl (Nat.le_of_ble_eq_true rfl) ⟨Nat.le_refl _, Nat.le_refl _⟩ dX10_lends_1 ?_
  refine cm_mono hF (fun w zH_1 hF => ?_)
  obtain ⟨rfl, hF⟩ := hF
  refine rn_iload_n dX10_lends_4 rfl ?_
  refine rn_iconst (x := (-1 : Int32)) dX10_lends_5 (by decide) ?_
  refine rn_icmp_eq (tgt := 21) dX10_lends_6 (by decide) (fun hc_2 => ?_) (fun hc_2 => ?_)
  · replace hF := hF.1 hc_2
    refine rn_iconst (x := (0 : Int32)) dX10_lends_21 (by decide) ?_
    refine ra_istore dX10_lends_22 rfl (Nat.le_of_ble_eq_true rfl) ?_
    show Rn _ _ _ _ _ _ _ _ [some (rf E 99), some (.int zx1), some (.int zx2), some (.int zx3), some (.int zx4), some (.int zx5), some (.int zx6), some (.int (0 : Int32)), none] _ _ _
    refine rn_iload_n dX10_lends_24 rfl ?_
    refine rn_iconst (x := (-1 : Int32)) dX10_lends_25 (by decide) ?_
    refine rn_icmp_eq (tgt := 41) dX10_lends_26 (by decide) (fun hc_4 => ?_) (fun hc_4 => ?_)
    · replace hF := hF.1 hc_4
      refine rn_iconst (x := (0 : Int32)) dX10_lends_41 (by decide) ?_
      refine ra_istore dX10_lends_42 rfl (Nat.le_of_ble_eq_true rfl) ?_
      show Rn _ _ _ _ _ _ _ _ [some (rf E 99), some (.int zx1), some (.int zx2), some (.int zx3), some (.int zx4), some (.int zx5), some (.int zx6), some (.int (0 : Int32)), none] _ _ _
      refine rn_aload_n dX10_lends_44 rfl ?_
      refine rn_iload dX10_lends_45 rfl ?_
      refine rm_callV (c0 := 99) (As := [.int zx5]) (st := []) mlRX10_206 mdX10_ends (Nat.le_of_ble_eq_true rfl) rfl (by decide) (by decide) rfl rfl rfl (Nat.le_of_ble_eq_true rfl) ⟨Nat.le_refl _, Nat.le_refl _⟩ dX10_lends_47 ?_
      refine cm_mono hF (fun w zH_6 hF => ?_)
      obtain ⟨rfl, hF⟩ := hF
      refine rn_iload dX10_lends_50 rfl ?_
      refine rn_iconst (x := (1 : Int32)) dX10_lends_52 (by decide) ?_
      refine rn_iadd dX10_lends_53 ?_
      refine rn_istore dX10_lends_54 rfl (Nat.le_of_ble_eq_true rfl) (fun zx8_7 ezx8_7 => ?_)
      replace hF := hF zx8_7 ezx8_7
      show Rn _ _ _ _ _ _ _ _ [some (rf E 99), some (.int zx1), some (.int zx2), some (.int zx3), some (.int zx4), some (.int zx5), some (.int zx6), some (.int (0 : Int32)), some (.int zx8_7)] _ _ _
      exact rn_wk (L' := [some (rf E 99), some (.int zx1), some (.int zx2), some (.int zx3), some (.int zx4), none, some (.int zx6), none, some (.int zx8_7)]) (⟨rfl, ⟨rfl, ⟨rfl, ⟨rfl, ⟨rfl, ⟨rfl, ⟨rfl, trivial⟩⟩⟩⟩⟩⟩⟩) hF
    · replace hF := hF.2 hc_4
      refine rn_aload_n dX10_lends_29 rfl ?_
      refine rn_iload_n dX10_lends_30 rfl ?_
      refine rm_callV (c0 := 99) (As := [.int zx2]) (st := []) mlRX10_196 mdX10_acts (Nat.le_of_ble_eq_true rfl) rfl (by decide) (by decide) rfl rfl rfl (Nat.le_of_ble_eq_true rfl) ⟨Nat.le_refl _, Nat.le_refl _⟩ dX10_lends_31 ?_
      refine cm_mono hF (fun w zH_8 hF => ?_)
      obtain ⟨zr_9, rfl, hF⟩ := hF
      refine rn_if_eq (tgt := 41) dX10_lends_34 (by decide) (fun hc_10 => ?_) (fun hc_10 => ?_)
      · replace hF := hF.1 hc_10
        refine rn_iconst (x := (0 : Int32)) dX10_lends_41 (by decide) ?_
        refine ra_istore dX10_lends_42 rfl (Nat.le_of_ble_eq_true rfl) ?_
        show Rn _ _ _ _ _ _ _ _ [some (rf E 99), some (.int zx1), some (.int zx2), some (.int zx3), some (.int zx4), some (.int zx5), some (.int zx6), some (.int (0 : Int32)), none] _ _ _
        refine rn_aload_n dX10_lends_44 rfl ?_
        refine rn_iload dX10_lends_45 rfl ?_
        refine rm_callV (c0 := 99) (As := [.int zx5]) (st := []) mlRX10_206 mdX10_ends (Nat.le_of_ble_eq_true rfl) rfl (by decide) (by decide) rfl rfl rfl (Nat.le_of_ble_eq_true rfl) ⟨Nat.le_refl _, Nat.le_refl _⟩ dX10_lends_47 ?_
        refine cm_mono hF (fun w zH_12 hF => ?_)
        obtain ⟨rfl, hF⟩ := hF
        refine rn_iload dX10_lends_50 rfl ?_
        refine rn_iconst (x := (1 : Int32)) dX10_lends_52 (by decide) ?_
        refine rn_iadd dX10_lends_53 ?_
        refine rn_istore dX10_lends_54 rfl (Nat.le_of_ble_eq_true rfl) (fun zx8_13 ezx8_13 => ?_)
        replace hF := hF zx8_13 ezx8_13
        show Rn _ _ _ _ _ _ _ _ [some (rf E 99), some (.int zx1), some (.int zx2), some (.int zx3), some (.int zx4), some (.int zx5), some (.int zx6), some (.int (0 : Int32)), some (.int zx8_13)] _ _ _
        exact rn_wk (L' := [some (rf E 99), some (.int zx1), some (.int zx2), some (.int zx3), some (.int zx4), none, some (.int zx6), none, some (.int zx8_13)]) (⟨rfl, ⟨rfl, ⟨rfl, ⟨rfl, ⟨rfl, ⟨rfl, ⟨rfl, trivial⟩⟩⟩⟩⟩⟩⟩) hF
      · replace hF := hF.2 hc_10
        refine rn_iconst (x := (1 : Int32)) dX10_lends_37 (by decide) ?_
        refine rn_goto (tgt := 42) dX10_lends_38 (by decide) ?_
        refine ra_istore dX10_lends_42 rfl (Nat.le_of_ble_eq_true rfl) ?_
        show Rn _ _ _ _ _ _ _ _ [some (rf E 99), some (.int zx1), some (.int zx2), some (.int zx3), some (.int zx4), some (.int zx5), some (.int zx6), some (.int (1 : Int32)), none] _ _ _
        refine rn_aload_n dX10_lends_44 rfl ?_
        refine rn_iload dX10_lends_45 rfl ?_
        refine rm_callV (c0 := 99) (As := [.int zx5]) (st := []) mlRX10_206 mdX10_ends (Nat.le_of_ble_eq_true rfl) rfl (by decide) (by decide) rfl rfl rfl (Nat.le_of_ble_eq_true rfl) ⟨Nat.le_refl _, Nat.le_refl _⟩ dX10_lends_47 ?_
        refine cm_mono hF (fun w zH_15 hF => ?_)
        obtain ⟨rfl, hF⟩ := hF
        refine rn_iload dX10_lends_50 rfl ?_
        refine rn_iconst (x := (1 : Int32)) dX10_lends_52 (by decide) ?_
        refine rn_iadd dX10_lends_53 ?_
        refine rn_istore dX10_lends_54 rfl (Nat.le_of_ble_eq_true rfl) (fun zx8_16 ezx8_16 => ?_)
        replace hF := hF zx8_16 ezx8_16
        show Rn _ _ _ _ _ _ _ _ [some (rf E 99), some (.int zx1), some (.int zx2), some (.int zx3), some (.int zx4), some (.int zx5), some (.int zx6), some (.int (1 : Int32)), some (.int zx8_16)] _ _ _
        exact rn_wk (L' := [some (rf E 99), some (.int zx1), some (.int zx2), some (.int zx3), some (.int zx4), none, some (.int zx6), none, some (.int zx8_16)]) (⟨rfl, ⟨rfl, ⟨rfl, ⟨rfl, ⟨rfl, ⟨rfl, ⟨rfl, trivial⟩⟩⟩⟩⟩⟩⟩) hF
  · replace hF := hF.2 hc_2
    refine rn_aload_n dX10_lends_9 rfl ?_
    refine rn_iload_n dX10_lends_10 rfl ?_
    refine rm_callV (c0 := 99) (As := [.int zx1]) (st := []) mlRX10_196 mdX10_acts (Nat.le_of_ble_eq_true rfl) rfl (by decide) (by decide) rfl rfl rfl (Nat.le_of_ble_eq_true rfl) ⟨Nat.le_refl _, Nat.le_refl _⟩ dX10_lends_11 ?_
    refine cm_mono hF (fun w zH_17 hF => ?_)
    obtain ⟨zr_18, rfl, hF⟩ := hF
    refine rn_if_eq (tgt := 21) dX10_lends_14 (by decide) (fun hc_19 => ?_) (fun hc_19 => ?_)
    · replace hF := hF.1 hc_19
      refine rn_iconst (x := (0 : Int32)) dX10_lends_21 (by decide) ?_
      refine ra_istore dX10_lends_22 rfl (Nat.le_of_ble_eq_true rfl) ?_
      show Rn _ _ _ _ _ _ _ _ [some (rf E 99), some (.int zx1), some (.int zx2), some (.int zx3), some (.int zx4), some (.int zx5), some (.int zx6), some (.int (0 : Int32)), none] _ _ _
      refine rn_iload_n dX10_lends_24 rfl ?_
      refine rn_iconst (x := (-1 : Int32)) dX10_lends_25 (by decide) ?_
      refine rn_icmp_eq (tgt := 41) dX10_lends_26 (by decide) (fun hc_21 => ?_) (fun hc_21 => ?_)
      · replace hF := hF.1 hc_21
        refine rn_iconst (x := (0 : Int32)) dX10_lends_41 (by decide) ?_
        refine ra_istore dX10_lends_42 rfl (Nat.le_of_ble_eq_true rfl) ?_
        show Rn _ _ _ _ _ _ _ _ [some (rf E 99), some (.int zx1), some (.int zx2), some (.int zx3), some (.int zx4), some (.int zx5), some (.int zx6), some (.int (0 : Int32)), none] _ _ _
        refine rn_aload_n dX10_lends_44 rfl ?_
        refine rn_iload dX10_lends_45 rfl ?_
        refine rm_callV (c0 := 99) (As := [.int zx5]) (st := []) mlRX10_206 mdX10_ends (Nat.le_of_ble_eq_true rfl) rfl (by decide) (by decide) rfl rfl rfl (Nat.le_of_ble_eq_true rfl) ⟨Nat.le_refl _, Nat.le_refl _⟩ dX10_lends_47 ?_
        refine cm_mono hF (fun w zH_23 hF => ?_)
        obtain ⟨rfl, hF⟩ := hF
        refine rn_iload dX10_lends_50 rfl ?_
        refine rn_iconst (x := (1 : Int32)) dX10_lends_52 (by decide) ?_
        refine rn_iadd dX10_lends_53 ?_
        refine rn_istore dX10_lends_54 rfl (Nat.le_of_ble_eq_true rfl) (fun zx8_24 ezx8_24 => ?_)
        replace hF := hF zx8_24 ezx8_24
        show Rn _ _ _ _ _ _ _ _ [some (rf E 99), some (.int zx1), some (.int zx2), some (.int zx3), some (.int zx4), some (.int zx5), some (.int zx6), some (.int (0 : Int32)), some (.int zx8_24)] _ _ _
        exact rn_wk (L' := [some (rf E 99), some (.int zx1), some (.int zx2), some (.int zx3), some (.int zx4), none, some (.int zx6), none, some (.int zx8_24)]) (⟨rfl, ⟨rfl, ⟨rfl, ⟨rfl, ⟨rfl, ⟨rfl, ⟨rfl, trivial⟩⟩⟩⟩⟩⟩⟩) hF
      · replace hF := hF.2 hc_21
        refine rn_aload_n dX10_lends_29 rfl ?_
        refine rn_iload_n dX10_lends_30 rfl ?_
        refine rm_callV (c0 := 99) (As := [.int zx2]) (st := []) mlRX10_196 mdX10_acts (Nat.le_of_ble_eq_true rfl) rfl (by decide) (by decide) rfl rfl rfl (Nat.le_of_ble_eq_true rfl) ⟨Nat.le_refl _, Nat.le_refl _⟩ dX10_lends_31 ?_
        refine cm_mono hF (fun w zH_25 hF => ?_)
        obtain ⟨zr_26, rfl, hF⟩ := hF
        refine rn_if_eq (tgt := 41) dX10_lends_34 (by decide) (fun hc_27 => ?_) (fun hc_27 => ?_)
        · replace hF := hF.1 hc_27
          refine rn_iconst (x := (0 : Int32)) dX10_lends_41 (by decide) ?_
          refine ra_istore dX10_lends_42 rfl (Nat.le_of_ble_eq_true rfl) ?_
          show Rn _ _ _ _ _ _ _ _ [some (rf E 99), some (.int zx1), some (.int zx2), some (.int zx3), some (.int zx4), some (.int zx5), some (.int zx6), some (.int (0 : Int32)), none] _ _ _
          refine rn_aload_n dX10_lends_44 rfl ?_
          refine rn_iload dX10_lends_45 rfl ?_
          refine rm_callV (c0 := 99) (As := [.int zx5]) (st := []) mlRX10_206 mdX10_ends (Nat.le_of_ble_eq_true rfl) rfl (by decide) (by decide) rfl rfl rfl (Nat.le_of_ble_eq_true rfl) ⟨Nat.le_refl _, Nat.le_refl _⟩ dX10_lends_47 ?_
          refine cm_mono hF (fun w zH_29 hF => ?_)
          obtain ⟨rfl, hF⟩ := hF
          refine rn_iload dX10_lends_50 rfl ?_
          refine rn_iconst (x := (1 : Int32)) dX10_lends_52 (by decide) ?_
          refine rn_iadd dX10_lends_53 ?_
          refine rn_istore dX10_lends_54 rfl (Nat.le_of_ble_eq_true rfl) (fun zx8_30 ezx8_30 => ?_)
          replace hF := hF zx8_30 ezx8_30
          show Rn _ _ _ _ _ _ _ _ [some (rf E 99), some (.int zx1), some (.int zx2), some (.int zx3), some (.int zx4), some (.int zx5), some (.int zx6), some (.int (0 : Int32)), some (.int zx8_30)] _ _ _
          exact rn_wk (L' := [some (rf E 99), some (.int zx1), some (.int zx2), some (.int zx3), some (.int zx4), none, some (.int zx6), none, some (.int zx8_30)]) (⟨rfl, ⟨rfl, ⟨rfl, ⟨rfl, ⟨rfl, ⟨rfl, ⟨rfl, trivial⟩⟩⟩⟩⟩⟩⟩) hF
        · replace hF := hF.2 hc_27
          refine rn_iconst (x := (1 : Int32)) dX10_lends_37 (by decide) ?_
          refine rn_goto (tgt := 42) dX10_lends_38 (by decide) ?_
          refine ra_istore dX10_lends_42 rfl (Nat.le_of_ble_eq_true rfl) ?_
          show Rn _ _ _ _ _ _ _ _ [some (rf E 99), some (.int zx1), some (.int zx2), some (.int zx3), some (.int zx4), some (.int zx5), some (.int zx6), some (.int (1 : Int32)), none] _ _ _
          refine rn_aload_n dX10_lends_44 rfl ?_
          refine rn_iload dX10_lends_45 rfl ?_
          refine rm_callV (c0 := 99) (As := [.int zx5]) (st := []) mlRX10_206 mdX10_ends (Nat.le_of_ble_eq_true rfl) rfl (by decide) (by decide) rfl rfl rfl (Nat.le_of_ble_eq_true rfl) ⟨Nat.le_refl _, Nat.le_refl _⟩ dX10_lends_47 ?_
          refine cm_mono hF (fun w zH_32 hF => ?_)
          obtain ⟨rfl, hF⟩ := hF
          refine rn_iload dX10_lends_50 rfl ?_
          refine rn_iconst (x := (1 : Int32)) dX10_lends_52 (by decide) ?_
          refine rn_iadd dX10_lends_53 ?_
          refine rn_istore dX10_lends_54 rfl (Nat.le_of_ble_eq_true rfl) (fun zx8_33 ezx8_33 => ?_)
          replace hF := hF zx8_33 ezx8_33
          show Rn _ _ _ _ _ _ _ _ [some (rf E 99), some (.int zx1), some (.int zx2), some (.int zx3), some (.int zx4), some (.int zx5), some (.int zx6), some (.int (1 : Int32)), some (.int zx8_33)] _ _ _
          exact rn_wk (L' := [some (rf E 99), some (.int zx1), some (.int zx2), some (.int zx3), some (.int zx4), none, some (.int zx6), none, some (.int zx8_33)]) (⟨rfl, ⟨rfl, ⟨rfl, ⟨rfl, ⟨rfl, ⟨rfl, ⟨rfl, trivial⟩⟩⟩⟩⟩⟩⟩) hF
    · replace hF := hF.2 hc_19
      refine rn_iconst (x := (1 : Int32)) dX10_lends_17 (by decide) ?_
      refine rn_goto (tgt := 22) dX10_lends_18 (by decide) ?_
      refine ra_istore dX10_lends_22 rfl (Nat.le_of_ble_eq_true rfl) ?_
      show Rn _ _ _ _ _ _ _ _ [some (rf E 99), some (.int zx1), some (.int zx2), some (.int zx3), some (.int zx4), some (.int zx5), some (.int zx6), some (.int (1 : Int32)), none] _ _ _
      refine rn_iload_n dX10_lends_24 rfl ?_
      refine rn_iconst (x := (-1 : Int32)) dX10_lends_25 (by decide) ?_
      refine rn_icmp_eq (tgt := 41) dX10_lends_26 (by decide) (fun hc_35 => ?_) (fun hc_35 => ?_)
      · replace hF := hF.1 hc_35
        refine rn_iconst (x := (0 : Int32)) dX10_lends_41 (by decide) ?_
        refine ra_istore dX10_lends_42 rfl (Nat.le_of_ble_eq_true rfl) ?_
        show Rn _ _ _ _ _ _ _ _ [some (rf E 99), some (.int zx1), some (.int zx2), some (.int zx3), some (.int zx4), some (.int zx5), some (.int zx6), some (.int (0 : Int32)), none] _ _ _
        refine rn_aload_n dX10_lends_44 rfl ?_
        refine rn_iload dX10_lends_45 rfl ?_
        refine rm_callV (c0 := 99) (As := [.int zx5]) (st := []) mlRX10_206 mdX10_ends (Nat.le_of_ble_eq_true rfl) rfl (by decide) (by decide) rfl rfl rfl (Nat.le_of_ble_eq_true rfl) ⟨Nat.le_refl _, Nat.le_refl _⟩ dX10_lends_47 ?_
        refine cm_mono hF (fun w zH_37 hF => ?_)
        obtain ⟨rfl, hF⟩ := hF
        refine rn_iload dX10_lends_50 rfl ?_
        refine rn_iconst (x := (1 : Int32)) dX10_lends_52 (by decide) ?_
        refine rn_iadd dX10_lends_53 ?_
        refine rn_istore dX10_lends_54 rfl (Nat.le_of_ble_eq_true rfl) (fun zx8_38 ezx8_38 => ?_)
        replace hF := hF zx8_38 ezx8_38
        show Rn _ _ _ _ _ _ _ _ [some (rf E 99), some (.int zx1), some (.int zx2), some (.int zx3), some (.int zx4), some (.int zx5), some (.int zx6), some (.int (0 : Int32)), some (.int zx8_38)] _ _ _
        exact rn_wk (L' := [some (rf E 99), some (.int zx1), some (.int zx2), some (.int zx3), some (.int zx4), none, some (.int zx6), none, some (.int zx8_38)]) (⟨rfl, ⟨rfl, ⟨rfl, ⟨rfl, ⟨rfl, ⟨rfl, ⟨rfl, trivial⟩⟩⟩⟩⟩⟩⟩) hF
      · replace hF := hF.2 hc_35
        refine rn_aload_n dX10_lends_29 rfl ?_
        refine rn_iload_n dX10_lends_30 rfl ?_
        refine rm_callV (c0 := 99) (As := [.int zx2]) (st := []) mlRX10_196 mdX10_acts (Nat.le_of_ble_eq_true rfl) rfl (by decide) (by decide) rfl rfl rfl (Nat.le_of_ble_eq_true rfl) ⟨Nat.le_refl _, Nat.le_refl _⟩ dX10_lends_31 ?_
        refine cm_mono hF (fun w zH_39 hF => ?_)
        obtain ⟨zr_40, rfl, hF⟩ := hF
        refine rn_if_eq (tgt := 41) dX10_lends_34 (by decide) (fun hc_41 => ?_) (fun hc_41 => ?_)
        · replace hF := hF.1 hc_41
          refine rn_iconst (x := (0 : Int32)) dX10_lends_41 (by decide) ?_
          refine ra_istore dX10_lends_42 rfl (Nat.le_of_ble_eq_true rfl) ?_
          show Rn _ _ _ _ _ _ _ _ [some (rf E 99), some (.int zx1), some (.int zx2), some (.int zx3), some (.int zx4), some (.int zx5), some (.int zx6), some (.int (0 : Int32)), none] _ _ _
          refine rn_aload_n dX10_lends_44 rfl ?_
          refine rn_iload dX10_lends_45 rfl ?_
          refine rm_callV (c0 := 99) (As := [.int zx5]) (st := []) mlRX10_206 mdX10_ends (Nat.le_of_ble_eq_true rfl) rfl (by decide) (by decide) rfl rfl rfl (Nat.le_of_ble_eq_true rfl) ⟨Nat.le_refl _, Nat.le_refl _⟩ dX10_lends_47 ?_
          refine cm_mono hF (fun w zH_43 hF => ?_)
          obtain ⟨rfl, hF⟩ := hF
          refine rn_iload dX10_lends_50 rfl ?_
          refine rn_iconst (x := (1 : Int32)) dX10_lends_52 (by decide) ?_
          refine rn_iadd dX10_lends_53 ?_
          refine rn_istore dX10_lends_54 rfl (Nat.le_of_ble_eq_true rfl) (fun zx8_44 ezx8_44 => ?_)
          replace hF := hF zx8_44 ezx8_44
          show Rn _ _ _ _ _ _ _ _ [some (rf E 99), some (.int zx1), some (.int zx2), some (.int zx3), some (.int zx4), some (.int zx5), some (.int zx6), some (.int (0 : Int32)), some (.int zx8_44)] _ _ _
          exact rn_wk (L' := [some (rf E 99), some (.int zx1), some (.int zx2), some (.int zx3), some (.int zx4), none, some (.int zx6), none, some (.int zx8_44)]) (⟨rfl, ⟨rfl, ⟨rfl, ⟨rfl, ⟨rfl, ⟨rfl, ⟨rfl, trivial⟩⟩⟩⟩⟩⟩⟩) hF
        · replace hF := hF.2 hc_41
          refine rn_iconst (x := (1 : Int32)) dX10_lends_37 (by decide) ?_
          refine rn_goto (tgt := 42) dX10_lends_38 (by decide) ?_
          refine ra_istore dX10_lends_42 rfl (Nat.le_of_ble_eq_true rfl) ?_
          show Rn _ _ _ _ _ _ _ _ [some (rf E 99), some (.int zx1), some (.int zx2), some (.int zx3), some (.int zx4), some (.int zx5), some (.int zx6), some (.int (1 : Int32)), none] _ _ _
          refine rn_aload_n dX10_lends_44 rfl ?_
          refine rn_iload dX10_lends_45 rfl ?_
          refine rm_callV (c0 := 99) (As := [.int zx5]) (st := []) mlRX10_206 mdX10_ends (Nat.le_of_ble_eq_true rfl) rfl (by decide) (by decide) rfl rfl rfl (Nat.le_of_ble_eq_true rfl) ⟨Nat.le_refl _, Nat.le_refl _⟩ dX10_lends_47 ?_
          refine cm_mono hF (fun w zH_46 hF => ?_)
          obtain ⟨rfl, hF⟩ := hF
          refine rn_iload dX10_lends_50 rfl ?_
          refine rn_iconst (x := (1 : Int32)) dX10_lends_52 (by decide) ?_
          refine rn_iadd dX10_lends_53 ?_
          refine rn_istore dX10_lends_54 rfl (Nat.le_of_ble_eq_true rfl) (fun zx8_47 ezx8_47 => ?_)
          replace hF := hF zx8_47 ezx8_47
          show Rn _ _ _ _ _ _ _ _ [some (rf E 99), some (.int zx1), some (.int zx2), some (.int zx3), some (.int zx4), some (.int zx5), some (.int zx6), some (.int (1 : Int32)), some (.int zx8_47)] _ _ _
          exact rn_wk (L' := [some (rf E 99), some (.int zx1), some (.int zx2), some (.int zx3), some (.int zx4), none, some (.int zx6), none, some (.int zx8_47)]) (⟨rfl, ⟨rfl, ⟨rfl, ⟨rfl, ⟨rfl, ⟨rfl, ⟨rfl, trivial⟩⟩⟩⟩⟩⟩⟩) hF
theorem cmX10_lends {E : En} {Q : Option Value → Hi → Prop} {H : Hi} {zx1 : Int32} {zx2 : Int32} {zx3 : Int32} {zx4 : Int32} {zx5 : Int32} {zx6 : Int32} 
    (hF : Cm E mX10_restores [rf E 99] H (fun w zH_1 => w = none ∧ ((zx1 = (-1 : Int32) → ((zx2 = (-1 : Int32) → (Cm E mX10_ends [rf E 99, .int zx5] zH_1 (fun w zH_6 => w = none ∧ (∀ zx8_7 : Int32, zx8_7 = zx5 + (1 : Int32) → (Rm E mX10_lends Q 56 [some (rf E 99), some (.int zx1), some (.int zx2), some (.int zx3), some (.int zx4), none, some (.int zx6), none, some (.int zx8_7)] [] zH_6))))) ∧ (¬ zx2 = (-1 : Int32) → (Cm E mX10_acts [rf E 99, .int zx2] zH_1 (fun w zH_8 => ∃ zr_9 : Int32, w = some (.int zr_9) ∧ ((zr_9 = 0 → (Cm E mX10_ends [rf E 99, .int zx5] zH_8 (fun w zH_12 => w = none ∧ (∀ zx8_13 : Int32, zx8_13 = zx5 + (1 : Int32) → (Rm E mX10_lends Q 56 [some (rf E 99), some (.int zx1), some (.int zx2), some (.int zx3), some (.int zx4), none, some (.int zx6), none, some (.int zx8_13)] [] zH_12))))) ∧ (¬ zr_9 = 0 → (Cm E mX10_ends [rf E 99, .int zx5] zH_8 (fun w zH_15 => w = none ∧ (∀ zx8_16 : Int32, zx8_16 = zx5 + (1 : Int32) → (Rm E mX10_lends Q 56 [some (rf E 99), some (.int zx1), some (.int zx2), some (.int zx3), some (.int zx4), none, some (.int zx6), none, some (.int zx8_16)] [] zH_15))))))))))) ∧ (¬ zx1 = (-1 : Int32) → (Cm E mX10_acts [rf E 99, .int zx1] zH_1 (fun w zH_17 => ∃ zr_18 : Int32, w = some (.int zr_18) ∧ ((zr_18 = 0 → ((zx2 = (-1 : Int32) → (Cm E mX10_ends [rf E 99, .int zx5] zH_17 (fun w zH_23 => w = none ∧ (∀ zx8_24 : Int32, zx8_24 = zx5 + (1 : Int32) → (Rm E mX10_lends Q 56 [some (rf E 99), some (.int zx1), some (.int zx2), some (.int zx3), some (.int zx4), none, some (.int zx6), none, some (.int zx8_24)] [] zH_23))))) ∧ (¬ zx2 = (-1 : Int32) → (Cm E mX10_acts [rf E 99, .int zx2] zH_17 (fun w zH_25 => ∃ zr_26 : Int32, w = some (.int zr_26) ∧ ((zr_26 = 0 → (Cm E mX10_ends [rf E 99, .int zx5] zH_25 (fun w zH_29 => w = none ∧ (∀ zx8_30 : Int32, zx8_30 = zx5 + (1 : Int32) → (Rm E mX10_lends Q 56 [some (rf E 99), some (.int zx1), some (.int zx2), some (.int zx3), some (.int zx4), none, some (.int zx6), none, some (.int zx8_30)] [] zH_29))))) ∧ (¬ zr_26 = 0 → (Cm E mX10_ends [rf E 99, .int zx5] zH_25 (fun w zH_32 => w = none ∧ (∀ zx8_33 : Int32, zx8_33 = zx5 + (1 : Int32) → (Rm E mX10_lends Q 56 [some (rf E 99), some (.int zx1), some (.int zx2), some (.int zx3), some (.int zx4), none, some (.int zx6), none, some (.int zx8_33)] [] zH_32))))))))))) ∧ (¬ zr_18 = 0 → ((zx2 = (-1 : Int32) → (Cm E mX10_ends [rf E 99, .int zx5] zH_17 (fun w zH_37 => w = none ∧ (∀ zx8_38 : Int32, zx8_38 = zx5 + (1 : Int32) → (Rm E mX10_lends Q 56 [some (rf E 99), some (.int zx1), some (.int zx2), some (.int zx3), some (.int zx4), none, some (.int zx6), none, some (.int zx8_38)] [] zH_37))))) ∧ (¬ zx2 = (-1 : Int32) → (Cm E mX10_acts [rf E 99, .int zx2] zH_17 (fun w zH_39 => ∃ zr_40 : Int32, w = some (.int zr_40) ∧ ((zr_40 = 0 → (Cm E mX10_ends [rf E 99, .int zx5] zH_39 (fun w zH_43 => w = none ∧ (∀ zx8_44 : Int32, zx8_44 = zx5 + (1 : Int32) → (Rm E mX10_lends Q 56 [some (rf E 99), some (.int zx1), some (.int zx2), some (.int zx3), some (.int zx4), none, some (.int zx6), none, some (.int zx8_44)] [] zH_43))))) ∧ (¬ zr_40 = 0 → (Cm E mX10_ends [rf E 99, .int zx5] zH_39 (fun w zH_46 => w = none ∧ (∀ zx8_47 : Int32, zx8_47 = zx5 + (1 : Int32) → (Rm E mX10_lends Q 56 [some (rf E 99), some (.int zx1), some (.int zx2), some (.int zx3), some (.int zx4), none, some (.int zx6), none, some (.int zx8_47)] [] zH_46)))))))))))))))))) :
    Cm E mX10_lends [rf E 99, .int zx1, .int zx2, .int zx3, .int zx4, .int zx5, .int zx6] H Q :=
  cm_of (by decide +kernel : plainName RX10 = true) (Nat.le_of_ble_eq_true rfl) rfl (sgX10_lends_0  hF)
theorem sgX10_lends_56 {E : En} {Q : Option Value → Hi → Prop} {H : Hi} {zx1 : Int32} {zx2 : Int32} {zx3 : Int32} {zx4 : Int32} {zx6 : Int32} {zx8 : Int32} 
    (hF : (zx6 < zx8 → (∀ zH_2 : Hi, zH_2 = up H 119 0 zx1 → (∀ zH_3 : Hi, zH_3 = up zH_2 119 1 zx2 → (∃ zj_4 : Nat, (zj_4 < 8 ∧ zx4 = nI zj_4) ∧ ((¬ (zH_3 111 zj_4) = zx3 → (Q (some (.int (0 : Int32))) zH_3)) ∧ ((zH_3 111 zj_4) = zx3 → (Q (some (.int (1 : Int32))) zH_3))))))) ∧ (¬ zx6 < zx8 → (Cm E mX10_goesBy [rf E 99, .int zx8] H (fun w zH_6 => w = none ∧ (∀ zx8_7 : Int32, zx8_7 = zx8 + (1 : Int32) → (Rm E mX10_lends Q 56 [some (rf E 99), some (.int zx1), some (.int zx2), some (.int zx3), some (.int zx4), none, some (.int zx6), none, some (.int zx8_7)] [] zH_6)))))) :
    Rm E mX10_lends Q 56 [some (rf E 99), some (.int zx1), some (.int zx2), some (.int zx3), some (.int zx4), none, some (.int zx6), none, some (.int zx8)] [] H := by
  refine rn_iload dX10_lends_56 rfl ?_
  refine rn_iload dX10_lends_58 rfl ?_
  refine rn_icmp_gt (tgt := 75) dX10_lends_60 (by decide) (fun hc_1 => ?_) (fun hc_1 => ?_)
  · replace hF := hF.1 hc_1
    refine rn_aload_n dX10_lends_75 rfl ?_
    refine rm_getr (r := 119) flRX10_68 rfl (by decide) rfl dX10_lends_76 ?_
    refine rn_iconst (x := (0 : Int32)) dX10_lends_79 (by decide) ?_
    refine rn_iload_n dX10_lends_80 rfl ?_
    refine rj_iast (j := 0) ⟨by decide, by decide⟩ rfl (by decide) rfl (by decide) dX10_lends_81 (fun zH_2 ezH_2 => ?_)
    replace hF := hF zH_2 ezH_2
    refine rn_aload_n dX10_lends_82 rfl ?_
    refine rm_getr (r := 119) flRX10_68 rfl (by decide) rfl dX10_lends_83 ?_
    refine rn_iconst (x := (1 : Int32)) dX10_lends_86 (by decide) ?_
    refine rn_iload_n dX10_lends_87 rfl ?_
    refine rj_iast (j := 1) ⟨by decide, by decide⟩ rfl (by decide) rfl (by decide) dX10_lends_88 (fun zH_3 ezH_3 => ?_)
    replace hF := hF zH_3 ezH_3
    refine rn_aload_n dX10_lends_89 rfl ?_
    refine rm_getr (r := 111) flRX10_43 rfl (by decide) rfl dX10_lends_90 ?_
    refine rn_iload dX10_lends_93 rfl ?_
    obtain ⟨zj_4, hzj_4, hF⟩ := hF
    refine rj_iald (j := zj_4) hzj_4 rfl (by decide) rfl (by decide) dX10_lends_95 ?_
    refine rn_iload_n dX10_lends_96 rfl ?_
    refine rn_icmp_ne (tgt := 104) dX10_lends_97 (by decide) (fun hc_5 => ?_) (fun hc_5 => ?_)
    · replace hF := hF.1 hc_5
      refine rn_iconst (x := (0 : Int32)) dX10_lends_104 (by decide) ?_
      exact rm_zret rfl rfl dX10_lends_105 hF
    · replace hF := hF.2 hc_5
      refine rn_iconst (x := (1 : Int32)) dX10_lends_100 (by decide) ?_
      refine rn_goto (tgt := 105) dX10_lends_101 (by decide) ?_
      exact rm_zret rfl rfl dX10_lends_105 hF
  · replace hF := hF.2 hc_1
    refine rn_aload_n dX10_lends_63 rfl ?_
    refine rn_iload dX10_lends_64 rfl ?_
    refine rm_callV (c0 := 99) (As := [.int zx8]) (st := []) mlRX10_212 mdX10_goesBy (Nat.le_of_ble_eq_true rfl) rfl (by decide) (by decide) rfl rfl rfl (Nat.le_of_ble_eq_true rfl) ⟨Nat.le_refl _, Nat.le_refl _⟩ dX10_lends_66 ?_
    refine cm_mono hF (fun w zH_6 hF => ?_)
    obtain ⟨rfl, hF⟩ := hF
    refine rn_iinc (w := (1 : Int32)) dX10_lends_69 rfl (by decide) rfl (Nat.le_of_ble_eq_true rfl) (fun zx8_7 ezx8_7 => ?_)
    replace hF := hF zx8_7 ezx8_7
    show Rn _ _ _ _ _ _ _ _ [some (rf E 99), some (.int zx1), some (.int zx2), some (.int zx3), some (.int zx4), none, some (.int zx6), none, some (.int zx8_7)] _ _ _
    refine rn_goto (tgt := 56) dX10_lends_72 (by decide) ?_
    exact rn_wk (L' := [some (rf E 99), some (.int zx1), some (.int zx2), some (.int zx3), some (.int zx4), none, some (.int zx6), none, some (.int zx8_7)]) (⟨rfl, ⟨rfl, ⟨rfl, ⟨rfl, ⟨rfl, ⟨rfl, ⟨rfl, trivial⟩⟩⟩⟩⟩⟩⟩) hF
theorem sgX10_mayCode_0 {E : En} {Q : Option Value → Hi → Prop} {H : Hi} {zx1 : Int32} 
    (hF : ((H 99 6) ≤ ((zx1 / (8 : Int32)) - (zx1 / (8 : Int32)) / (8 : Int32) * (8 : Int32)) → (Q (some (.int (0 : Int32))) H)) ∧ (¬ (H 99 6) ≤ ((zx1 / (8 : Int32)) - (zx1 / (8 : Int32)) / (8 : Int32) * (8 : Int32)) → (((H 99 2) ≤ (zx1 - zx1 / (8 : Int32) * (8 : Int32)) → (Q (some (.int (0 : Int32))) H)) ∧ (¬ (H 99 2) ≤ (zx1 - zx1 / (8 : Int32) * (8 : Int32)) → (Q (some (.int (1 : Int32))) H))))) :
    Rm E mX10_mayCode Q 0 [some (rf E 99), some (.int zx1)] [] H := by
  refine rn_iload_n dX10_mayCode_0 rfl ?_
  refine rn_bipush (x := (8 : Int32)) dX10_mayCode_1 (by decide) ?_
  refine rn_idiv dX10_mayCode_3 (by decide) ?_
  refine rn_bipush (x := (8 : Int32)) dX10_mayCode_4 (by decide) ?_
  refine rn_irem dX10_mayCode_6 (by decide) ?_
  refine rn_aload_n dX10_mayCode_7 rfl ?_
  refine rm_geti flRX10_128 rfl (by decide) rfl dX10_mayCode_8 ?_
  refine rn_icmp_ge (tgt := 29) dX10_mayCode_11 (by decide) (fun hc_1 => ?_) (fun hc_1 => ?_)
  · replace hF := hF.1 hc_1
    refine rn_iconst (x := (0 : Int32)) dX10_mayCode_29 (by decide) ?_
    exact rm_zret rfl rfl dX10_mayCode_30 hF
  · replace hF := hF.2 hc_1
    refine rn_iload_n dX10_mayCode_14 rfl ?_
    refine rn_bipush (x := (8 : Int32)) dX10_mayCode_15 (by decide) ?_
    refine rn_irem dX10_mayCode_17 (by decide) ?_
    refine rn_aload_n dX10_mayCode_18 rfl ?_
    refine rm_geti flRX10_125 rfl (by decide) rfl dX10_mayCode_19 ?_
    refine rn_icmp_ge (tgt := 29) dX10_mayCode_22 (by decide) (fun hc_2 => ?_) (fun hc_2 => ?_)
    · replace hF := hF.1 hc_2
      refine rn_iconst (x := (0 : Int32)) dX10_mayCode_29 (by decide) ?_
      exact rm_zret rfl rfl dX10_mayCode_30 hF
    · replace hF := hF.2 hc_2
      refine rn_iconst (x := (1 : Int32)) dX10_mayCode_25 (by decide) ?_
      refine rn_goto (tgt := 30) dX10_mayCode_26 (by decide) ?_
      exact rm_zret rfl rfl dX10_mayCode_30 hF
theorem cmX10_mayCode {E : En} {Q : Option Value → Hi → Prop} {H : Hi} {zx1 : Int32} 
    (hF : ((H 99 6) ≤ ((zx1 / (8 : Int32)) - (zx1 / (8 : Int32)) / (8 : Int32) * (8 : Int32)) → (Q (some (.int (0 : Int32))) H)) ∧ (¬ (H 99 6) ≤ ((zx1 / (8 : Int32)) - (zx1 / (8 : Int32)) / (8 : Int32) * (8 : Int32)) → (((H 99 2) ≤ (zx1 - zx1 / (8 : Int32) * (8 : Int32)) → (Q (some (.int (0 : Int32))) H)) ∧ (¬ (H 99 2) ≤ (zx1 - zx1 / (8 : Int32) * (8 : Int32)) → (Q (some (.int (1 : Int32))) H))))) :
    Cm E mX10_mayCode [rf E 99, .int zx1] H Q :=
  cm_of (by decide +kernel : plainName RX10 = true) (Nat.le_of_ble_eq_true rfl) rfl (sgX10_mayCode_0  hF)
