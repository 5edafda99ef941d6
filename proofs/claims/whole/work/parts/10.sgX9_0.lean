theorem sgX9_type_0 {E : En} {Q : Option Value → Hi → Prop} {H : Hi} {zx1 : Int32} {zx2 : Int32} 
    (hF : Cm E mX9_isText [.int zx1] H (fun w zH_1 => ∃ zr_2 : Int32, w = some (.int zr_2) ∧ ((zr_2 = 0 → (Q (some (.int (-2 : Int32))) zH_1)) ∧ (¬ zr_2 = 0 → ((zx2 < 0 → (Q (some (.int (-2 : Int32))) zH_1)) ∧ (¬ zx2 < 0 → ((zx2 ≤ (255 : Int32) → (∀ zH_6 : Hi, zH_6 = up zH_1 0 9 (1 : Int32) → (Cm E mX9_textOf [rf E 0, .int zx1] zH_6 (fun w zH_7 => (w = some (rf E 1) ∧ (Cm E mX7_append [rf E 1, .int zx2] zH_7 (fun w zH_8 => ∃ zr_9 : Int32, w = some (.int zr_9) ∧ (Q (some (.int zr_9)) zH_8)))) ∨ (w = some (rf E 3) ∧ (Cm E mX7_append [rf E 3, .int zx2] zH_7 (fun w zH_10 => ∃ zr_11 : Int32, w = some (.int zr_11) ∧ (Q (some (.int zr_11)) zH_10)))))))) ∧ (¬ zx2 ≤ (255 : Int32) → (Q (some (.int (-2 : Int32))) zH_1))))))))) :
    Rm E mX9_type Q 0 [some (rf E 0), some (.int zx1), some (.int zx2)] [] H := by
  refine rn_iload_n dX9_type_0 rfl ?_
  refine rm_callS (As := [.int zx1]) (st := []) mlRX9_83 mdX9_isText (Nat.le_of_ble_eq_true rfl) rfl rfl (Nat.le_of_ble_eq_true rfl) ⟨Nat.le_refl _, Nat.le_refl _⟩ dX9_type_1 ?_
  refine cm_mono hF (fun w zH_1 hF => ?_)
  obtain ⟨zr_2, rfl, hF⟩ := hF
  refine rn_if_eq (tgt := 18) dX9_type_4 (by decide) (fun hc_3 => ?_) (fun hc_3 => ?_)
  · replace hF := hF.1 hc_3
    refine rn_bipush (x := (-2 : Int32)) dX9_type_18 (by decide) ?_
    exact rm_iret rfl dX9_type_20 hF
  · replace hF := hF.2 hc_3
    refine rn_iload_n dX9_type_7 rfl ?_
    refine rn_if_lt (tgt := 18) dX9_type_8 (by decide) (fun hc_4 => ?_) (fun hc_4 => ?_)
    · replace hF := hF.1 hc_4
      refine rn_bipush (x := (-2 : Int32)) dX9_type_18 (by decide) ?_
      exact rm_iret rfl dX9_type_20 hF
    · replace hF := hF.2 hc_4
      refine rn_iload_n dX9_type_11 rfl ?_
      refine rn_sipush (x := (255 : Int32)) dX9_type_12 (by decide) ?_
      refine rn_icmp_le (tgt := 21) dX9_type_15 (by decide) (fun hc_5 => ?_) (fun hc_5 => ?_)
      · replace hF := hF.1 hc_5
        refine rn_aload_n dX9_type_21 rfl ?_
        refine rn_iconst (x := (1 : Int32)) dX9_type_22 (by decide) ?_
        refine rm_putz flRX9_79 rfl (by decide) rfl rfl rfl dX9_type_23 (fun zH_6 ezH_6 => ?_)
        replace hF := hF zH_6 ezH_6
        refine rn_aload_n dX9_type_26 rfl ?_
        refine rn_iload_n dX9_type_27 rfl ?_
        refine rm_callV (c0 := 0) (As := [.int zx1]) (st := []) mlRX9_87 mdX9_textOf (Nat.le_of_ble_eq_true rfl) rfl (by decide) (by decide) rfl rfl rfl (Nat.le_of_ble_eq_true rfl) ⟨Nat.le_refl _, Nat.le_refl _⟩ dX9_type_28 ?_
        refine cm_mono hF (fun w zH_7 hF => ?_)
        rcases hF with ⟨rfl, hF⟩ | ⟨rfl, hF⟩
        · refine rn_iload_n dX9_type_31 rfl ?_
          refine rm_callV (c0 := 1) (As := [.int zx2]) (st := []) mlRX9_91 mdX7_append (Nat.le_of_ble_eq_true rfl) rfl (by decide) (by decide) rfl rfl rfl (Nat.le_of_ble_eq_true rfl) ⟨Nat.le_refl _, Nat.le_refl _⟩ dX9_type_32 ?_
          refine cm_mono hF (fun w zH_8 hF => ?_)
          obtain ⟨zr_9, rfl, hF⟩ := hF
          exact rm_iret rfl dX9_type_35 hF
        · refine rn_iload_n dX9_type_31 rfl ?_
          refine rm_callV (c0 := 3) (As := [.int zx2]) (st := []) mlRX9_91 mdX7_append (Nat.le_of_ble_eq_true rfl) rfl (by decide) (by decide) rfl rfl rfl (Nat.le_of_ble_eq_true rfl) ⟨Nat.le_refl _, Nat.le_refl _⟩ dX9_type_32 ?_
          refine cm_mono hF (fun w zH_10 hF => ?_)
          obtain ⟨zr_11, rfl, hF⟩ := hF
          exact rm_iret rfl dX9_type_35 hF
      · replace hF := hF.2 hc_5
        refine rn_bipush (x := (-2 : Int32)) dX9_type_18 (by decide) ?_
        exact rm_iret rfl dX9_type_20 hF
theorem cmX9_type {E : En} {Q : Option Value → Hi → Prop} {H : Hi} {zx1 : Int32} {zx2 : Int32} 
    (hF : Cm E mX9_isText [.int zx1] H (fun w zH_1 => ∃ zr_2 : Int32, w = some (.int zr_2) ∧ ((zr_2 = 0 → (Q (some (.int (-2 : Int32))) zH_1)) ∧ (¬ zr_2 = 0 → ((zx2 < 0 → (Q (some (.int (-2 : Int32))) zH_1)) ∧ (¬ zx2 < 0 → ((zx2 ≤ (255 : Int32) → (∀ zH_6 : Hi, zH_6 = up zH_1 0 9 (1 : Int32) → (Cm E mX9_textOf [rf E 0, .int zx1] zH_6 (fun w zH_7 => (w = some (rf E 1) ∧ (Cm E mX7_append [rf E 1, .int zx2] zH_7 (fun w zH_8 => ∃ zr_9 : Int32, w = some (.int zr_9) ∧ (Q (some (.int zr_9)) zH_8)))) ∨ (w = some (rf E 3) ∧ (Cm E mX7_append [rf E 3, .int zx2] zH_7 (fun w zH_10 => ∃ zr_11 : Int32, w = some (.int zr_11) ∧ (Q (some (.int zr_11)) zH_10)))))))) ∧ (¬ zx2 ≤ (255 : Int32) → (Q (some (.int (-2 : Int32))) zH_1))))))))) :
    Cm E mX9_type [rf E 0, .int zx1, .int zx2] H Q :=
  cm_of (by decide +kernel : plainName RX9 = true) (Nat.le_of_ble_eq_true rfl) rfl (sgX9_type_0  hF)
theorem sgX9_wipe_0 {E : En} {Q : Option Value → Hi → Prop} {H : Hi} {zx1 : Int32} 
    (hF : Cm E mX9_isText [.int zx1] H (fun w zH_1 => ∃ zr_2 : Int32, w = some (.int zr_2) ∧ ((¬ zr_2 = 0 → (∀ zH_4 : Hi, zH_4 = up zH_1 0 9 (1 : Int32) → (Cm E mX9_textOf [rf E 0, .int zx1] zH_4 (fun w zH_5 => (w = some (rf E 1) ∧ (∀ zx3_6 : Int32, zx3_6 = zH_5 1 5 → (∀ zH_7 : Hi, zH_7 = up zH_5 1 5 (0 : Int32) → (Q (some (.int zx3_6)) zH_7)))) ∨ (w = some (rf E 3) ∧ (∀ zx3_8 : Int32, zx3_8 = zH_5 3 5 → (∀ zH_9 : Hi, zH_9 = up zH_5 3 5 (0 : Int32) → (Q (some (.int zx3_8)) zH_9)))))))) ∧ (zr_2 = 0 → (Q (some (.int (-2 : Int32))) zH_1))))) :
    Rm E mX9_wipe Q 0 [some (rf E 0), some (.int zx1), none, none] [] H := by
  refine rn_iload_n dX9_wipe_0 rfl ?_
  refine rm_callS (As := [.int zx1]) (st := []) mlRX9_83 mdX9_isText (Nat.le_of_ble_eq_true rfl) rfl rfl (Nat.le_of_ble_eq_true rfl) ⟨Nat.le_refl _, Nat.le_refl _⟩ dX9_wipe_1 ?_
  refine cm_mono hF (fun w zH_1 hF => ?_)
  obtain ⟨zr_2, rfl, hF⟩ := hF
  refine rn_if_ne (tgt := 10) dX9_wipe_4 (by decide) (fun hc_3 => ?_) (fun hc_3 => ?_)
  · replace hF := hF.1 hc_3
    refine rn_aload_n dX9_wipe_10 rfl ?_
    refine rn_iconst (x := (1 : Int32)) dX9_wipe_11 (by decide) ?_
    refine rm_putz flRX9_79 rfl (by decide) rfl rfl rfl dX9_wipe_12 (fun zH_4 ezH_4 => ?_)
    replace hF := hF zH_4 ezH_4
    refine rn_aload_n dX9_wipe_15 rfl ?_
    refine rn_iload_n dX9_wipe_16 rfl ?_
    refine rm_callV (c0 := 0) (As := [.int zx1]) (st := []) mlRX9_87 mdX9_textOf (Nat.le_of_ble_eq_true rfl) rfl (by decide) (by decide) rfl rfl rfl (Nat.le_of_ble_eq_true rfl) ⟨Nat.le_refl _, Nat.le_refl _⟩ dX9_wipe_17 ?_
    refine cm_mono hF (fun w zH_5 hF => ?_)
    rcases hF with ⟨rfl, hF⟩ | ⟨rfl, hF⟩
    · refine rn_astore_n dX9_wipe_20 rfl (Nat.le_of_ble_eq_true rfl) ?_
      show Rn _ _ _ _ _ _ _ _ [some (rf E 0), some (.int zx1), some (rf E 1), none] _ _ _
      refine rn_aload_n dX9_wipe_21 rfl ?_
      refine rm_geti flRX9_95 rfl (by decide) rfl dX9_wipe_22 ?_
      refine rn_istore_n dX9_wipe_25 rfl (Nat.le_of_ble_eq_true rfl) (fun zx3_6 ezx3_6 => ?_)
      replace hF := hF zx3_6 ezx3_6
      show Rn _ _ _ _ _ _ _ _ [some (rf E 0), some (.int zx1), some (rf E 1), some (.int zx3_6)] _ _ _
      refine rn_aload_n dX9_wipe_26 rfl ?_
      refine rn_iconst (x := (0 : Int32)) dX9_wipe_27 (by decide) ?_
      refine rm_puti flRX9_95 rfl (by decide) rfl dX9_wipe_28 (fun zH_7 ezH_7 => ?_)
      replace hF := hF zH_7 ezH_7
      refine rn_iload_n dX9_wipe_31 rfl ?_
      exact rm_iret rfl dX9_wipe_32 hF
    · refine rn_astore_n dX9_wipe_20 rfl (Nat.le_of_ble_eq_true rfl) ?_
      show Rn _ _ _ _ _ _ _ _ [some (rf E 0), some (.int zx1), some (rf E 3), none] _ _ _
      refine rn_aload_n dX9_wipe_21 rfl ?_
      refine rm_geti flRX9_95 rfl (by decide) rfl dX9_wipe_22 ?_
      refine rn_istore_n dX9_wipe_25 rfl (Nat.le_of_ble_eq_true rfl) (fun zx3_8 ezx3_8 => ?_)
      replace hF := hF zx3_8 ezx3_8
      show Rn _ _ _ _ _ _ _ _ [some (rf E 0), some (.int zx1), some (rf E 3), some (.int zx3_8)] _ _ _
      refine rn_aload_n dX9_wipe_26 rfl ?_
      refine rn_iconst (x := (0 : Int32)) dX9_wipe_27 (by decide) ?_
      refine rm_puti flRX9_95 rfl (by decide) rfl dX9_wipe_28 (fun zH_9 ezH_9 => ?_)
      replace hF := hF zH_9 ezH_9
      refine rn_iload_n dX9_wipe_31 rfl ?_
      exact rm_iret rfl dX9_wipe_32 hF
  · replace hF := hF.2 hc_3
    refine rn_bipush (x := (-2 : Int32)) dX9_wipe_7 (by decide) ?_
    exact rm_iret rfl dX9_wipe_9 hF
theorem cmX9_wipe {E : En} {Q : Option Value → Hi → Prop} {H : Hi} {zx1 : Int32} 
    (hF : Cm E mX9_isText [.int zx1] H (fun w zH_1 => ∃ zr_2 : Int32, w = some (.int zr_2) ∧ ((¬ zr_2 = 0 → (∀ zH_4 : Hi, zH_4 = up zH_1 0 9 (1 : Int32) → (Cm E mX9_textOf [rf E 0, .int zx1] zH_4 (fun w zH_5 => (w = some (rf E 1) ∧ (∀ zx3_6 : Int32, zx3_6 = zH_5 1 5 → (∀ zH_7 : Hi, zH_7 = up zH_5 1 5 (0 : Int32) → (Q (some (.int zx3_6)) zH_7)))) ∨ (w = some (rf E 3) ∧ (∀ zx3_8 : Int32, zx3_8 = zH_5 3 5 → (∀ zH_9 : Hi, zH_9 = up zH_5 3 5 (0 : Int32) → (Q (some (.int zx3_8)) zH_9)))))))) ∧ (zr_2 = 0 → (Q (some (.int (-2 : Int32))) zH_1))))) :
    Cm E mX9_wipe [rf E 0, .int zx1] H Q :=
  cm_of (by decide +kernel : plainName RX9 = true) (Nat.le_of_ble_eq_true rfl) rfl (sgX9_wipe_0  hF)
theorem sgX9_undo_0 {E : En} {Q : Option Value → Hi → Prop} {H : Hi} {zx1 : Int32} 
    (hF : Cm E mX9_isText [.int zx1] H (fun w zH_1 => ∃ zr_2 : Int32, w = some (.int zr_2) ∧ ((¬ zr_2 = 0 → (Cm E mX9_textOf [rf E 0, .int zx1] zH_1 (fun w zH_4 => (w = some (rf E 1) ∧ ((¬ (zH_4 1 5) = 0 → (∀ zH_6 : Hi, zH_6 = up zH_4 0 9 (1 : Int32) → (∀ zH_7 : Hi, zH_7 = up zH_6 1 5 ((zH_6 1 5) - (1 : Int32)) → (Q (some (.int (zH_7 1 5))) zH_7)))) ∧ ((zH_4 1 5) = 0 → (Q (some (.int (-3 : Int32))) zH_4)))) ∨ (w = some (rf E 3) ∧ ((¬ (zH_4 3 5) = 0 → (∀ zH_9 : Hi, zH_9 = up zH_4 0 9 (1 : Int32) → (∀ zH_10 : Hi, zH_10 = up zH_9 3 5 ((zH_9 3 5) - (1 : Int32)) → (Q (some (.int (zH_10 3 5))) zH_10)))) ∧ ((zH_4 3 5) = 0 → (Q (some (.int (-3 : Int32))) zH_4))))))) ∧ (zr_2 = 0 → (Q (some (.int (-2 : Int32))) zH_1))))) :
    Rm E mX9_undo Q 0 [some (rf E 0), some (.int zx1), none] [] H := by
  refine rn_iload_n dX9_undo_0 rfl ?_
  refine rm_callS (As := [.int zx1]) (st := []) mlRX9_83 mdX9_isText (Nat.le_of_ble_eq_true rfl) rfl rfl (Nat.le_of_ble_eq_true rfl) ⟨Nat.le_refl _, Nat.le_refl _⟩ dX9_undo_1 ?_
  refine cm_mono hF (fun w zH_1 hF => ?_)
  obtain ⟨zr_2, rfl, hF⟩ := hF
  refine rn_if_ne (tgt := 10) dX9_undo_4 (by decide) (fun hc_3 => ?_) (fun hc_3 => ?_)
  · replace hF := hF.1 hc_3
    refine rn_aload_n dX9_undo_10 rfl ?_
    refine rn_iload_n dX9_undo_11 rfl ?_
    refine rm_callV (c0 := 0) (As := [.int zx1]) (st := []) mlRX9_87 mdX9_textOf (Nat.le_of_ble_eq_true rfl) rfl (by decide) (by decide) rfl rfl rfl (Nat.le_of_ble_eq_true rfl) ⟨Nat.le_refl _, Nat.le_refl _⟩ dX9_undo_12 ?_
    refine cm_mono hF (fun w zH_4 hF => ?_)
    rcases hF with ⟨rfl, hF⟩ | ⟨rfl, hF⟩
    · refine rn_astore_n dX9_undo_15 rfl (Nat.le_of_ble_eq_true rfl) ?_
      show Rn _ _ _ _ _ _ _ _ [some (rf E 0), some (.int zx1), some (rf E 1)] _ _ _
      refine rn_aload_n dX9_undo_16 rfl ?_
      refine rm_geti flRX9_95 rfl (by decide) rfl dX9_undo_17 ?_
      refine rn_if_ne (tgt := 26) dX9_undo_20 (by decide) (fun hc_5 => ?_) (fun hc_5 => ?_)
      · replace hF := hF.1 hc_5
        refine rn_aload_n dX9_undo_26 rfl ?_
        refine rn_iconst (x := (1 : Int32)) dX9_undo_27 (by decide) ?_
        refine rm_putz flRX9_79 rfl (by decide) rfl rfl rfl dX9_undo_28 (fun zH_6 ezH_6 => ?_)
        replace hF := hF zH_6 ezH_6
        refine rn_aload_n dX9_undo_31 rfl ?_
        refine rn_dup dX9_undo_32 rfl ?_
        refine rm_geti flRX9_95 rfl (by decide) rfl dX9_undo_33 ?_
        refine rn_iconst (x := (1 : Int32)) dX9_undo_36 (by decide) ?_
        refine rn_isub dX9_undo_37 ?_
        refine rm_puti flRX9_95 rfl (by decide) rfl dX9_undo_38 (fun zH_7 ezH_7 => ?_)
        replace hF := hF zH_7 ezH_7
        refine rn_aload_n dX9_undo_41 rfl ?_
        refine rm_geti flRX9_95 rfl (by decide) rfl dX9_undo_42 ?_
        exact rm_iret rfl dX9_undo_45 hF
      · replace hF := hF.2 hc_5
        refine rn_bipush (x := (-3 : Int32)) dX9_undo_23 (by decide) ?_
        exact rm_iret rfl dX9_undo_25 hF
    · refine rn_astore_n dX9_undo_15 rfl (Nat.le_of_ble_eq_true rfl) ?_
      show Rn _ _ _ _ _ _ _ _ [some (rf E 0), some (.int zx1), some (rf E 3)] _ _ _
      refine rn_aload_n dX9_undo_16 rfl ?_
      refine rm_geti flRX9_95 rfl (by decide) rfl dX9_undo_17 ?_
      refine rn_if_ne (tgt := 26) dX9_undo_20 (by decide) (fun hc_8 => ?_) (fun hc_8 => ?_)
      · replace hF := hF.1 hc_8
        refine rn_aload_n dX9_undo_26 rfl ?_
        refine rn_iconst (x := (1 : Int32)) dX9_undo_27 (by decide) ?_
        refine rm_putz flRX9_79 rfl (by decide) rfl rfl rfl dX9_undo_28 (fun zH_9 ezH_9 => ?_)
        replace hF := hF zH_9 ezH_9
        refine rn_aload_n dX9_undo_31 rfl ?_
        refine rn_dup dX9_undo_32 rfl ?_
        refine rm_geti flRX9_95 rfl (by decide) rfl dX9_undo_33 ?_
        refine rn_iconst (x := (1 : Int32)) dX9_undo_36 (by decide) ?_
        refine rn_isub dX9_undo_37 ?_
        refine rm_puti flRX9_95 rfl (by decide) rfl dX9_undo_38 (fun zH_10 ezH_10 => ?_)
        replace hF := hF zH_10 ezH_10
        refine rn_aload_n dX9_undo_41 rfl ?_
        refine rm_geti flRX9_95 rfl (by decide) rfl dX9_undo_42 ?_
        exact rm_iret rfl dX9_undo_45 hF
      · replace hF := hF.2 hc_8
        refine rn_bipush (x := (-3 : Int32)) dX9_undo_23 (by decide) ?_
        exact rm_iret rfl dX9_undo_25 hF
  · replace hF := hF.2 hc_3
    refine rn_bipush (x := (-2 : Int32)) dX9_undo_7 (by decide) ?_
    exact rm_iret rfl dX9_undo_9 hF
theorem cmX9_undo {E : En} {Q : Option Value → Hi → Prop} {H : Hi} {zx1 : Int32} 
    (hF : Cm E mX9_isText [.int zx1] H (fun w zH_1 => ∃ zr_2 : Int32, w = some (.int zr_2) ∧ ((¬ zr_2 = 0 → (Cm E mX9_textOf [rf E 0, .int zx1] zH_1 (fun w zH_4 => (w = some (rf E 1) ∧ ((¬ (zH_4 1 5) = 0 → (∀ zH_6 : Hi, zH_6 = up zH_4 0 9 (1 : Int32) → (∀ zH_7 : Hi, zH_7 = up zH_6 1 5 ((zH_6 1 5) - (1 : Int32)) → (Q (some (.int (zH_7 1 5))) zH_7)))) ∧ ((zH_4 1 5) = 0 → (Q (some (.int (-3 : Int32))) zH_4)))) ∨ (w = some (rf E 3) ∧ ((¬ (zH_4 3 5) = 0 → (∀ zH_9 : Hi, zH_9 = up zH_4 0 9 (1 : Int32) → (∀ zH_10 : Hi, zH_10 = up zH_9 3 5 ((zH_9 3 5) - (1 : Int32)) → (Q (some (.int (zH_10 3 5))) zH_10)))) ∧ ((zH_4 3 5) = 0 → (Q (some (.int (-3 : Int32))) zH_4))))))) ∧ (zr_2 = 0 → (Q (some (.int (-2 : Int32))) zH_1))))) :
    Cm E mX9_undo [rf E 0, .int zx1] H Q :=
  cm_of (by decide +kernel : plainName RX9 = true) (Nat.le_of_ble_eq_true rfl) rfl (sgX9_undo_0  hF)
theorem sgX9_fault_0 {E : En} {Q : Option Value → Hi → Prop} {H : Hi} {zx1 : Int32} 
    (hF : Cm E mX9_isText [.int zx1] H (fun w zH_1 => ∃ zr_2 : Int32, w = some (.int zr_2) ∧ ((zr_2 = 0 → (Q (some (.int (-2 : Int32))) zH_1)) ∧ (¬ zr_2 = 0 → (Cm E mX9_textOf [rf E 0, .int zx1] zH_1 (fun w zH_4 => (w = some (rf E 1) ∧ (Cm E mX7_firstWrong [rf E 1] zH_4 (fun w zH_5 => ∃ zr_6 : Int32, w = some (.int zr_6) ∧ (Q (some (.int zr_6)) zH_5)))) ∨ (w = some (rf E 3) ∧ (Cm E mX7_firstWrong [rf E 3] zH_4 (fun w zH_7 => ∃ zr_8 : Int32, w = some (.int zr_8) ∧ (Q (some (.int zr_8)) zH_7)))))))))) :
    Rm E mX9_fault Q 0 [some (rf E 0), some (.int zx1)] [] H := by
  refine rn_iload_n dX9_fault_0 rfl ?_
  refine rm_callS (As := [.int zx1]) (st := []) mlRX9_83 mdX9_isText (Nat.le_of_ble_eq_true rfl) rfl rfl (Nat.le_of_ble_eq_true rfl) ⟨Nat.le_refl _, Nat.le_refl _⟩ dX9_fault_1 ?_
  refine cm_mono hF (fun w zH_1 hF => ?_)
  obtain ⟨zr_2, rfl, hF⟩ := hF
  refine rn_if_eq (tgt := 18) dX9_fault_4 (by decide) (fun hc_3 => ?_) (fun hc_3 => ?_)
  · replace hF := hF.1 hc_3
    refine rn_bipush (x := (-2 : Int32)) dX9_fault_18 (by decide) ?_
    exact rm_iret rfl dX9_fault_20 hF
  · replace hF := hF.2 hc_3
    refine rn_aload_n dX9_fault_7 rfl ?_
    refine rn_iload_n dX9_fault_8 rfl ?_
    refine rm_callV (c0 := 0) (As := [.int zx1]) (st := []) mlRX9_87 mdX9_textOf (Nat.le_of_ble_eq_true rfl) rfl (by decide) (by decide) rfl rfl rfl (Nat.le_of_ble_eq_true rfl) ⟨Nat.le_refl _, Nat.le_refl _⟩ dX9_fault_9 ?_
    refine cm_mono hF (fun w zH_4 hF => ?_)
    rcases hF with ⟨rfl, hF⟩ | ⟨rfl, hF⟩
    · refine rm_callV (c0 := 1) (As := []) (st := []) mlRX9_99 mdX7_firstWrong (Nat.le_of_ble_eq_true rfl) rfl (by decide) (by decide) rfl rfl rfl (Nat.le_of_ble_eq_true rfl) ⟨Nat.le_refl _, Nat.le_refl _⟩ dX9_fault_12 ?_
      refine cm_mono hF (fun w zH_5 hF => ?_)
      obtain ⟨zr_6, rfl, hF⟩ := hF
      refine rn_goto (tgt := 20) dX9_fault_15 (by decide) ?_
      exact rm_iret rfl dX9_fault_20 hF
    · refine rm_callV (c0 := 3) (As := []) (st := []) mlRX9_99 mdX7_firstWrong (Nat.le_of_ble_eq_true rfl) rfl (by decide) (by decide) rfl rfl rfl (Nat.le_of_ble_eq_true rfl) ⟨Nat.le_refl _, Nat.le_refl _⟩ dX9_fault_12 ?_
      refine cm_mono hF (fun w zH_7 hF => ?_)
      obtain ⟨zr_8, rfl, hF⟩ := hF
      refine rn_goto (tgt := 20) dX9_fault_15 (by decide) ?_
      exact rm_iret rfl dX9_fault_20 hF
theorem cmX9_fault {E : En} {Q : Option Value → Hi → Prop} {H : Hi} {zx1 : Int32} 
    (hF : Cm E mX9_isText [.int zx1] H (fun w zH_1 => ∃ zr_2 : Int32, w = some (.int zr_2) ∧ ((zr_2 = 0 → (Q (some (.int (-2 : Int32))) zH_1)) ∧ (¬ zr_2 = 0 → (Cm E mX9_textOf [rf E 0, .int zx1] zH_1 (fun w zH_4 => (w = some (rf E 1) ∧ (Cm E mX7_firstWrong [rf E 1] zH_4 (fun w zH_5 => ∃ zr_6 : Int32, w = some (.int zr_6) ∧ (Q (some (.int zr_6)) zH_5)))) ∨ (w = some (rf E 3) ∧ (Cm E mX7_firstWrong [rf E 3] zH_4 (fun w zH_7 => ∃ zr_8 : Int32, w = some (.int zr_8) ∧ (Q (some (.int zr_8)) zH_7)))))))))) :
    Cm E mX9_fault [rf E 0, .int zx1] H Q :=
  cm_of (by decide +kernel : plainName RX9 = true) (Nat.le_of_ble_eq_true rfl) rfl (sgX9_fault_0  hF)
theorem sgX9_thing_0 {E : En} {Q : Option Value → Hi → Prop} {H : Hi} {zx1 : Int32} {zx2 : Int32} 
    (hF : Cm E mX9_refresh [rf E 0] H (fun w zH_1 => w = none ∧ (Cm E mX9_isThing [rf E 0, .int zx1] zH_1 (fun w zH_2 => ∃ zr_3 : Int32, w = some (.int zr_3) ∧ ((zr_3 = 0 → (Q (some (.int (-2 : Int32))) zH_2)) ∧ (¬ zr_3 = 0 → ((zx2 < 0 → (Q (some (.int (-2 : Int32))) zH_2)) ∧ (¬ zx2 < 0 → ((zx2 ≤ (2 : Int32) → (Cm E mX0_ofThing [rf E 5, .int zx1, .int zx2] zH_2 (fun w zH_7 => ∃ zr_8 : Int32, w = some (.int zr_8) ∧ (Q (some (.int zr_8)) zH_7)))) ∧ (¬ zx2 ≤ (2 : Int32) → (Q (some (.int (-2 : Int32))) zH_2))))))))))) :
    Rm E mX9_thing Q 0 [some (rf E 0), some (.int zx1), some (.int zx2)] [] H := by
  refine rn_aload_n dX9_thing_0 rfl ?_
  refine rm_callV (c0 := 0) (As := []) (st := []) mlRX9_103 mdX9_refresh (Nat.le_of_ble_eq_true rfl) rfl (by decide) (by decide) rfl rfl rfl (Nat.le_of_ble_eq_true rfl) ⟨Nat.le_refl _, Nat.le_refl _⟩ dX9_thing_1 ?_
  refine cm_mono hF (fun w zH_1 hF => ?_)
  obtain ⟨rfl, hF⟩ := hF
  refine rn_aload_n dX9_thing_4 rfl ?_
  refine rn_iload_n dX9_thing_5 rfl ?_
  refine rm_callV (c0 := 0) (As := [.int zx1]) (st := []) mlRX9_106 mdX9_isThing (Nat.le_of_ble_eq_true rfl) rfl (by decide) (by decide) rfl rfl rfl (Nat.le_of_ble_eq_true rfl) ⟨Nat.le_refl _, Nat.le_refl _⟩ dX9_thing_6 ?_
  refine cm_mono hF (fun w zH_2 hF => ?_)
  obtain ⟨zr_3, rfl, hF⟩ := hF
  refine rn_if_eq (tgt := 21) dX9_thing_9 (by decide) (fun hc_4 => ?_) (fun hc_4 => ?_)
  · replace hF := hF.1 hc_4
    refine rn_bipush (x := (-2 : Int32)) dX9_thing_21 (by decide) ?_
    exact rm_iret rfl dX9_thing_23 hF
  · replace hF := hF.2 hc_4
    refine rn_iload_n dX9_thing_12 rfl ?_
    refine rn_if_lt (tgt := 21) dX9_thing_13 (by decide) (fun hc_5 => ?_) (fun hc_5 => ?_)
    · replace hF := hF.1 hc_5
      refine rn_bipush (x := (-2 : Int32)) dX9_thing_21 (by decide) ?_
      exact rm_iret rfl dX9_thing_23 hF
    · replace hF := hF.2 hc_5
      refine rn_iload_n dX9_thing_16 rfl ?_
      refine rn_iconst (x := (2 : Int32)) dX9_thing_17 (by decide) ?_
      refine rn_icmp_le (tgt := 24) dX9_thing_18 (by decide) (fun hc_6 => ?_) (fun hc_6 => ?_)
      · replace hF := hF.1 hc_6
        refine rn_aload_n dX9_thing_24 rfl ?_
        refine rm_getr (r := 5) flRX9_36 rfl (by decide) rfl dX9_thing_25 ?_
        refine rn_iload_n dX9_thing_28 rfl ?_
        refine rn_iload_n dX9_thing_29 rfl ?_
        refine rm_callV (c0 := 5) (As := [.int zx1, .int zx2]) (st := []) mlRX9_109 mdX0_ofThing (Nat.le_of_ble_eq_true rfl) rfl (by decide) (by decide) rfl rfl rfl (Nat.le_of_ble_eq_true rfl) ⟨Nat.le_refl _, Nat.le_refl _⟩ dX9_thing_30 ?_
        refine cm_mono hF (fun w zH_7 hF => ?_)
        obtain ⟨zr_8, rfl, hF⟩ := hF
        exact rm_iret rfl dX9_thing_33 hF
      · replace hF := hF.2 hc_6
        refine rn_bipush (x := (-2 : Int32)) dX9_thing_21 (by decide) ?_
        exact rm_iret rfl dX9_thing_23 hF
theorem cmX9_thing {E : En} {Q : Option Value → Hi → Prop} {H : Hi} {zx1 : Int32} {zx2 : Int32} 
    (hF : Cm E mX9_refresh [rf E 0] H (fun w zH_1 => w = none ∧ (Cm E mX9_isThing [rf E 0, .int zx1] zH_1 (fun w zH_2 => ∃ zr_3 : Int32, w = some (.int zr_3) ∧ ((zr_3 = 0 → (Q (some (.int (-2 : Int32))) zH_2)) ∧ (¬ zr_3 = 0 → ((zx2 < 0 → (Q (some (.int (-2 : Int32))) zH_2)) ∧ (¬ zx2 < 0 → ((zx2 ≤ (2 : Int32) → (Cm E mX0_ofThing [rf E 5, .int zx1, .int zx2] zH_2 (fun w zH_7 => ∃ zr_8 : Int32, w = some (.int zr_8) ∧ (Q (some (.int zr_8)) zH_7)))) ∧ (¬ zx2 ≤ (2 : Int32) → (Q (some (.int (-2 : Int32))) zH_2))))))))))) :
    Cm E mX9_thing [rf E 0, .int zx1, .int zx2] H Q :=
  cm_of (by decide +kernel : plainName RX9 = true) (Nat.le_of_ble_eq_true rfl) rfl (sgX9_thing_0  hF)
theorem sgX9_cousin_0 {E : En} {Q : Option Value → Hi → Prop} {H : Hi} {zx1 : Int32} {zx2 : Int32} 
    (hF : Cm E mX9_refresh [rf E 0] H (fun w zH_1 => w = none ∧ (Cm E mX9_isCousin [rf E 0, .int zx1] zH_1 (fun w zH_2 => ∃ zr_3 : Int32, w = some (.int zr_3) ∧ ((zr_3 = 0 → (Q (some (.int (-2 : Int32))) zH_2)) ∧ (¬ zr_3 = 0 → (Cm E mX9_isBit [.int zx2] zH_2 (fun w zH_5 => ∃ zr_6 : Int32, w = some (.int zr_6) ∧ ((¬ zr_6 = 0 → (Cm E mX0_ofCousin [rf E 5, .int zx1, .int zx2] zH_5 (fun w zH_8 => ∃ zr_9 : Int32, w = some (.int zr_9) ∧ (Q (some (.int zr_9)) zH_8)))) ∧ (zr_6 = 0 → (Q (some (.int (-2 : Int32))) zH_5))))))))))) :
    Rm E mX9_cousin Q 0 [some (rf E 0), some (.int zx1), some (.int zx2)] [] H := by
  refine rn_aload_n dX9_cousin_0 rfl ?_
  refine rm_callV (c0 := 0) (As := []) (st := []) mlRX9_103 mdX9_refresh (Nat.le_of_ble_eq_true rfl) rfl (by decide) (by decide) rfl rfl rfl (Nat.le_of_ble_eq_true rfl) ⟨Nat.le_refl _, Nat.le_refl _⟩ dX9_cousin_1 ?_
  refine cm_mono hF (fun w zH_1 hF => ?_)
  obtain ⟨rfl, hF⟩ := hF
  refine rn_aload_n dX9_cousin_4 rfl ?_
  refine rn_iload_n dX9_cousin_5 rfl ?_
  refine rm_callV (c0 := 0) (As := [.int zx1]) (st := []) mlRX9_113 mdX9_isCousin (Nat.le_of_ble_eq_true rfl) rfl (by decide) (by decide) rfl rfl rfl (Nat.le_of_ble_eq_true rfl) ⟨Nat.le_refl _, Nat.le_refl _⟩ dX9_cousin_6 ?_
  refine cm_mono hF (fun w zH_2 hF => ?_)
  obtain ⟨zr_3, rfl, hF⟩ := hF
  refine rn_if_eq (tgt := 19) dX9_cousin_9 (by decide) (fun hc_4 => ?_) (fun hc_4 => ?_)
  · replace hF := hF.1 hc_4
    refine rn_bipush (x := (-2 : Int32)) dX9_cousin_19 (by decide) ?_
    exact rm_iret rfl dX9_cousin_21 hF
  · replace hF := hF.2 hc_4
    refine rn_iload_n dX9_cousin_12 rfl ?_
    refine rm_callS (As := [.int zx2]) (st := []) mlRX9_116 mdX9_isBit (Nat.le_of_ble_eq_true rfl) rfl rfl (Nat.le_of_ble_eq_true rfl) ⟨Nat.le_refl _, Nat.le_refl _⟩ dX9_cousin_13 ?_
    refine cm_mono hF (fun w zH_5 hF => ?_)
    obtain ⟨zr_6, rfl, hF⟩ := hF
    refine rn_if_ne (tgt := 22) dX9_cousin_16 (by decide) (fun hc_7 => ?_) (fun hc_7 => ?_)
    · replace hF := hF.1 hc_7
      refine rn_aload_n dX9_cousin_22 rfl ?_
      refine rm_getr (r := 5) flRX9_36 rfl (by decide) rfl dX9_cousin_23 ?_
      refine rn_iload_n dX9_cousin_26 rfl ?_
      refine rn_iload_n dX9_cousin_27 rfl ?_
      refine rm_callV (c0 := 5) (As := [.int zx1, .int zx2]) (st := []) mlRX9_119 mdX0_ofCousin (Nat.le_of_ble_eq_true rfl) rfl (by decide) (by decide) rfl rfl rfl (Nat.le_of_ble_eq_true rfl) ⟨Nat.le_refl _, Nat.le_refl _⟩ dX9_cousin_28 ?_
      refine cm_mono hF (fun w zH_8 hF => ?_)
      obtain ⟨zr_9, rfl, hF⟩ := hF
      exact rm_iret rfl dX9_cousin_31 hF
    · replace hF := hF.2 hc_7
      refine rn_bipush (x := (-2 : Int32)) dX9_cousin_19 (by decide) ?_
      exact rm_iret rfl dX9_cousin_21 hF
theorem cmX9_cousin {E : En} {Q : Option Value → Hi → Prop} {H : Hi} {zx1 : Int32} {zx2 : Int32} 
    (hF : Cm E mX9_refresh [rf E 0] H (fun w zH_1 => w = none ∧ (Cm E mX9_isCousin [rf E 0, .int zx1] zH_1 (fun w zH_2 => ∃ zr_3 : Int32, w = some (.int zr_3) ∧ ((zr_3 = 0 → (Q (some (.int (-2 : Int32))) zH_2)) ∧ (¬ zr_3 = 0 → (Cm E mX9_isBit [.int zx2] zH_2 (fun w zH_5 => ∃ zr_6 : Int32, w = some (.int zr_6) ∧ ((¬ zr_6 = 0 → (Cm E mX0_ofCousin [rf E 5, .int zx1, .int zx2] zH_5 (fun w zH_8 => ∃ zr_9 : Int32, w = some (.int zr_9) ∧ (Q (some (.int zr_9)) zH_8)))) ∧ (zr_6 = 0 → (Q (some (.int (-2 : Int32))) zH_5))))))))))) :
    Cm E mX9_cousin [rf E 0, .int zx1, .int zx2] H Q :=
  cm_of (by decide +kernel : plainName RX9 = true) (Nat.le_of_ble_eq_true rfl) rfl (sgX9_cousin_0  hF)
theorem sgX9_room_0 {E : En} {Q : Option Value → Hi → Prop} {H : Hi} {zx1 : Int32} 
    (hF : (zx1 < (1 : Int32) → (Q (some (.int (-2 : Int32))) H)) ∧ (¬ zx1 < (1 : Int32) → ((zx1 ≤ (72 : Int32) → (∀ zH_3 : Hi, zH_3 = up H 0 9 (1 : Int32) → (∀ zx2_4 : Int32, zx2_4 = zH_3 11 0 → (∀ zH_5 : Hi, zH_5 = up zH_3 11 0 zx1 → (Q (some (.int zx2_4)) zH_5))))) ∧ (¬ zx1 ≤ (72 : Int32) → (Q (some (.int (-2 : Int32))) H))))) :
    Rm E mX9_room Q 0 [some (rf E 0), some (.int zx1), none] [] H := by
  refine rn_iload_n dX9_room_0 rfl ?_
  refine rn_iconst (x := (1 : Int32)) dX9_room_1 (by decide) ?_
  refine rn_icmp_lt (tgt := 11) dX9_room_2 (by decide) (fun hc_1 => ?_) (fun hc_1 => ?_)
  · replace hF := hF.1 hc_1
    refine rn_bipush (x := (-2 : Int32)) dX9_room_11 (by decide) ?_
    exact rm_iret rfl dX9_room_13 hF
  · replace hF := hF.2 hc_1
    refine rn_iload_n dX9_room_5 rfl ?_
    refine rn_bipush (x := (72 : Int32)) dX9_room_6 (by decide) ?_
    refine rn_icmp_le (tgt := 14) dX9_room_8 (by decide) (fun hc_2 => ?_) (fun hc_2 => ?_)
    · replace hF := hF.1 hc_2
      refine rn_aload_n dX9_room_14 rfl ?_
      refine rn_iconst (x := (1 : Int32)) dX9_room_15 (by decide) ?_
      refine rm_putz flRX9_79 rfl (by decide) rfl rfl rfl dX9_room_16 (fun zH_3 ezH_3 => ?_)
      replace hF := hF zH_3 ezH_3
      refine rn_aload_n dX9_room_19 rfl ?_
      refine rm_getr (r := 11) flRX9_43 rfl (by decide) rfl dX9_room_20 ?_
      refine rm_geti flRX9_122 rfl (by decide) rfl dX9_room_23 ?_
      refine rn_istore_n dX9_room_26 rfl (Nat.le_of_ble_eq_true rfl) (fun zx2_4 ezx2_4 => ?_)
      replace hF := hF zx2_4 ezx2_4
      show Rn _ _ _ _ _ _ _ _ [some (rf E 0), some (.int zx1), some (.int zx2_4)] _ _ _
      refine rn_aload_n dX9_room_27 rfl ?_
      refine rm_getr (r := 11) flRX9_43 rfl (by decide) rfl dX9_room_28 ?_
      refine rn_iload_n dX9_room_31 rfl ?_
      refine rm_puti flRX9_122 rfl (by decide) rfl dX9_room_32 (fun zH_5 ezH_5 => ?_)
      replace hF := hF zH_5 ezH_5
      refine rn_iload_n dX9_room_35 rfl ?_
      exact rm_iret rfl dX9_room_36 hF
    · replace hF := hF.2 hc_2
      refine rn_bipush (x := (-2 : Int32)) dX9_room_11 (by decide) ?_
      exact rm_iret rfl dX9_room_13 hF
theorem cmX9_room {E : En} {Q : Option Value → Hi → Prop} {H : Hi} {zx1 : Int32} 
    (hF : (zx1 < (1 : Int32) → (Q (some (.int (-2 : Int32))) H)) ∧ (¬ zx1 < (1 : Int32) → ((zx1 ≤ (72 : Int32) → (∀ zH_3 : Hi, zH_3 = up H 0 9 (1 : Int32) → (∀ zx2_4 : Int32, zx2_4 = zH_3 11 0 → (∀ zH_5 : Hi, zH_5 = up zH_3 11 0 zx1 → (Q (some (.int zx2_4)) zH_5))))) ∧ (¬ zx1 ≤ (72 : Int32) → (Q (some (.int (-2 : Int32))) H))))) :
    Cm E mX9_room [rf E 0, .int zx1] H Q :=
  cm_of (by decide +kernel : plainName RX9 = true) (Nat.le_of_ble_eq_true rfl) rfl (sgX9_room_0  hF)
theorem sgX9_aunt_0 {E : En} {Q : Option Value → Hi → Prop} {H : Hi} {zx1 : Int32} 
    (hF : (zx1 < 0 → (Q (some (.int (-2 : Int32))) H)) ∧ (¬ zx1 < 0 → ((zx1 < (16777216 : Int32) → (∀ zH_3 : Hi, zH_3 = up H 0 9 (1 : Int32) → (∀ zx2_4 : Int32, zx2_4 = zH_3 11 1 → (∀ zH_5 : Hi, zH_5 = up zH_3 11 1 zx1 → (Q (some (.int zx2_4)) zH_5))))) ∧ (¬ zx1 < (16777216 : Int32) → (Q (some (.int (-2 : Int32))) H))))) :
    Rm E mX9_aunt Q 0 [some (rf E 0), some (.int zx1), none] [] H := by
  refine rn_iload_n dX9_aunt_0 rfl ?_
  refine rn_if_lt (tgt := 10) dX9_aunt_1 (by decide) (fun hc_1 => ?_) (fun hc_1 => ?_)
  · replace hF := hF.1 hc_1
    refine rn_bipush (x := (-2 : Int32)) dX9_aunt_10 (by decide) ?_
    exact rm_iret rfl dX9_aunt_12 hF
  · replace hF := hF.2 hc_1
    refine rn_iload_n dX9_aunt_4 rfl ?_
    refine rn_ldc coRX9_125 dX9_aunt_5 ?_
    refine rn_icmp_lt (tgt := 13) dX9_aunt_7 (by decide) (fun hc_2 => ?_) (fun hc_2 => ?_)
    · replace hF := hF.1 hc_2
      refine rn_aload_n dX9_aunt_13 rfl ?_
      refine rn_iconst (x := (1 : Int32)) dX9_aunt_14 (by decide) ?_
      refine rm_putz flRX9_79 rfl (by decide) rfl rfl rfl dX9_aunt_15 (fun zH_3 ezH_3 => ?_)
      replace hF := hF zH_3 ezH_3
      refine rn_aload_n dX9_aunt_18 rfl ?_
      refine rm_getr (r := 11) flRX9_43 rfl (by decide) rfl dX9_aunt_19 ?_
      refine rm_geti flRX9_126 rfl (by decide) rfl dX9_aunt_22 ?_
      refine rn_istore_n dX9_aunt_25 rfl (Nat.le_of_ble_eq_true rfl) (fun zx2_4 ezx2_4 => ?_)
      replace hF := hF zx2_4 ezx2_4
      show Rn _ _ _ _ _ _ _ _ [some (rf E 0), some (.int zx1), some (.int zx2_4)] _ _ _
      refine rn_aload_n dX9_aunt_26 rfl ?_
      refine rm_getr (r := 11) flRX9_43 rfl (by decide) rfl dX9_aunt_27 ?_
      refine rn_iload_n dX9_aunt_30 rfl ?_
      refine rm_puti flRX9_126 rfl (by decide) rfl dX9_aunt_31 (fun zH_5 ezH_5 => ?_)
      replace hF := hF zH_5 ezH_5
      refine rn_iload_n dX9_aunt_34 rfl ?_
      exact rm_iret rfl dX9_aunt_35 hF
    · replace hF := hF.2 hc_2
      refine rn_bipush (x := (-2 : Int32)) dX9_aunt_10 (by decide) ?_
      exact rm_iret rfl dX9_aunt_12 hF
theorem cmX9_aunt {E : En} {Q : Option Value → Hi → Prop} {H : Hi} {zx1 : Int32} 
    (hF : (zx1 < 0 → (Q (some (.int (-2 : Int32))) H)) ∧ (¬ zx1 < 0 → ((zx1 < (16777216 : Int32) → (∀ zH_3 : Hi, zH_3 = up H 0 9 (1 : Int32) → (∀ zx2_4 : Int32, zx2_4 = zH_3 11 1 → (∀ zH_5 : Hi, zH_5 = up zH_3 11 1 zx1 → (Q (some (.int zx2_4)) zH_5))))) ∧ (¬ zx1 < (16777216 : Int32) → (Q (some (.int (-2 : Int32))) H))))) :
    Cm E mX9_aunt [rf E 0, .int zx1] H Q :=
  cm_of (by decide +kernel : plainName RX9 = true) (Nat.le_of_ble_eq_true rfl) rfl (sgX9_aunt_0  hF)
theorem sgX9_hand_0 {E : En} {Q : Option Value → Hi → Prop} {H : Hi} {zx1 : Int32} {zx2 : Int32} {zx3 : Int32} {zx4 : Int32} 
    (hF : ∀ zH_1 : Hi, zH_1 = up H 0 9 (1 : Int32) → (Cm E mX8_addHand [rf E 11, .int zx1, .int zx2, .int zx3, .int zx4] zH_1 (fun w zH_2 => ∃ zr_3 : Int32, w = some (.int zr_3) ∧ (Q (some (.int zr_3)) zH_2)))) :
    Rm E mX9_hand Q 0 [some (rf E 0), some (.int zx1), some (.int zx2), some (.int zx3), some (.int zx4)] [] H := by
  refine rn_aload_n dX9_hand_0 rfl ?_
  refine rn_iconst (x := (1 : Int32)) dX9_hand_1 (by decide) ?_
  refine rm_putz flRX9_79 rfl (by decide) rfl rfl rfl dX9_hand_2 (fun zH_1 ezH_1 => ?_)
  replace hF := hF zH_1 ezH_1
  refine rn_aload_n dX9_hand_5 rfl ?_
  refine rm_getr (r := 11) flRX9_43 rfl (by decide) rfl dX9_hand_6 ?_
  refine rn_iload_n dX9_hand_9 rfl ?_
  refine rn_iload_n dX9_hand_10 rfl ?_
  refine rn_iload_n dX9_hand_11 rfl ?_
  refine rn_iload dX9_hand_12 rfl ?_
  refine rm_callV (c0 := 11) (As := [.int zx1, .int zx2, .int zx3, .int zx4]) (st := []) mlRX9_129 mdX8_addHand (Nat.le_of_ble_eq_true rfl) rfl (by decide) (by decide) rfl rfl rfl (Nat.le_of_ble_eq_true rfl) ⟨Nat.le_refl _, Nat.le_refl _⟩ dX9_hand_14 ?_
  refine cm_mono hF (fun w zH_2 hF => ?_)
  obtain ⟨zr_3, rfl, hF⟩ := hF
  exact rm_iret rfl dX9_hand_17 hF
theorem cmX9_hand {E : En} {Q : Option Value → Hi → Prop} {H : Hi} {zx1 : Int32} {zx2 : Int32} {zx3 : Int32} {zx4 : Int32} 
    (hF : ∀ zH_1 : Hi, zH_1 = up H 0 9 (1 : Int32) → (Cm E mX8_addHand [rf E 11, .int zx1, .int zx2, .int zx3, .int zx4] zH_1 (fun w zH_2 => ∃ zr_3 : Int32, w = some (.int zr_3) ∧ (Q (some (.int zr_3)) zH_2)))) :
    Cm E mX9_hand [rf E 0, .int zx1, .int zx2, .int zx3, .int zx4] H Q :=
  cm_of (by decide +kernel : plainName RX9 = true) (Nat.le_of_ble_eq_true rfl) rfl (sgX9_hand_0  hF)
theorem sgX9_hole_0 {E : En} {Q : Option Value → Hi → Prop} {H : Hi} {zx1 : Int32} {zx2 : Int32} 
    (hF : ∀ zH_1 : Hi, zH_1 = up H 0 9 (1 : Int32) → (Cm E mX8_addHole [rf E 11, .int zx1, .int zx2] zH_1 (fun w zH_2 => ∃ zr_3 : Int32, w = some (.int zr_3) ∧ (Q (some (.int zr_3)) zH_2)))) :
    Rm E mX9_hole Q 0 [some (rf E 0), some (.int zx1), some (.int zx2)] [] H := by
  refine rn_aload_n dX9_hole_0 rfl ?_
  refine rn_iconst (x := (1 : Int32)) dX9_hole_1 (by decide) ?_
  refine rm_putz flRX9_79 rfl (by decide) rfl rfl rfl dX9_hole_2 (fun zH_1 ezH_1 => ?_)
  replace hF := hF zH_1 ezH_1
  refine rn_aload_n dX9_hole_5 rfl ?_
  refine rm_getr (r := 11) flRX9_43 rfl (by decide) rfl dX9_hole_6 ?_
  refine rn_iload_n dX9_hole_9 rfl ?_
  refine rn_iload_n dX9_hole_10 rfl ?_
  refine rm_callV (c0 := 11) (As := [.int zx1, .int zx2]) (st := []) mlRX9_133 mdX8_addHole (Nat.le_of_ble_eq_true rfl) rfl (by decide) (by decide) rfl rfl rfl (Nat.le_of_ble_eq_true rfl) ⟨Nat.le_refl _, Nat.le_refl _⟩ dX9_hole_11 ?_
  refine cm_mono hF (fun w zH_2 hF => ?_)
  obtain ⟨zr_3, rfl, hF⟩ := hF
  exact rm_iret rfl dX9_hole_14 hF
theorem cmX9_hole {E : En} {Q : Option Value → Hi → Prop} {H : Hi} {zx1 : Int32} {zx2 : Int32} 
    (hF : ∀ zH_1 : Hi, zH_1 = up H 0 9 (1 : Int32) → (Cm E mX8_addHole [rf E 11, .int zx1, .int zx2] zH_1 (fun w zH_2 => ∃ zr_3 : Int32, w = some (.int zr_3) ∧ (Q (some (.int zr_3)) zH_2)))) :
    Cm E mX9_hole [rf E 0, .int zx1, .int zx2] H Q :=
  cm_of (by decide +kernel : plainName RX9 = true) (Nat.le_of_ble_eq_true rfl) rfl (sgX9_hole_0  hF)
theorem sgX9_back_0 {E : En} {Q : Option Value → Hi → Prop} {H : Hi} {zx1 : Int32} 
    (hF : Cm E mX9_isBit [.int zx1] H (fun w zH_1 => ∃ zr_2 : Int32, w = some (.int zr_2) ∧ ((¬ zr_2 = 0 → ((¬ zx1 = 0 → (∀ zx2_5 : Int32, zx2_5 = zH_1 11 5 → ((¬ zx2_5 = 0 → (∀ zH_7 : Hi, zH_7 = up zH_1 0 9 (1 : Int32) → ((¬ zx1 = 0 → (∀ zH_9 : Hi, zH_9 = up zH_7 11 5 (zx2_5 - (1 : Int32)) → (Q (some (.int (zx2_5 - (1 : Int32)))) zH_9))) ∧ (zx1 = 0 → (∀ zH_10 : Hi, zH_10 = up zH_7 11 2 (zx2_5 - (1 : Int32)) → (Q (some (.int (zx2_5 - (1 : Int32)))) zH_10)))))) ∧ (zx2_5 = 0 → (Q (some (.int (-3 : Int32))) zH_1))))) ∧ (zx1 = 0 → (∀ zx2_11 : Int32, zx2_11 = zH_1 11 2 → ((¬ zx2_11 = 0 → (∀ zH_13 : Hi, zH_13 = up zH_1 0 9 (1 : Int32) → ((¬ zx1 = 0 → (∀ zH_15 : Hi, zH_15 = up zH_13 11 5 (zx2_11 - (1 : Int32)) → (Q (some (.int (zx2_11 - (1 : Int32)))) zH_15))) ∧ (zx1 = 0 → (∀ zH_16 : Hi, zH_16 = up zH_13 11 2 (zx2_11 - (1 : Int32)) → (Q (some (.int (zx2_11 - (1 : Int32)))) zH_16)))))) ∧ (zx2_11 = 0 → (Q (some (.int (-3 : Int32))) zH_1))))))) ∧ (zr_2 = 0 → (Q (some (.int (-2 : Int32))) zH_1))))) :
    Rm E mX9_back Q 0 [some (rf E 0), some (.int zx1), none] [] H := by
  refine rn_iload_n dX9_back_0 rfl ?_
  refine rm_callS (As := [.int zx1]) (st := []) mlRX9_116 mdX9_isBit (Nat.le_of_ble_eq_true rfl) rfl rfl (Nat.le_of_ble_eq_true rfl) ⟨Nat.le_refl _, Nat.le_refl _⟩ dX9_back_1 ?_
  refine cm_mono hF (fun w zH_1 hF => ?_)
  obtain ⟨zr_2, rfl, hF⟩ := hF
  refine rn_if_ne (tgt := 10) dX9_back_4 (by decide) (fun hc_3 => ?_) (fun hc_3 => ?_)
  · replace hF := hF.1 hc_3
    refine rn_iload_n dX9_back_10 rfl ?_
    refine rn_if_ne (tgt := 24) dX9_back_11 (by decide) (fun hc_4 => ?_) (fun hc_4 => ?_)
    · replace hF := hF.1 hc_4
      refine rn_aload_n dX9_back_24 rfl ?_
      refine rm_getr (r := 11) flRX9_43 rfl (by decide) rfl dX9_back_25 ?_
      refine rm_geti flRX9_139 rfl (by decide) rfl dX9_back_28 ?_
      refine rn_istore_n dX9_back_31 rfl (Nat.le_of_ble_eq_true rfl) (fun zx2_5 ezx2_5 => ?_)
      replace hF := hF zx2_5 ezx2_5
      show Rn _ _ _ _ _ _ _ _ [some (rf E 0), some (.int zx1), some (.int zx2_5)] _ _ _
      refine rn_iload_n dX9_back_32 rfl ?_
      refine rn_if_ne (tgt := 39) dX9_back_33 (by decide) (fun hc_6 => ?_) (fun hc_6 => ?_)
      · replace hF := hF.1 hc_6
        refine rn_aload_n dX9_back_39 rfl ?_
        refine rn_iconst (x := (1 : Int32)) dX9_back_40 (by decide) ?_
        refine rm_putz flRX9_79 rfl (by decide) rfl rfl rfl dX9_back_41 (fun zH_7 ezH_7 => ?_)
        replace hF := hF zH_7 ezH_7
        refine rn_iload_n dX9_back_44 rfl ?_
        refine rn_if_ne (tgt := 61) dX9_back_45 (by decide) (fun hc_8 => ?_) (fun hc_8 => ?_)
        · replace hF := hF.1 hc_8
          refine rn_aload_n dX9_back_61 rfl ?_
          refine rm_getr (r := 11) flRX9_43 rfl (by decide) rfl dX9_back_62 ?_
          refine rn_iload_n dX9_back_65 rfl ?_
          refine rn_iconst (x := (1 : Int32)) dX9_back_66 (by decide) ?_
          refine rn_isub dX9_back_67 ?_
          refine rm_puti flRX9_139 rfl (by decide) rfl dX9_back_68 (fun zH_9 ezH_9 => ?_)
          replace hF := hF zH_9 ezH_9
          refine rn_iload_n dX9_back_71 rfl ?_
          refine rn_iconst (x := (1 : Int32)) dX9_back_72 (by decide) ?_
          refine rn_isub dX9_back_73 ?_
          exact rm_iret rfl dX9_back_74 hF
        · replace hF := hF.2 hc_8
          refine rn_aload_n dX9_back_48 rfl ?_
          refine rm_getr (r := 11) flRX9_43 rfl (by decide) rfl dX9_back_49 ?_
          refine rn_iload_n dX9_back_52 rfl ?_
          refine rn_iconst (x := (1 : Int32)) dX9_back_53 (by decide) ?_
          refine rn_isub dX9_back_54 ?_
          refine rm_puti flRX9_136 rfl (by decide) rfl dX9_back_55 (fun zH_10 ezH_10 => ?_)
          replace hF := hF zH_10 ezH_10
          refine rn_goto (tgt := 71) dX9_back_58 (by decide) ?_
          refine rn_iload_n dX9_back_71 rfl ?_
          refine rn_iconst (x := (1 : Int32)) dX9_back_72 (by decide) ?_
          refine rn_isub dX9_back_73 ?_
          exact rm_iret rfl dX9_back_74 hF
      · replace hF := hF.2 hc_6
        refine rn_bipush (x := (-3 : Int32)) dX9_back_36 (by decide) ?_
        exact rm_iret rfl dX9_back_38 hF
    · replace hF := hF.2 hc_4
      refine rn_aload_n dX9_back_14 rfl ?_
      refine rm_getr (r := 11) flRX9_43 rfl (by decide) rfl dX9_back_15 ?_
      refine rm_geti flRX9_136 rfl (by decide) rfl dX9_back_18 ?_
      refine rn_goto (tgt := 31) dX9_back_21 (by decide) ?_
      refine rn_istore_n dX9_back_31 rfl (Nat.le_of_ble_eq_true rfl) (fun zx2_11 ezx2_11 => ?_)
      replace hF := hF zx2_11 ezx2_11
      show Rn _ _ _ _ _ _ _ _ [some (rf E 0), some (.int zx1), some (.int zx2_11)] _ _ _
      refine rn_iload_n dX9_back_32 rfl ?_
      refine rn_if_ne (tgt := 39) dX9_back_33 (by decide) (fun hc_12 => ?_) (fun hc_12 => ?_)
      · replace hF := hF.1 hc_12
        refine rn_aload_n dX9_back_39 rfl ?_
        refine rn_iconst (x := (1 : Int32)) dX9_back_40 (by decide) ?_
        refine rm_putz flRX9_79 rfl (by decide) rfl rfl rfl dX9_back_41 (fun zH_13 ezH_13 => ?_)
        replace hF := hF zH_13 ezH_13
        refine rn_iload_n dX9_back_44 rfl ?_
        refine rn_if_ne (tgt := 61) dX9_back_45 (by decide) (fun hc_14 => ?_) (fun hc_14 => ?_)
        · replace hF := hF.1 hc_14
          refine rn_aload_n dX9_back_61 rfl ?_
          refine rm_getr (r := 11) flRX9_43 rfl (by decide) rfl dX9_back_62 ?_
          refine rn_iload_n dX9_back_65 rfl ?_
          refine rn_iconst (x := (1 : Int32)) dX9_back_66 (by decide) ?_
          refine rn_isub dX9_back_67 ?_
          refine rm_puti flRX9_139 rfl (by decide) rfl dX9_back_68 (fun zH_15 ezH_15 => ?_)
          replace hF := hF zH_15 ezH_15
          refine rn_iload_n dX9_back_71 rfl ?_
          refine rn_iconst (x := (1 : Int32)) dX9_back_72 (by decide) ?_
          refine rn_isub dX9_back_73 ?_
          exact rm_iret rfl dX9_back_74 hF
        · replace hF := hF.2 hc_14
          refine rn_aload_n dX9_back_48 rfl ?_
          refine rm_getr (r := 11) flRX9_43 rfl (by decide) rfl dX9_back_49 ?_
          refine rn_iload_n dX9_back_52 rfl ?_
          refine rn_iconst (x := (1 : Int32)) dX9_back_53 (by decide) ?_
          refine rn_isub dX9_back_54 ?_
          refine rm_puti flRX9_136 rfl (by decide) rfl dX9_back_55 (fun zH_16 ezH_16 => ?_)
          replace hF := hF zH_16 ezH_16
          refine rn_goto (tgt := 71) dX9_back_58 (by decide) ?_
          refine rn_iload_n dX9_back_71 rfl ?_
          refine rn_iconst (x := (1 : Int32)) dX9_back_72 (by decide) ?_
          refine rn_isub dX9_back_73 ?_
          exact rm_iret rfl dX9_back_74 hF
      · replace hF := hF.2 hc_12
        refine rn_bipush (x := (-3 : Int32)) dX9_back_36 (by decide) ?_
        exact rm_iret rfl dX9_back_38 hF
  · replace hF := hF.2 hc_3
    refine rn_bipush (x := (-2 : Int32)) dX9_back_7 (by decide) ?_
    exact rm_iret rfl dX9_back_9 hF
theorem cmX9_back {E : En} {Q : Option Value → Hi → Prop} {H : Hi} {zx1 : Int32} 
    (hF : Cm E mX9_isBit [.int zx1] H (fun w zH_1 => ∃ zr_2 : Int32, w = some (.int zr_2) ∧ ((¬ zr_2 = 0 → ((¬ zx1 = 0 → (∀ zx2_5 : Int32, zx2_5 = zH_1 11 5 → ((¬ zx2_5 = 0 → (∀ zH_7 : Hi, zH_7 = up zH_1 0 9 (1 : Int32) → ((¬ zx1 = 0 → (∀ zH_9 : Hi, zH_9 = up zH_7 11 5 (zx2_5 - (1 : Int32)) → (Q (some (.int (zx2_5 - (1 : Int32)))) zH_9))) ∧ (zx1 = 0 → (∀ zH_10 : Hi, zH_10 = up zH_7 11 2 (zx2_5 - (1 : Int32)) → (Q (some (.int (zx2_5 - (1 : Int32)))) zH_10)))))) ∧ (zx2_5 = 0 → (Q (some (.int (-3 : Int32))) zH_1))))) ∧ (zx1 = 0 → (∀ zx2_11 : Int32, zx2_11 = zH_1 11 2 → ((¬ zx2_11 = 0 → (∀ zH_13 : Hi, zH_13 = up zH_1 0 9 (1 : Int32) → ((¬ zx1 = 0 → (∀ zH_15 : Hi, zH_15 = up zH_13 11 5 (zx2_11 - (1 : Int32)) → (Q (some (.int (zx2_11 - (1 : Int32)))) zH_15))) ∧ (zx1 = 0 → (∀ zH_16 : Hi, zH_16 = up zH_13 11 2 (zx2_11 - (1 : Int32)) → (Q (some (.int (zx2_11 - (1 : Int32)))) zH_16)))))) ∧ (zx2_11 = 0 → (Q (some (.int (-3 : Int32))) zH_1))))))) ∧ (zr_2 = 0 → (Q (some (.int (-2 : Int32))) zH_1))))) :
    Cm E mX9_back [rf E 0, .int zx1] H Q :=
  cm_of (by decide +kernel : plainName RX9 = true) (Nat.le_of_ble_eq_true rfl) rfl (sgX9_back_0  hF)
theorem sgX9_read_0 {E : En} {Q : Option Value → Hi → Prop} {H : Hi} {zx1 : Int32} 
    (hF : Cm E mX9_isSheet [.int zx1] H (fun w zH_1 => ∃ zr_2 : Int32, w = some (.int zr_2) ∧ ((¬ zr_2 = 0 → (∃ zj_4 : Nat, (zj_4 < 4 ∧ zx1 = nI zj_4) ∧ ((0 ≤ (zH_1 (91 + 2 * zj_4) 1) → (∀ zH_6 : Hi, zH_6 = up zH_1 0 9 (1 : Int32) → (Rm E mX9_read Q 40 [some (rf E 0), none, some (rf E (91 + 2 * zj_4)), some (.int (0 : Int32)), some (.int (0 : Int32)), none] [] zH_6))) ∧ (¬ 0 ≤ (zH_1 (91 + 2 * zj_4) 1) → (Cm E mX9_found [rf E 0, .int (1 : Int32)] zH_1 (fun w zH_9 => ∃ zr_10 : Int32, w = some (.int zr_10) ∧ (Q (some (.int zr_10)) zH_9))))))) ∧ (zr_2 = 0 → (Q (some (.int (-2 : Int32))) zH_1))))) :
    Rm E mX9_read Q 0 [some (rf E 0), some (.int zx1), none, none, none, none] [] H := by
  refine rn_iload_n dX9_read_0 rfl ?_
  refine rm_callS (As := [.int zx1]) (st := []) mlRX9_142 mdX9_isSheet (Nat.le_of_ble_eq_true rfl) rfl rfl (Nat.le_of_ble_eq_true rfl) ⟨Nat.le_refl _, Nat.le_refl _⟩ dX9_read_1 ?_
  refine cm_mono hF (fun w zH_1 hF => ?_)
  obtain ⟨zr_2, rfl, hF⟩ := hF
  refine rn_if_ne (tgt := 10) dX9_read_4 (by decide) (fun hc_3 => ?_) (fun hc_3 => ?_)
  · replace hF := hF.1 hc_3
    refine rn_aload_n dX9_read_10 rfl ?_
    refine rm_getr (r := 90) flRX9_74 rfl (by decide) rfl dX9_read_11 ?_
    refine rn_iload_n dX9_read_14 rfl ?_
    obtain ⟨zj_4, hzj_4, hF⟩ := hF
    refine rj_aald (j := zj_4) (Cn := RX5) (r := (91 + 2 * zj_4)) hzj_4 (sh_she _ hzj_4.1).2.2.1 rfl (by decide) (by decide) rfl (by decide) dX9_read_15 ?_
    refine rn_astore_n dX9_read_16 rfl (Nat.le_of_ble_eq_true rfl) ?_
    show Rn _ _ _ _ _ _ _ _ [some (rf E 0), some (.int zx1), some (rf E (91 + 2 * zj_4)), none, none, none] _ _ _
    refine rn_aload_n dX9_read_17 rfl ?_
    refine rm_geti flRX9_145 (sh_she _ hzj_4.1).1 (sh_she _ hzj_4.1).2.1 (sh_she _ hzj_4.1).2.2.2.2.1 dX9_read_18 ?_
    refine rn_if_ge (tgt := 30) dX9_read_21 (by decide) (fun hc_5 => ?_) (fun hc_5 => ?_)
    · replace hF := hF.1 hc_5
      refine rn_aload_n dX9_read_30 rfl ?_
      refine rn_iconst (x := (1 : Int32)) dX9_read_31 (by decide) ?_
      refine rm_putz flRX9_79 rfl (by decide) rfl rfl rfl dX9_read_32 (fun zH_6 ezH_6 => ?_)
      replace hF := hF zH_6 ezH_6
      refine rn_iconst (x := (0 : Int32)) dX9_read_35 (by decide) ?_
      refine ra_istore_n dX9_read_36 rfl (Nat.le_of_ble_eq_true rfl) ?_
      show Rn _ _ _ _ _ _ _ _ [some (rf E 0), some (.int zx1), some (rf E (91 + 2 * zj_4)), some (.int (0 : Int32)), none, none] _ _ _
      refine rn_iconst (x := (0 : Int32)) dX9_read_37 (by decide) ?_
      refine ra_istore dX9_read_38 rfl (Nat.le_of_ble_eq_true rfl) ?_
      show Rn _ _ _ _ _ _ _ _ [some (rf E 0), some (.int zx1), some (rf E (91 + 2 * zj_4)), some (.int (0 : Int32)), some (.int (0 : Int32)), none] _ _ _
      exact rn_wk (L' := [some (rf E 0), none, some (rf E (91 + 2 * zj_4)), some (.int (0 : Int32)), some (.int (0 : Int32)), none]) (⟨rfl, ⟨rfl, ⟨rfl, ⟨rfl, trivial⟩⟩⟩⟩) hF
    · replace hF := hF.2 hc_5
      refine rn_aload_n dX9_read_24 rfl ?_
      refine rn_iconst (x := (1 : Int32)) dX9_read_25 (by decide) ?_
      refine rm_callV (c0 := 0) (As := [.int (1 : Int32)]) (st := []) mlRX9_146 mdX9_found (Nat.le_of_ble_eq_true rfl) rfl (by decide) (by decide) rfl rfl rfl (Nat.le_of_ble_eq_true rfl) ⟨Nat.le_refl _, Nat.le_refl _⟩ dX9_read_26 ?_
      refine cm_mono hF (fun w zH_9 hF => ?_)
      obtain ⟨zr_10, rfl, hF⟩ := hF
      exact rm_iret rfl dX9_read_29 hF
  · replace hF := hF.2 hc_3
    refine rn_bipush (x := (-2 : Int32)) dX9_read_7 (by decide) ?_
    exact rm_iret rfl dX9_read_9 hF
theorem cmX9_read {E : En} {Q : Option Value → Hi → Prop} {H : Hi} {zx1 : Int32} 
    (hF : Cm E mX9_isSheet [.int zx1] H (fun w zH_1 => ∃ zr_2 : Int32, w = some (.int zr_2) ∧ ((¬ zr_2 = 0 → (∃ zj_4 : Nat, (zj_4 < 4 ∧ zx1 = nI zj_4) ∧ ((0 ≤ (zH_1 (91 + 2 * zj_4) 1) → (∀ zH_6 : Hi, zH_6 = up zH_1 0 9 (1 : Int32) → (Rm E mX9_read Q 40 [some (rf E 0), none, some (rf E (91 + 2 * zj_4)), some (.int (0 : Int32)), some (.int (0 : Int32)), none] [] zH_6))) ∧ (¬ 0 ≤ (zH_1 (91 + 2 * zj_4) 1) → (Cm E mX9_found [rf E 0, .int (1 : Int32)] zH_1 (fun w zH_9 => ∃ zr_10 : Int32, w = some (.int zr_10) ∧ (Q (some (.int zr_10)) zH_9))))))) ∧ (zr_2 = 0 → (Q (some (.int (-2 : Int32))) zH_1))))) :
    Cm E mX9_read [rf E 0, .int zx1] H Q :=
  cm_of (by decide +kernel : plainName RX9 = true) (Nat.le_of_ble_eq_true rfl) rfl (sgX9_read_0  hF)
theorem sgX9_read_40 {E : En} {Q : Option Value → Hi → Prop} {H : Hi} {zq2 : Nat} {zx3 : Int32} {zx4 : Int32} (hq2 : zq2 < 4)
    (hF : ((H (91 + 2 * zq2) 1) ≤ (zx4 + (3 : Int32)) → (Q (some (.int zx3)) H)) ∧ (¬ (H (91 + 2 * zq2) 1) ≤ (zx4 + (3 : Int32)) → (∃ zj_2 : Nat, (zj_2 < 60 ∧ zx4 = nI zj_2) ∧ (∃ zj_3 : Nat, (zj_3 < 60 ∧ zx4 + (1 : Int32) = nI zj_3) ∧ (∃ zj_4 : Nat, (zj_4 < 60 ∧ zx4 + (2 : Int32) = nI zj_4) ∧ (∃ zj_5 : Nat, (zj_5 < 60 ∧ zx4 + (3 : Int32) = nI zj_5) ∧ (Cm E mX8_addHand [rf E 11, .int (H (92 + 2 * zq2) zj_2), .int (H (92 + 2 * zq2) zj_3), .int (H (92 + 2 * zq2) zj_4), .int (H (92 + 2 * zq2) zj_5)] H (fun w zH_6 => ∃ zr_7 : Int32, w = some (.int zr_7) ∧ ((0 ≤ zr_7 → (∀ zx3_9 : Int32, zx3_9 = zx3 + (1 : Int32) → (∀ zx4_10 : Int32, zx4_10 = zx4 + (4 : Int32) → (Rm E mX9_read Q 40 [some (rf E 0), none, some (rf E (91 + 2 * zq2)), some (.int zx3_9), some (.int zx4_10), none] [] zH_6)))) ∧ (¬ 0 ≤ zr_7 → (Q (some (.int zx3)) zH_6))))))))))) :
    Rm E mX9_read Q 40 [some (rf E 0), none, some (rf E (91 + 2 * zq2)), some (.int zx3), some (.int zx4), none] [] H := by
  refine rn_iload dX9_read_40 rfl ?_
  refine rn_iconst (x := (3 : Int32)) dX9_read_42 (by decide) ?_
  refine rn_iadd dX9_read_43 ?_
  refine rn_aload_n dX9_read_44 rfl ?_
  refine rm_geti flRX9_145 (sh_she _ hq2).1 (sh_she _ hq2).2.1 (sh_she _ hq2).2.2.2.2.1 dX9_read_45 ?_
  refine rn_icmp_ge (tgt := 105) dX9_read_48 (by decide) (fun hc_1 => ?_) (fun hc_1 => ?_)
  · replace hF := hF.1 hc_1
    refine rn_iload_n dX9_read_105 rfl ?_
    exact rm_iret rfl dX9_read_106 hF
  · replace hF := hF.2 hc_1
    refine rn_aload_n dX9_read_51 rfl ?_
    refine rm_getr (r := (92 + 2 * zq2)) flRX9_149 (sh_she _ hq2).1 (sh_she _ hq2).2.1 (sh_she _ hq2).2.2.2.2.2.1 dX9_read_52 ?_
    refine rn_astore dX9_read_55 rfl (Nat.le_of_ble_eq_true rfl) ?_
    show Rn _ _ _ _ _ _ _ _ [some (rf E 0), none, some (rf E (91 + 2 * zq2)), some (.int zx3), some (.int zx4), some (rf E (92 + 2 * zq2))] _ _ _
    refine rn_aload_n dX9_read_57 rfl ?_
    refine rm_getr (r := 11) flRX9_43 rfl (by decide) rfl dX9_read_58 ?_
    refine rn_aload dX9_read_61 rfl ?_
    refine rn_iload dX9_read_63 rfl ?_
    obtain ⟨zj_2, hzj_2, hF⟩ := hF
    refine rj_iald (j := zj_2) hzj_2 (sh_she _ hq2).2.2.2.2.2.2.1 (sh_she _ hq2).2.2.2.2.2.2.2.1 (sh_she _ hq2).2.2.2.2.2.2.2.2 (by decide) dX9_read_65 ?_
    refine rn_aload dX9_read_66 rfl ?_
    refine rn_iload dX9_read_68 rfl ?_
    refine rn_iconst (x := (1 : Int32)) dX9_read_70 (by decide) ?_
    refine rn_iadd dX9_read_71 ?_
    obtain ⟨zj_3, hzj_3, hF⟩ := hF
    refine rj_iald (j := zj_3) hzj_3 (sh_she _ hq2).2.2.2.2.2.2.1 (sh_she _ hq2).2.2.2.2.2.2.2.1 (sh_she _ hq2).2.2.2.2.2.2.2.2 (by decide) dX9_read_72 ?_
    refine rn_aload dX9_read_73 rfl ?_
    refine rn_iload dX9_read_75 rfl ?_
    refine rn_iconst (x := (2 : Int32)) dX9_read_77 (by decide) ?_
    refine rn_iadd dX9_read_78 ?_
    obtain ⟨zj_4, hzj_4, hF⟩ := hF
    refine rj_iald (j := zj_4) hzj_4 (sh_she _ hq2).2.2.2.2.2.2.1 (sh_she _ hq2).2.2.2.2.2.2.2.1 (sh_she _ hq2).2.2.2.2.2.2.2.2 (by decide) dX9_read_79 ?_
    refine rn_aload dX9_read_80 rfl ?_
    refine rn_iload dX9_read_82 rfl ?_
    refine rn_iconst (x := (3 : Int32)) dX9_read_84 (by decide) ?_
    refine rn_iadd dX9_read_85 ?_
    obtain ⟨zj_5, hzj_5, hF⟩ := hF
    refine rj_iald (j := zj_5) hzj_5 (sh_she _ hq2).2.2.2.2.2.2.1 (sh_she _ hq2).2.2.2.2.2.2.2.1 (sh_she _ hq2).2.2.2.2.2.2.2.2 (by decide) dX9_read_86 ?_
    refine rm_callV (c0 := 11) (As := [.int (H (92 + 2 * zq2) zj_2), .int (H (92 + 2 * zq2) zj_3), .int (H (92 + 2 * zq2) zj_4), .int (H (92 + 2 * zq2) zj_5)]) (st := []) mlRX9_129 mdX8_addHand (Nat.le_of_ble_eq_true rfl) rfl (by decide) (by decide) rfl rfl rfl (Nat.le_of_ble_eq_true rfl) ⟨Nat.le_refl _, Nat.le_refl _⟩ dX9_read_87 ?_
    refine cm_mono hF (fun w zH_6 hF => ?_)
    obtain ⟨zr_7, rfl, hF⟩ := hF
    refine rn_if_ge (tgt := 96) dX9_read_90 (by decide) (fun hc_8 => ?_) (fun hc_8 => ?_)
    · replace hF := hF.1 hc_8
      refine rn_iinc (w := (1 : Int32)) dX9_read_96 rfl (by decide) rfl (Nat.le_of_ble_eq_true rfl) (fun zx3_9 ezx3_9 => ?_)
      replace hF := hF zx3_9 ezx3_9
      show Rn _ _ _ _ _ _ _ _ [some (rf E 0), none, some (rf E (91 + 2 * zq2)), some (.int zx3_9), some (.int zx4), some (rf E (92 + 2 * zq2))] _ _ _
      refine rn_iinc (w := (4 : Int32)) dX9_read_99 rfl (by decide) rfl (Nat.le_of_ble_eq_true rfl) (fun zx4_10 ezx4_10 => ?_)
      replace hF := hF zx4_10 ezx4_10
      show Rn _ _ _ _ _ _ _ _ [some (rf E 0), none, some (rf E (91 + 2 * zq2)), some (.int zx3_9), some (.int zx4_10), some (rf E (92 + 2 * zq2))] _ _ _
      refine rn_goto (tgt := 40) dX9_read_102 (by decide) ?_
      exact rn_wk (L' := [some (rf E 0), none, some (rf E (91 + 2 * zq2)), some (.int zx3_9), some (.int zx4_10), none]) (⟨rfl, ⟨rfl, ⟨rfl, ⟨rfl, trivial⟩⟩⟩⟩) hF
    · replace hF := hF.2 hc_8
      refine rn_goto (tgt := 105) dX9_read_93 (by decide) ?_
      refine rn_iload_n dX9_read_105 rfl ?_
      exact rm_iret rfl dX9_read_106 hF
theorem sgX9_where_0 {E : En} {Q : Option Value → Hi → Prop} {H : Hi} {zx1 : Int32} {zx2 : Int32} 
    (hF : Cm E mX9_refresh [rf E 0] H (fun w zH_1 => w = none ∧ (Cm E mX9_isHour [.int zx1] zH_1 (fun w zH_2 => ∃ zr_3 : Int32, w = some (.int zr_3) ∧ ((zr_3 = 0 → (Q (some (.int (-2 : Int32))) zH_2)) ∧ (¬ zr_3 = 0 → (Cm E mX9_isThing [rf E 0, .int zx2] zH_2 (fun w zH_5 => ∃ zr_6 : Int32, w = some (.int zr_6) ∧ ((¬ zr_6 = 0 → (∃ zj_8 : Nat, (zj_8 < 24 ∧ zx1 = nI zj_8) ∧ (Cm E mX6_placeOf [rf E (28 + 2 * zj_8), .int zx2] zH_5 (fun w zH_9 => ∃ zr_10 : Int32, w = some (.int zr_10) ∧ (Q (some (.int zr_10)) zH_9))))) ∧ (zr_6 = 0 → (Q (some (.int (-2 : Int32))) zH_5))))))))))) :
    Rm E mX9_where Q 0 [some (rf E 0), some (.int zx1), some (.int zx2)] [] H := by
  refine rn_aload_n dX9_where_0 rfl ?_
  refine rm_callV (c0 := 0) (As := []) (st := []) mlRX9_103 mdX9_refresh (Nat.le_of_ble_eq_true rfl) rfl (by decide) (by decide) rfl rfl rfl (Nat.le_of_ble_eq_true rfl) ⟨Nat.le_refl _, Nat.le_refl _⟩ dX9_where_1 ?_
  refine cm_mono hF (fun w zH_1 hF => ?_)
  obtain ⟨rfl, hF⟩ := hF
  refine rn_iload_n dX9_where_4 rfl ?_
  refine rm_callS (As := [.int zx1]) (st := []) mlRX9_153 mdX9_isHour (Nat.le_of_ble_eq_true rfl) rfl rfl (Nat.le_of_ble_eq_true rfl) ⟨Nat.le_refl _, Nat.le_refl _⟩ dX9_where_5 ?_
  refine cm_mono hF (fun w zH_2 hF => ?_)
  obtain ⟨zr_3, rfl, hF⟩ := hF
  refine rn_if_eq (tgt := 19) dX9_where_8 (by decide) (fun hc_4 => ?_) (fun hc_4 => ?_)
  · replace hF := hF.1 hc_4
    refine rn_bipush (x := (-2 : Int32)) dX9_where_19 (by decide) ?_
    exact rm_iret rfl dX9_where_21 hF
  · replace hF := hF.2 hc_4
    refine rn_aload_n dX9_where_11 rfl ?_
    refine rn_iload_n dX9_where_12 rfl ?_
    refine rm_callV (c0 := 0) (As := [.int zx2]) (st := []) mlRX9_106 mdX9_isThing (Nat.le_of_ble_eq_true rfl) rfl (by decide) (by decide) rfl rfl rfl (Nat.le_of_ble_eq_true rfl) ⟨Nat.le_refl _, Nat.le_refl _⟩ dX9_where_13 ?_
    refine cm_mono hF (fun w zH_5 hF => ?_)
    obtain ⟨zr_6, rfl, hF⟩ := hF
    refine rn_if_ne (tgt := 22) dX9_where_16 (by decide) (fun hc_7 => ?_) (fun hc_7 => ?_)
    · replace hF := hF.1 hc_7
      refine rn_aload_n dX9_where_22 rfl ?_
      refine rm_getr (r := 22) flRX9_52 rfl (by decide) rfl dX9_where_23 ?_
      refine rm_getr (r := 25) flRX9_156 rfl (by decide) rfl dX9_where_26 ?_
      refine rn_iload_n dX9_where_29 rfl ?_
      obtain ⟨zj_8, hzj_8, hF⟩ := hF
      refine rj_aald (j := zj_8) (Cn := RX6) (r := (28 + 2 * zj_8)) hzj_8 (st_beh _ hzj_8.1).2 rfl (by decide) (by decide) rfl (by decide) dX9_where_30 ?_
      refine rn_iload_n dX9_where_31 rfl ?_
      refine rm_callV (c0 := (28 + 2 * zj_8)) (As := [.int zx2]) (st := []) mlRX9_160 mdX6_placeOf (Nat.le_of_ble_eq_true rfl) (st_beh _ hzj_8.1).1.2.1 (st_beh _ hzj_8.1).1.1 (by decide) rfl rfl rfl (Nat.le_of_ble_eq_true rfl) ⟨Nat.le_refl _, Nat.le_refl _⟩ dX9_where_32 ?_
      refine cm_mono hF (fun w zH_9 hF => ?_)
      obtain ⟨zr_10, rfl, hF⟩ := hF
      exact rm_iret rfl dX9_where_35 hF
    · replace hF := hF.2 hc_7
      refine rn_bipush (x := (-2 : Int32)) dX9_where_19 (by decide) ?_
      exact rm_iret rfl dX9_where_21 hF
theorem cmX9_where {E : En} {Q : Option Value → Hi → Prop} {H : Hi} {zx1 : Int32} {zx2 : Int32} 
    (hF : Cm E mX9_refresh [rf E 0] H (fun w zH_1 => w = none ∧ (Cm E mX9_isHour [.int zx1] zH_1 (fun w zH_2 => ∃ zr_3 : Int32, w = some (.int zr_3) ∧ ((zr_3 = 0 → (Q (some (.int (-2 : Int32))) zH_2)) ∧ (¬ zr_3 = 0 → (Cm E mX9_isThing [rf E 0, .int zx2] zH_2 (fun w zH_5 => ∃ zr_6 : Int32, w = some (.int zr_6) ∧ ((¬ zr_6 = 0 → (∃ zj_8 : Nat, (zj_8 < 24 ∧ zx1 = nI zj_8) ∧ (Cm E mX6_placeOf [rf E (28 + 2 * zj_8), .int zx2] zH_5 (fun w zH_9 => ∃ zr_10 : Int32, w = some (.int zr_10) ∧ (Q (some (.int zr_10)) zH_9))))) ∧ (zr_6 = 0 → (Q (some (.int (-2 : Int32))) zH_5))))))))))) :
    Cm E mX9_where [rf E 0, .int zx1, .int zx2] H Q :=
  cm_of (by decide +kernel : plainName RX9 = true) (Nat.le_of_ble_eq_true rfl) rfl (sgX9_where_0  hF)
theorem sgX9_has_0 {E : En} {Q : Option Value → Hi → Prop} {H : Hi} {zx1 : Int32} {zx2 : Int32} 
    (hF : Cm E mX9_refresh [rf E 0] H (fun w zH_1 => w = none ∧ (Cm E mX9_isHour [.int zx1] zH_1 (fun w zH_2 => ∃ zr_3 : Int32, w = some (.int zr_3) ∧ ((zr_3 = 0 → (Q (some (.int (-2 : Int32))) zH_2)) ∧ (¬ zr_3 = 0 → (Cm E mX9_isCousin [rf E 0, .int zx2] zH_2 (fun w zH_5 => ∃ zr_6 : Int32, w = some (.int zr_6) ∧ ((¬ zr_6 = 0 → (Cm E mX2_heldBy [rf E 22, .int zx1, .int zx2] zH_5 (fun w zH_8 => ∃ zr_9 : Int32, w = some (.int zr_9) ∧ (Q (some (.int zr_9)) zH_8)))) ∧ (zr_6 = 0 → (Q (some (.int (-2 : Int32))) zH_5))))))))))) :
    Rm E mX9_has Q 0 [some (rf E 0), some (.int zx1), some (.int zx2)] [] H := by
  refine rn_aload_n dX9_has_0 rfl ?_
  refine rm_callV (c0 := 0) (As := []) (st := []) mlRX9_103 mdX9_refresh (Nat.le_of_ble_eq_true rfl) rfl (by decide) (by decide) rfl rfl rfl (Nat.le_of_ble_eq_true rfl) ⟨Nat.le_refl _, Nat.le_refl _⟩ dX9_has_1 ?_
  refine cm_mono hF (fun w zH_1 hF => ?_)
  obtain ⟨rfl, hF⟩ := hF
  refine rn_iload_n dX9_has_4 rfl ?_
  refine rm_callS (As := [.int zx1]) (st := []) mlRX9_153 mdX9_isHour (Nat.le_of_ble_eq_true rfl) rfl rfl (Nat.le_of_ble_eq_true rfl) ⟨Nat.le_refl _, Nat.le_refl _⟩ dX9_has_5 ?_
  refine cm_mono hF (fun w zH_2 hF => ?_)
  obtain ⟨zr_3, rfl, hF⟩ := hF
  refine rn_if_eq (tgt := 19) dX9_has_8 (by decide) (fun hc_4 => ?_) (fun hc_4 => ?_)
  · replace hF := hF.1 hc_4
    refine rn_bipush (x := (-2 : Int32)) dX9_has_19 (by decide) ?_
    exact rm_iret rfl dX9_has_21 hF
  · replace hF := hF.2 hc_4
    refine rn_aload_n dX9_has_11 rfl ?_
    refine rn_iload_n dX9_has_12 rfl ?_
    refine rm_callV (c0 := 0) (As := [.int zx2]) (st := []) mlRX9_113 mdX9_isCousin (Nat.le_of_ble_eq_true rfl) rfl (by decide) (by decide) rfl rfl rfl (Nat.le_of_ble_eq_true rfl) ⟨Nat.le_refl _, Nat.le_refl _⟩ dX9_has_13 ?_
    refine cm_mono hF (fun w zH_5 hF => ?_)
    obtain ⟨zr_6, rfl, hF⟩ := hF
    refine rn_if_ne (tgt := 22) dX9_has_16 (by decide) (fun hc_7 => ?_) (fun hc_7 => ?_)
    · replace hF := hF.1 hc_7
      refine rn_aload_n dX9_has_22 rfl ?_
      refine rm_getr (r := 22) flRX9_52 rfl (by decide) rfl dX9_has_23 ?_
      refine rn_iload_n dX9_has_26 rfl ?_
      refine rn_iload_n dX9_has_27 rfl ?_
      refine rm_callV (c0 := 22) (As := [.int zx1, .int zx2]) (st := []) mlRX9_165 mdX2_heldBy (Nat.le_of_ble_eq_true rfl) rfl (by decide) (by decide) rfl rfl rfl (Nat.le_of_ble_eq_true rfl) ⟨Nat.le_refl _, Nat.le_refl _⟩ dX9_has_28 ?_
      refine cm_mono hF (fun w zH_8 hF => ?_)
      obtain ⟨zr_9, rfl, hF⟩ := hF
      exact rm_iret rfl dX9_has_31 hF
    · replace hF := hF.2 hc_7
      refine rn_bipush (x := (-2 : Int32)) dX9_has_19 (by decide) ?_
      exact rm_iret rfl dX9_has_21 hF
theorem cmX9_has {E : En} {Q : Option Value → Hi → Prop} {H : Hi} {zx1 : Int32} {zx2 : Int32} 
    (hF : Cm E mX9_refresh [rf E 0] H (fun w zH_1 => w = none ∧ (Cm E mX9_isHour [.int zx1] zH_1 (fun w zH_2 => ∃ zr_3 : Int32, w = some (.int zr_3) ∧ ((zr_3 = 0 → (Q (some (.int (-2 : Int32))) zH_2)) ∧ (¬ zr_3 = 0 → (Cm E mX9_isCousin [rf E 0, .int zx2] zH_2 (fun w zH_5 => ∃ zr_6 : Int32, w = some (.int zr_6) ∧ ((¬ zr_6 = 0 → (Cm E mX2_heldBy [rf E 22, .int zx1, .int zx2] zH_5 (fun w zH_8 => ∃ zr_9 : Int32, w = some (.int zr_9) ∧ (Q (some (.int zr_9)) zH_8)))) ∧ (zr_6 = 0 → (Q (some (.int (-2 : Int32))) zH_5))))))))))) :
    Cm E mX9_has [rf E 0, .int zx1, .int zx2] H Q :=
  cm_of (by decide +kernel : plainName RX9 = true) (Nat.le_of_ble_eq_true rfl) rfl (sgX9_has_0  hF)
theorem sgX9_load_0 {E : En} {Q : Option Value → Hi → Prop} {H : Hi} {zx1 : Int32} 
    (hF : Cm E mX9_refresh [rf E 0] H (fun w zH_1 => w = none ∧ (Cm E mX9_isHour [.int zx1] zH_1 (fun w zH_2 => ∃ zr_3 : Int32, w = some (.int zr_3) ∧ ((zr_3 = 0 → (Q (some (.int (-2 : Int32))) zH_2)) ∧ (¬ zr_3 = 0 → (∃ zj_5 : Nat, (zj_5 < 24 ∧ zx1 = nI zj_5) ∧ (Q (some (.int (zH_2 (28 + 2 * zj_5) 2))) zH_2)))))))) :
    Rm E mX9_load Q 0 [some (rf E 0), some (.int zx1)] [] H := by
  refine rn_aload_n dX9_load_0 rfl ?_
  refine rm_callV (c0 := 0) (As := []) (st := []) mlRX9_103 mdX9_refresh (Nat.le_of_ble_eq_true rfl) rfl (by decide) (by decide) rfl rfl rfl (Nat.le_of_ble_eq_true rfl) ⟨Nat.le_refl _, Nat.le_refl _⟩ dX9_load_1 ?_
  refine cm_mono hF (fun w zH_1 hF => ?_)
  obtain ⟨rfl, hF⟩ := hF
  refine rn_iload_n dX9_load_4 rfl ?_
  refine rm_callS (As := [.int zx1]) (st := []) mlRX9_153 mdX9_isHour (Nat.le_of_ble_eq_true rfl) rfl rfl (Nat.le_of_ble_eq_true rfl) ⟨Nat.le_refl _, Nat.le_refl _⟩ dX9_load_5 ?_
  refine cm_mono hF (fun w zH_2 hF => ?_)
  obtain ⟨zr_3, rfl, hF⟩ := hF
  refine rn_if_eq (tgt := 26) dX9_load_8 (by decide) (fun hc_4 => ?_) (fun hc_4 => ?_)
  · replace hF := hF.1 hc_4
    refine rn_bipush (x := (-2 : Int32)) dX9_load_26 (by decide) ?_
    exact rm_iret rfl dX9_load_28 hF
  · replace hF := hF.2 hc_4
    refine rn_aload_n dX9_load_11 rfl ?_
    refine rm_getr (r := 22) flRX9_52 rfl (by decide) rfl dX9_load_12 ?_
    refine rm_getr (r := 25) flRX9_156 rfl (by decide) rfl dX9_load_15 ?_
    refine rn_iload_n dX9_load_18 rfl ?_
    obtain ⟨zj_5, hzj_5, hF⟩ := hF
    refine rj_aald (j := zj_5) (Cn := RX6) (r := (28 + 2 * zj_5)) hzj_5 (st_beh _ hzj_5.1).2 rfl (by decide) (by decide) rfl (by decide) dX9_load_19 ?_
    refine rm_geti flRX9_168 (st_beh _ hzj_5.1).1.2.1 (st_beh _ hzj_5.1).1.1 (rT_row (st_beh _ hzj_5.1).1.2.2 _) dX9_load_20 ?_
    refine rn_goto (tgt := 28) dX9_load_23 (by decide) ?_
    exact rm_iret rfl dX9_load_28 hF
theorem cmX9_load {E : En} {Q : Option Value → Hi → Prop} {H : Hi} {zx1 : Int32} 
    (hF : Cm E mX9_refresh [rf E 0] H (fun w zH_1 => w = none ∧ (Cm E mX9_isHour [.int zx1] zH_1 (fun w zH_2 => ∃ zr_3 : Int32, w = some (.int zr_3) ∧ ((zr_3 = 0 → (Q (some (.int (-2 : Int32))) zH_2)) ∧ (¬ zr_3 = 0 → (∃ zj_5 : Nat, (zj_5 < 24 ∧ zx1 = nI zj_5) ∧ (Q (some (.int (zH_2 (28 + 2 * zj_5) 2))) zH_2)))))))) :
    Cm E mX9_load [rf E 0, .int zx1] H Q :=
  cm_of (by decide +kernel : plainName RX9 = true) (Nat.le_of_ble_eq_true rfl) rfl (sgX9_load_0  hF)
theorem sgX9_happy_0 {E : En} {Q : Option Value → Hi → Prop} {H : Hi} {zx1 : Int32} 
    (hF : Cm E mX9_refresh [rf E 0] H (fun w zH_1 => w = none ∧ (Cm E mX9_isHour [.int zx1] zH_1 (fun w zH_2 => ∃ zr_3 : Int32, w = some (.int zr_3) ∧ ((zr_3 = 0 → (Q (some (.int (-2 : Int32))) zH_2)) ∧ (¬ zr_3 = 0 → (Cm E mX2_content [rf E 22, .int zx1] zH_2 (fun w zH_5 => ∃ zr_6 : Int32, w = some (.int zr_6) ∧ (Q (some (.int zr_6)) zH_5))))))))) :
    Rm E mX9_happy Q 0 [some (rf E 0), some (.int zx1)] [] H := by
  refine rn_aload_n dX9_happy_0 rfl ?_
  refine rm_callV (c0 := 0) (As := []) (st := []) mlRX9_103 mdX9_refresh (Nat.le_of_ble_eq_true rfl) rfl (by decide) (by decide) rfl rfl rfl (Nat.le_of_ble_eq_true rfl) ⟨Nat.le_refl _, Nat.le_refl _⟩ dX9_happy_1 ?_
  refine cm_mono hF (fun w zH_1 hF => ?_)
  obtain ⟨rfl, hF⟩ := hF
  refine rn_iload_n dX9_happy_4 rfl ?_
  refine rm_callS (As := [.int zx1]) (st := []) mlRX9_153 mdX9_isHour (Nat.le_of_ble_eq_true rfl) rfl rfl (Nat.le_of_ble_eq_true rfl) ⟨Nat.le_refl _, Nat.le_refl _⟩ dX9_happy_5 ?_
  refine cm_mono hF (fun w zH_2 hF => ?_)
  obtain ⟨zr_3, rfl, hF⟩ := hF
  refine rn_if_eq (tgt := 22) dX9_happy_8 (by decide) (fun hc_4 => ?_) (fun hc_4 => ?_)
  · replace hF := hF.1 hc_4
    refine rn_bipush (x := (-2 : Int32)) dX9_happy_22 (by decide) ?_
    exact rm_iret rfl dX9_happy_24 hF
  · replace hF := hF.2 hc_4
    refine rn_aload_n dX9_happy_11 rfl ?_
    refine rm_getr (r := 22) flRX9_52 rfl (by decide) rfl dX9_happy_12 ?_
    refine rn_iload_n dX9_happy_15 rfl ?_
    refine rm_callV (c0 := 22) (As := [.int zx1]) (st := []) mlRX9_171 mdX2_content (Nat.le_of_ble_eq_true rfl) rfl (by decide) (by decide) rfl rfl rfl (Nat.le_of_ble_eq_true rfl) ⟨Nat.le_refl _, Nat.le_refl _⟩ dX9_happy_16 ?_
    refine cm_mono hF (fun w zH_5 hF => ?_)
    obtain ⟨zr_6, rfl, hF⟩ := hF
    refine rn_goto (tgt := 24) dX9_happy_19 (by decide) ?_
    exact rm_iret rfl dX9_happy_24 hF
theorem cmX9_happy {E : En} {Q : Option Value → Hi → Prop} {H : Hi} {zx1 : Int32} 
    (hF : Cm E mX9_refresh [rf E 0] H (fun w zH_1 => w = none ∧ (Cm E mX9_isHour [.int zx1] zH_1 (fun w zH_2 => ∃ zr_3 : Int32, w = some (.int zr_3) ∧ ((zr_3 = 0 → (Q (some (.int (-2 : Int32))) zH_2)) ∧ (¬ zr_3 = 0 → (Cm E mX2_content [rf E 22, .int zx1] zH_2 (fun w zH_5 => ∃ zr_6 : Int32, w = some (.int zr_6) ∧ (Q (some (.int zr_6)) zH_5))))))))) :
    Cm E mX9_happy [rf E 0, .int zx1] H Q :=
  cm_of (by decide +kernel : plainName RX9 = true) (Nat.le_of_ble_eq_true rfl) rfl (sgX9_happy_0  hF)
theorem sgX9_works_0 {E : En} {Q : Option Value → Hi → Prop} {H : Hi} {zx1 : Int32} 
    (hF : Cm E mX9_refresh [rf E 0] H (fun w zH_1 => w = none ∧ ((zx1 < 0 → (Q (some (.int (-2 : Int32))) zH_1)) ∧ (¬ zx1 < 0 → ((zx1 < (zH_1 11 2) → (Q (some (.int (((zH_1 22 5) >>> (zx1 &&& 31)) &&& (1 : Int32)))) zH_1)) ∧ (¬ zx1 < (zH_1 11 2) → (Q (some (.int (-2 : Int32))) zH_1))))))) :
    Rm E mX9_works Q 0 [some (rf E 0), some (.int zx1)] [] H := by
  refine rn_aload_n dX9_works_0 rfl ?_
  refine rm_callV (c0 := 0) (As := []) (st := []) mlRX9_103 mdX9_refresh (Nat.le_of_ble_eq_true rfl) rfl (by decide) (by decide) rfl rfl rfl (Nat.le_of_ble_eq_true rfl) ⟨Nat.le_refl _, Nat.le_refl _⟩ dX9_works_1 ?_
  refine cm_mono hF (fun w zH_1 hF => ?_)
  obtain ⟨rfl, hF⟩ := hF
  refine rn_iload_n dX9_works_4 rfl ?_
  refine rn_if_lt (tgt := 19) dX9_works_5 (by decide) (fun hc_2 => ?_) (fun hc_2 => ?_)
  · replace hF := hF.1 hc_2
    refine rn_bipush (x := (-2 : Int32)) dX9_works_19 (by decide) ?_
    exact rm_iret rfl dX9_works_21 hF
  · replace hF := hF.2 hc_2
    refine rn_iload_n dX9_works_8 rfl ?_
    refine rn_aload_n dX9_works_9 rfl ?_
    refine rm_getr (r := 11) flRX9_43 rfl (by decide) rfl dX9_works_10 ?_
    refine rm_geti flRX9_136 rfl (by decide) rfl dX9_works_13 ?_
    refine rn_icmp_lt (tgt := 22) dX9_works_16 (by decide) (fun hc_3 => ?_) (fun hc_3 => ?_)
    · replace hF := hF.1 hc_3
      refine rn_aload_n dX9_works_22 rfl ?_
      refine rm_getr (r := 22) flRX9_52 rfl (by decide) rfl dX9_works_23 ?_
      refine rm_geti flRX9_174 rfl (by decide) rfl dX9_works_26 ?_
      refine rn_iload_n dX9_works_29 rfl ?_
      refine rn_ishr dX9_works_30 ?_
      refine rn_iconst (x := (1 : Int32)) dX9_works_31 (by decide) ?_
      refine rn_iand dX9_works_32 ?_
      exact rm_iret rfl dX9_works_33 hF
    · replace hF := hF.2 hc_3
      refine rn_bipush (x := (-2 : Int32)) dX9_works_19 (by decide) ?_
      exact rm_iret rfl dX9_works_21 hF
theorem cmX9_works {E : En} {Q : Option Value → Hi → Prop} {H : Hi} {zx1 : Int32} 
    (hF : Cm E mX9_refresh [rf E 0] H (fun w zH_1 => w = none ∧ ((zx1 < 0 → (Q (some (.int (-2 : Int32))) zH_1)) ∧ (¬ zx1 < 0 → ((zx1 < (zH_1 11 2) → (Q (some (.int (((zH_1 22 5) >>> (zx1 &&& 31)) &&& (1 : Int32)))) zH_1)) ∧ (¬ zx1 < (zH_1 11 2) → (Q (some (.int (-2 : Int32))) zH_1))))))) :
    Cm E mX9_works [rf E 0, .int zx1] H Q :=
  cm_of (by decide +kernel : plainName RX9 = true) (Nat.le_of_ble_eq_true rfl) rfl (sgX9_works_0  hF)
theorem sgX9_fails_0 {E : En} {Q : Option Value → Hi → Prop} {H : Hi}  
    (hF : Cm E mX9_refresh [rf E 0] H (fun w zH_1 => w = none ∧ (Cm E mX2_firstIdle [rf E 22] zH_1 (fun w zH_2 => ∃ zr_3 : Int32, w = some (.int zr_3) ∧ (Q (some (.int zr_3)) zH_2))))) :
    Rm E mX9_fails Q 0 [some (rf E 0)] [] H := by
  refine rn_aload_n dX9_fails_0 rfl ?_
  refine rm_callV (c0 := 0) (As := []) (st := []) mlRX9_103 mdX9_refresh (Nat.le_of_ble_eq_true rfl) rfl (by decide) (by decide) rfl rfl rfl (Nat.le_of_ble_eq_true rfl) ⟨Nat.le_refl _, Nat.le_refl _⟩ dX9_fails_1 ?_
  refine cm_mono hF (fun w zH_1 hF => ?_)
  obtain ⟨rfl, hF⟩ := hF
  refine rn_aload_n dX9_fails_4 rfl ?_
  refine rm_getr (r := 22) flRX9_52 rfl (by decide) rfl dX9_fails_5 ?_
  refine rm_callV (c0 := 22) (As := []) (st := []) mlRX9_177 mdX2_firstIdle (Nat.le_of_ble_eq_true rfl) rfl (by decide) (by decide) rfl rfl rfl (Nat.le_of_ble_eq_true rfl) ⟨Nat.le_refl _, Nat.le_refl _⟩ dX9_fails_8 ?_
  refine cm_mono hF (fun w zH_2 hF => ?_)
  obtain ⟨zr_3, rfl, hF⟩ := hF
  exact rm_iret rfl dX9_fails_11 hF
theorem cmX9_fails {E : En} {Q : Option Value → Hi → Prop} {H : Hi}  
    (hF : Cm E mX9_refresh [rf E 0] H (fun w zH_1 => w = none ∧ (Cm E mX2_firstIdle [rf E 22] zH_1 (fun w zH_2 => ∃ zr_3 : Int32, w = some (.int zr_3) ∧ (Q (some (.int zr_3)) zH_2))))) :
    Cm E mX9_fails [rf E 0] H Q :=
  cm_of (by decide +kernel : plainName RX9 = true) (Nat.le_of_ble_eq_true rfl) rfl (sgX9_fails_0  hF)
theorem sgX9_went_0 {E : En} {Q : Option Value → Hi → Prop} {H : Hi} {zx1 : Int32} 
    (hF : Cm E mX9_refresh [rf E 0] H (fun w zH_1 => w = none ∧ (Cm E mX9_isThing [rf E 0, .int zx1] zH_1 (fun w zH_2 => ∃ zr_3 : Int32, w = some (.int zr_3) ∧ ((zr_3 = 0 → (Q (some (.int (-2 : Int32))) zH_2)) ∧ (¬ zr_3 = 0 → (Cm E mX2_firstGone [rf E 22, .int zx1] zH_2 (fun w zH_5 => ∃ zr_6 : Int32, w = some (.int zr_6) ∧ (Q (some (.int zr_6)) zH_5))))))))) :
    Rm E mX9_went Q 0 [some (rf E 0), some (.int zx1)] [] H := by
  refine rn_aload_n dX9_went_0 rfl ?_
  refine rm_callV (c0 := 0) (As := []) (st := []) mlRX9_103 mdX9_refresh (Nat.le_of_ble_eq_true rfl) rfl (by decide) (by decide) rfl rfl rfl (Nat.le_of_ble_eq_true rfl) ⟨Nat.le_refl _, Nat.le_refl _⟩ dX9_went_1 ?_
  refine cm_mono hF (fun w zH_1 hF => ?_)
  obtain ⟨rfl, hF⟩ := hF
  refine rn_aload_n dX9_went_4 rfl ?_
  refine rn_iload_n dX9_went_5 rfl ?_
  refine rm_callV (c0 := 0) (As := [.int zx1]) (st := []) mlRX9_106 mdX9_isThing (Nat.le_of_ble_eq_true rfl) rfl (by decide) (by decide) rfl rfl rfl (Nat.le_of_ble_eq_true rfl) ⟨Nat.le_refl _, Nat.le_refl _⟩ dX9_went_6 ?_
  refine cm_mono hF (fun w zH_2 hF => ?_)
  obtain ⟨zr_3, rfl, hF⟩ := hF
  refine rn_if_eq (tgt := 23) dX9_went_9 (by decide) (fun hc_4 => ?_) (fun hc_4 => ?_)
  · replace hF := hF.1 hc_4
    refine rn_bipush (x := (-2 : Int32)) dX9_went_23 (by decide) ?_
    exact rm_iret rfl dX9_went_25 hF
  · replace hF := hF.2 hc_4
    refine rn_aload_n dX9_went_12 rfl ?_
    refine rm_getr (r := 22) flRX9_52 rfl (by decide) rfl dX9_went_13 ?_
    refine rn_iload_n dX9_went_16 rfl ?_
    refine rm_callV (c0 := 22) (As := [.int zx1]) (st := []) mlRX9_180 mdX2_firstGone (Nat.le_of_ble_eq_true rfl) rfl (by decide) (by decide) rfl rfl rfl (Nat.le_of_ble_eq_true rfl) ⟨Nat.le_refl _, Nat.le_refl _⟩ dX9_went_17 ?_
    refine cm_mono hF (fun w zH_5 hF => ?_)
    obtain ⟨zr_6, rfl, hF⟩ := hF
    refine rn_goto (tgt := 25) dX9_went_20 (by decide) ?_
    exact rm_iret rfl dX9_went_25 hF
theorem cmX9_went {E : En} {Q : Option Value → Hi → Prop} {H : Hi} {zx1 : Int32} 
    (hF : Cm E mX9_refresh [rf E 0] H (fun w zH_1 => w = none ∧ (Cm E mX9_isThing [rf E 0, .int zx1] zH_1 (fun w zH_2 => ∃ zr_3 : Int32, w = some (.int zr_3) ∧ ((zr_3 = 0 → (Q (some (.int (-2 : Int32))) zH_2)) ∧ (¬ zr_3 = 0 → (Cm E mX2_firstGone [rf E 22, .int zx1] zH_2 (fun w zH_5 => ∃ zr_6 : Int32, w = some (.int zr_6) ∧ (Q (some (.int zr_6)) zH_5))))))))) :
    Cm E mX9_went [rf E 0, .int zx1] H Q :=
  cm_of (by decide +kernel : plainName RX9 = true) (Nat.le_of_ble_eq_true rfl) rfl (sgX9_went_0  hF)
theorem sgX9_lend_0 {E : En} {Q : Option Value → Hi → Prop} {H : Hi} {zx1 : Int32} {zx2 : Int32} {zx3 : Int32} {zx4 : Int32} {zx5 : Int32} 
    (hF : Cm E mX9_refresh [rf E 0] H (fun w zH_1 => w = none ∧ (Cm E mX9_isCousin [rf E 0, .int zx1] zH_1 (fun w zH_2 => ∃ zr_3 : Int32, w = some (.int zr_3) ∧ ((zr_3 = 0 → (Q (some (.int (-2 : Int32))) zH_2)) ∧ (¬ zr_3 = 0 → (Cm E mX9_isThing [rf E 0, .int zx2] zH_2 (fun w zH_5 => ∃ zr_6 : Int32, w = some (.int zr_6) ∧ ((zr_6 = 0 → (Q (some (.int (-2 : Int32))) zH_5)) ∧ (¬ zr_6 = 0 → (Cm E mX9_isHour [.int zx3] zH_5 (fun w zH_8 => ∃ zr_9 : Int32, w = some (.int zr_9) ∧ ((zr_9 = 0 → (Q (some (.int (-2 : Int32))) zH_8)) ∧ (¬ zr_9 = 0 → (Cm E mX9_isHour [.int zx4] zH_8 (fun w zH_11 => ∃ zr_12 : Int32, w = some (.int zr_12) ∧ ((zr_12 = 0 → (Q (some (.int (-2 : Int32))) zH_11)) ∧ (¬ zr_12 = 0 → (Cm E mX9_isRowPlace [.int zx5] zH_11 (fun w zH_14 => ∃ zr_15 : Int32, w = some (.int zr_15) ∧ ((¬ zr_15 = 0 → (Cm E mX3_planLend [rf E 75, .int zx1, .int zx2, .int zx3, .int zx4] zH_14 (fun w zH_17 => w = none ∧ (Cm E mX4_told [rf E 76, .int zx5] zH_17 (fun w zH_18 => ∃ zr_19 : Int32, w = some (.int zr_19) ∧ (Q (some (.int zr_19)) zH_18)))))) ∧ (zr_15 = 0 → (Q (some (.int (-2 : Int32))) zH_14))))))))))))))))))))))) :
    Rm E mX9_lend Q 0 [some (rf E 0), some (.int zx1), some (.int zx2), some (.int zx3), some (.int zx4), some (.int zx5)] [] H := by
  refine rn_aload_n dX9_lend_0 rfl ?_
  refine rm_callV (c0 := 0) (As := []) (st := []) mlRX9_103 mdX9_refresh (Nat.le_of_ble_eq_true rfl) rfl (by decide) (by decide) rfl rfl rfl (Nat.le_of_ble_eq_true rfl) ⟨Nat.le_refl _, Nat.le_refl _⟩ dX9_lend_1 ?_
  refine cm_mono hF (fun w zH_1 hF => ?_)
  obtain ⟨rfl, hF⟩ := hF
  refine rn_aload_n dX9_lend_4 rfl ?_
  refine rn_iload_n dX9_lend_5 rfl ?_
  refine rm_callV (c0 := 0) (As := [.int zx1]) (st := []) mlRX9_113 mdX9_isCousin (Nat.le_of_ble_eq_true rfl) rfl (by decide) (by decide) rfl rfl rfl (Nat.le_of_ble_eq_true rfl) ⟨Nat.le_refl _, Nat.le_refl _⟩ dX9_lend_6 ?_
  refine cm_mono hF (fun w zH_2 hF => ?_)
  obtain ⟨zr_3, rfl, hF⟩ := hF
  refine rn_if_eq (tgt := 43) dX9_lend_9 (by decide) (fun hc_4 => ?_) (fun hc_4 => ?_)
  · replace hF := hF.1 hc_4
    refine rn_bipush (x := (-2 : Int32)) dX9_lend_43 (by decide) ?_
    exact rm_iret rfl dX9_lend_45 hF
  · replace hF := hF.2 hc_4
    refine rn_aload_n dX9_lend_12 rfl ?_
    refine rn_iload_n dX9_lend_13 rfl ?_
    refine rm_callV (c0 := 0) (As := [.int zx2]) (st := []) mlRX9_106 mdX9_isThing (Nat.le_of_ble_eq_true rfl) rfl (by decide) (by decide) rfl rfl rfl (Nat.le_of_ble_eq_true rfl) ⟨Nat.le_refl _, Nat.le_refl _⟩ dX9_lend_14 ?_
    refine cm_mono hF (fun w zH_5 hF => ?_)
    obtain ⟨zr_6, rfl, hF⟩ := hF
    refine rn_if_eq (tgt := 43) dX9_lend_17 (by decide) (fun hc_7 => ?_) (fun hc_7 => ?_)
    · replace hF := hF.1 hc_7
      refine rn_bipush (x := (-2 : Int32)) dX9_lend_43 (by decide) ?_
      exact rm_iret rfl dX9_lend_45 hF
    · replace hF := hF.2 hc_7
      refine rn_iload_n dX9_lend_20 rfl ?_
      refine rm_callS (As := [.int zx3]) (st := []) mlRX9_153 mdX9_isHour (Nat.le_of_ble_eq_true rfl) rfl rfl (Nat.le_of_ble_eq_true rfl) ⟨Nat.le_refl _, Nat.le_refl _⟩ dX9_lend_21 ?_
      refine cm_mono hF (fun w zH_8 hF => ?_)
      obtain ⟨zr_9, rfl, hF⟩ := hF
      refine rn_if_eq (tgt := 43) dX9_lend_24 (by decide) (fun hc_10 => ?_) (fun hc_10 => ?_)
      · replace hF := hF.1 hc_10
        refine rn_bipush (x := (-2 : Int32)) dX9_lend_43 (by decide) ?_
        exact rm_iret rfl dX9_lend_45 hF
      · replace hF := hF.2 hc_10
        refine rn_iload dX9_lend_27 rfl ?_
        refine rm_callS (As := [.int zx4]) (st := []) mlRX9_153 mdX9_isHour (Nat.le_of_ble_eq_true rfl) rfl rfl (Nat.le_of_ble_eq_true rfl) ⟨Nat.le_refl _, Nat.le_refl _⟩ dX9_lend_29 ?_
        refine cm_mono hF (fun w zH_11 hF => ?_)
        obtain ⟨zr_12, rfl, hF⟩ := hF
        refine rn_if_eq (tgt := 43) dX9_lend_32 (by decide) (fun hc_13 => ?_) (fun hc_13 => ?_)
        · replace hF := hF.1 hc_13
          refine rn_bipush (x := (-2 : Int32)) dX9_lend_43 (by decide) ?_
          exact rm_iret rfl dX9_lend_45 hF
        · replace hF := hF.2 hc_13
          refine rn_iload dX9_lend_35 rfl ?_
          refine rm_callS (As := [.int zx5]) (st := []) mlRX9_183 mdX9_isRowPlace (Nat.le_of_ble_eq_true rfl) rfl rfl (Nat.le_of_ble_eq_true rfl) ⟨Nat.le_refl _, Nat.le_refl _⟩ dX9_lend_37 ?_
          refine cm_mono hF (fun w zH_14 hF => ?_)
          obtain ⟨zr_15, rfl, hF⟩ := hF
          refine rn_if_ne (tgt := 46) dX9_lend_40 (by decide) (fun hc_16 => ?_) (fun hc_16 => ?_)
          · replace hF := hF.1 hc_16
            refine rn_aload_n dX9_lend_46 rfl ?_
            refine rm_getr (r := 75) flRX9_61 rfl (by decide) rfl dX9_lend_47 ?_
            refine rn_iload_n dX9_lend_50 rfl ?_
            refine rn_iload_n dX9_lend_51 rfl ?_
            refine rn_iload_n dX9_lend_52 rfl ?_
            refine rn_iload dX9_lend_53 rfl ?_
            refine rm_callV (c0 := 75) (As := [.int zx1, .int zx2, .int zx3, .int zx4]) (st := []) mlRX9_186 mdX3_planLend (Nat.le_of_ble_eq_true rfl) rfl (by decide) (by decide) rfl rfl rfl (Nat.le_of_ble_eq_true rfl) ⟨Nat.le_refl _, Nat.le_refl _⟩ dX9_lend_55 ?_
            refine cm_mono hF (fun w zH_17 hF => ?_)
            obtain ⟨rfl, hF⟩ := hF
            refine rn_aload_n dX9_lend_58 rfl ?_
            refine rm_getr (r := 75) flRX9_61 rfl (by decide) rfl dX9_lend_59 ?_
            refine rm_getr (r := 76) flRX9_190 rfl (by decide) rfl dX9_lend_62 ?_
            refine rn_iload dX9_lend_65 rfl ?_
            refine rm_callV (c0 := 76) (As := [.int zx5]) (st := []) mlRX9_194 mdX4_told (Nat.le_of_ble_eq_true rfl) rfl (by decide) (by decide) rfl rfl rfl (Nat.le_of_ble_eq_true rfl) ⟨Nat.le_refl _, Nat.le_refl _⟩ dX9_lend_67 ?_
            refine cm_mono hF (fun w zH_18 hF => ?_)
            obtain ⟨zr_19, rfl, hF⟩ := hF
            exact rm_iret rfl dX9_lend_70 hF
          · replace hF := hF.2 hc_16
            refine rn_bipush (x := (-2 : Int32)) dX9_lend_43 (by decide) ?_
            exact rm_iret rfl dX9_lend_45 hF
theorem cmX9_lend {E : En} {Q : Option Value → Hi → Prop} {H : Hi} {zx1 : Int32} {zx2 : Int32} {zx3 : Int32} {zx4 : Int32} {zx5 : Int32} 
    (hF : Cm E mX9_refresh [rf E 0] H (fun w zH_1 => w = none ∧ (Cm E mX9_isCousin [rf E 0, .int zx1] zH_1 (fun w zH_2 => ∃ zr_3 : Int32, w = some (.int zr_3) ∧ ((zr_3 = 0 → (Q (some (.int (-2 : Int32))) zH_2)) ∧ (¬ zr_3 = 0 → (Cm E mX9_isThing [rf E 0, .int zx2] zH_2 (fun w zH_5 => ∃ zr_6 : Int32, w = some (.int zr_6) ∧ ((zr_6 = 0 → (Q (some (.int (-2 : Int32))) zH_5)) ∧ (¬ zr_6 = 0 → (Cm E mX9_isHour [.int zx3] zH_5 (fun w zH_8 => ∃ zr_9 : Int32, w = some (.int zr_9) ∧ ((zr_9 = 0 → (Q (some (.int (-2 : Int32))) zH_8)) ∧ (¬ zr_9 = 0 → (Cm E mX9_isHour [.int zx4] zH_8 (fun w zH_11 => ∃ zr_12 : Int32, w = some (.int zr_12) ∧ ((zr_12 = 0 → (Q (some (.int (-2 : Int32))) zH_11)) ∧ (¬ zr_12 = 0 → (Cm E mX9_isRowPlace [.int zx5] zH_11 (fun w zH_14 => ∃ zr_15 : Int32, w = some (.int zr_15) ∧ ((¬ zr_15 = 0 → (Cm E mX3_planLend [rf E 75, .int zx1, .int zx2, .int zx3, .int zx4] zH_14 (fun w zH_17 => w = none ∧ (Cm E mX4_told [rf E 76, .int zx5] zH_17 (fun w zH_18 => ∃ zr_19 : Int32, w = some (.int zr_19) ∧ (Q (some (.int zr_19)) zH_18)))))) ∧ (zr_15 = 0 → (Q (some (.int (-2 : Int32))) zH_14))))))))))))))))))))))) :
    Cm E mX9_lend [rf E 0, .int zx1, .int zx2, .int zx3, .int zx4, .int zx5] H Q :=
  cm_of (by decide +kernel : plainName RX9 = true) (Nat.le_of_ble_eq_true rfl) rfl (sgX9_lend_0  hF)
theorem sgX9_hangs_0 {E : En} {Q : Option Value → Hi → Prop} {H : Hi} {zx1 : Int32} 
    (hF : Cm E mX9_refresh [rf E 0] H (fun w zH_1 => w = none ∧ (Cm E mX9_isHour [.int zx1] zH_1 (fun w zH_2 => ∃ zr_3 : Int32, w = some (.int zr_3) ∧ ((zr_3 = 0 → (Q (some (.int (-2 : Int32))) zH_2)) ∧ (¬ zr_3 = 0 → (Cm E mX3_unsettled [rf E 75, .int zx1] zH_2 (fun w zH_5 => ∃ zr_6 : Int32, w = some (.int zr_6) ∧ (Q (some (.int zr_6)) zH_5))))))))) :
    Rm E mX9_hangs Q 0 [some (rf E 0), some (.int zx1)] [] H := by
  refine rn_aload_n dX9_hangs_0 rfl ?_
  refine rm_callV (c0 := 0) (As := []) (st := []) mlRX9_103 mdX9_refresh (Nat.le_of_ble_eq_true rfl) rfl (by decide) (by decide) rfl rfl rfl (Nat.le_of_ble_eq_true rfl) ⟨Nat.le_refl _, Nat.le_refl _⟩ dX9_hangs_1 ?_
  refine cm_mono hF (fun w zH_1 hF => ?_)
  obtain ⟨rfl, hF⟩ := hF
  refine rn_iload_n dX9_hangs_4 rfl ?_
  refine rm_callS (As := [.int zx1]) (st := []) mlRX9_153 mdX9_isHour (Nat.le_of_ble_eq_true rfl) rfl rfl (Nat.le_of_ble_eq_true rfl) ⟨Nat.le_refl _, Nat.le_refl _⟩ dX9_hangs_5 ?_
  refine cm_mono hF (fun w zH_2 hF => ?_)
  obtain ⟨zr_3, rfl, hF⟩ := hF
  refine rn_if_eq (tgt := 22) dX9_hangs_8 (by decide) (fun hc_4 => ?_) (fun hc_4 => ?_)
  · replace hF := hF.1 hc_4
    refine rn_bipush (x := (-2 : Int32)) dX9_hangs_22 (by decide) ?_
    exact rm_iret rfl dX9_hangs_24 hF
  · replace hF := hF.2 hc_4
    refine rn_aload_n dX9_hangs_11 rfl ?_
    refine rm_getr (r := 75) flRX9_61 rfl (by decide) rfl dX9_hangs_12 ?_
    refine rn_iload_n dX9_hangs_15 rfl ?_
    refine rm_callV (c0 := 75) (As := [.int zx1]) (st := []) mlRX9_198 mdX3_unsettled (Nat.le_of_ble_eq_true rfl) rfl (by decide) (by decide) rfl rfl rfl (Nat.le_of_ble_eq_true rfl) ⟨Nat.le_refl _, Nat.le_refl _⟩ dX9_hangs_16 ?_
    refine cm_mono hF (fun w zH_5 hF => ?_)
    obtain ⟨zr_6, rfl, hF⟩ := hF
    refine rn_goto (tgt := 24) dX9_hangs_19 (by decide) ?_
    exact rm_iret rfl dX9_hangs_24 hF
theorem cmX9_hangs {E : En} {Q : Option Value → Hi → Prop} {H : Hi} {zx1 : Int32} 
    (hF : Cm E mX9_refresh [rf E 0] H (fun w zH_1 => w = none ∧ (Cm E mX9_isHour [.int zx1] zH_1 (fun w zH_2 => ∃ zr_3 : Int32, w = some (.int zr_3) ∧ ((zr_3 = 0 → (Q (some (.int (-2 : Int32))) zH_2)) ∧ (¬ zr_3 = 0 → (Cm E mX3_unsettled [rf E 75, .int zx1] zH_2 (fun w zH_5 => ∃ zr_6 : Int32, w = some (.int zr_6) ∧ (Q (some (.int zr_6)) zH_5))))))))) :
    Cm E mX9_hangs [rf E 0, .int zx1] H Q :=
  cm_of (by decide +kernel : plainName RX9 = true) (Nat.le_of_ble_eq_true rfl) rfl (sgX9_hangs_0  hF)
theorem sgX9_sort_0 {E : En} {Q : Option Value → Hi → Prop} {H : Hi} {zx1 : Int32} {zx2 : Int32} 
    (hF : Cm E mX9_refresh [rf E 0] H (fun w zH_1 => w = none ∧ ((zx1 < 0 → (Q (some (.int (-2 : Int32))) zH_1)) ∧ (¬ zx1 < 0 → (((72 : Int32) < zx1 → (Q (some (.int (-2 : Int32))) zH_1)) ∧ (¬ (72 : Int32) < zx1 → (Cm E mX9_isRowPlace [.int zx2] zH_1 (fun w zH_4 => ∃ zr_5 : Int32, w = some (.int zr_5) ∧ ((¬ zr_5 = 0 → (Cm E mX3_planSort [rf E 75, .int zx1] zH_4 (fun w zH_7 => w = none ∧ (Cm E mX4_told [rf E 77, .int zx2] zH_7 (fun w zH_8 => ∃ zr_9 : Int32, w = some (.int zr_9) ∧ (Q (some (.int zr_9)) zH_8)))))) ∧ (zr_5 = 0 → (Q (some (.int (-2 : Int32))) zH_4))))))))))) :
    Rm E mX9_sort Q 0 [some (rf E 0), some (.int zx1), some (.int zx2)] [] H := by
  refine rn_aload_n dX9_sort_0 rfl ?_
  refine rm_callV (c0 := 0) (As := []) (st := []) mlRX9_103 mdX9_refresh (Nat.le_of_ble_eq_true rfl) rfl (by decide) (by decide) rfl rfl rfl (Nat.le_of_ble_eq_true rfl) ⟨Nat.le_refl _, Nat.le_refl _⟩ dX9_sort_1 ?_
  refine cm_mono hF (fun w zH_1 hF => ?_)
  obtain ⟨rfl, hF⟩ := hF
  refine rn_iload_n dX9_sort_4 rfl ?_
  refine rn_if_lt (tgt := 21) dX9_sort_5 (by decide) (fun hc_2 => ?_) (fun hc_2 => ?_)
  · replace hF := hF.1 hc_2
    refine rn_bipush (x := (-2 : Int32)) dX9_sort_21 (by decide) ?_
    exact rm_iret rfl dX9_sort_23 hF
  · replace hF := hF.2 hc_2
    refine rn_iload_n dX9_sort_8 rfl ?_
    refine rn_bipush (x := (72 : Int32)) dX9_sort_9 (by decide) ?_
    refine rn_icmp_gt (tgt := 21) dX9_sort_11 (by decide) (fun hc_3 => ?_) (fun hc_3 => ?_)
    · replace hF := hF.1 hc_3
      refine rn_bipush (x := (-2 : Int32)) dX9_sort_21 (by decide) ?_
      exact rm_iret rfl dX9_sort_23 hF
    · replace hF := hF.2 hc_3
      refine rn_iload_n dX9_sort_14 rfl ?_
      refine rm_callS (As := [.int zx2]) (st := []) mlRX9_183 mdX9_isRowPlace (Nat.le_of_ble_eq_true rfl) rfl rfl (Nat.le_of_ble_eq_true rfl) ⟨Nat.le_refl _, Nat.le_refl _⟩ dX9_sort_15 ?_
      refine cm_mono hF (fun w zH_4 hF => ?_)
      obtain ⟨zr_5, rfl, hF⟩ := hF
      refine rn_if_ne (tgt := 24) dX9_sort_18 (by decide) (fun hc_6 => ?_) (fun hc_6 => ?_)
      · replace hF := hF.1 hc_6
        refine rn_aload_n dX9_sort_24 rfl ?_
        refine rm_getr (r := 75) flRX9_61 rfl (by decide) rfl dX9_sort_25 ?_
        refine rn_iload_n dX9_sort_28 rfl ?_
        refine rm_callV (c0 := 75) (As := [.int zx1]) (st := []) mlRX9_201 mdX3_planSort (Nat.le_of_ble_eq_true rfl) rfl (by decide) (by decide) rfl rfl rfl (Nat.le_of_ble_eq_true rfl) ⟨Nat.le_refl _, Nat.le_refl _⟩ dX9_sort_29 ?_
        refine cm_mono hF (fun w zH_7 hF => ?_)
        obtain ⟨rfl, hF⟩ := hF
        refine rn_aload_n dX9_sort_32 rfl ?_
        refine rm_getr (r := 75) flRX9_61 rfl (by decide) rfl dX9_sort_33 ?_
        refine rm_getr (r := 77) flRX9_205 rfl (by decide) rfl dX9_sort_36 ?_
        refine rn_iload_n dX9_sort_39 rfl ?_
        refine rm_callV (c0 := 77) (As := [.int zx2]) (st := []) mlRX9_194 mdX4_told (Nat.le_of_ble_eq_true rfl) rfl (by decide) (by decide) rfl rfl rfl (Nat.le_of_ble_eq_true rfl) ⟨Nat.le_refl _, Nat.le_refl _⟩ dX9_sort_40 ?_
        refine cm_mono hF (fun w zH_8 hF => ?_)
        obtain ⟨zr_9, rfl, hF⟩ := hF
        exact rm_iret rfl dX9_sort_43 hF
      · replace hF := hF.2 hc_6
        refine rn_bipush (x := (-2 : Int32)) dX9_sort_21 (by decide) ?_
        exact rm_iret rfl dX9_sort_23 hF
theorem cmX9_sort {E : En} {Q : Option Value → Hi → Prop} {H : Hi} {zx1 : Int32} {zx2 : Int32} 
    (hF : Cm E mX9_refresh [rf E 0] H (fun w zH_1 => w = none ∧ ((zx1 < 0 → (Q (some (.int (-2 : Int32))) zH_1)) ∧ (¬ zx1 < 0 → (((72 : Int32) < zx1 → (Q (some (.int (-2 : Int32))) zH_1)) ∧ (¬ (72 : Int32) < zx1 → (Cm E mX9_isRowPlace [.int zx2] zH_1 (fun w zH_4 => ∃ zr_5 : Int32, w = some (.int zr_5) ∧ ((¬ zr_5 = 0 → (Cm E mX3_planSort [rf E 75, .int zx1] zH_4 (fun w zH_7 => w = none ∧ (Cm E mX4_told [rf E 77, .int zx2] zH_7 (fun w zH_8 => ∃ zr_9 : Int32, w = some (.int zr_9) ∧ (Q (some (.int zr_9)) zH_8)))))) ∧ (zr_5 = 0 → (Q (some (.int (-2 : Int32))) zH_4))))))))))) :
    Cm E mX9_sort [rf E 0, .int zx1, .int zx2] H Q :=
  cm_of (by decide +kernel : plainName RX9 = true) (Nat.le_of_ble_eq_true rfl) rfl (sgX9_sort_0  hF)
theorem sgX9_felt_0 {E : En} {Q : Option Value → Hi → Prop} {H : Hi} {zx1 : Int32} {zx2 : Int32} {zx3 : Int32} 
    (hF : Cm E mX8_addFelt [rf E 11, .int zx1, .int zx2, .int zx3] H (fun w zH_1 => ∃ zr_2 : Int32, w = some (.int zr_2) ∧ (Q (some (.int zr_2)) zH_1))) :
    Rm E mX9_felt Q 0 [some (rf E 0), some (.int zx1), some (.int zx2), some (.int zx3)] [] H := by
  refine rn_aload_n dX9_felt_0 rfl ?_
  refine rm_getr (r := 11) flRX9_43 rfl (by decide) rfl dX9_felt_1 ?_
  refine rn_iload_n dX9_felt_4 rfl ?_
  refine rn_iload_n dX9_felt_5 rfl ?_
  refine rn_iload_n dX9_felt_6 rfl ?_
  refine rm_callV (c0 := 11) (As := [.int zx1, .int zx2, .int zx3]) (st := []) mlRX9_208 mdX8_addFelt (Nat.le_of_ble_eq_true rfl) rfl (by decide) (by decide) rfl rfl rfl (Nat.le_of_ble_eq_true rfl) ⟨Nat.le_refl _, Nat.le_refl _⟩ dX9_felt_7 ?_
  refine cm_mono hF (fun w zH_1 hF => ?_)
  obtain ⟨zr_2, rfl, hF⟩ := hF
  exact rm_iret rfl dX9_felt_10 hF
theorem cmX9_felt {E : En} {Q : Option Value → Hi → Prop} {H : Hi} {zx1 : Int32} {zx2 : Int32} {zx3 : Int32} 
    (hF : Cm E mX8_addFelt [rf E 11, .int zx1, .int zx2, .int zx3] H (fun w zH_1 => ∃ zr_2 : Int32, w = some (.int zr_2) ∧ (Q (some (.int zr_2)) zH_1))) :
    Cm E mX9_felt [rf E 0, .int zx1, .int zx2, .int zx3] H Q :=
  cm_of (by decide +kernel : plainName RX9 = true) (Nat.le_of_ble_eq_true rfl) rfl (sgX9_felt_0  hF)
theorem sgX9_forget_0 {E : En} {Q : Option Value → Hi → Prop} {H : Hi}  
    (hF : ∀ zx1_1 : Int32, zx1_1 = H 11 8 → (∀ zH_2 : Hi, zH_2 = up H 11 8 (0 : Int32) → (Q (some (.int zx1_1)) zH_2))) :
    Rm E mX9_forget Q 0 [some (rf E 0), none] [] H := by
  refine rn_aload_n dX9_forget_0 rfl ?_
  refine rm_getr (r := 11) flRX9_43 rfl (by decide) rfl dX9_forget_1 ?_
  refine rm_geti flRX9_212 rfl (by decide) rfl dX9_forget_4 ?_
  refine rn_istore_n dX9_forget_7 rfl (Nat.le_of_ble_eq_true rfl) (fun zx1_1 ezx1_1 => ?_)
  replace hF := hF zx1_1 ezx1_1
  show Rn _ _ _ _ _ _ _ _ [some (rf E 0), some (.int zx1_1)] _ _ _
  refine rn_aload_n dX9_forget_8 rfl ?_
  refine rm_getr (r := 11) flRX9_43 rfl (by decide) rfl dX9_forget_9 ?_
  refine rn_iconst (x := (0 : Int32)) dX9_forget_12 (by decide) ?_
  refine rm_puti flRX9_212 rfl (by decide) rfl dX9_forget_13 (fun zH_2 ezH_2 => ?_)
  replace hF := hF zH_2 ezH_2
  refine rn_iload_n dX9_forget_16 rfl ?_
  exact rm_iret rfl dX9_forget_17 hF
theorem cmX9_forget {E : En} {Q : Option Value → Hi → Prop} {H : Hi}  
    (hF : ∀ zx1_1 : Int32, zx1_1 = H 11 8 → (∀ zH_2 : Hi, zH_2 = up H 11 8 (0 : Int32) → (Q (some (.int zx1_1)) zH_2))) :
    Cm E mX9_forget [rf E 0] H Q :=
  cm_of (by decide +kernel : plainName RX9 = true) (Nat.le_of_ble_eq_true rfl) rfl (sgX9_forget_0  hF)
theorem sgX9_when_0 {E : En} {Q : Option Value → Hi → Prop} {H : Hi} {zx1 : Int32} {zx2 : Int32} 
    (hF : Cm E mX9_refresh [rf E 0] H (fun w zH_1 => w = none ∧ (Cm E mX9_isCousin [rf E 0, .int zx1] zH_1 (fun w zH_2 => ∃ zr_3 : Int32, w = some (.int zr_3) ∧ ((zr_3 = 0 → (Q (some (.int (-2 : Int32))) zH_2)) ∧ (¬ zr_3 = 0 → (Cm E mX9_isThing [rf E 0, .int zx2] zH_2 (fun w zH_5 => ∃ zr_6 : Int32, w = some (.int zr_6) ∧ ((zr_6 = 0 → (Q (some (.int (-2 : Int32))) zH_5)) ∧ (¬ zr_6 = 0 → (Cm E mX1_fittingHours [rf E 86, .int zx1, .int zx2] zH_5 (fun w zH_8 => ∃ zr_9 : Int32, w = some (.int zr_9) ∧ (Q (some (.int zr_9)) zH_8))))))))))))) :
    Rm E mX9_when Q 0 [some (rf E 0), some (.int zx1), some (.int zx2)] [] H := by
  refine rn_aload_n dX9_when_0 rfl ?_
  refine rm_callV (c0 := 0) (As := []) (st := []) mlRX9_103 mdX9_refresh (Nat.le_of_ble_eq_true rfl) rfl (by decide) (by decide) rfl rfl rfl (Nat.le_of_ble_eq_true rfl) ⟨Nat.le_refl _, Nat.le_refl _⟩ dX9_when_1 ?_
  refine cm_mono hF (fun w zH_1 hF => ?_)
  obtain ⟨rfl, hF⟩ := hF
  refine rn_aload_n dX9_when_4 rfl ?_
  refine rn_iload_n dX9_when_5 rfl ?_
  refine rm_callV (c0 := 0) (As := [.int zx1]) (st := []) mlRX9_113 mdX9_isCousin (Nat.le_of_ble_eq_true rfl) rfl (by decide) (by decide) rfl rfl rfl (Nat.le_of_ble_eq_true rfl) ⟨Nat.le_refl _, Nat.le_refl _⟩ dX9_when_6 ?_
  refine cm_mono hF (fun w zH_2 hF => ?_)
  obtain ⟨zr_3, rfl, hF⟩ := hF
  refine rn_if_eq (tgt := 32) dX9_when_9 (by decide) (fun hc_4 => ?_) (fun hc_4 => ?_)
  · replace hF := hF.1 hc_4
    refine rn_bipush (x := (-2 : Int32)) dX9_when_32 (by decide) ?_
    exact rm_iret rfl dX9_when_34 hF
  · replace hF := hF.2 hc_4
    refine rn_aload_n dX9_when_12 rfl ?_
    refine rn_iload_n dX9_when_13 rfl ?_
    refine rm_callV (c0 := 0) (As := [.int zx2]) (st := []) mlRX9_106 mdX9_isThing (Nat.le_of_ble_eq_true rfl) rfl (by decide) (by decide) rfl rfl rfl (Nat.le_of_ble_eq_true rfl) ⟨Nat.le_refl _, Nat.le_refl _⟩ dX9_when_14 ?_
    refine cm_mono hF (fun w zH_5 hF => ?_)
    obtain ⟨zr_6, rfl, hF⟩ := hF
    refine rn_if_eq (tgt := 32) dX9_when_17 (by decide) (fun hc_7 => ?_) (fun hc_7 => ?_)
    · replace hF := hF.1 hc_7
      refine rn_bipush (x := (-2 : Int32)) dX9_when_32 (by decide) ?_
      exact rm_iret rfl dX9_when_34 hF
    · replace hF := hF.2 hc_7
      refine rn_aload_n dX9_when_20 rfl ?_
      refine rm_getr (r := 86) flRX9_68 rfl (by decide) rfl dX9_when_21 ?_
      refine rn_iload_n dX9_when_24 rfl ?_
      refine rn_iload_n dX9_when_25 rfl ?_
      refine rm_callV (c0 := 86) (As := [.int zx1, .int zx2]) (st := []) mlRX9_215 mdX1_fittingHours (Nat.le_of_ble_eq_true rfl) rfl (by decide) (by decide) rfl rfl rfl (Nat.le_of_ble_eq_true rfl) ⟨Nat.le_refl _, Nat.le_refl _⟩ dX9_when_26 ?_
      refine cm_mono hF (fun w zH_8 hF => ?_)
      obtain ⟨zr_9, rfl, hF⟩ := hF
      refine rn_goto (tgt := 34) dX9_when_29 (by decide) ?_
      exact rm_iret rfl dX9_when_34 hF
theorem cmX9_when {E : En} {Q : Option Value → Hi → Prop} {H : Hi} {zx1 : Int32} {zx2 : Int32} 
    (hF : Cm E mX9_refresh [rf E 0] H (fun w zH_1 => w = none ∧ (Cm E mX9_isCousin [rf E 0, .int zx1] zH_1 (fun w zH_2 => ∃ zr_3 : Int32, w = some (.int zr_3) ∧ ((zr_3 = 0 → (Q (some (.int (-2 : Int32))) zH_2)) ∧ (¬ zr_3 = 0 → (Cm E mX9_isThing [rf E 0, .int zx2] zH_2 (fun w zH_5 => ∃ zr_6 : Int32, w = some (.int zr_6) ∧ ((zr_6 = 0 → (Q (some (.int (-2 : Int32))) zH_5)) ∧ (¬ zr_6 = 0 → (Cm E mX1_fittingHours [rf E 86, .int zx1, .int zx2] zH_5 (fun w zH_8 => ∃ zr_9 : Int32, w = some (.int zr_9) ∧ (Q (some (.int zr_9)) zH_8))))))))))))) :
    Cm E mX9_when [rf E 0, .int zx1, .int zx2] H Q :=
  cm_of (by decide +kernel : plainName RX9 = true) (Nat.le_of_ble_eq_true rfl) rfl (sgX9_when_0  hF)
theorem sgX9_thief_0 {E : En} {Q : Option Value → Hi → Prop} {H : Hi} {zx1 : Int32} 
    (hF : Cm E mX9_refresh [rf E 0] H (fun w zH_1 => w = none ∧ (Cm E mX9_isThing [rf E 0, .int zx1] zH_1 (fun w zH_2 => ∃ zr_3 : Int32, w = some (.int zr_3) ∧ ((zr_3 = 0 → (Q (some (.int (-2 : Int32))) zH_2)) ∧ (¬ zr_3 = 0 → (Cm E mX1_suspects [rf E 86, .int zx1] zH_2 (fun w zH_5 => ∃ zr_6 : Int32, w = some (.int zr_6) ∧ (Q (some (.int zr_6)) zH_5))))))))) :
    Rm E mX9_thief Q 0 [some (rf E 0), some (.int zx1)] [] H := by
  refine rn_aload_n dX9_thief_0 rfl ?_
  refine rm_callV (c0 := 0) (As := []) (st := []) mlRX9_103 mdX9_refresh (Nat.le_of_ble_eq_true rfl) rfl (by decide) (by decide) rfl rfl rfl (Nat.le_of_ble_eq_true rfl) ⟨Nat.le_refl _, Nat.le_refl _⟩ dX9_thief_1 ?_
  refine cm_mono hF (fun w zH_1 hF => ?_)
  obtain ⟨rfl, hF⟩ := hF
  refine rn_aload_n dX9_thief_4 rfl ?_
  refine rn_iload_n dX9_thief_5 rfl ?_
  refine rm_callV (c0 := 0) (As := [.int zx1]) (st := []) mlRX9_106 mdX9_isThing (Nat.le_of_ble_eq_true rfl) rfl (by decide) (by decide) rfl rfl rfl (Nat.le_of_ble_eq_true rfl) ⟨Nat.le_refl _, Nat.le_refl _⟩ dX9_thief_6 ?_
  refine cm_mono hF (fun w zH_2 hF => ?_)
  obtain ⟨zr_3, rfl, hF⟩ := hF
  refine rn_if_eq (tgt := 23) dX9_thief_9 (by decide) (fun hc_4 => ?_) (fun hc_4 => ?_)
  · replace hF := hF.1 hc_4
    refine rn_bipush (x := (-2 : Int32)) dX9_thief_23 (by decide) ?_
    exact rm_iret rfl dX9_thief_25 hF
  · replace hF := hF.2 hc_4
    refine rn_aload_n dX9_thief_12 rfl ?_
    refine rm_getr (r := 86) flRX9_68 rfl (by decide) rfl dX9_thief_13 ?_
    refine rn_iload_n dX9_thief_16 rfl ?_
    refine rm_callV (c0 := 86) (As := [.int zx1]) (st := []) mlRX9_218 mdX1_suspects (Nat.le_of_ble_eq_true rfl) rfl (by decide) (by decide) rfl rfl rfl (Nat.le_of_ble_eq_true rfl) ⟨Nat.le_refl _, Nat.le_refl _⟩ dX9_thief_17 ?_
    refine cm_mono hF (fun w zH_5 hF => ?_)
    obtain ⟨zr_6, rfl, hF⟩ := hF
    refine rn_goto (tgt := 25) dX9_thief_20 (by decide) ?_
    exact rm_iret rfl dX9_thief_25 hF
theorem cmX9_thief {E : En} {Q : Option Value → Hi → Prop} {H : Hi} {zx1 : Int32} 
    (hF : Cm E mX9_refresh [rf E 0] H (fun w zH_1 => w = none ∧ (Cm E mX9_isThing [rf E 0, .int zx1] zH_1 (fun w zH_2 => ∃ zr_3 : Int32, w = some (.int zr_3) ∧ ((zr_3 = 0 → (Q (some (.int (-2 : Int32))) zH_2)) ∧ (¬ zr_3 = 0 → (Cm E mX1_suspects [rf E 86, .int zx1] zH_2 (fun w zH_5 => ∃ zr_6 : Int32, w = some (.int zr_6) ∧ (Q (some (.int zr_6)) zH_5))))))))) :
    Cm E mX9_thief [rf E 0, .int zx1] H Q :=
  cm_of (by decide +kernel : plainName RX9 = true) (Nat.le_of_ble_eq_true rfl) rfl (sgX9_thief_0  hF)
theorem sgX9_feel_0 {E : En} {Q : Option Value → Hi → Prop} {H : Hi} {zx1 : Int32} {zx2 : Int32} 
    (hF : Cm E mX9_refresh [rf E 0] H (fun w zH_1 => w = none ∧ (Cm E mX9_isCousin [rf E 0, .int zx1] zH_1 (fun w zH_2 => ∃ zr_3 : Int32, w = some (.int zr_3) ∧ ((zr_3 = 0 → (Q (some (.int (-2 : Int32))) zH_2)) ∧ (¬ zr_3 = 0 → (Cm E mX9_isThing [rf E 0, .int zx2] zH_2 (fun w zH_5 => ∃ zr_6 : Int32, w = some (.int zr_6) ∧ ((zr_6 = 0 → (Q (some (.int (-2 : Int32))) zH_5)) ∧ (¬ zr_6 = 0 → (Cm E mX1_bestHour [rf E 86, .int zx1, .int zx2] zH_5 (fun w zH_8 => ∃ zr_9 : Int32, w = some (.int zr_9) ∧ (Q (some (.int zr_9)) zH_8))))))))))))) :
    Rm E mX9_feel Q 0 [some (rf E 0), some (.int zx1), some (.int zx2)] [] H := by
  refine rn_aload_n dX9_feel_0 rfl ?_
  refine rm_callV (c0 := 0) (As := []) (st := []) mlRX9_103 mdX9_refresh (Nat.le_of_ble_eq_true rfl) rfl (by decide) (by decide) rfl rfl rfl (Nat.le_of_ble_eq_true rfl) ⟨Nat.le_refl _, Nat.le_refl _⟩ dX9_feel_1 ?_
  refine cm_mono hF (fun w zH_1 hF => ?_)
  obtain ⟨rfl, hF⟩ := hF
  refine rn_aload_n dX9_feel_4 rfl ?_
  refine rn_iload_n dX9_feel_5 rfl ?_
  refine rm_callV (c0 := 0) (As := [.int zx1]) (st := []) mlRX9_113 mdX9_isCousin (Nat.le_of_ble_eq_true rfl) rfl (by decide) (by decide) rfl rfl rfl (Nat.le_of_ble_eq_true rfl) ⟨Nat.le_refl _, Nat.le_refl _⟩ dX9_feel_6 ?_
  refine cm_mono hF (fun w zH_2 hF => ?_)
  obtain ⟨zr_3, rfl, hF⟩ := hF
  refine rn_if_eq (tgt := 32) dX9_feel_9 (by decide) (fun hc_4 => ?_) (fun hc_4 => ?_)
  · replace hF := hF.1 hc_4
    refine rn_bipush (x := (-2 : Int32)) dX9_feel_32 (by decide) ?_
    exact rm_iret rfl dX9_feel_34 hF
  · replace hF := hF.2 hc_4
    refine rn_aload_n dX9_feel_12 rfl ?_
    refine rn_iload_n dX9_feel_13 rfl ?_
    refine rm_callV (c0 := 0) (As := [.int zx2]) (st := []) mlRX9_106 mdX9_isThing (Nat.le_of_ble_eq_true rfl) rfl (by decide) (by decide) rfl rfl rfl (Nat.le_of_ble_eq_true rfl) ⟨Nat.le_refl _, Nat.le_refl _⟩ dX9_feel_14 ?_
    refine cm_mono hF (fun w zH_5 hF => ?_)
    obtain ⟨zr_6, rfl, hF⟩ := hF
    refine rn_if_eq (tgt := 32) dX9_feel_17 (by decide) (fun hc_7 => ?_) (fun hc_7 => ?_)
    · replace hF := hF.1 hc_7
      refine rn_bipush (x := (-2 : Int32)) dX9_feel_32 (by decide) ?_
      exact rm_iret rfl dX9_feel_34 hF
    · replace hF := hF.2 hc_7
      refine rn_aload_n dX9_feel_20 rfl ?_
      refine rm_getr (r := 86) flRX9_68 rfl (by decide) rfl dX9_feel_21 ?_
      refine rn_iload_n dX9_feel_24 rfl ?_
      refine rn_iload_n dX9_feel_25 rfl ?_
      refine rm_callV (c0 := 86) (As := [.int zx1, .int zx2]) (st := []) mlRX9_221 mdX1_bestHour (Nat.le_of_ble_eq_true rfl) rfl (by decide) (by decide) rfl rfl rfl (Nat.le_of_ble_eq_true rfl) ⟨Nat.le_refl _, Nat.le_refl _⟩ dX9_feel_26 ?_
      refine cm_mono hF (fun w zH_8 hF => ?_)
      obtain ⟨zr_9, rfl, hF⟩ := hF
      refine rn_goto (tgt := 34) dX9_feel_29 (by decide) ?_
      exact rm_iret rfl dX9_feel_34 hF
theorem cmX9_feel {E : En} {Q : Option Value → Hi → Prop} {H : Hi} {zx1 : Int32} {zx2 : Int32} 
    (hF : Cm E mX9_refresh [rf E 0] H (fun w zH_1 => w = none ∧ (Cm E mX9_isCousin [rf E 0, .int zx1] zH_1 (fun w zH_2 => ∃ zr_3 : Int32, w = some (.int zr_3) ∧ ((zr_3 = 0 → (Q (some (.int (-2 : Int32))) zH_2)) ∧ (¬ zr_3 = 0 → (Cm E mX9_isThing [rf E 0, .int zx2] zH_2 (fun w zH_5 => ∃ zr_6 : Int32, w = some (.int zr_6) ∧ ((zr_6 = 0 → (Q (some (.int (-2 : Int32))) zH_5)) ∧ (¬ zr_6 = 0 → (Cm E mX1_bestHour [rf E 86, .int zx1, .int zx2] zH_5 (fun w zH_8 => ∃ zr_9 : Int32, w = some (.int zr_9) ∧ (Q (some (.int zr_9)) zH_8))))))))))))) :
    Cm E mX9_feel [rf E 0, .int zx1, .int zx2] H Q :=
  cm_of (by decide +kernel : plainName RX9 = true) (Nat.le_of_ble_eq_true rfl) rfl (sgX9_feel_0  hF)
theorem sgX9_jumps_0 {E : En} {Q : Option Value → Hi → Prop} {H : Hi} {zx1 : Int32} {zx2 : Int32} {zx3 : Int32} {zx4 : Int32} 
    (hF : Cm E mX9_refresh [rf E 0] H (fun w zH_1 => w = none ∧ ((zx1 < 0 → (Q (some (.long (-9223372036854775806 : Int64))) zH_1)) ∧ (¬ zx1 < 0 → (((16 : Int32) < zx1 → (Q (some (.long (-9223372036854775806 : Int64))) zH_1)) ∧ (¬ (16 : Int32) < zx1 → (Cm E mX9_isThing [rf E 0, .int zx2] zH_1 (fun w zH_4 => ∃ zr_5 : Int32, w = some (.int zr_5) ∧ ((zr_5 = 0 → (Q (some (.long (-9223372036854775806 : Int64))) zH_4)) ∧ (¬ zr_5 = 0 → ((zx3 < 0 → (Q (some (.long (-9223372036854775806 : Int64))) zH_4)) ∧ (¬ zx3 < 0 → (((12 : Int32) < zx3 → (Q (some (.long (-9223372036854775806 : Int64))) zH_4)) ∧ (¬ (12 : Int32) < zx3 → (Cm E mX9_isBit [.int zx4] zH_4 (fun w zH_9 => ∃ zr_10 : Int32, w = some (.int zr_10) ∧ ((¬ zr_10 = 0 → (Cm E mX2_stayChance [rf E 22, .int zx1, .int zx2, .int zx3, .int zx4] zH_9 (fun w zH_12 => ∃ zr_13 : Int64, w = some (.long zr_13) ∧ (Q (some (.long zr_13)) zH_12)))) ∧ (zr_10 = 0 → (Q (some (.long (-9223372036854775806 : Int64))) zH_9))))))))))))))))))) :
    Rm E mX9_jumps Q 0 [some (rf E 0), some (.int zx1), some (.int zx2), some (.int zx3), some (.int zx4)] [] H := by
  refine rn_aload_n dX9_jumps_0 rfl ?_
  refine rm_callV (c0 := 0) (As := []) (st := []) mlRX9_103 mdX9_refresh (Nat.le_of_ble_eq_true rfl) rfl (by decide) (by decide) rfl rfl rfl (Nat.le_of_ble_eq_true rfl) ⟨Nat.le_refl _, Nat.le_refl _⟩ dX9_jumps_1 ?_
  refine cm_mono hF (fun w zH_1 hF => ?_)
  obtain ⟨rfl, hF⟩ := hF
  refine rn_iload_n dX9_jumps_4 rfl ?_
  refine rn_if_lt (tgt := 40) dX9_jumps_5 (by decide) (fun hc_2 => ?_) (fun hc_2 => ?_)
  · replace hF := hF.1 hc_2
    refine rn_ldc2 coRX9_224 dX9_jumps_40 ?_
    exact rm_lret rfl dX9_jumps_43 hF
  · replace hF := hF.2 hc_2
    refine rn_iload_n dX9_jumps_8 rfl ?_
    refine rn_bipush (x := (16 : Int32)) dX9_jumps_9 (by decide) ?_
    refine rn_icmp_gt (tgt := 40) dX9_jumps_11 (by decide) (fun hc_3 => ?_) (fun hc_3 => ?_)
    · replace hF := hF.1 hc_3
      refine rn_ldc2 coRX9_224 dX9_jumps_40 ?_
      exact rm_lret rfl dX9_jumps_43 hF
    · replace hF := hF.2 hc_3
      refine rn_aload_n dX9_jumps_14 rfl ?_
      refine rn_iload_n dX9_jumps_15 rfl ?_
      refine rm_callV (c0 := 0) (As := [.int zx2]) (st := []) mlRX9_106 mdX9_isThing (Nat.le_of_ble_eq_true rfl) rfl (by decide) (by decide) rfl rfl rfl (Nat.le_of_ble_eq_true rfl) ⟨Nat.le_refl _, Nat.le_refl _⟩ dX9_jumps_16 ?_
      refine cm_mono hF (fun w zH_4 hF => ?_)
      obtain ⟨zr_5, rfl, hF⟩ := hF
      refine rn_if_eq (tgt := 40) dX9_jumps_19 (by decide) (fun hc_6 => ?_) (fun hc_6 => ?_)
      · replace hF := hF.1 hc_6
        refine rn_ldc2 coRX9_224 dX9_jumps_40 ?_
        exact rm_lret rfl dX9_jumps_43 hF
      · replace hF := hF.2 hc_6
        refine rn_iload_n dX9_jumps_22 rfl ?_
        refine rn_if_lt (tgt := 40) dX9_jumps_23 (by decide) (fun hc_7 => ?_) (fun hc_7 => ?_)
        · replace hF := hF.1 hc_7
          refine rn_ldc2 coRX9_224 dX9_jumps_40 ?_
          exact rm_lret rfl dX9_jumps_43 hF
        · replace hF := hF.2 hc_7
          refine rn_iload_n dX9_jumps_26 rfl ?_
          refine rn_bipush (x := (12 : Int32)) dX9_jumps_27 (by decide) ?_
          refine rn_icmp_gt (tgt := 40) dX9_jumps_29 (by decide) (fun hc_8 => ?_) (fun hc_8 => ?_)
          · replace hF := hF.1 hc_8
            refine rn_ldc2 coRX9_224 dX9_jumps_40 ?_
            exact rm_lret rfl dX9_jumps_43 hF
          · replace hF := hF.2 hc_8
            refine rn_iload dX9_jumps_32 rfl ?_
            refine rm_callS (As := [.int zx4]) (st := []) mlRX9_116 mdX9_isBit (Nat.le_of_ble_eq_true rfl) rfl rfl (Nat.le_of_ble_eq_true rfl) ⟨Nat.le_refl _, Nat.le_refl _⟩ dX9_jumps_34 ?_
            refine cm_mono hF (fun w zH_9 hF => ?_)
            obtain ⟨zr_10, rfl, hF⟩ := hF
            refine rn_if_ne (tgt := 44) dX9_jumps_37 (by decide) (fun hc_11 => ?_) (fun hc_11 => ?_)
            · replace hF := hF.1 hc_11
              refine rn_aload_n dX9_jumps_44 rfl ?_
              refine rm_getr (r := 22) flRX9_52 rfl (by decide) rfl dX9_jumps_45 ?_
              refine rn_iload_n dX9_jumps_48 rfl ?_
              refine rn_iload_n dX9_jumps_49 rfl ?_
              refine rn_iload_n dX9_jumps_50 rfl ?_
              refine rn_iload dX9_jumps_51 rfl ?_
              refine rm_callV (c0 := 22) (As := [.int zx1, .int zx2, .int zx3, .int zx4]) (st := []) mlRX9_226 mdX2_stayChance (Nat.le_of_ble_eq_true rfl) rfl (by decide) (by decide) rfl rfl rfl (Nat.le_of_ble_eq_true rfl) ⟨Nat.le_refl _, Nat.le_refl _⟩ dX9_jumps_53 ?_
              refine cm_mono hF (fun w zH_12 hF => ?_)
              obtain ⟨zr_13, rfl, hF⟩ := hF
              exact rm_lret rfl dX9_jumps_56 hF
            · replace hF := hF.2 hc_11
              refine rn_ldc2 coRX9_224 dX9_jumps_40 ?_
              exact rm_lret rfl dX9_jumps_43 hF
theorem cmX9_jumps {E : En} {Q : Option Value → Hi → Prop} {H : Hi} {zx1 : Int32} {zx2 : Int32} {zx3 : Int32} {zx4 : Int32} 
    (hF : Cm E mX9_refresh [rf E 0] H (fun w zH_1 => w = none ∧ ((zx1 < 0 → (Q (some (.long (-9223372036854775806 : Int64))) zH_1)) ∧ (¬ zx1 < 0 → (((16 : Int32) < zx1 → (Q (some (.long (-9223372036854775806 : Int64))) zH_1)) ∧ (¬ (16 : Int32) < zx1 → (Cm E mX9_isThing [rf E 0, .int zx2] zH_1 (fun w zH_4 => ∃ zr_5 : Int32, w = some (.int zr_5) ∧ ((zr_5 = 0 → (Q (some (.long (-9223372036854775806 : Int64))) zH_4)) ∧ (¬ zr_5 = 0 → ((zx3 < 0 → (Q (some (.long (-9223372036854775806 : Int64))) zH_4)) ∧ (¬ zx3 < 0 → (((12 : Int32) < zx3 → (Q (some (.long (-9223372036854775806 : Int64))) zH_4)) ∧ (¬ (12 : Int32) < zx3 → (Cm E mX9_isBit [.int zx4] zH_4 (fun w zH_9 => ∃ zr_10 : Int32, w = some (.int zr_10) ∧ ((¬ zr_10 = 0 → (Cm E mX2_stayChance [rf E 22, .int zx1, .int zx2, .int zx3, .int zx4] zH_9 (fun w zH_12 => ∃ zr_13 : Int64, w = some (.long zr_13) ∧ (Q (some (.long zr_13)) zH_12)))) ∧ (zr_10 = 0 → (Q (some (.long (-9223372036854775806 : Int64))) zH_9))))))))))))))))))) :
    Cm E mX9_jumps [rf E 0, .int zx1, .int zx2, .int zx3, .int zx4] H Q :=
  cm_of (by decide +kernel : plainName RX9 = true) (Nat.le_of_ble_eq_true rfl) rfl (sgX9_jumps_0  hF)
theorem sgX9_day_0 {E : En} {Q : Option Value → Hi → Prop} {H : Hi} {zx1 : Int32} {zx2 : Int32} {zx3 : Int32} 
    (hF : Cm E mX9_refresh [rf E 0] H (fun w zH_1 => w = none ∧ (Cm E mX9_isHour [.int zx2] zH_1 (fun w zH_2 => ∃ zr_3 : Int32, w = some (.int zr_3) ∧ ((zr_3 = 0 → (Q (some (.int (-2 : Int32))) zH_2)) ∧ (¬ zr_3 = 0 → ((zx3 = (-1 : Int32) → (Cm E mX2_dayBySeed [rf E 22, .int zx1, .int zx2, .int zx3] zH_2 (fun w zH_6 => ∃ zr_7 : Int32, w = some (.int zr_7) ∧ (Q (some (.int zr_7)) zH_6)))) ∧ (¬ zx3 = (-1 : Int32) → (Cm E mX9_isThing [rf E 0, .int zx3] zH_2 (fun w zH_8 => ∃ zr_9 : Int32, w = some (.int zr_9) ∧ ((¬ zr_9 = 0 → (Cm E mX2_dayBySeed [rf E 22, .int zx1, .int zx2, .int zx3] zH_8 (fun w zH_11 => ∃ zr_12 : Int32, w = some (.int zr_12) ∧ (Q (some (.int zr_12)) zH_11)))) ∧ (zr_9 = 0 → (Q (some (.int (-2 : Int32))) zH_8))))))))))))) :
    Rm E mX9_day Q 0 [some (rf E 0), some (.int zx1), some (.int zx2), some (.int zx3)] [] H := by
  refine rn_aload_n dX9_day_0 rfl ?_
  refine rm_callV (c0 := 0) (As := []) (st := []) mlRX9_103 mdX9_refresh (Nat.le_of_ble_eq_true rfl) rfl (by decide) (by decide) rfl rfl rfl (Nat.le_of_ble_eq_true rfl) ⟨Nat.le_refl _, Nat.le_refl _⟩ dX9_day_1 ?_
  refine cm_mono hF (fun w zH_1 hF => ?_)
  obtain ⟨rfl, hF⟩ := hF
  refine rn_iload_n dX9_day_4 rfl ?_
  refine rm_callS (As := [.int zx2]) (st := []) mlRX9_153 mdX9_isHour (Nat.le_of_ble_eq_true rfl) rfl rfl (Nat.le_of_ble_eq_true rfl) ⟨Nat.le_refl _, Nat.le_refl _⟩ dX9_day_5 ?_
  refine cm_mono hF (fun w zH_2 hF => ?_)
  obtain ⟨zr_3, rfl, hF⟩ := hF
  refine rn_if_eq (tgt := 24) dX9_day_8 (by decide) (fun hc_4 => ?_) (fun hc_4 => ?_)
  · replace hF := hF.1 hc_4
    refine rn_bipush (x := (-2 : Int32)) dX9_day_24 (by decide) ?_
    exact rm_iret rfl dX9_day_26 hF
  · replace hF := hF.2 hc_4
    refine rn_iload_n dX9_day_11 rfl ?_
    refine rn_iconst (x := (-1 : Int32)) dX9_day_12 (by decide) ?_
    refine rn_icmp_eq (tgt := 27) dX9_day_13 (by decide) (fun hc_5 => ?_) (fun hc_5 => ?_)
    · replace hF := hF.1 hc_5
      refine rn_aload_n dX9_day_27 rfl ?_
      refine rm_getr (r := 22) flRX9_52 rfl (by decide) rfl dX9_day_28 ?_
      refine rn_iload_n dX9_day_31 rfl ?_
      refine rn_iload_n dX9_day_32 rfl ?_
      refine rn_iload_n dX9_day_33 rfl ?_
      refine rm_callV (c0 := 22) (As := [.int zx1, .int zx2, .int zx3]) (st := []) mlRX9_230 mdX2_dayBySeed (Nat.le_of_ble_eq_true rfl) rfl (by decide) (by decide) rfl rfl rfl (Nat.le_of_ble_eq_true rfl) ⟨Nat.le_refl _, Nat.le_refl _⟩ dX9_day_34 ?_
      refine cm_mono hF (fun w zH_6 hF => ?_)
      obtain ⟨zr_7, rfl, hF⟩ := hF
      exact rm_iret rfl dX9_day_37 hF
    · replace hF := hF.2 hc_5
      refine rn_aload_n dX9_day_16 rfl ?_
      refine rn_iload_n dX9_day_17 rfl ?_
      refine rm_callV (c0 := 0) (As := [.int zx3]) (st := []) mlRX9_106 mdX9_isThing (Nat.le_of_ble_eq_true rfl) rfl (by decide) (by decide) rfl rfl rfl (Nat.le_of_ble_eq_true rfl) ⟨Nat.le_refl _, Nat.le_refl _⟩ dX9_day_18 ?_
      refine cm_mono hF (fun w zH_8 hF => ?_)
      obtain ⟨zr_9, rfl, hF⟩ := hF
      refine rn_if_ne (tgt := 27) dX9_day_21 (by decide) (fun hc_10 => ?_) (fun hc_10 => ?_)
      · replace hF := hF.1 hc_10
        refine rn_aload_n dX9_day_27 rfl ?_
        refine rm_getr (r := 22) flRX9_52 rfl (by decide) rfl dX9_day_28 ?_
        refine rn_iload_n dX9_day_31 rfl ?_
        refine rn_iload_n dX9_day_32 rfl ?_
        refine rn_iload_n dX9_day_33 rfl ?_
        refine rm_callV (c0 := 22) (As := [.int zx1, .int zx2, .int zx3]) (st := []) mlRX9_230 mdX2_dayBySeed (Nat.le_of_ble_eq_true rfl) rfl (by decide) (by decide) rfl rfl rfl (Nat.le_of_ble_eq_true rfl) ⟨Nat.le_refl _, Nat.le_refl _⟩ dX9_day_34 ?_
        refine cm_mono hF (fun w zH_11 hF => ?_)
        obtain ⟨zr_12, rfl, hF⟩ := hF
        exact rm_iret rfl dX9_day_37 hF
      · replace hF := hF.2 hc_10
        refine rn_bipush (x := (-2 : Int32)) dX9_day_24 (by decide) ?_
        exact rm_iret rfl dX9_day_26 hF
theorem cmX9_day {E : En} {Q : Option Value → Hi → Prop} {H : Hi} {zx1 : Int32} {zx2 : Int32} {zx3 : Int32} 
    (hF : Cm E mX9_refresh [rf E 0] H (fun w zH_1 => w = none ∧ (Cm E mX9_isHour [.int zx2] zH_1 (fun w zH_2 => ∃ zr_3 : Int32, w = some (.int zr_3) ∧ ((zr_3 = 0 → (Q (some (.int (-2 : Int32))) zH_2)) ∧ (¬ zr_3 = 0 → ((zx3 = (-1 : Int32) → (Cm E mX2_dayBySeed [rf E 22, .int zx1, .int zx2, .int zx3] zH_2 (fun w zH_6 => ∃ zr_7 : Int32, w = some (.int zr_7) ∧ (Q (some (.int zr_7)) zH_6)))) ∧ (¬ zx3 = (-1 : Int32) → (Cm E mX9_isThing [rf E 0, .int zx3] zH_2 (fun w zH_8 => ∃ zr_9 : Int32, w = some (.int zr_9) ∧ ((¬ zr_9 = 0 → (Cm E mX2_dayBySeed [rf E 22, .int zx1, .int zx2, .int zx3] zH_8 (fun w zH_11 => ∃ zr_12 : Int32, w = some (.int zr_12) ∧ (Q (some (.int zr_12)) zH_11)))) ∧ (zr_9 = 0 → (Q (some (.int (-2 : Int32))) zH_8))))))))))))) :
    Cm E mX9_day [rf E 0, .int zx1, .int zx2, .int zx3] H Q :=
  cm_of (by decide +kernel : plainName RX9 = true) (Nat.le_of_ble_eq_true rfl) rfl (sgX9_day_0  hF)
theorem sgX9_sheet_0 {E : En} {Q : Option Value → Hi → Prop} {H : Hi} {zx1 : Int32} {zx2 : Int32} {zx3 : Int32} 
    (hF : Cm E mX9_isSheet [.int zx1] H (fun w zH_1 => ∃ zr_2 : Int32, w = some (.int zr_2) ∧ ((zr_2 = 0 → (Q (some (.int (-2 : Int32))) zH_1)) ∧ (¬ zr_2 = 0 → (Cm E mX9_isForm [.int zx2] zH_1 (fun w zH_4 => ∃ zr_5 : Int32, w = some (.int zr_5) ∧ ((zr_5 = 0 → (Q (some (.int (-2 : Int32))) zH_4)) ∧ (¬ zr_5 = 0 → ((zx3 ≤ (60 : Int32) → ((0 ≤ zx3 → (∃ zj_9 : Nat, (zj_9 < 4 ∧ zx1 = nI zj_9) ∧ (∀ zH_10 : Hi, zH_10 = up zH_4 (91 + 2 * zj_9) 0 zx2 → (∀ zH_11 : Hi, zH_11 = up zH_10 (91 + 2 * zj_9) 1 zx3 → (Cm E mJ7_fill_53178 [rf E (92 + 2 * zj_9), .int (0 : Int32)] zH_11 (fun w zH_12 => w = none ∧ (Q (some (.int zx3)) zH_12))))))) ∧ (¬ 0 ≤ zx3 → (Cm E mX9_found [rf E 0, .int (5 : Int32)] zH_4 (fun w zH_13 => ∃ zr_14 : Int32, w = some (.int zr_14) ∧ (Q (some (.int zr_14)) zH_13)))))) ∧ (¬ zx3 ≤ (60 : Int32) → (Q (some (.int (-2 : Int32))) zH_4))))))))))) :
    Rm E mX9_sheet Q 0 [some (rf E 0), some (.int zx1), some (.int zx2), some (.int zx3), none] [] H := by
  refine rn_iload_n dX9_sheet_0 rfl ?_
  refine rm_callS (As := [.int zx1]) (st := []) mlRX9_142 mdX9_isSheet (Nat.le_of_ble_eq_true rfl) rfl rfl (Nat.le_of_ble_eq_true rfl) ⟨Nat.le_refl _, Nat.le_refl _⟩ dX9_sheet_1 ?_
  refine cm_mono hF (fun w zH_1 hF => ?_)
  obtain ⟨zr_2, rfl, hF⟩ := hF
  refine rn_if_eq (tgt := 20) dX9_sheet_4 (by decide) (fun hc_3 => ?_) (fun hc_3 => ?_)
  · replace hF := hF.1 hc_3
    refine rn_bipush (x := (-2 : Int32)) dX9_sheet_20 (by decide) ?_
    exact rm_iret rfl dX9_sheet_22 hF
  · replace hF := hF.2 hc_3
    refine rn_iload_n dX9_sheet_7 rfl ?_
    refine rm_callS (As := [.int zx2]) (st := []) mlRX9_233 mdX9_isForm (Nat.le_of_ble_eq_true rfl) rfl rfl (Nat.le_of_ble_eq_true rfl) ⟨Nat.le_refl _, Nat.le_refl _⟩ dX9_sheet_8 ?_
    refine cm_mono hF (fun w zH_4 hF => ?_)
    obtain ⟨zr_5, rfl, hF⟩ := hF
    refine rn_if_eq (tgt := 20) dX9_sheet_11 (by decide) (fun hc_6 => ?_) (fun hc_6 => ?_)
    · replace hF := hF.1 hc_6
      refine rn_bipush (x := (-2 : Int32)) dX9_sheet_20 (by decide) ?_
      exact rm_iret rfl dX9_sheet_22 hF
    · replace hF := hF.2 hc_6
      refine rn_iload_n dX9_sheet_14 rfl ?_
      refine rn_bipush (x := (60 : Int32)) dX9_sheet_15 (by decide) ?_
      refine rn_icmp_le (tgt := 23) dX9_sheet_17 (by decide) (fun hc_7 => ?_) (fun hc_7 => ?_)
      · replace hF := hF.1 hc_7
        refine rn_iload_n dX9_sheet_23 rfl ?_
        refine rn_if_ge (tgt := 33) dX9_sheet_24 (by decide) (fun hc_8 => ?_) (fun hc_8 => ?_)
        · replace hF := hF.1 hc_8
          refine rn_aload_n dX9_sheet_33 rfl ?_
          refine rm_getr (r := 90) flRX9_74 rfl (by decide) rfl dX9_sheet_34 ?_
          refine rn_iload_n dX9_sheet_37 rfl ?_
          obtain ⟨zj_9, hzj_9, hF⟩ := hF
          refine rj_aald (j := zj_9) (Cn := RX5) (r := (91 + 2 * zj_9)) hzj_9 (sh_she _ hzj_9.1).2.2.1 rfl (by decide) (by decide) rfl (by decide) dX9_sheet_38 ?_
          refine rn_astore dX9_sheet_39 rfl (Nat.le_of_ble_eq_true rfl) ?_
          show Rn _ _ _ _ _ _ _ _ [some (rf E 0), some (.int zx1), some (.int zx2), some (.int zx3), some (rf E (91 + 2 * zj_9))] _ _ _
          refine rn_aload dX9_sheet_41 rfl ?_
          refine rn_iload_n dX9_sheet_43 rfl ?_
          refine rm_puti flRX9_236 (sh_she _ hzj_9.1).1 (sh_she _ hzj_9.1).2.1 (sh_she _ hzj_9.1).2.2.2.1 dX9_sheet_44 (fun zH_10 ezH_10 => ?_)
          replace hF := hF zH_10 ezH_10
          refine rn_aload dX9_sheet_47 rfl ?_
          refine rn_iload_n dX9_sheet_49 rfl ?_
          refine rm_puti flRX9_145 (sh_she _ hzj_9.1).1 (sh_she _ hzj_9.1).2.1 (sh_she _ hzj_9.1).2.2.2.2.1 dX9_sheet_50 (fun zH_11 ezH_11 => ?_)
          replace hF := hF zH_11 ezH_11
          refine rn_aload dX9_sheet_53 rfl ?_
          refine rm_getr (r := (92 + 2 * zj_9)) flRX9_149 (sh_she _ hzj_9.1).1 (sh_she _ hzj_9.1).2.1 (sh_she _ hzj_9.1).2.2.2.2.2.1 dX9_sheet_55 ?_
          refine rn_iconst (x := (0 : Int32)) dX9_sheet_58 (by decide) ?_
          refine rm_callS (As := [rf E (92 + 2 * zj_9), .int (0 : Int32)]) (st := []) mlRX9_239 mdJ7_fill_53178 (Nat.le_of_ble_eq_true rfl) rfl rfl (Nat.le_of_ble_eq_true rfl) ⟨Nat.le_refl _, Nat.le_refl _⟩ dX9_sheet_59 ?_
          refine cm_mono hF (fun w zH_12 hF => ?_)
          obtain ⟨rfl, hF⟩ := hF
          refine rn_iload_n dX9_sheet_62 rfl ?_
          exact rm_iret rfl dX9_sheet_63 hF
        · replace hF := hF.2 hc_8
          refine rn_aload_n dX9_sheet_27 rfl ?_
          refine rn_iconst (x := (5 : Int32)) dX9_sheet_28 (by decide) ?_
          refine rm_callV (c0 := 0) (As := [.int (5 : Int32)]) (st := []) mlRX9_146 mdX9_found (Nat.le_of_ble_eq_true rfl) rfl (by decide) (by decide) rfl rfl rfl (Nat.le_of_ble_eq_true rfl) ⟨Nat.le_refl _, Nat.le_refl _⟩ dX9_sheet_29 ?_
          refine cm_mono hF (fun w zH_13 hF => ?_)
          obtain ⟨zr_14, rfl, hF⟩ := hF
          exact rm_iret rfl dX9_sheet_32 hF
      · replace hF := hF.2 hc_7
        refine rn_bipush (x := (-2 : Int32)) dX9_sheet_20 (by decide) ?_
        exact rm_iret rfl dX9_sheet_22 hF
theorem cmX9_sheet {E : En} {Q : Option Value → Hi → Prop} {H : Hi} {zx1 : Int32} {zx2 : Int32} {zx3 : Int32} 
    (hF : Cm E mX9_isSheet [.int zx1] H (fun w zH_1 => ∃ zr_2 : Int32, w = some (.int zr_2) ∧ ((zr_2 = 0 → (Q (some (.int (-2 : Int32))) zH_1)) ∧ (¬ zr_2 = 0 → (Cm E mX9_isForm [.int zx2] zH_1 (fun w zH_4 => ∃ zr_5 : Int32, w = some (.int zr_5) ∧ ((zr_5 = 0 → (Q (some (.int (-2 : Int32))) zH_4)) ∧ (¬ zr_5 = 0 → ((zx3 ≤ (60 : Int32) → ((0 ≤ zx3 → (∃ zj_9 : Nat, (zj_9 < 4 ∧ zx1 = nI zj_9) ∧ (∀ zH_10 : Hi, zH_10 = up zH_4 (91 + 2 * zj_9) 0 zx2 → (∀ zH_11 : Hi, zH_11 = up zH_10 (91 + 2 * zj_9) 1 zx3 → (Cm E mJ7_fill_53178 [rf E (92 + 2 * zj_9), .int (0 : Int32)] zH_11 (fun w zH_12 => w = none ∧ (Q (some (.int zx3)) zH_12))))))) ∧ (¬ 0 ≤ zx3 → (Cm E mX9_found [rf E 0, .int (5 : Int32)] zH_4 (fun w zH_13 => ∃ zr_14 : Int32, w = some (.int zr_14) ∧ (Q (some (.int zr_14)) zH_13)))))) ∧ (¬ zx3 ≤ (60 : Int32) → (Q (some (.int (-2 : Int32))) zH_4))))))))))) :
    Cm E mX9_sheet [rf E 0, .int zx1, .int zx2, .int zx3] H Q :=
  cm_of (by decide +kernel : plainName RX9 = true) (Nat.le_of_ble_eq_true rfl) rfl (sgX9_sheet_0  hF)
theorem sgX9_lose_0 {E : En} {Q : Option Value → Hi → Prop} {H : Hi} {zx1 : Int32} 
    (hF : Cm E mX9_isSheet [.int zx1] H (fun w zH_1 => ∃ zr_2 : Int32, w = some (.int zr_2) ∧ ((¬ zr_2 = 0 → (∃ zj_4 : Nat, (zj_4 < 4 ∧ zx1 = nI zj_4) ∧ (∀ zx2_5 : Int32, zx2_5 = zH_1 (91 + 2 * zj_4) 1 → ((0 ≤ zx2_5 → (∃ zj_7 : Nat, (zj_7 < 4 ∧ zx1 = nI zj_7) ∧ (∀ zH_8 : Hi, zH_8 = up zH_1 (91 + 2 * zj_7) 1 (-1 : Int32) → (Q (some (.int zx2_5)) zH_8)))) ∧ (¬ 0 ≤ zx2_5 → (Cm E mX9_found [rf E 0, .int (1 : Int32)] zH_1 (fun w zH_9 => ∃ zr_10 : Int32, w = some (.int zr_10) ∧ (Q (some (.int zr_10)) zH_9)))))))) ∧ (zr_2 = 0 → (Q (some (.int (-2 : Int32))) zH_1))))) :
    Rm E mX9_lose Q 0 [some (rf E 0), some (.int zx1), none] [] H := by
  refine rn_iload_n dX9_lose_0 rfl ?_
  refine rm_callS (As := [.int zx1]) (st := []) mlRX9_142 mdX9_isSheet (Nat.le_of_ble_eq_true rfl) rfl rfl (Nat.le_of_ble_eq_true rfl) ⟨Nat.le_refl _, Nat.le_refl _⟩ dX9_lose_1 ?_
  refine cm_mono hF (fun w zH_1 hF => ?_)
  obtain ⟨zr_2, rfl, hF⟩ := hF
  refine rn_if_ne (tgt := 10) dX9_lose_4 (by decide) (fun hc_3 => ?_) (fun hc_3 => ?_)
  · replace hF := hF.1 hc_3
    refine rn_aload_n dX9_lose_10 rfl ?_
    refine rm_getr (r := 90) flRX9_74 rfl (by decide) rfl dX9_lose_11 ?_
    refine rn_iload_n dX9_lose_14 rfl ?_
    obtain ⟨zj_4, hzj_4, hF⟩ := hF
    refine rj_aald (j := zj_4) (Cn := RX5) (r := (91 + 2 * zj_4)) hzj_4 (sh_she _ hzj_4.1).2.2.1 rfl (by decide) (by decide) rfl (by decide) dX9_lose_15 ?_
    refine rm_geti flRX9_145 (sh_she _ hzj_4.1).1 (sh_she _ hzj_4.1).2.1 (sh_she _ hzj_4.1).2.2.2.2.1 dX9_lose_16 ?_
    refine rn_istore_n dX9_lose_19 rfl (Nat.le_of_ble_eq_true rfl) (fun zx2_5 ezx2_5 => ?_)
    replace hF := hF zx2_5 ezx2_5
    show Rn _ _ _ _ _ _ _ _ [some (rf E 0), some (.int zx1), some (.int zx2_5)] _ _ _
    refine rn_iload_n dX9_lose_20 rfl ?_
    refine rn_if_ge (tgt := 30) dX9_lose_21 (by decide) (fun hc_6 => ?_) (fun hc_6 => ?_)
    · replace hF := hF.1 hc_6
      refine rn_aload_n dX9_lose_30 rfl ?_
      refine rm_getr (r := 90) flRX9_74 rfl (by decide) rfl dX9_lose_31 ?_
      refine rn_iload_n dX9_lose_34 rfl ?_
      obtain ⟨zj_7, hzj_7, hF⟩ := hF
      refine rj_aald (j := zj_7) (Cn := RX5) (r := (91 + 2 * zj_7)) hzj_7 (sh_she _ hzj_7.1).2.2.1 rfl (by decide) (by decide) rfl (by decide) dX9_lose_35 ?_
      refine rn_iconst (x := (-1 : Int32)) dX9_lose_36 (by decide) ?_
      refine rm_puti flRX9_145 (sh_she _ hzj_7.1).1 (sh_she _ hzj_7.1).2.1 (sh_she _ hzj_7.1).2.2.2.2.1 dX9_lose_37 (fun zH_8 ezH_8 => ?_)
      replace hF := hF zH_8 ezH_8
      refine rn_iload_n dX9_lose_40 rfl ?_
      exact rm_iret rfl dX9_lose_41 hF
    · replace hF := hF.2 hc_6
      refine rn_aload_n dX9_lose_24 rfl ?_
      refine rn_iconst (x := (1 : Int32)) dX9_lose_25 (by decide) ?_
      refine rm_callV (c0 := 0) (As := [.int (1 : Int32)]) (st := []) mlRX9_146 mdX9_found (Nat.le_of_ble_eq_true rfl) rfl (by decide) (by decide) rfl rfl rfl (Nat.le_of_ble_eq_true rfl) ⟨Nat.le_refl _, Nat.le_refl _⟩ dX9_lose_26 ?_
      refine cm_mono hF (fun w zH_9 hF => ?_)
      obtain ⟨zr_10, rfl, hF⟩ := hF
      exact rm_iret rfl dX9_lose_29 hF
  · replace hF := hF.2 hc_3
    refine rn_bipush (x := (-2 : Int32)) dX9_lose_7 (by decide) ?_
    exact rm_iret rfl dX9_lose_9 hF
theorem cmX9_lose {E : En} {Q : Option Value → Hi → Prop} {H : Hi} {zx1 : Int32} 
    (hF : Cm E mX9_isSheet [.int zx1] H (fun w zH_1 => ∃ zr_2 : Int32, w = some (.int zr_2) ∧ ((¬ zr_2 = 0 → (∃ zj_4 : Nat, (zj_4 < 4 ∧ zx1 = nI zj_4) ∧ (∀ zx2_5 : Int32, zx2_5 = zH_1 (91 + 2 * zj_4) 1 → ((0 ≤ zx2_5 → (∃ zj_7 : Nat, (zj_7 < 4 ∧ zx1 = nI zj_7) ∧ (∀ zH_8 : Hi, zH_8 = up zH_1 (91 + 2 * zj_7) 1 (-1 : Int32) → (Q (some (.int zx2_5)) zH_8)))) ∧ (¬ 0 ≤ zx2_5 → (Cm E mX9_found [rf E 0, .int (1 : Int32)] zH_1 (fun w zH_9 => ∃ zr_10 : Int32, w = some (.int zr_10) ∧ (Q (some (.int zr_10)) zH_9)))))))) ∧ (zr_2 = 0 → (Q (some (.int (-2 : Int32))) zH_1))))) :
    Cm E mX9_lose [rf E 0, .int zx1] H Q :=
  cm_of (by decide +kernel : plainName RX9 = true) (Nat.le_of_ble_eq_true rfl) rfl (sgX9_lose_0  hF)
theorem sgX9_put_0 {E : En} {Q : Option Value → Hi → Prop} {H : Hi} {zx1 : Int32} {zx2 : Int32} {zx3 : Int32} {zx4 : Int32} 
    (hF : Cm E mX9_isSheet [.int zx1] H (fun w zH_1 => ∃ zr_2 : Int32, w = some (.int zr_2) ∧ ((zr_2 = 0 → (Q (some (.int (-2 : Int32))) zH_1)) ∧ (¬ zr_2 = 0 → (Cm E mX9_isForm [.int zx2] zH_1 (fun w zH_4 => ∃ zr_5 : Int32, w = some (.int zr_5) ∧ ((¬ zr_5 = 0 → (∃ zj_7 : Nat, (zj_7 < 4 ∧ zx1 = nI zj_7) ∧ (Cm E mX5_refusal [rf E (91 + 2 * zj_7), .int zx2, .int zx3] zH_4 (fun w zH_8 => ∃ zr_9 : Int32, w = some (.int zr_9) ∧ ((zr_9 = 0 → (Cm E mX5_set [rf E (91 + 2 * zj_7), .int zx3, .int zx4] zH_8 (fun w zH_12 => w = none ∧ (Q (some (.int (1 : Int32))) zH_12)))) ∧ (¬ zr_9 = 0 → (Cm E mX9_found [rf E 0, .int zr_9] zH_8 (fun w zH_13 => ∃ zr_14 : Int32, w = some (.int zr_14) ∧ (Q (some (.int zr_14)) zH_13))))))))) ∧ (zr_5 = 0 → (Q (some (.int (-2 : Int32))) zH_4))))))))) :
    Rm E mX9_put Q 0 [some (rf E 0), some (.int zx1), some (.int zx2), some (.int zx3), some (.int zx4), none, none] [] H := by
  refine rn_iload_n dX9_put_0 rfl ?_
  refine rm_callS (As := [.int zx1]) (st := []) mlRX9_142 mdX9_isSheet (Nat.le_of_ble_eq_true rfl) rfl rfl (Nat.le_of_ble_eq_true rfl) ⟨Nat.le_refl _, Nat.le_refl _⟩ dX9_put_1 ?_
  refine cm_mono hF (fun w zH_1 hF => ?_)
  obtain ⟨zr_2, rfl, hF⟩ := hF
  refine rn_if_eq (tgt := 14) dX9_put_4 (by decide) (fun hc_3 => ?_) (fun hc_3 => ?_)
  · replace hF := hF.1 hc_3
    refine rn_bipush (x := (-2 : Int32)) dX9_put_14 (by decide) ?_
    exact rm_iret rfl dX9_put_16 hF
  · replace hF := hF.2 hc_3
    refine rn_iload_n dX9_put_7 rfl ?_
    refine rm_callS (As := [.int zx2]) (st := []) mlRX9_233 mdX9_isForm (Nat.le_of_ble_eq_true rfl) rfl rfl (Nat.le_of_ble_eq_true rfl) ⟨Nat.le_refl _, Nat.le_refl _⟩ dX9_put_8 ?_
    refine cm_mono hF (fun w zH_4 hF => ?_)
    obtain ⟨zr_5, rfl, hF⟩ := hF
    refine rn_if_ne (tgt := 17) dX9_put_11 (by decide) (fun hc_6 => ?_) (fun hc_6 => ?_)
    · replace hF := hF.1 hc_6
      refine rn_aload_n dX9_put_17 rfl ?_
      refine rm_getr (r := 90) flRX9_74 rfl (by decide) rfl dX9_put_18 ?_
      refine rn_iload_n dX9_put_21 rfl ?_
      obtain ⟨zj_7, hzj_7, hF⟩ := hF
      refine rj_aald (j := zj_7) (Cn := RX5) (r := (91 + 2 * zj_7)) hzj_7 (sh_she _ hzj_7.1).2.2.1 rfl (by decide) (by decide) rfl (by decide) dX9_put_22 ?_
      refine rn_astore dX9_put_23 rfl (Nat.le_of_ble_eq_true rfl) ?_
      show Rn _ _ _ _ _ _ _ _ [some (rf E 0), some (.int zx1), some (.int zx2), some (.int zx3), some (.int zx4), some (rf E (91 + 2 * zj_7)), none] _ _ _
      refine rn_aload dX9_put_25 rfl ?_
      refine rn_iload_n dX9_put_27 rfl ?_
      refine rn_iload_n dX9_put_28 rfl ?_
      refine rm_callV (c0 := (91 + 2 * zj_7)) (As := [.int zx2, .int zx3]) (st := []) mlRX9_245 mdX5_refusal (Nat.le_of_ble_eq_true rfl) (sh_she _ hzj_7.1).1 (sh_she _ hzj_7.1).2.1 (by decide) rfl rfl rfl (Nat.le_of_ble_eq_true rfl) ⟨Nat.le_refl _, Nat.le_refl _⟩ dX9_put_29 ?_
      refine cm_mono hF (fun w zH_8 hF => ?_)
      obtain ⟨zr_9, rfl, hF⟩ := hF
      refine ra_istore dX9_put_32 rfl (Nat.le_of_ble_eq_true rfl) ?_
      show Rn _ _ _ _ _ _ _ _ [some (rf E 0), some (.int zx1), some (.int zx2), some (.int zx3), some (.int zx4), some (rf E (91 + 2 * zj_7)), some (.int zr_9)] _ _ _
      refine rn_iload dX9_put_34 rfl ?_
      refine rn_if_eq (tgt := 46) dX9_put_36 (by decide) (fun hc_11 => ?_) (fun hc_11 => ?_)
      · replace hF := hF.1 hc_11
        refine rn_aload dX9_put_46 rfl ?_
        refine rn_iload_n dX9_put_48 rfl ?_
        refine rn_iload dX9_put_49 rfl ?_
        refine rm_callV (c0 := (91 + 2 * zj_7)) (As := [.int zx3, .int zx4]) (st := []) mlRX9_248 mdX5_set (Nat.le_of_ble_eq_true rfl) (sh_she _ hzj_7.1).1 (sh_she _ hzj_7.1).2.1 (by decide) rfl rfl rfl (Nat.le_of_ble_eq_true rfl) ⟨Nat.le_refl _, Nat.le_refl _⟩ dX9_put_51 ?_
        refine cm_mono hF (fun w zH_12 hF => ?_)
        obtain ⟨rfl, hF⟩ := hF
        refine rn_iconst (x := (1 : Int32)) dX9_put_54 (by decide) ?_
        exact rm_iret rfl dX9_put_55 hF
      · replace hF := hF.2 hc_11
        refine rn_aload_n dX9_put_39 rfl ?_
        refine rn_iload dX9_put_40 rfl ?_
        refine rm_callV (c0 := 0) (As := [.int zr_9]) (st := []) mlRX9_146 mdX9_found (Nat.le_of_ble_eq_true rfl) rfl (by decide) (by decide) rfl rfl rfl (Nat.le_of_ble_eq_true rfl) ⟨Nat.le_refl _, Nat.le_refl _⟩ dX9_put_42 ?_
        refine cm_mono hF (fun w zH_13 hF => ?_)
        obtain ⟨zr_14, rfl, hF⟩ := hF
        exact rm_iret rfl dX9_put_45 hF
    · replace hF := hF.2 hc_6
      refine rn_bipush (x := (-2 : Int32)) dX9_put_14 (by decide) ?_
      exact rm_iret rfl dX9_put_16 hF
theorem cmX9_put {E : En} {Q : Option Value → Hi → Prop} {H : Hi} {zx1 : Int32} {zx2 : Int32} {zx3 : Int32} {zx4 : Int32} 
    (hF : Cm E mX9_isSheet [.int zx1] H (fun w zH_1 => ∃ zr_2 : Int32, w = some (.int zr_2) ∧ ((zr_2 = 0 → (Q (some (.int (-2 : Int32))) zH_1)) ∧ (¬ zr_2 = 0 → (Cm E mX9_isForm [.int zx2] zH_1 (fun w zH_4 => ∃ zr_5 : Int32, w = some (.int zr_5) ∧ ((¬ zr_5 = 0 → (∃ zj_7 : Nat, (zj_7 < 4 ∧ zx1 = nI zj_7) ∧ (Cm E mX5_refusal [rf E (91 + 2 * zj_7), .int zx2, .int zx3] zH_4 (fun w zH_8 => ∃ zr_9 : Int32, w = some (.int zr_9) ∧ ((zr_9 = 0 → (Cm E mX5_set [rf E (91 + 2 * zj_7), .int zx3, .int zx4] zH_8 (fun w zH_12 => w = none ∧ (Q (some (.int (1 : Int32))) zH_12)))) ∧ (¬ zr_9 = 0 → (Cm E mX9_found [rf E 0, .int zr_9] zH_8 (fun w zH_13 => ∃ zr_14 : Int32, w = some (.int zr_14) ∧ (Q (some (.int zr_14)) zH_13))))))))) ∧ (zr_5 = 0 → (Q (some (.int (-2 : Int32))) zH_4))))))))) :
    Cm E mX9_put [rf E 0, .int zx1, .int zx2, .int zx3, .int zx4] H Q :=
  cm_of (by decide +kernel : plainName RX9 = true) (Nat.le_of_ble_eq_true rfl) rfl (sgX9_put_0  hF)
theorem sgX9_get_0 {E : En} {Q : Option Value → Hi → Prop} {H : Hi} {zx1 : Int32} {zx2 : Int32} {zx3 : Int32} 
    (hF : Cm E mX9_isSheet [.int zx1] H (fun w zH_1 => ∃ zr_2 : Int32, w = some (.int zr_2) ∧ ((zr_2 = 0 → (Q (some (.int (-2147483648 : Int32))) zH_1)) ∧ (¬ zr_2 = 0 → (Cm E mX9_isForm [.int zx2] zH_1 (fun w zH_4 => ∃ zr_5 : Int32, w = some (.int zr_5) ∧ ((¬ zr_5 = 0 → (∃ zj_7 : Nat, (zj_7 < 4 ∧ zx1 = nI zj_7) ∧ (Cm E mX5_refusal [rf E (91 + 2 * zj_7), .int zx2, .int zx3] zH_4 (fun w zH_8 => ∃ zr_9 : Int32, w = some (.int zr_9) ∧ ((zr_9 = 0 → (∃ zj_12 : Nat, (zj_12 < 60 ∧ zx3 = nI zj_12) ∧ (Q (some (.int (zH_8 (92 + 2 * zj_7) zj_12))) zH_8))) ∧ (¬ zr_9 = 0 → (∀ zH_13 : Hi, zH_13 = up zH_8 0 8 zr_9 → (Q (some (.int (-2147483648 : Int32))) zH_13)))))))) ∧ (zr_5 = 0 → (Q (some (.int (-2147483648 : Int32))) zH_4))))))))) :
    Rm E mX9_get Q 0 [some (rf E 0), some (.int zx1), some (.int zx2), some (.int zx3), none, none] [] H := by
  refine rn_iload_n dX9_get_0 rfl ?_
  refine rm_callS (As := [.int zx1]) (st := []) mlRX9_142 mdX9_isSheet (Nat.le_of_ble_eq_true rfl) rfl rfl (Nat.le_of_ble_eq_true rfl) ⟨Nat.le_refl _, Nat.le_refl _⟩ dX9_get_1 ?_
  refine cm_mono hF (fun w zH_1 hF => ?_)
  obtain ⟨zr_2, rfl, hF⟩ := hF
  refine rn_if_eq (tgt := 14) dX9_get_4 (by decide) (fun hc_3 => ?_) (fun hc_3 => ?_)
  · replace hF := hF.1 hc_3
    refine rn_ldc coRX9_252 dX9_get_14 ?_
    exact rm_iret rfl dX9_get_16 hF
  · replace hF := hF.2 hc_3
    refine rn_iload_n dX9_get_7 rfl ?_
    refine rm_callS (As := [.int zx2]) (st := []) mlRX9_233 mdX9_isForm (Nat.le_of_ble_eq_true rfl) rfl rfl (Nat.le_of_ble_eq_true rfl) ⟨Nat.le_refl _, Nat.le_refl _⟩ dX9_get_8 ?_
    refine cm_mono hF (fun w zH_4 hF => ?_)
    obtain ⟨zr_5, rfl, hF⟩ := hF
    refine rn_if_ne (tgt := 17) dX9_get_11 (by decide) (fun hc_6 => ?_) (fun hc_6 => ?_)
    · replace hF := hF.1 hc_6
      refine rn_aload_n dX9_get_17 rfl ?_
      refine rm_getr (r := 90) flRX9_74 rfl (by decide) rfl dX9_get_18 ?_
      refine rn_iload_n dX9_get_21 rfl ?_
      obtain ⟨zj_7, hzj_7, hF⟩ := hF
      refine rj_aald (j := zj_7) (Cn := RX5) (r := (91 + 2 * zj_7)) hzj_7 (sh_she _ hzj_7.1).2.2.1 rfl (by decide) (by decide) rfl (by decide) dX9_get_22 ?_
      refine rn_astore dX9_get_23 rfl (Nat.le_of_ble_eq_true rfl) ?_
      show Rn _ _ _ _ _ _ _ _ [some (rf E 0), some (.int zx1), some (.int zx2), some (.int zx3), some (rf E (91 + 2 * zj_7)), none] _ _ _
      refine rn_aload dX9_get_25 rfl ?_
      refine rn_iload_n dX9_get_27 rfl ?_
      refine rn_iload_n dX9_get_28 rfl ?_
      refine rm_callV (c0 := (91 + 2 * zj_7)) (As := [.int zx2, .int zx3]) (st := []) mlRX9_245 mdX5_refusal (Nat.le_of_ble_eq_true rfl) (sh_she _ hzj_7.1).1 (sh_she _ hzj_7.1).2.1 (by decide) rfl rfl rfl (Nat.le_of_ble_eq_true rfl) ⟨Nat.le_refl _, Nat.le_refl _⟩ dX9_get_29 ?_
      refine cm_mono hF (fun w zH_8 hF => ?_)
      obtain ⟨zr_9, rfl, hF⟩ := hF
      refine ra_istore dX9_get_32 rfl (Nat.le_of_ble_eq_true rfl) ?_
      show Rn _ _ _ _ _ _ _ _ [some (rf E 0), some (.int zx1), some (.int zx2), some (.int zx3), some (rf E (91 + 2 * zj_7)), some (.int zr_9)] _ _ _
      refine rn_iload dX9_get_34 rfl ?_
      refine rn_if_eq (tgt := 48) dX9_get_36 (by decide) (fun hc_11 => ?_) (fun hc_11 => ?_)
      · replace hF := hF.1 hc_11
        refine rn_aload dX9_get_48 rfl ?_
        refine rm_getr (r := (92 + 2 * zj_7)) flRX9_149 (sh_she _ hzj_7.1).1 (sh_she _ hzj_7.1).2.1 (sh_she _ hzj_7.1).2.2.2.2.2.1 dX9_get_50 ?_
        refine rn_iload_n dX9_get_53 rfl ?_
        obtain ⟨zj_12, hzj_12, hF⟩ := hF
        refine rj_iald (j := zj_12) hzj_12 (sh_she _ hzj_7.1).2.2.2.2.2.2.1 (sh_she _ hzj_7.1).2.2.2.2.2.2.2.1 (sh_she _ hzj_7.1).2.2.2.2.2.2.2.2 (by decide) dX9_get_54 ?_
        exact rm_iret rfl dX9_get_55 hF
      · replace hF := hF.2 hc_11
        refine rn_aload_n dX9_get_39 rfl ?_
        refine rn_iload dX9_get_40 rfl ?_
        refine rm_puti flRX9_253 rfl (by decide) rfl dX9_get_42 (fun zH_13 ezH_13 => ?_)
        replace hF := hF zH_13 ezH_13
        refine rn_ldc coRX9_252 dX9_get_45 ?_
        exact rm_iret rfl dX9_get_47 hF
    · replace hF := hF.2 hc_6
      refine rn_ldc coRX9_252 dX9_get_14 ?_
      exact rm_iret rfl dX9_get_16 hF
theorem cmX9_get {E : En} {Q : Option Value → Hi → Prop} {H : Hi} {zx1 : Int32} {zx2 : Int32} {zx3 : Int32} 
    (hF : Cm E mX9_isSheet [.int zx1] H (fun w zH_1 => ∃ zr_2 : Int32, w = some (.int zr_2) ∧ ((zr_2 = 0 → (Q (some (.int (-2147483648 : Int32))) zH_1)) ∧ (¬ zr_2 = 0 → (Cm E mX9_isForm [.int zx2] zH_1 (fun w zH_4 => ∃ zr_5 : Int32, w = some (.int zr_5) ∧ ((¬ zr_5 = 0 → (∃ zj_7 : Nat, (zj_7 < 4 ∧ zx1 = nI zj_7) ∧ (Cm E mX5_refusal [rf E (91 + 2 * zj_7), .int zx2, .int zx3] zH_4 (fun w zH_8 => ∃ zr_9 : Int32, w = some (.int zr_9) ∧ ((zr_9 = 0 → (∃ zj_12 : Nat, (zj_12 < 60 ∧ zx3 = nI zj_12) ∧ (Q (some (.int (zH_8 (92 + 2 * zj_7) zj_12))) zH_8))) ∧ (¬ zr_9 = 0 → (∀ zH_13 : Hi, zH_13 = up zH_8 0 8 zr_9 → (Q (some (.int (-2147483648 : Int32))) zH_13)))))))) ∧ (zr_5 = 0 → (Q (some (.int (-2147483648 : Int32))) zH_4))))))))) :
    Cm E mX9_get [rf E 0, .int zx1, .int zx2, .int zx3] H Q :=
  cm_of (by decide +kernel : plainName RX9 = true) (Nat.le_of_ble_eq_true rfl) rfl (sgX9_get_0  hF)
theorem sgX9_copy_0 {E : En} {Q : Option Value → Hi → Prop} {H : Hi} {zx1 : Int32} {zx2 : Int32} {zx3 : Int32} {zx4 : Int32} {zx5 : Int32} 
    (hF : Cm E mX9_isSheet [.int zx1] H (fun w zH_1 => ∃ zr_2 : Int32, w = some (.int zr_2) ∧ ((zr_2 = 0 → (Q (some (.int (-2 : Int32))) zH_1)) ∧ (¬ zr_2 = 0 → (Cm E mX9_isSheet [.int zx3] zH_1 (fun w zH_4 => ∃ zr_5 : Int32, w = some (.int zr_5) ∧ ((¬ zr_5 = 0 → (∃ zj_7 : Nat, (zj_7 < 4 ∧ zx1 = nI zj_7) ∧ (∃ zj_8 : Nat, (zj_8 < 4 ∧ zx3 = nI zj_8) ∧ (((zH_4 (91 + 2 * zj_7) 1) < 0 → (Cm E mX9_found [rf E 0, .int (1 : Int32)] zH_4 (fun w zH_10 => ∃ zr_11 : Int32, w = some (.int zr_11) ∧ (Q (some (.int zr_11)) zH_10)))) ∧ (¬ (zH_4 (91 + 2 * zj_7) 1) < 0 → ((0 ≤ (zH_4 (91 + 2 * zj_8) 1) → (((zH_4 (91 + 2 * zj_7) 0) = (zH_4 (91 + 2 * zj_8) 0) → (Cm E mX5_holds [rf E (91 + 2 * zj_7), .int zx2, .int zx5] zH_4 (fun w zH_14 => ∃ zr_15 : Int32, w = some (.int zr_15) ∧ ((zr_15 = 0 → (Cm E mX9_found [rf E 0, .int (2 : Int32)] zH_14 (fun w zH_17 => ∃ zr_18 : Int32, w = some (.int zr_18) ∧ (Q (some (.int zr_18)) zH_17)))) ∧ (¬ zr_15 = 0 → (Cm E mX5_holds [rf E (91 + 2 * zj_8), .int zx4, .int zx5] zH_14 (fun w zH_19 => ∃ zr_20 : Int32, w = some (.int zr_20) ∧ ((¬ zr_20 = 0 → ((¬ zx2 < 0) ∧ (¬ zx4 < 0) ∧ (¬ zx5 < 0) ∧ (zx2.toNatClampNeg + zx5.toNatClampNeg ≤ 60) ∧ (zx4.toNatClampNeg + zx5.toNatClampNeg ≤ 60) ∧ (∀ zH_22 : Hi, zH_22 = setR zH_19 (92 + 2 * zj_8) (va_cpy (zH_19 (92 + 2 * zj_7)) (zH_19 (92 + 2 * zj_8)) zx2.toNatClampNeg zx4.toNatClampNeg zx5.toNatClampNeg) → (Q (some (.int (1 : Int32))) zH_22)))) ∧ (zr_20 = 0 → (Cm E mX9_found [rf E 0, .int (2 : Int32)] zH_19 (fun w zH_28 => ∃ zr_29 : Int32, w = some (.int zr_29) ∧ (Q (some (.int zr_29)) zH_28)))))))))))) ∧ (¬ (zH_4 (91 + 2 * zj_7) 0) = (zH_4 (91 + 2 * zj_8) 0) → (Cm E mX9_found [rf E 0, .int (4 : Int32)] zH_4 (fun w zH_30 => ∃ zr_31 : Int32, w = some (.int zr_31) ∧ (Q (some (.int zr_31)) zH_30)))))) ∧ (¬ 0 ≤ (zH_4 (91 + 2 * zj_8) 1) → (Cm E mX9_found [rf E 0, .int (1 : Int32)] zH_4 (fun w zH_32 => ∃ zr_33 : Int32, w = some (.int zr_33) ∧ (Q (some (.int zr_33)) zH_32)))))))))) ∧ (zr_5 = 0 → (Q (some (.int (-2 : Int32))) zH_4))))))))) :
    Rm E mX9_copy Q 0 [some (rf E 0), some (.int zx1), some (.int zx2), some (.int zx3), some (.int zx4), some (.int zx5), none, none] [] H := by
  refine rn_iload_n dX9_copy_0 rfl ?_
  refine rm_callS (As := [.int zx1]) (st := []) mlRX9_142 mdX9_isSheet (Nat.le_of_ble_eq_true rfl) rfl rfl (Nat.le_of_ble_eq_true rfl) ⟨Nat.le_refl _, Nat.le_refl _⟩ dX9_copy_1 ?_
  refine cm_mono hF (fun w zH_1 hF => ?_)
  obtain ⟨zr_2, rfl, hF⟩ := hF
  refine rn_if_eq (tgt := 14) dX9_copy_4 (by decide) (fun hc_3 => ?_) (fun hc_3 => ?_)
  · replace hF := hF.1 hc_3
    refine rn_bipush (x := (-2 : Int32)) dX9_copy_14 (by decide) ?_
    exact rm_iret rfl dX9_copy_16 hF
  · replace hF := hF.2 hc_3
    refine rn_iload_n dX9_copy_7 rfl ?_
    refine rm_callS (As := [.int zx3]) (st := []) mlRX9_142 mdX9_isSheet (Nat.le_of_ble_eq_true rfl) rfl rfl (Nat.le_of_ble_eq_true rfl) ⟨Nat.le_refl _, Nat.le_refl _⟩ dX9_copy_8 ?_
    refine cm_mono hF (fun w zH_4 hF => ?_)
    obtain ⟨zr_5, rfl, hF⟩ := hF
    refine rn_if_ne (tgt := 17) dX9_copy_11 (by decide) (fun hc_6 => ?_) (fun hc_6 => ?_)
    · replace hF := hF.1 hc_6
      refine rn_aload_n dX9_copy_17 rfl ?_
      refine rm_getr (r := 90) flRX9_74 rfl (by decide) rfl dX9_copy_18 ?_
      refine rn_iload_n dX9_copy_21 rfl ?_
      obtain ⟨zj_7, hzj_7, hF⟩ := hF
      refine rj_aald (j := zj_7) (Cn := RX5) (r := (91 + 2 * zj_7)) hzj_7 (sh_she _ hzj_7.1).2.2.1 rfl (by decide) (by decide) rfl (by decide) dX9_copy_22 ?_
      refine rn_astore dX9_copy_23 rfl (Nat.le_of_ble_eq_true rfl) ?_
      show Rn _ _ _ _ _ _ _ _ [some (rf E 0), some (.int zx1), some (.int zx2), some (.int zx3), some (.int zx4), some (.int zx5), some (rf E (91 + 2 * zj_7)), none] _ _ _
      refine rn_aload_n dX9_copy_25 rfl ?_
      refine rm_getr (r := 90) flRX9_74 rfl (by decide) rfl dX9_copy_26 ?_
      refine rn_iload_n dX9_copy_29 rfl ?_
      obtain ⟨zj_8, hzj_8, hF⟩ := hF
      refine rj_aald (j := zj_8) (Cn := RX5) (r := (91 + 2 * zj_8)) hzj_8 (sh_she _ hzj_8.1).2.2.1 rfl (by decide) (by decide) rfl (by decide) dX9_copy_30 ?_
      refine rn_astore dX9_copy_31 rfl (Nat.le_of_ble_eq_true rfl) ?_
      show Rn _ _ _ _ _ _ _ _ [some (rf E 0), some (.int zx1), some (.int zx2), some (.int zx3), some (.int zx4), some (.int zx5), some (rf E (91 + 2 * zj_7)), some (rf E (91 + 2 * zj_8))] _ _ _
      refine rn_aload dX9_copy_33 rfl ?_
      refine rm_geti flRX9_145 (sh_she _ hzj_7.1).1 (sh_she _ hzj_7.1).2.1 (sh_she _ hzj_7.1).2.2.2.2.1 dX9_copy_35 ?_
      refine rn_if_lt (tgt := 49) dX9_copy_38 (by decide) (fun hc_9 => ?_) (fun hc_9 => ?_)
      · replace hF := hF.1 hc_9
        refine rn_aload_n dX9_copy_49 rfl ?_
        refine rn_iconst (x := (1 : Int32)) dX9_copy_50 (by decide) ?_
        refine rm_callV (c0 := 0) (As := [.int (1 : Int32)]) (st := []) mlRX9_146 mdX9_found (Nat.le_of_ble_eq_true rfl) rfl (by decide) (by decide) rfl rfl rfl (Nat.le_of_ble_eq_true rfl) ⟨Nat.le_refl _, Nat.le_refl _⟩ dX9_copy_51 ?_
        refine cm_mono hF (fun w zH_10 hF => ?_)
        obtain ⟨zr_11, rfl, hF⟩ := hF
        exact rm_iret rfl dX9_copy_54 hF
      · replace hF := hF.2 hc_9
        refine rn_aload dX9_copy_41 rfl ?_
        refine rm_geti flRX9_145 (sh_she _ hzj_8.1).1 (sh_she _ hzj_8.1).2.1 (sh_she _ hzj_8.1).2.2.2.2.1 dX9_copy_43 ?_
        refine rn_if_ge (tgt := 55) dX9_copy_46 (by decide) (fun hc_12 => ?_) (fun hc_12 => ?_)
        · replace hF := hF.1 hc_12
          refine rn_aload dX9_copy_55 rfl ?_
          refine rm_geti flRX9_236 (sh_she _ hzj_7.1).1 (sh_she _ hzj_7.1).2.1 (sh_she _ hzj_7.1).2.2.2.1 dX9_copy_57 ?_
          refine rn_aload dX9_copy_60 rfl ?_
          refine rm_geti flRX9_236 (sh_she _ hzj_8.1).1 (sh_she _ hzj_8.1).2.1 (sh_she _ hzj_8.1).2.2.2.1 dX9_copy_62 ?_
          refine rn_icmp_eq (tgt := 74) dX9_copy_65 (by decide) (fun hc_13 => ?_) (fun hc_13 => ?_)
          · replace hF := hF.1 hc_13
            refine rn_aload dX9_copy_74 rfl ?_
            refine rn_iload_n dX9_copy_76 rfl ?_
            refine rn_iload dX9_copy_77 rfl ?_
            refine rm_callV (c0 := (91 + 2 * zj_7)) (As := [.int zx2, .int zx5]) (st := []) mlRX9_256 mdX5_holds (Nat.le_of_ble_eq_true rfl) (sh_she _ hzj_7.1).1 (sh_she _ hzj_7.1).2.1 (by decide) rfl rfl rfl (Nat.le_of_ble_eq_true rfl) ⟨Nat.le_refl _, Nat.le_refl _⟩ dX9_copy_79 ?_
            refine cm_mono hF (fun w zH_14 hF => ?_)
            obtain ⟨zr_15, rfl, hF⟩ := hF
            refine rn_if_eq (tgt := 97) dX9_copy_82 (by decide) (fun hc_16 => ?_) (fun hc_16 => ?_)
            · replace hF := hF.1 hc_16
              refine rn_aload_n dX9_copy_97 rfl ?_
              refine rn_iconst (x := (2 : Int32)) dX9_copy_98 (by decide) ?_
              refine rm_callV (c0 := 0) (As := [.int (2 : Int32)]) (st := []) mlRX9_146 mdX9_found (Nat.le_of_ble_eq_true rfl) rfl (by decide) (by decide) rfl rfl rfl (Nat.le_of_ble_eq_true rfl) ⟨Nat.le_refl _, Nat.le_refl _⟩ dX9_copy_99 ?_
              refine cm_mono hF (fun w zH_17 hF => ?_)
              obtain ⟨zr_18, rfl, hF⟩ := hF
              exact rm_iret rfl dX9_copy_102 hF
            · replace hF := hF.2 hc_16
              refine rn_aload dX9_copy_85 rfl ?_
              refine rn_iload dX9_copy_87 rfl ?_
              refine rn_iload dX9_copy_89 rfl ?_
              refine rm_callV (c0 := (91 + 2 * zj_8)) (As := [.int zx4, .int zx5]) (st := []) mlRX9_256 mdX5_holds (Nat.le_of_ble_eq_true rfl) (sh_she _ hzj_8.1).1 (sh_she _ hzj_8.1).2.1 (by decide) rfl rfl rfl (Nat.le_of_ble_eq_true rfl) ⟨Nat.le_refl _, Nat.le_refl _⟩ dX9_copy_91 ?_
              refine cm_mono hF (fun w zH_19 hF => ?_)
              obtain ⟨zr_20, rfl, hF⟩ := hF
              refine rn_if_ne (tgt := 103) dX9_copy_94 (by decide) (fun hc_21 => ?_) (fun hc_21 => ?_)
              · replace hF := hF.1 hc_21
                refine rn_aload dX9_copy_103 rfl ?_
                refine rm_getr (r := (92 + 2 * zj_7)) flRX9_149 (sh_she _ hzj_7.1).1 (sh_she _ hzj_7.1).2.1 (sh_she _ hzj_7.1).2.2.2.2.2.1 dX9_copy_105 ?_
                refine rn_iload_n dX9_copy_108 rfl ?_
                refine rn_aload dX9_copy_109 rfl ?_
                refine rm_getr (r := (92 + 2 * zj_8)) flRX9_149 (sh_she _ hzj_8.1).1 (sh_she _ hzj_8.1).2.1 (sh_she _ hzj_8.1).2.2.2.2.2.1 dX9_copy_111 ?_
                refine rn_iload dX9_copy_114 rfl ?_
                refine rn_iload dX9_copy_116 rfl ?_
                obtain ⟨hg_23, hg_24, hg_25, hg_26, hg_27, hF⟩ := hF
                refine rm_copy mlRX9_260 (sh_she _ hzj_7.1).2.2.2.2.2.2.1 (sh_she _ hzj_7.1).2.2.2.2.2.2.2.1 (sh_she _ hzj_7.1).2.2.2.2.2.2.2.2 (sh_she _ hzj_8.1).2.2.2.2.2.2.1 (sh_she _ hzj_8.1).2.2.2.2.2.2.2.1 (sh_she _ hzj_8.1).2.2.2.2.2.2.2.2 hg_23 hg_24 hg_25 hg_26 hg_27 (by decide) dX9_copy_118 (fun zH_22 ezH_22 => ?_)
                replace hF := hF zH_22 ezH_22
                refine rn_iconst (x := (1 : Int32)) dX9_copy_121 (by decide) ?_
                exact rm_iret rfl dX9_copy_122 hF
              · replace hF := hF.2 hc_21
                refine rn_aload_n dX9_copy_97 rfl ?_
                refine rn_iconst (x := (2 : Int32)) dX9_copy_98 (by decide) ?_
                refine rm_callV (c0 := 0) (As := [.int (2 : Int32)]) (st := []) mlRX9_146 mdX9_found (Nat.le_of_ble_eq_true rfl) rfl (by decide) (by decide) rfl rfl rfl (Nat.le_of_ble_eq_true rfl) ⟨Nat.le_refl _, Nat.le_refl _⟩ dX9_copy_99 ?_
                refine cm_mono hF (fun w zH_28 hF => ?_)
                obtain ⟨zr_29, rfl, hF⟩ := hF
                exact rm_iret rfl dX9_copy_102 hF
          · replace hF := hF.2 hc_13
            refine rn_aload_n dX9_copy_68 rfl ?_
            refine rn_iconst (x := (4 : Int32)) dX9_copy_69 (by decide) ?_
            refine rm_callV (c0 := 0) (As := [.int (4 : Int32)]) (st := []) mlRX9_146 mdX9_found (Nat.le_of_ble_eq_true rfl) rfl (by decide) (by decide) rfl rfl rfl (Nat.le_of_ble_eq_true rfl) ⟨Nat.le_refl _, Nat.le_refl _⟩ dX9_copy_70 ?_
            refine cm_mono hF (fun w zH_30 hF => ?_)
            obtain ⟨zr_31, rfl, hF⟩ := hF
            exact rm_iret rfl dX9_copy_73 hF
        · replace hF := hF.2 hc_12
          refine rn_aload_n dX9_copy_49 rfl ?_
          refine rn_iconst (x := (1 : Int32)) dX9_copy_50 (by decide) ?_
          refine rm_callV (c0 := 0) (As := [.int (1 : Int32)]) (st := []) mlRX9_146 mdX9_found (Nat.le_of_ble_eq_true rfl) rfl (by decide) (by decide) rfl rfl rfl (Nat.le_of_ble_eq_true rfl) ⟨Nat.le_refl _, Nat.le_refl _⟩ dX9_copy_51 ?_
          refine cm_mono hF (fun w zH_32 hF => ?_)
          obtain ⟨zr_33, rfl, hF⟩ := hF
          exact rm_iret rfl dX9_copy_54 hF
    · replace hF := hF.2 hc_6
      refine rn_bipush (x := (-2 : Int32)) dX9_copy_14 (by decide) ?_
      exact rm_iret rfl dX9_copy_16 hF
theorem cmX9_copy {E : En} {Q : Option Value → Hi → Prop} {H : Hi} {zx1 : Int32} {zx2 : Int32} {zx3 : Int32} {zx4 : Int32} {zx5 : Int32} 
    (hF : Cm E mX9_isSheet [.int zx1] H (fun w zH_1 => ∃ zr_2 : Int32, w = some (.int zr_2) ∧ ((zr_2 = 0 → (Q (some (.int (-2 : Int32))) zH_1)) ∧ (¬ zr_2 = 0 → (Cm E mX9_isSheet [.int zx3] zH_1 (fun w zH_4 => ∃ zr_5 : Int32, w = some (.int zr_5) ∧ ((¬ zr_5 = 0 → (∃ zj_7 : Nat, (zj_7 < 4 ∧ zx1 = nI zj_7) ∧ (∃ zj_8 : Nat, (zj_8 < 4 ∧ zx3 = nI zj_8) ∧ (((zH_4 (91 + 2 * zj_7) 1) < 0 → (Cm E mX9_found [rf E 0, .int (1 : Int32)] zH_4 (fun w zH_10 => ∃ zr_11 : Int32, w = some (.int zr_11) ∧ (Q (some (.int zr_11)) zH_10)))) ∧ (¬ (zH_4 (91 + 2 * zj_7) 1) < 0 → ((0 ≤ (zH_4 (91 + 2 * zj_8) 1) → (((zH_4 (91 + 2 * zj_7) 0) = (zH_4 (91 + 2 * zj_8) 0) → (Cm E mX5_holds [rf E (91 + 2 * zj_7), .int zx2, .int zx5] zH_4 (fun w zH_14 => ∃ zr_15 : Int32, w = some (.int zr_15) ∧ ((zr_15 = 0 → (Cm E mX9_found [rf E 0, .int (2 : Int32)] zH_14 (fun w zH_17 => ∃ zr_18 : Int32, w = some (.int zr_18) ∧ (Q (some (.int zr_18)) zH_17)))) ∧ (¬ zr_15 = 0 → (Cm E mX5_holds [rf E (91 + 2 * zj_8), .int zx4, .int zx5] zH_14 (fun w zH_19 => ∃ zr_20 : Int32, w = some (.int zr_20) ∧ ((¬ zr_20 = 0 → ((¬ zx2 < 0) ∧ (¬ zx4 < 0) ∧ (¬ zx5 < 0) ∧ (zx2.toNatClampNeg + zx5.toNatClampNeg ≤ 60) ∧ (zx4.toNatClampNeg + zx5.toNatClampNeg ≤ 60) ∧ (∀ zH_22 : Hi, zH_22 = setR zH_19 (92 + 2 * zj_8) (va_cpy (zH_19 (92 + 2 * zj_7)) (zH_19 (92 + 2 * zj_8)) zx2.toNatClampNeg zx4.toNatClampNeg zx5.toNatClampNeg) → (Q (some (.int (1 : Int32))) zH_22)))) ∧ (zr_20 = 0 → (Cm E mX9_found [rf E 0, .int (2 : Int32)] zH_19 (fun w zH_28 => ∃ zr_29 : Int32, w = some (.int zr_29) ∧ (Q (some (.int zr_29)) zH_28)))))))))))) ∧ (¬ (zH_4 (91 + 2 * zj_7) 0) = (zH_4 (91 + 2 * zj_8) 0) → (Cm E mX9_found [rf E 0, .int (4 : Int32)] zH_4 (fun w zH_30 => ∃ zr_31 : Int32, w = some (.int zr_31) ∧ (Q (some (.int zr_31)) zH_30)))))) ∧ (¬ 0 ≤ (zH_4 (91 + 2 * zj_8) 1) → (Cm E mX9_found [rf E 0, .int (1 : Int32)] zH_4 (fun w zH_32 => ∃ zr_33 : Int32, w = some (.int zr_33) ∧ (Q (some (.int zr_33)) zH_32)))))))))) ∧ (zr_5 = 0 → (Q (some (.int (-2 : Int32))) zH_4))))))))) :
    Cm E mX9_copy [rf E 0, .int zx1, .int zx2, .int zx3, .int zx4, .int zx5] H Q :=
  cm_of (by decide +kernel : plainName RX9 = true) (Nat.le_of_ble_eq_true rfl) rfl (sgX9_copy_0  hF)
theorem sgX9_write_0 {E : En} {Q : Option Value → Hi → Prop} {H : Hi} {zx1 : Int32} {zx2 : Int32} 
    (hF : Cm E mX9_isBit [.int zx1] H (fun w zH_1 => ∃ zr_2 : Int32, w = some (.int zr_2) ∧ ((zr_2 = 0 → (Q (some (.int (-2 : Int32))) zH_1)) ∧ (¬ zr_2 = 0 → (Cm E mX9_isSheet [.int zx2] zH_1 (fun w zH_4 => ∃ zr_5 : Int32, w = some (.int zr_5) ∧ ((¬ zr_5 = 0 → (∃ zj_7 : Nat, (zj_7 < 4 ∧ zx2 = nI zj_7) ∧ ((0 ≤ (zH_4 (91 + 2 * zj_7) 1) → (Cm E mX9_refresh [rf E 0] zH_4 (fun w zH_9 => w = none ∧ (∀ zx4_10 : Int32, zx4_10 = mmin (zH_9 (91 + 2 * zj_7) 1) (24 : Int32) → (Rm E mX9_write Q 55 [some (rf E 0), some (.int zx1), none, some (rf E (91 + 2 * zj_7)), some (.int zx4_10), some (.int (0 : Int32))] [] zH_9))))) ∧ (¬ 0 ≤ (zH_4 (91 + 2 * zj_7) 1) → (Cm E mX9_found [rf E 0, .int (1 : Int32)] zH_4 (fun w zH_12 => ∃ zr_13 : Int32, w = some (.int zr_13) ∧ (Q (some (.int zr_13)) zH_12))))))) ∧ (zr_5 = 0 → (Q (some (.int (-2 : Int32))) zH_4))))))))) :
    Rm E mX9_write Q 0 [some (rf E 0), some (.int zx1), some (.int zx2), none, none, none] [] H := by
  refine rn_iload_n dX9_write_0 rfl ?_
  refine rm_callS (As := [.int zx1]) (st := []) mlRX9_116 mdX9_isBit (Nat.le_of_ble_eq_true rfl) rfl rfl (Nat.le_of_ble_eq_true rfl) ⟨Nat.le_refl _, Nat.le_refl _⟩ dX9_write_1 ?_
  refine cm_mono hF (fun w zH_1 hF => ?_)
  obtain ⟨zr_2, rfl, hF⟩ := hF
  refine rn_if_eq (tgt := 14) dX9_write_4 (by decide) (fun hc_3 => ?_) (fun hc_3 => ?_)
  · replace hF := hF.1 hc_3
    refine rn_bipush (x := (-2 : Int32)) dX9_write_14 (by decide) ?_
    exact rm_iret rfl dX9_write_16 hF
  · replace hF := hF.2 hc_3
    refine rn_iload_n dX9_write_7 rfl ?_
    refine rm_callS (As := [.int zx2]) (st := []) mlRX9_142 mdX9_isSheet (Nat.le_of_ble_eq_true rfl) rfl rfl (Nat.le_of_ble_eq_true rfl) ⟨Nat.le_refl _, Nat.le_refl _⟩ dX9_write_8 ?_
    refine cm_mono hF (fun w zH_4 hF => ?_)
    obtain ⟨zr_5, rfl, hF⟩ := hF
    refine rn_if_ne (tgt := 17) dX9_write_11 (by decide) (fun hc_6 => ?_) (fun hc_6 => ?_)
    · replace hF := hF.1 hc_6
      refine rn_aload_n dX9_write_17 rfl ?_
      refine rm_getr (r := 90) flRX9_74 rfl (by decide) rfl dX9_write_18 ?_
      refine rn_iload_n dX9_write_21 rfl ?_
      obtain ⟨zj_7, hzj_7, hF⟩ := hF
      refine rj_aald (j := zj_7) (Cn := RX5) (r := (91 + 2 * zj_7)) hzj_7 (sh_she _ hzj_7.1).2.2.1 rfl (by decide) (by decide) rfl (by decide) dX9_write_22 ?_
      refine rn_astore_n dX9_write_23 rfl (Nat.le_of_ble_eq_true rfl) ?_
      show Rn _ _ _ _ _ _ _ _ [some (rf E 0), some (.int zx1), some (.int zx2), some (rf E (91 + 2 * zj_7)), none, none] _ _ _
      refine rn_aload_n dX9_write_24 rfl ?_
      refine rm_geti flRX9_145 (sh_she _ hzj_7.1).1 (sh_she _ hzj_7.1).2.1 (sh_she _ hzj_7.1).2.2.2.2.1 dX9_write_25 ?_
      refine rn_if_ge (tgt := 37) dX9_write_28 (by decide) (fun hc_8 => ?_) (fun hc_8 => ?_)
      · replace hF := hF.1 hc_8
        refine rn_aload_n dX9_write_37 rfl ?_
        refine rm_callV (c0 := 0) (As := []) (st := []) mlRX9_103 mdX9_refresh (Nat.le_of_ble_eq_true rfl) rfl (by decide) (by decide) rfl rfl rfl (Nat.le_of_ble_eq_true rfl) ⟨Nat.le_refl _, Nat.le_refl _⟩ dX9_write_38 ?_
        refine cm_mono hF (fun w zH_9 hF => ?_)
        obtain ⟨rfl, hF⟩ := hF
        refine rn_aload_n dX9_write_41 rfl ?_
        refine rm_geti flRX9_145 (sh_she _ hzj_7.1).1 (sh_she _ hzj_7.1).2.1 (sh_she _ hzj_7.1).2.2.2.2.1 dX9_write_42 ?_
        refine rn_bipush (x := (24 : Int32)) dX9_write_45 (by decide) ?_
        refine rn_mmin mlRX9_266 (Nat.le_of_ble_eq_true rfl) ⟨Nat.le_refl _, Nat.le_refl _⟩ dX9_write_47 ?_
        refine rn_istore dX9_write_50 rfl (Nat.le_of_ble_eq_true rfl) (fun zx4_10 ezx4_10 => ?_)
        replace hF := hF zx4_10 ezx4_10
        show Rn _ _ _ _ _ _ _ _ [some (rf E 0), some (.int zx1), some (.int zx2), some (rf E (91 + 2 * zj_7)), some (.int zx4_10), none] _ _ _
        refine rn_iconst (x := (0 : Int32)) dX9_write_52 (by decide) ?_
        refine ra_istore dX9_write_53 rfl (Nat.le_of_ble_eq_true rfl) ?_
        show Rn _ _ _ _ _ _ _ _ [some (rf E 0), some (.int zx1), some (.int zx2), some (rf E (91 + 2 * zj_7)), some (.int zx4_10), some (.int (0 : Int32))] _ _ _
        exact rn_wk (L' := [some (rf E 0), some (.int zx1), none, some (rf E (91 + 2 * zj_7)), some (.int zx4_10), some (.int (0 : Int32))]) (⟨rfl, ⟨rfl, ⟨rfl, ⟨rfl, ⟨rfl, trivial⟩⟩⟩⟩⟩) hF
      · replace hF := hF.2 hc_8
        refine rn_aload_n dX9_write_31 rfl ?_
        refine rn_iconst (x := (1 : Int32)) dX9_write_32 (by decide) ?_
        refine rm_callV (c0 := 0) (As := [.int (1 : Int32)]) (st := []) mlRX9_146 mdX9_found (Nat.le_of_ble_eq_true rfl) rfl (by decide) (by decide) rfl rfl rfl (Nat.le_of_ble_eq_true rfl) ⟨Nat.le_refl _, Nat.le_refl _⟩ dX9_write_33 ?_
        refine cm_mono hF (fun w zH_12 hF => ?_)
        obtain ⟨zr_13, rfl, hF⟩ := hF
        exact rm_iret rfl dX9_write_36 hF
    · replace hF := hF.2 hc_6
      refine rn_bipush (x := (-2 : Int32)) dX9_write_14 (by decide) ?_
      exact rm_iret rfl dX9_write_16 hF
theorem cmX9_write {E : En} {Q : Option Value → Hi → Prop} {H : Hi} {zx1 : Int32} {zx2 : Int32} 
    (hF : Cm E mX9_isBit [.int zx1] H (fun w zH_1 => ∃ zr_2 : Int32, w = some (.int zr_2) ∧ ((zr_2 = 0 → (Q (some (.int (-2 : Int32))) zH_1)) ∧ (¬ zr_2 = 0 → (Cm E mX9_isSheet [.int zx2] zH_1 (fun w zH_4 => ∃ zr_5 : Int32, w = some (.int zr_5) ∧ ((¬ zr_5 = 0 → (∃ zj_7 : Nat, (zj_7 < 4 ∧ zx2 = nI zj_7) ∧ ((0 ≤ (zH_4 (91 + 2 * zj_7) 1) → (Cm E mX9_refresh [rf E 0] zH_4 (fun w zH_9 => w = none ∧ (∀ zx4_10 : Int32, zx4_10 = mmin (zH_9 (91 + 2 * zj_7) 1) (24 : Int32) → (Rm E mX9_write Q 55 [some (rf E 0), some (.int zx1), none, some (rf E (91 + 2 * zj_7)), some (.int zx4_10), some (.int (0 : Int32))] [] zH_9))))) ∧ (¬ 0 ≤ (zH_4 (91 + 2 * zj_7) 1) → (Cm E mX9_found [rf E 0, .int (1 : Int32)] zH_4 (fun w zH_12 => ∃ zr_13 : Int32, w = some (.int zr_13) ∧ (Q (some (.int zr_13)) zH_12))))))) ∧ (zr_5 = 0 → (Q (some (.int (-2 : Int32))) zH_4))))))))) :
    Cm E mX9_write [rf E 0, .int zx1, .int zx2] H Q :=
  cm_of (by decide +kernel : plainName RX9 = true) (Nat.le_of_ble_eq_true rfl) rfl (sgX9_write_0  hF)
theorem sgX9_write_55 {E : En} {Q : Option Value → Hi → Prop} {H : Hi} {zx1 : Int32} {zq3 : Nat} {zx4 : Int32} {zx5 : Int32} (hq3 : zq3 < 4)
    (hF : (zx4 ≤ zx5 → (Q (some (.int zx4)) H)) ∧ (¬ zx4 ≤ zx5 → ((¬ zx1 = 0 → (Cm E mX2_content [rf E 22, .int zx5] H (fun w zH_3 => ∃ zr_4 : Int32, w = some (.int zr_4) ∧ (Cm E mX5_set [rf E (91 + 2 * zq3), .int zx5, .int zr_4] zH_3 (fun w zH_5 => w = none ∧ (∀ zx5_6 : Int32, zx5_6 = zx5 + (1 : Int32) → (Rm E mX9_write Q 55 [some (rf E 0), some (.int zx1), none, some (rf E (91 + 2 * zq3)), some (.int zx4), some (.int zx5_6)] [] zH_5))))))) ∧ (zx1 = 0 → (∃ zj_7 : Nat, (zj_7 < 24 ∧ zx5 = nI zj_7) ∧ (Cm E mX5_set [rf E (91 + 2 * zq3), .int zx5, .int (H (28 + 2 * zj_7) 2)] H (fun w zH_8 => w = none ∧ (∀ zx5_9 : Int32, zx5_9 = zx5 + (1 : Int32) → (Rm E mX9_write Q 55 [some (rf E 0), some (.int zx1), none, some (rf E (91 + 2 * zq3)), some (.int zx4), some (.int zx5_9)] [] zH_8))))))))) :
    Rm E mX9_write Q 55 [some (rf E 0), some (.int zx1), none, some (rf E (91 + 2 * zq3)), some (.int zx4), some (.int zx5)] [] H := by
  refine rn_iload dX9_write_55 rfl ?_
  refine rn_iload dX9_write_57 rfl ?_
  refine rn_icmp_ge (tgt := 103) dX9_write_59 (by decide) (fun hc_1 => ?_) (fun hc_1 => ?_)
  · replace hF := hF.1 hc_1
    refine rn_iload dX9_write_103 rfl ?_
    exact rm_iret rfl dX9_write_105 hF
  · replace hF := hF.2 hc_1
    refine rn_aload_n dX9_write_62 rfl ?_
    refine rn_iload dX9_write_63 rfl ?_
    refine rn_iload_n dX9_write_65 rfl ?_
    refine rn_if_ne (tgt := 85) dX9_write_66 (by decide) (fun hc_2 => ?_) (fun hc_2 => ?_)
    · replace hF := hF.1 hc_2
      refine rn_aload_n dX9_write_85 rfl ?_
      refine rm_getr (r := 22) flRX9_52 rfl (by decide) rfl dX9_write_86 ?_
      refine rn_iload dX9_write_89 rfl ?_
      refine rm_callV (c0 := 22) (As := [.int zx5]) (st := [.int zx5, rf E (91 + 2 * zq3)]) mlRX9_171 mdX2_content (Nat.le_of_ble_eq_true rfl) rfl (by decide) (by decide) rfl rfl rfl (Nat.le_of_ble_eq_true rfl) ⟨Nat.le_refl _, Nat.le_refl _⟩ dX9_write_91 ?_
      refine cm_mono hF (fun w zH_3 hF => ?_)
      obtain ⟨zr_4, rfl, hF⟩ := hF
      refine rm_callV (c0 := (91 + 2 * zq3)) (As := [.int zx5, .int zr_4]) (st := []) mlRX9_248 mdX5_set (Nat.le_of_ble_eq_true rfl) (sh_she _ hq3).1 (sh_she _ hq3).2.1 (by decide) rfl rfl rfl (Nat.le_of_ble_eq_true rfl) ⟨Nat.le_refl _, Nat.le_refl _⟩ dX9_write_94 ?_
      refine cm_mono hF (fun w zH_5 hF => ?_)
      obtain ⟨rfl, hF⟩ := hF
      refine rn_iinc (w := (1 : Int32)) dX9_write_97 rfl (by decide) rfl (Nat.le_of_ble_eq_true rfl) (fun zx5_6 ezx5_6 => ?_)
      replace hF := hF zx5_6 ezx5_6
      show Rn _ _ _ _ _ _ _ _ [some (rf E 0), some (.int zx1), none, some (rf E (91 + 2 * zq3)), some (.int zx4), some (.int zx5_6)] _ _ _
      refine rn_goto (tgt := 55) dX9_write_100 (by decide) ?_
      exact rn_wk (L' := [some (rf E 0), some (.int zx1), none, some (rf E (91 + 2 * zq3)), some (.int zx4), some (.int zx5_6)]) (⟨rfl, ⟨rfl, ⟨rfl, ⟨rfl, ⟨rfl, trivial⟩⟩⟩⟩⟩) hF
    · replace hF := hF.2 hc_2
      refine rn_aload_n dX9_write_69 rfl ?_
      refine rm_getr (r := 22) flRX9_52 rfl (by decide) rfl dX9_write_70 ?_
      refine rm_getr (r := 25) flRX9_156 rfl (by decide) rfl dX9_write_73 ?_
      refine rn_iload dX9_write_76 rfl ?_
      obtain ⟨zj_7, hzj_7, hF⟩ := hF
      refine rj_aald (j := zj_7) (Cn := RX6) (r := (28 + 2 * zj_7)) hzj_7 (st_beh _ hzj_7.1).2 rfl (by decide) (by decide) rfl (by decide) dX9_write_78 ?_
      refine rm_geti flRX9_168 (st_beh _ hzj_7.1).1.2.1 (st_beh _ hzj_7.1).1.1 (rT_row (st_beh _ hzj_7.1).1.2.2 _) dX9_write_79 ?_
      refine rn_goto (tgt := 94) dX9_write_82 (by decide) ?_
      refine rm_callV (c0 := (91 + 2 * zq3)) (As := [.int zx5, .int (H (28 + 2 * zj_7) 2)]) (st := []) mlRX9_248 mdX5_set (Nat.le_of_ble_eq_true rfl) (sh_she _ hq3).1 (sh_she _ hq3).2.1 (by decide) rfl rfl rfl (Nat.le_of_ble_eq_true rfl) ⟨Nat.le_refl _, Nat.le_refl _⟩ dX9_write_94 ?_
      refine cm_mono hF (fun w zH_8 hF => ?_)
      obtain ⟨rfl, hF⟩ := hF
      refine rn_iinc (w := (1 : Int32)) dX9_write_97 rfl (by decide) rfl (Nat.le_of_ble_eq_true rfl) (fun zx5_9 ezx5_9 => ?_)
      replace hF := hF zx5_9 ezx5_9
      show Rn _ _ _ _ _ _ _ _ [some (rf E 0), some (.int zx1), none, some (rf E (91 + 2 * zq3)), some (.int zx4), some (.int zx5_9)] _ _ _
      refine rn_goto (tgt := 55) dX9_write_100 (by decide) ?_
      exact rn_wk (L' := [some (rf E 0), some (.int zx1), none, some (rf E (91 + 2 * zq3)), some (.int zx4), some (.int zx5_9)]) (⟨rfl, ⟨rfl, ⟨rfl, ⟨rfl, ⟨rfl, trivial⟩⟩⟩⟩⟩) hF
theorem sgX9_count_0 {E : En} {Q : Option Value → Hi → Prop} {H : Hi} {zx1 : Int32} 
    (hF : Cm E mX9_refresh [rf E 0] H (fun w zH_1 => w = none ∧ (Cm E mX9_tally [rf E 0, .int zx1] zH_1 (fun w zH_2 => ∃ zr_3 : Int32, w = some (.int zr_3) ∧ (Q (some (.int zr_3)) zH_2))))) :
    Rm E mX9_count Q 0 [some (rf E 0), some (.int zx1)] [] H := by
  refine rn_aload_n dX9_count_0 rfl ?_
  refine rm_callV (c0 := 0) (As := []) (st := []) mlRX9_103 mdX9_refresh (Nat.le_of_ble_eq_true rfl) rfl (by decide) (by decide) rfl rfl rfl (Nat.le_of_ble_eq_true rfl) ⟨Nat.le_refl _, Nat.le_refl _⟩ dX9_count_1 ?_
  refine cm_mono hF (fun w zH_1 hF => ?_)
  obtain ⟨rfl, hF⟩ := hF
  refine rn_aload_n dX9_count_4 rfl ?_
  refine rn_iload_n dX9_count_5 rfl ?_
  refine rm_callV (c0 := 0) (As := [.int zx1]) (st := []) mlRX9_271 mdX9_tally (Nat.le_of_ble_eq_true rfl) rfl (by decide) (by decide) rfl rfl rfl (Nat.le_of_ble_eq_true rfl) ⟨Nat.le_refl _, Nat.le_refl _⟩ dX9_count_6 ?_
  refine cm_mono hF (fun w zH_2 hF => ?_)
  obtain ⟨zr_3, rfl, hF⟩ := hF
  exact rm_iret rfl dX9_count_9 hF
theorem cmX9_count {E : En} {Q : Option Value → Hi → Prop} {H : Hi} {zx1 : Int32} 
    (hF : Cm E mX9_refresh [rf E 0] H (fun w zH_1 => w = none ∧ (Cm E mX9_tally [rf E 0, .int zx1] zH_1 (fun w zH_2 => ∃ zr_3 : Int32, w = some (.int zr_3) ∧ (Q (some (.int zr_3)) zH_2))))) :
    Cm E mX9_count [rf E 0, .int zx1] H Q :=
  cm_of (by decide +kernel : plainName RX9 = true) (Nat.le_of_ble_eq_true rfl) rfl (sgX9_count_0  hF)
