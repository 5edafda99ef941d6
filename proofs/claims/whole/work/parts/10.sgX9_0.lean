theorem sgX9_type_0 {E : En} {Q : Option Value → Hi → Prop} {H : Hi} {x1 : Int32} {x2 : Int32} 
    (hF : Cm E mX9_isText [.int x1] H (fun w H_1 => ∃ r_2 : Int32, w = some (.int r_2) ∧ ((r_2 = 0 → (Q (some (.int (-2 : Int32))) H_1)) ∧ (¬ r_2 = 0 → ((x2 < 0 → (Q (some (.int (-2 : Int32))) H_1)) ∧ (¬ x2 < 0 → ((x2 ≤ (255 : Int32) → (∀ H_6 : Hi, H_6 = up H_1 0 9 (1 : Int32) → (Cm E mX9_textOf [rf E 0, .int x1] H_6 (fun w H_7 => (w = some (rf E 1) ∧ (Cm E mX7_append [rf E 1, .int x2] H_7 (fun w H_8 => ∃ r_9 : Int32, w = some (.int r_9) ∧ (Q (some (.int r_9)) H_8)))) ∨ (w = some (rf E 3) ∧ (Cm E mX7_append [rf E 3, .int x2] H_7 (fun w H_10 => ∃ r_11 : Int32, w = some (.int r_11) ∧ (Q (some (.int r_11)) H_10)))))))) ∧ (¬ x2 ≤ (255 : Int32) → (Q (some (.int (-2 : Int32))) H_1))))))))) :
    Rm E mX9_type Q 0 [some (rf E 0), some (.int x1), some (.int x2)] [] H := by
  refine rn_iload_n dX9_type_0 rfl ?_
  refine rm_callS (As := [.int x1]) (st := []) mlRX9_83 mdX9_isText (Nat.le_of_ble_eq_true rfl) rfl rfl (Nat.le_of_ble_eq_true rfl) ⟨Nat.le_refl _, Nat.le_refl _⟩ dX9_type_1 ?_
  refine cm_mono hF (fun w H_1 hF => ?_)
  obtain ⟨r_2, rfl, hF⟩ := hF
  refine rn_if_eq (tgt := 18) dX9_type_4 (by decide) (fun hc_3 => ?_) (fun hc_3 => ?_)
  · replace hF := hF.1 hc_3
    refine rn_bipush (x := (-2 : Int32)) dX9_type_18 (by decide) ?_
    exact rm_iret rfl dX9_type_20 hF
  · replace hF := hF.2 hc_3
    refine rn_iload_n dX9_type_7 rfl ?_
    refine rn_if_lt (tgt := 18) dX9_type_8 (by decide) (fun hc_4 => ?_) (fun hc_4 => ?_)
    · replace hF := hF.1 hc_4
      refine rn_bipush (x := (-2 : Int32)) dX9_type_18 (by decide) ?_
      exact rm_iret rfl dX9_type_20 hF
    · replace hF := hF.2 hc_4
      refine rn_iload_n dX9_type_11 rfl ?_
      refine rn_sipush (x := (255 : Int32)) dX9_type_12 (by decide) ?_
      refine rn_icmp_le (tgt := 21) dX9_type_15 (by decide) (fun hc_5 => ?_) (fun hc_5 => ?_)
      · replace hF := hF.1 hc_5
        refine rn_aload_n dX9_type_21 rfl ?_
        refine rn_iconst (x := (1 : Int32)) dX9_type_22 (by decide) ?_
        refine rm_putz flRX9_79 rfl (by decide) rfl rfl rfl dX9_type_23 (fun H_6 eH_6 => ?_)
        replace hF := hF H_6 eH_6
        refine rn_aload_n dX9_type_26 rfl ?_
        refine rn_iload_n dX9_type_27 rfl ?_
        refine rm_callV (c0 := 0) (As := [.int x1]) (st := []) mlRX9_87 mdX9_textOf (Nat.le_of_ble_eq_true rfl) rfl (by decide) (by decide) rfl rfl rfl (Nat.le_of_ble_eq_true rfl) ⟨Nat.le_refl _, Nat.le_refl _⟩ dX9_type_28 ?_
        refine cm_mono hF (fun w H_7 hF => ?_)
        rcases hF with ⟨rfl, hF⟩ | ⟨rfl, hF⟩
        · refine rn_iload_n dX9_type_31 rfl ?_
          refine rm_callV (c0 := 1) (As := [.int x2]) (st := []) mlRX9_91 mdX7_append (Nat.le_of_ble_eq_true rfl) rfl (by decide) (by decide) rfl rfl rfl (Nat.le_of_ble_eq_true rfl) ⟨Nat.le_refl _, Nat.le_refl _⟩ dX9_type_32 ?_
          refine cm_mono hF (fun w H_8 hF => ?_)
          obtain ⟨r_9, rfl, hF⟩ := hF
          exact rm_iret rfl dX9_type_35 hF
        · refine rn_iload_n dX9_type_31 rfl ?_
          refine rm_callV (c0 := 3) (As := [.int x2]) (st := []) mlRX9_91 mdX7_append (Nat.le_of_ble_eq_true rfl) rfl (by decide) (by decide) rfl rfl rfl (Nat.le_of_ble_eq_true rfl) ⟨Nat.le_refl _, Nat.le_refl _⟩ dX9_type_32 ?_
          refine cm_mono hF (fun w H_10 hF => ?_)
          obtain ⟨r_11, rfl, hF⟩ := hF
          exact rm_iret rfl dX9_type_35 hF
      · replace hF := hF.2 hc_5
        refine rn_bipush (x := (-2 : Int32)) dX9_type_18 (by decide) ?_
        exact rm_iret rfl dX9_type_20 hF
theorem cmX9_type {E : En} {Q : Option Value → Hi → Prop} {H : Hi} {x1 : Int32} {x2 : Int32} 
    (hF : Cm E mX9_isText [.int x1] H (fun w H_1 => ∃ r_2 : Int32, w = some (.int r_2) ∧ ((r_2 = 0 → (Q (some (.int (-2 : Int32))) H_1)) ∧ (¬ r_2 = 0 → ((x2 < 0 → (Q (some (.int (-2 : Int32))) H_1)) ∧ (¬ x2 < 0 → ((x2 ≤ (255 : Int32) → (∀ H_6 : Hi, H_6 = up H_1 0 9 (1 : Int32) → (Cm E mX9_textOf [rf E 0, .int x1] H_6 (fun w H_7 => (w = some (rf E 1) ∧ (Cm E mX7_append [rf E 1, .int x2] H_7 (fun w H_8 => ∃ r_9 : Int32, w = some (.int r_9) ∧ (Q (some (.int r_9)) H_8)))) ∨ (w = some (rf E 3) ∧ (Cm E mX7_append [rf E 3, .int x2] H_7 (fun w H_10 => ∃ r_11 : Int32, w = some (.int r_11) ∧ (Q (some (.int r_11)) H_10)))))))) ∧ (¬ x2 ≤ (255 : Int32) → (Q (some (.int (-2 : Int32))) H_1))))))))) :
    Cm E mX9_type [rf E 0, .int x1, .int x2] H Q :=
  cm_of (by decide +kernel) (Nat.le_of_ble_eq_true rfl) rfl (sgX9_type_0  hF)
theorem sgX9_wipe_0 {E : En} {Q : Option Value → Hi → Prop} {H : Hi} {x1 : Int32} 
    (hF : Cm E mX9_isText [.int x1] H (fun w H_1 => ∃ r_2 : Int32, w = some (.int r_2) ∧ ((¬ r_2 = 0 → (∀ H_4 : Hi, H_4 = up H_1 0 9 (1 : Int32) → (Cm E mX9_textOf [rf E 0, .int x1] H_4 (fun w H_5 => (w = some (rf E 1) ∧ (∀ x3_6 : Int32, x3_6 = H_5 1 5 → (∀ H_7 : Hi, H_7 = up H_5 1 5 (0 : Int32) → (Q (some (.int x3_6)) H_7)))) ∨ (w = some (rf E 3) ∧ (∀ x3_8 : Int32, x3_8 = H_5 3 5 → (∀ H_9 : Hi, H_9 = up H_5 3 5 (0 : Int32) → (Q (some (.int x3_8)) H_9)))))))) ∧ (r_2 = 0 → (Q (some (.int (-2 : Int32))) H_1))))) :
    Rm E mX9_wipe Q 0 [some (rf E 0), some (.int x1), none, none] [] H := by
  refine rn_iload_n dX9_wipe_0 rfl ?_
  refine rm_callS (As := [.int x1]) (st := []) mlRX9_83 mdX9_isText (Nat.le_of_ble_eq_true rfl) rfl rfl (Nat.le_of_ble_eq_true rfl) ⟨Nat.le_refl _, Nat.le_refl _⟩ dX9_wipe_1 ?_
  refine cm_mono hF (fun w H_1 hF => ?_)
  obtain ⟨r_2, rfl, hF⟩ := hF
  refine rn_if_ne (tgt := 10) dX9_wipe_4 (by decide) (fun hc_3 => ?_) (fun hc_3 => ?_)
  · replace hF := hF.1 hc_3
    refine rn_aload_n dX9_wipe_10 rfl ?_
    refine rn_iconst (x := (1 : Int32)) dX9_wipe_11 (by decide) ?_
    refine rm_putz flRX9_79 rfl (by decide) rfl rfl rfl dX9_wipe_12 (fun H_4 eH_4 => ?_)
    replace hF := hF H_4 eH_4
    refine rn_aload_n dX9_wipe_15 rfl ?_
    refine rn_iload_n dX9_wipe_16 rfl ?_
    refine rm_callV (c0 := 0) (As := [.int x1]) (st := []) mlRX9_87 mdX9_textOf (Nat.le_of_ble_eq_true rfl) rfl (by decide) (by decide) rfl rfl rfl (Nat.le_of_ble_eq_true rfl) ⟨Nat.le_refl _, Nat.le_refl _⟩ dX9_wipe_17 ?_
    refine cm_mono hF (fun w H_5 hF => ?_)
    rcases hF with ⟨rfl, hF⟩ | ⟨rfl, hF⟩
    · refine rn_astore_n dX9_wipe_20 rfl (by decide) ?_
      refine rn_aload_n dX9_wipe_21 rfl ?_
      refine rm_geti flRX9_95 rfl (by decide) rfl dX9_wipe_22 ?_
      refine rn_istore_n dX9_wipe_25 rfl (by decide) (fun x3_6 ex3_6 => ?_)
      replace hF := hF x3_6 ex3_6
      refine rn_aload_n dX9_wipe_26 rfl ?_
      refine rn_iconst (x := (0 : Int32)) dX9_wipe_27 (by decide) ?_
      refine rm_puti flRX9_95 rfl (by decide) rfl dX9_wipe_28 (fun H_7 eH_7 => ?_)
      replace hF := hF H_7 eH_7
      refine rn_iload_n dX9_wipe_31 rfl ?_
      exact rm_iret rfl dX9_wipe_32 hF
    · refine rn_astore_n dX9_wipe_20 rfl (by decide) ?_
      refine rn_aload_n dX9_wipe_21 rfl ?_
      refine rm_geti flRX9_95 rfl (by decide) rfl dX9_wipe_22 ?_
      refine rn_istore_n dX9_wipe_25 rfl (by decide) (fun x3_8 ex3_8 => ?_)
      replace hF := hF x3_8 ex3_8
      refine rn_aload_n dX9_wipe_26 rfl ?_
      refine rn_iconst (x := (0 : Int32)) dX9_wipe_27 (by decide) ?_
      refine rm_puti flRX9_95 rfl (by decide) rfl dX9_wipe_28 (fun H_9 eH_9 => ?_)
      replace hF := hF H_9 eH_9
      refine rn_iload_n dX9_wipe_31 rfl ?_
      exact rm_iret rfl dX9_wipe_32 hF
  · replace hF := hF.2 hc_3
    refine rn_bipush (x := (-2 : Int32)) dX9_wipe_7 (by decide) ?_
    exact rm_iret rfl dX9_wipe_9 hF
theorem cmX9_wipe {E : En} {Q : Option Value → Hi → Prop} {H : Hi} {x1 : Int32} 
    (hF : Cm E mX9_isText [.int x1] H (fun w H_1 => ∃ r_2 : Int32, w = some (.int r_2) ∧ ((¬ r_2 = 0 → (∀ H_4 : Hi, H_4 = up H_1 0 9 (1 : Int32) → (Cm E mX9_textOf [rf E 0, .int x1] H_4 (fun w H_5 => (w = some (rf E 1) ∧ (∀ x3_6 : Int32, x3_6 = H_5 1 5 → (∀ H_7 : Hi, H_7 = up H_5 1 5 (0 : Int32) → (Q (some (.int x3_6)) H_7)))) ∨ (w = some (rf E 3) ∧ (∀ x3_8 : Int32, x3_8 = H_5 3 5 → (∀ H_9 : Hi, H_9 = up H_5 3 5 (0 : Int32) → (Q (some (.int x3_8)) H_9)))))))) ∧ (r_2 = 0 → (Q (some (.int (-2 : Int32))) H_1))))) :
    Cm E mX9_wipe [rf E 0, .int x1] H Q :=
  cm_of (by decide +kernel) (Nat.le_of_ble_eq_true rfl) rfl (sgX9_wipe_0  hF)
theorem sgX9_undo_0 {E : En} {Q : Option Value → Hi → Prop} {H : Hi} {x1 : Int32} 
    (hF : Cm E mX9_isText [.int x1] H (fun w H_1 => ∃ r_2 : Int32, w = some (.int r_2) ∧ ((¬ r_2 = 0 → (Cm E mX9_textOf [rf E 0, .int x1] H_1 (fun w H_4 => (w = some (rf E 1) ∧ ((¬ (H_4 1 5) = 0 → (∀ H_6 : Hi, H_6 = up H_4 0 9 (1 : Int32) → (∀ H_7 : Hi, H_7 = up H_6 1 5 ((H_6 1 5) - (1 : Int32)) → (Q (some (.int (H_7 1 5))) H_7)))) ∧ ((H_4 1 5) = 0 → (Q (some (.int (-3 : Int32))) H_4)))) ∨ (w = some (rf E 3) ∧ ((¬ (H_4 3 5) = 0 → (∀ H_9 : Hi, H_9 = up H_4 0 9 (1 : Int32) → (∀ H_10 : Hi, H_10 = up H_9 3 5 ((H_9 3 5) - (1 : Int32)) → (Q (some (.int (H_10 3 5))) H_10)))) ∧ ((H_4 3 5) = 0 → (Q (some (.int (-3 : Int32))) H_4))))))) ∧ (r_2 = 0 → (Q (some (.int (-2 : Int32))) H_1))))) :
    Rm E mX9_undo Q 0 [some (rf E 0), some (.int x1), none] [] H := by
  refine rn_iload_n dX9_undo_0 rfl ?_
  refine rm_callS (As := [.int x1]) (st := []) mlRX9_83 mdX9_isText (Nat.le_of_ble_eq_true rfl) rfl rfl (Nat.le_of_ble_eq_true rfl) ⟨Nat.le_refl _, Nat.le_refl _⟩ dX9_undo_1 ?_
  refine cm_mono hF (fun w H_1 hF => ?_)
  obtain ⟨r_2, rfl, hF⟩ := hF
  refine rn_if_ne (tgt := 10) dX9_undo_4 (by decide) (fun hc_3 => ?_) (fun hc_3 => ?_)
  · replace hF := hF.1 hc_3
    refine rn_aload_n dX9_undo_10 rfl ?_
    refine rn_iload_n dX9_undo_11 rfl ?_
    refine rm_callV (c0 := 0) (As := [.int x1]) (st := []) mlRX9_87 mdX9_textOf (Nat.le_of_ble_eq_true rfl) rfl (by decide) (by decide) rfl rfl rfl (Nat.le_of_ble_eq_true rfl) ⟨Nat.le_refl _, Nat.le_refl _⟩ dX9_undo_12 ?_
    refine cm_mono hF (fun w H_4 hF => ?_)
    rcases hF with ⟨rfl, hF⟩ | ⟨rfl, hF⟩
    · refine rn_astore_n dX9_undo_15 rfl (by decide) ?_
      refine rn_aload_n dX9_undo_16 rfl ?_
      refine rm_geti flRX9_95 rfl (by decide) rfl dX9_undo_17 ?_
      refine rn_if_ne (tgt := 26) dX9_undo_20 (by decide) (fun hc_5 => ?_) (fun hc_5 => ?_)
      · replace hF := hF.1 hc_5
        refine rn_aload_n dX9_undo_26 rfl ?_
        refine rn_iconst (x := (1 : Int32)) dX9_undo_27 (by decide) ?_
        refine rm_putz flRX9_79 rfl (by decide) rfl rfl rfl dX9_undo_28 (fun H_6 eH_6 => ?_)
        replace hF := hF H_6 eH_6
        refine rn_aload_n dX9_undo_31 rfl ?_
        refine rn_dup dX9_undo_32 rfl ?_
        refine rm_geti flRX9_95 rfl (by decide) rfl dX9_undo_33 ?_
        refine rn_iconst (x := (1 : Int32)) dX9_undo_36 (by decide) ?_
        refine rn_isub dX9_undo_37 ?_
        refine rm_puti flRX9_95 rfl (by decide) rfl dX9_undo_38 (fun H_7 eH_7 => ?_)
        replace hF := hF H_7 eH_7
        refine rn_aload_n dX9_undo_41 rfl ?_
        refine rm_geti flRX9_95 rfl (by decide) rfl dX9_undo_42 ?_
        exact rm_iret rfl dX9_undo_45 hF
      · replace hF := hF.2 hc_5
        refine rn_bipush (x := (-3 : Int32)) dX9_undo_23 (by decide) ?_
        exact rm_iret rfl dX9_undo_25 hF
    · refine rn_astore_n dX9_undo_15 rfl (by decide) ?_
      refine rn_aload_n dX9_undo_16 rfl ?_
      refine rm_geti flRX9_95 rfl (by decide) rfl dX9_undo_17 ?_
      refine rn_if_ne (tgt := 26) dX9_undo_20 (by decide) (fun hc_8 => ?_) (fun hc_8 => ?_)
      · replace hF := hF.1 hc_8
        refine rn_aload_n dX9_undo_26 rfl ?_
        refine rn_iconst (x := (1 : Int32)) dX9_undo_27 (by decide) ?_
        refine rm_putz flRX9_79 rfl (by decide) rfl rfl rfl dX9_undo_28 (fun H_9 eH_9 => ?_)
        replace hF := hF H_9 eH_9
        refine rn_aload_n dX9_undo_31 rfl ?_
        refine rn_dup dX9_undo_32 rfl ?_
        refine rm_geti flRX9_95 rfl (by decide) rfl dX9_undo_33 ?_
        refine rn_iconst (x := (1 : Int32)) dX9_undo_36 (by decide) ?_
        refine rn_isub dX9_undo_37 ?_
        refine rm_puti flRX9_95 rfl (by decide) rfl dX9_undo_38 (fun H_10 eH_10 => ?_)
        replace hF := hF H_10 eH_10
        refine rn_aload_n dX9_undo_41 rfl ?_
        refine rm_geti flRX9_95 rfl (by decide) rfl dX9_undo_42 ?_
        exact rm_iret rfl dX9_undo_45 hF
      · replace hF := hF.2 hc_8
        refine rn_bipush (x := (-3 : Int32)) dX9_undo_23 (by decide) ?_
        exact rm_iret rfl dX9_undo_25 hF
  · replace hF := hF.2 hc_3
    refine rn_bipush (x := (-2 : Int32)) dX9_undo_7 (by decide) ?_
    exact rm_iret rfl dX9_undo_9 hF
theorem cmX9_undo {E : En} {Q : Option Value → Hi → Prop} {H : Hi} {x1 : Int32} 
    (hF : Cm E mX9_isText [.int x1] H (fun w H_1 => ∃ r_2 : Int32, w = some (.int r_2) ∧ ((¬ r_2 = 0 → (Cm E mX9_textOf [rf E 0, .int x1] H_1 (fun w H_4 => (w = some (rf E 1) ∧ ((¬ (H_4 1 5) = 0 → (∀ H_6 : Hi, H_6 = up H_4 0 9 (1 : Int32) → (∀ H_7 : Hi, H_7 = up H_6 1 5 ((H_6 1 5) - (1 : Int32)) → (Q (some (.int (H_7 1 5))) H_7)))) ∧ ((H_4 1 5) = 0 → (Q (some (.int (-3 : Int32))) H_4)))) ∨ (w = some (rf E 3) ∧ ((¬ (H_4 3 5) = 0 → (∀ H_9 : Hi, H_9 = up H_4 0 9 (1 : Int32) → (∀ H_10 : Hi, H_10 = up H_9 3 5 ((H_9 3 5) - (1 : Int32)) → (Q (some (.int (H_10 3 5))) H_10)))) ∧ ((H_4 3 5) = 0 → (Q (some (.int (-3 : Int32))) H_4))))))) ∧ (r_2 = 0 → (Q (some (.int (-2 : Int32))) H_1))))) :
    Cm E mX9_undo [rf E 0, .int x1] H Q :=
  cm_of (by decide +kernel) (Nat.le_of_ble_eq_true rfl) rfl (sgX9_undo_0  hF)
theorem sgX9_fault_0 {E : En} {Q : Option Value → Hi → Prop} {H : Hi} {x1 : Int32} 
    (hF : Cm E mX9_isText [.int x1] H (fun w H_1 => ∃ r_2 : Int32, w = some (.int r_2) ∧ ((r_2 = 0 → (Q (some (.int (-2 : Int32))) H_1)) ∧ (¬ r_2 = 0 → (Cm E mX9_textOf [rf E 0, .int x1] H_1 (fun w H_4 => (w = some (rf E 1) ∧ (Cm E mX7_firstWrong [rf E 1] H_4 (fun w H_5 => ∃ r_6 : Int32, w = some (.int r_6) ∧ (Q (some (.int r_6)) H_5)))) ∨ (w = some (rf E 3) ∧ (Cm E mX7_firstWrong [rf E 3] H_4 (fun w H_7 => ∃ r_8 : Int32, w = some (.int r_8) ∧ (Q (some (.int r_8)) H_7)))))))))) :
    Rm E mX9_fault Q 0 [some (rf E 0), some (.int x1)] [] H := by
  refine rn_iload_n dX9_fault_0 rfl ?_
  refine rm_callS (As := [.int x1]) (st := []) mlRX9_83 mdX9_isText (Nat.le_of_ble_eq_true rfl) rfl rfl (Nat.le_of_ble_eq_true rfl) ⟨Nat.le_refl _, Nat.le_refl _⟩ dX9_fault_1 ?_
  refine cm_mono hF (fun w H_1 hF => ?_)
  obtain ⟨r_2, rfl, hF⟩ := hF
  refine rn_if_eq (tgt := 18) dX9_fault_4 (by decide) (fun hc_3 => ?_) (fun hc_3 => ?_)
  · replace hF := hF.1 hc_3
    refine rn_bipush (x := (-2 : Int32)) dX9_fault_18 (by decide) ?_
    exact rm_iret rfl dX9_fault_20 hF
  · replace hF := hF.2 hc_3
    refine rn_aload_n dX9_fault_7 rfl ?_
    refine rn_iload_n dX9_fault_8 rfl ?_
    refine rm_callV (c0 := 0) (As := [.int x1]) (st := []) mlRX9_87 mdX9_textOf (Nat.le_of_ble_eq_true rfl) rfl (by decide) (by decide) rfl rfl rfl (Nat.le_of_ble_eq_true rfl) ⟨Nat.le_refl _, Nat.le_refl _⟩ dX9_fault_9 ?_
    refine cm_mono hF (fun w H_4 hF => ?_)
    rcases hF with ⟨rfl, hF⟩ | ⟨rfl, hF⟩
    · refine rm_callV (c0 := 1) (As := []) (st := []) mlRX9_99 mdX7_firstWrong (Nat.le_of_ble_eq_true rfl) rfl (by decide) (by decide) rfl rfl rfl (Nat.le_of_ble_eq_true rfl) ⟨Nat.le_refl _, Nat.le_refl _⟩ dX9_fault_12 ?_
      refine cm_mono hF (fun w H_5 hF => ?_)
      obtain ⟨r_6, rfl, hF⟩ := hF
      refine rn_goto (tgt := 20) dX9_fault_15 (by decide) ?_
      exact rm_iret rfl dX9_fault_20 hF
    · refine rm_callV (c0 := 3) (As := []) (st := []) mlRX9_99 mdX7_firstWrong (Nat.le_of_ble_eq_true rfl) rfl (by decide) (by decide) rfl rfl rfl (Nat.le_of_ble_eq_true rfl) ⟨Nat.le_refl _, Nat.le_refl _⟩ dX9_fault_12 ?_
      refine cm_mono hF (fun w H_7 hF => ?_)
      obtain ⟨r_8, rfl, hF⟩ := hF
      refine rn_goto (tgt := 20) dX9_fault_15 (by decide) ?_
      exact rm_iret rfl dX9_fault_20 hF
theorem cmX9_fault {E : En} {Q : Option Value → Hi → Prop} {H : Hi} {x1 : Int32} 
    (hF : Cm E mX9_isText [.int x1] H (fun w H_1 => ∃ r_2 : Int32, w = some (.int r_2) ∧ ((r_2 = 0 → (Q (some (.int (-2 : Int32))) H_1)) ∧ (¬ r_2 = 0 → (Cm E mX9_textOf [rf E 0, .int x1] H_1 (fun w H_4 => (w = some (rf E 1) ∧ (Cm E mX7_firstWrong [rf E 1] H_4 (fun w H_5 => ∃ r_6 : Int32, w = some (.int r_6) ∧ (Q (some (.int r_6)) H_5)))) ∨ (w = some (rf E 3) ∧ (Cm E mX7_firstWrong [rf E 3] H_4 (fun w H_7 => ∃ r_8 : Int32, w = some (.int r_8) ∧ (Q (some (.int r_8)) H_7)))))))))) :
    Cm E mX9_fault [rf E 0, .int x1] H Q :=
  cm_of (by decide +kernel) (Nat.le_of_ble_eq_true rfl) rfl (sgX9_fault_0  hF)
theorem sgX9_thing_0 {E : En} {Q : Option Value → Hi → Prop} {H : Hi} {x1 : Int32} {x2 : Int32} 
    (hF : Cm E mX9_refresh [rf E 0] H (fun w H_1 => w = none ∧ (Cm E mX9_isThing [rf E 0, .int x1] H_1 (fun w H_2 => ∃ r_3 : Int32, w = some (.int r_3) ∧ ((r_3 = 0 → (Q (some (.int (-2 : Int32))) H_2)) ∧ (¬ r_3 = 0 → ((x2 < 0 → (Q (some (.int (-2 : Int32))) H_2)) ∧ (¬ x2 < 0 → ((x2 ≤ (2 : Int32) → (Cm E mX0_ofThing [rf E 5, .int x1, .int x2] H_2 (fun w H_7 => ∃ r_8 : Int32, w = some (.int r_8) ∧ (Q (some (.int r_8)) H_7)))) ∧ (¬ x2 ≤ (2 : Int32) → (Q (some (.int (-2 : Int32))) H_2))))))))))) :
    Rm E mX9_thing Q 0 [some (rf E 0), some (.int x1), some (.int x2)] [] H := by
  refine rn_aload_n dX9_thing_0 rfl ?_
  refine rm_callV (c0 := 0) (As := []) (st := []) mlRX9_103 mdX9_refresh (Nat.le_of_ble_eq_true rfl) rfl (by decide) (by decide) rfl rfl rfl (Nat.le_of_ble_eq_true rfl) ⟨Nat.le_refl _, Nat.le_refl _⟩ dX9_thing_1 ?_
  refine cm_mono hF (fun w H_1 hF => ?_)
  obtain ⟨rfl, hF⟩ := hF
  refine rn_aload_n dX9_thing_4 rfl ?_
  refine rn_iload_n dX9_thing_5 rfl ?_
  refine rm_callV (c0 := 0) (As := [.int x1]) (st := []) mlRX9_106 mdX9_isThing (Nat.le_of_ble_eq_true rfl) rfl (by decide) (by decide) rfl rfl rfl (Nat.le_of_ble_eq_true rfl) ⟨Nat.le_refl _, Nat.le_refl _⟩ dX9_thing_6 ?_
  refine cm_mono hF (fun w H_2 hF => ?_)
  obtain ⟨r_3, rfl, hF⟩ := hF
  refine rn_if_eq (tgt := 21) dX9_thing_9 (by decide) (fun hc_4 => ?_) (fun hc_4 => ?_)
  · replace hF := hF.1 hc_4
    refine rn_bipush (x := (-2 : Int32)) dX9_thing_21 (by decide) ?_
    exact rm_iret rfl dX9_thing_23 hF
  · replace hF := hF.2 hc_4
    refine rn_iload_n dX9_thing_12 rfl ?_
    refine rn_if_lt (tgt := 21) dX9_thing_13 (by decide) (fun hc_5 => ?_) (fun hc_5 => ?_)
    · replace hF := hF.1 hc_5
      refine rn_bipush (x := (-2 : Int32)) dX9_thing_21 (by decide) ?_
      exact rm_iret rfl dX9_thing_23 hF
    · replace hF := hF.2 hc_5
      refine rn_iload_n dX9_thing_16 rfl ?_
      refine rn_iconst (x := (2 : Int32)) dX9_thing_17 (by decide) ?_
      refine rn_icmp_le (tgt := 24) dX9_thing_18 (by decide) (fun hc_6 => ?_) (fun hc_6 => ?_)
      · replace hF := hF.1 hc_6
        refine rn_aload_n dX9_thing_24 rfl ?_
        refine rm_getr (r := 5) flRX9_36 rfl (by decide) rfl dX9_thing_25 ?_
        refine rn_iload_n dX9_thing_28 rfl ?_
        refine rn_iload_n dX9_thing_29 rfl ?_
        refine rm_callV (c0 := 5) (As := [.int x1, .int x2]) (st := []) mlRX9_109 mdX0_ofThing (Nat.le_of_ble_eq_true rfl) rfl (by decide) (by decide) rfl rfl rfl (Nat.le_of_ble_eq_true rfl) ⟨Nat.le_refl _, Nat.le_refl _⟩ dX9_thing_30 ?_
        refine cm_mono hF (fun w H_7 hF => ?_)
        obtain ⟨r_8, rfl, hF⟩ := hF
        exact rm_iret rfl dX9_thing_33 hF
      · replace hF := hF.2 hc_6
        refine rn_bipush (x := (-2 : Int32)) dX9_thing_21 (by decide) ?_
        exact rm_iret rfl dX9_thing_23 hF
theorem cmX9_thing {E : En} {Q : Option Value → Hi → Prop} {H : Hi} {x1 : Int32} {x2 : Int32} 
    (hF : Cm E mX9_refresh [rf E 0] H (fun w H_1 => w = none ∧ (Cm E mX9_isThing [rf E 0, .int x1] H_1 (fun w H_2 => ∃ r_3 : Int32, w = some (.int r_3) ∧ ((r_3 = 0 → (Q (some (.int (-2 : Int32))) H_2)) ∧ (¬ r_3 = 0 → ((x2 < 0 → (Q (some (.int (-2 : Int32))) H_2)) ∧ (¬ x2 < 0 → ((x2 ≤ (2 : Int32) → (Cm E mX0_ofThing [rf E 5, .int x1, .int x2] H_2 (fun w H_7 => ∃ r_8 : Int32, w = some (.int r_8) ∧ (Q (some (.int r_8)) H_7)))) ∧ (¬ x2 ≤ (2 : Int32) → (Q (some (.int (-2 : Int32))) H_2))))))))))) :
    Cm E mX9_thing [rf E 0, .int x1, .int x2] H Q :=
  cm_of (by decide +kernel) (Nat.le_of_ble_eq_true rfl) rfl (sgX9_thing_0  hF)
theorem sgX9_cousin_0 {E : En} {Q : Option Value → Hi → Prop} {H : Hi} {x1 : Int32} {x2 : Int32} 
    (hF : Cm E mX9_refresh [rf E 0] H (fun w H_1 => w = none ∧ (Cm E mX9_isCousin [rf E 0, .int x1] H_1 (fun w H_2 => ∃ r_3 : Int32, w = some (.int r_3) ∧ ((r_3 = 0 → (Q (some (.int (-2 : Int32))) H_2)) ∧ (¬ r_3 = 0 → (Cm E mX9_isBit [.int x2] H_2 (fun w H_5 => ∃ r_6 : Int32, w = some (.int r_6) ∧ ((¬ r_6 = 0 → (Cm E mX0_ofCousin [rf E 5, .int x1, .int x2] H_5 (fun w H_8 => ∃ r_9 : Int32, w = some (.int r_9) ∧ (Q (some (.int r_9)) H_8)))) ∧ (r_6 = 0 → (Q (some (.int (-2 : Int32))) H_5))))))))))) :
    Rm E mX9_cousin Q 0 [some (rf E 0), some (.int x1), some (.int x2)] [] H := by
  refine rn_aload_n dX9_cousin_0 rfl ?_
  refine rm_callV (c0 := 0) (As := []) (st := []) mlRX9_103 mdX9_refresh (Nat.le_of_ble_eq_true rfl) rfl (by decide) (by decide) rfl rfl rfl (Nat.le_of_ble_eq_true rfl) ⟨Nat.le_refl _, Nat.le_refl _⟩ dX9_cousin_1 ?_
  refine cm_mono hF (fun w H_1 hF => ?_)
  obtain ⟨rfl, hF⟩ := hF
  refine rn_aload_n dX9_cousin_4 rfl ?_
  refine rn_iload_n dX9_cousin_5 rfl ?_
  refine rm_callV (c0 := 0) (As := [.int x1]) (st := []) mlRX9_113 mdX9_isCousin (Nat.le_of_ble_eq_true rfl) rfl (by decide) (by decide) rfl rfl rfl (Nat.le_of_ble_eq_true rfl) ⟨Nat.le_refl _, Nat.le_refl _⟩ dX9_cousin_6 ?_
  refine cm_mono hF (fun w H_2 hF => ?_)
  obtain ⟨r_3, rfl, hF⟩ := hF
  refine rn_if_eq (tgt := 19) dX9_cousin_9 (by decide) (fun hc_4 => ?_) (fun hc_4 => ?_)
  · replace hF := hF.1 hc_4
    refine rn_bipush (x := (-2 : Int32)) dX9_cousin_19 (by decide) ?_
    exact rm_iret rfl dX9_cousin_21 hF
  · replace hF := hF.2 hc_4
    refine rn_iload_n dX9_cousin_12 rfl ?_
    refine rm_callS (As := [.int x2]) (st := []) mlRX9_116 mdX9_isBit (Nat.le_of_ble_eq_true rfl) rfl rfl (Nat.le_of_ble_eq_true rfl) ⟨Nat.le_refl _, Nat.le_refl _⟩ dX9_cousin_13 ?_
    refine cm_mono hF (fun w H_5 hF => ?_)
    obtain ⟨r_6, rfl, hF⟩ := hF
    refine rn_if_ne (tgt := 22) dX9_cousin_16 (by decide) (fun hc_7 => ?_) (fun hc_7 => ?_)
    · replace hF := hF.1 hc_7
      refine rn_aload_n dX9_cousin_22 rfl ?_
      refine rm_getr (r := 5) flRX9_36 rfl (by decide) rfl dX9_cousin_23 ?_
      refine rn_iload_n dX9_cousin_26 rfl ?_
      refine rn_iload_n dX9_cousin_27 rfl ?_
      refine rm_callV (c0 := 5) (As := [.int x1, .int x2]) (st := []) mlRX9_119 mdX0_ofCousin (Nat.le_of_ble_eq_true rfl) rfl (by decide) (by decide) rfl rfl rfl (Nat.le_of_ble_eq_true rfl) ⟨Nat.le_refl _, Nat.le_refl _⟩ dX9_cousin_28 ?_
      refine cm_mono hF (fun w H_8 hF => ?_)
      obtain ⟨r_9, rfl, hF⟩ := hF
      exact rm_iret rfl dX9_cousin_31 hF
    · replace hF := hF.2 hc_7
      refine rn_bipush (x := (-2 : Int32)) dX9_cousin_19 (by decide) ?_
      exact rm_iret rfl dX9_cousin_21 hF
theorem cmX9_cousin {E : En} {Q : Option Value → Hi → Prop} {H : Hi} {x1 : Int32} {x2 : Int32} 
    (hF : Cm E mX9_refresh [rf E 0] H (fun w H_1 => w = none ∧ (Cm E mX9_isCousin [rf E 0, .int x1] H_1 (fun w H_2 => ∃ r_3 : Int32, w = some (.int r_3) ∧ ((r_3 = 0 → (Q (some (.int (-2 : Int32))) H_2)) ∧ (¬ r_3 = 0 → (Cm E mX9_isBit [.int x2] H_2 (fun w H_5 => ∃ r_6 : Int32, w = some (.int r_6) ∧ ((¬ r_6 = 0 → (Cm E mX0_ofCousin [rf E 5, .int x1, .int x2] H_5 (fun w H_8 => ∃ r_9 : Int32, w = some (.int r_9) ∧ (Q (some (.int r_9)) H_8)))) ∧ (r_6 = 0 → (Q (some (.int (-2 : Int32))) H_5))))))))))) :
    Cm E mX9_cousin [rf E 0, .int x1, .int x2] H Q :=
  cm_of (by decide +kernel) (Nat.le_of_ble_eq_true rfl) rfl (sgX9_cousin_0  hF)
theorem sgX9_room_0 {E : En} {Q : Option Value → Hi → Prop} {H : Hi} {x1 : Int32} 
    (hF : (x1 < (1 : Int32) → (Q (some (.int (-2 : Int32))) H)) ∧ (¬ x1 < (1 : Int32) → ((x1 ≤ (72 : Int32) → (∀ H_3 : Hi, H_3 = up H 0 9 (1 : Int32) → (∀ x2_4 : Int32, x2_4 = H_3 11 0 → (∀ H_5 : Hi, H_5 = up H_3 11 0 x1 → (Q (some (.int x2_4)) H_5))))) ∧ (¬ x1 ≤ (72 : Int32) → (Q (some (.int (-2 : Int32))) H))))) :
    Rm E mX9_room Q 0 [some (rf E 0), some (.int x1), none] [] H := by
  refine rn_iload_n dX9_room_0 rfl ?_
  refine rn_iconst (x := (1 : Int32)) dX9_room_1 (by decide) ?_
  refine rn_icmp_lt (tgt := 11) dX9_room_2 (by decide) (fun hc_1 => ?_) (fun hc_1 => ?_)
  · replace hF := hF.1 hc_1
    refine rn_bipush (x := (-2 : Int32)) dX9_room_11 (by decide) ?_
    exact rm_iret rfl dX9_room_13 hF
  · replace hF := hF.2 hc_1
    refine rn_iload_n dX9_room_5 rfl ?_
    refine rn_bipush (x := (72 : Int32)) dX9_room_6 (by decide) ?_
    refine rn_icmp_le (tgt := 14) dX9_room_8 (by decide) (fun hc_2 => ?_) (fun hc_2 => ?_)
    · replace hF := hF.1 hc_2
      refine rn_aload_n dX9_room_14 rfl ?_
      refine rn_iconst (x := (1 : Int32)) dX9_room_15 (by decide) ?_
      refine rm_putz flRX9_79 rfl (by decide) rfl rfl rfl dX9_room_16 (fun H_3 eH_3 => ?_)
      replace hF := hF H_3 eH_3
      refine rn_aload_n dX9_room_19 rfl ?_
      refine rm_getr (r := 11) flRX9_43 rfl (by decide) rfl dX9_room_20 ?_
      refine rm_geti flRX9_122 rfl (by decide) rfl dX9_room_23 ?_
      refine rn_istore_n dX9_room_26 rfl (by decide) (fun x2_4 ex2_4 => ?_)
      replace hF := hF x2_4 ex2_4
      refine rn_aload_n dX9_room_27 rfl ?_
      refine rm_getr (r := 11) flRX9_43 rfl (by decide) rfl dX9_room_28 ?_
      refine rn_iload_n dX9_room_31 rfl ?_
      refine rm_puti flRX9_122 rfl (by decide) rfl dX9_room_32 (fun H_5 eH_5 => ?_)
      replace hF := hF H_5 eH_5
      refine rn_iload_n dX9_room_35 rfl ?_
      exact rm_iret rfl dX9_room_36 hF
    · replace hF := hF.2 hc_2
      refine rn_bipush (x := (-2 : Int32)) dX9_room_11 (by decide) ?_
      exact rm_iret rfl dX9_room_13 hF
theorem cmX9_room {E : En} {Q : Option Value → Hi → Prop} {H : Hi} {x1 : Int32} 
    (hF : (x1 < (1 : Int32) → (Q (some (.int (-2 : Int32))) H)) ∧ (¬ x1 < (1 : Int32) → ((x1 ≤ (72 : Int32) → (∀ H_3 : Hi, H_3 = up H 0 9 (1 : Int32) → (∀ x2_4 : Int32, x2_4 = H_3 11 0 → (∀ H_5 : Hi, H_5 = up H_3 11 0 x1 → (Q (some (.int x2_4)) H_5))))) ∧ (¬ x1 ≤ (72 : Int32) → (Q (some (.int (-2 : Int32))) H))))) :
    Cm E mX9_room [rf E 0, .int x1] H Q :=
  cm_of (by decide +kernel) (Nat.le_of_ble_eq_true rfl) rfl (sgX9_room_0  hF)
theorem sgX9_aunt_0 {E : En} {Q : Option Value → Hi → Prop} {H : Hi} {x1 : Int32} 
    (hF : (x1 < 0 → (Q (some (.int (-2 : Int32))) H)) ∧ (¬ x1 < 0 → ((x1 < (16777216 : Int32) → (∀ H_3 : Hi, H_3 = up H 0 9 (1 : Int32) → (∀ x2_4 : Int32, x2_4 = H_3 11 1 → (∀ H_5 : Hi, H_5 = up H_3 11 1 x1 → (Q (some (.int x2_4)) H_5))))) ∧ (¬ x1 < (16777216 : Int32) → (Q (some (.int (-2 : Int32))) H))))) :
    Rm E mX9_aunt Q 0 [some (rf E 0), some (.int x1), none] [] H := by
  refine rn_iload_n dX9_aunt_0 rfl ?_
  refine rn_if_lt (tgt := 10) dX9_aunt_1 (by decide) (fun hc_1 => ?_) (fun hc_1 => ?_)
  · replace hF := hF.1 hc_1
    refine rn_bipush (x := (-2 : Int32)) dX9_aunt_10 (by decide) ?_
    exact rm_iret rfl dX9_aunt_12 hF
  · replace hF := hF.2 hc_1
    refine rn_iload_n dX9_aunt_4 rfl ?_
    refine rn_ldc coRX9_125 dX9_aunt_5 ?_
    refine rn_icmp_lt (tgt := 13) dX9_aunt_7 (by decide) (fun hc_2 => ?_) (fun hc_2 => ?_)
    · replace hF := hF.1 hc_2
      refine rn_aload_n dX9_aunt_13 rfl ?_
      refine rn_iconst (x := (1 : Int32)) dX9_aunt_14 (by decide) ?_
      refine rm_putz flRX9_79 rfl (by decide) rfl rfl rfl dX9_aunt_15 (fun H_3 eH_3 => ?_)
      replace hF := hF H_3 eH_3
      refine rn_aload_n dX9_aunt_18 rfl ?_
      refine rm_getr (r := 11) flRX9_43 rfl (by decide) rfl dX9_aunt_19 ?_
      refine rm_geti flRX9_126 rfl (by decide) rfl dX9_aunt_22 ?_
      refine rn_istore_n dX9_aunt_25 rfl (by decide) (fun x2_4 ex2_4 => ?_)
      replace hF := hF x2_4 ex2_4
      refine rn_aload_n dX9_aunt_26 rfl ?_
      refine rm_getr (r := 11) flRX9_43 rfl (by decide) rfl dX9_aunt_27 ?_
      refine rn_iload_n dX9_aunt_30 rfl ?_
      refine rm_puti flRX9_126 rfl (by decide) rfl dX9_aunt_31 (fun H_5 eH_5 => ?_)
      replace hF := hF H_5 eH_5
      refine rn_iload_n dX9_aunt_34 rfl ?_
      exact rm_iret rfl dX9_aunt_35 hF
    · replace hF := hF.2 hc_2
      refine rn_bipush (x := (-2 : Int32)) dX9_aunt_10 (by decide) ?_
      exact rm_iret rfl dX9_aunt_12 hF
theorem cmX9_aunt {E : En} {Q : Option Value → Hi → Prop} {H : Hi} {x1 : Int32} 
    (hF : (x1 < 0 → (Q (some (.int (-2 : Int32))) H)) ∧ (¬ x1 < 0 → ((x1 < (16777216 : Int32) → (∀ H_3 : Hi, H_3 = up H 0 9 (1 : Int32) → (∀ x2_4 : Int32, x2_4 = H_3 11 1 → (∀ H_5 : Hi, H_5 = up H_3 11 1 x1 → (Q (some (.int x2_4)) H_5))))) ∧ (¬ x1 < (16777216 : Int32) → (Q (some (.int (-2 : Int32))) H))))) :
    Cm E mX9_aunt [rf E 0, .int x1] H Q :=
  cm_of (by decide +kernel) (Nat.le_of_ble_eq_true rfl) rfl (sgX9_aunt_0  hF)
theorem sgX9_hand_0 {E : En} {Q : Option Value → Hi → Prop} {H : Hi} {x1 : Int32} {x2 : Int32} {x3 : Int32} {x4 : Int32} 
    (hF : ∀ H_1 : Hi, H_1 = up H 0 9 (1 : Int32) → (Cm E mX8_addHand [rf E 11, .int x1, .int x2, .int x3, .int x4] H_1 (fun w H_2 => ∃ r_3 : Int32, w = some (.int r_3) ∧ (Q (some (.int r_3)) H_2)))) :
    Rm E mX9_hand Q 0 [some (rf E 0), some (.int x1), some (.int x2), some (.int x3), some (.int x4)] [] H := by
  refine rn_aload_n dX9_hand_0 rfl ?_
  refine rn_iconst (x := (1 : Int32)) dX9_hand_1 (by decide) ?_
  refine rm_putz flRX9_79 rfl (by decide) rfl rfl rfl dX9_hand_2 (fun H_1 eH_1 => ?_)
  replace hF := hF H_1 eH_1
  refine rn_aload_n dX9_hand_5 rfl ?_
  refine rm_getr (r := 11) flRX9_43 rfl (by decide) rfl dX9_hand_6 ?_
  refine rn_iload_n dX9_hand_9 rfl ?_
  refine rn_iload_n dX9_hand_10 rfl ?_
  refine rn_iload_n dX9_hand_11 rfl ?_
  refine rn_iload dX9_hand_12 rfl ?_
  refine rm_callV (c0 := 11) (As := [.int x1, .int x2, .int x3, .int x4]) (st := []) mlRX9_129 mdX8_addHand (Nat.le_of_ble_eq_true rfl) rfl (by decide) (by decide) rfl rfl rfl (Nat.le_of_ble_eq_true rfl) ⟨Nat.le_refl _, Nat.le_refl _⟩ dX9_hand_14 ?_
  refine cm_mono hF (fun w H_2 hF => ?_)
  obtain ⟨r_3, rfl, hF⟩ := hF
  exact rm_iret rfl dX9_hand_17 hF
theorem cmX9_hand {E : En} {Q : Option Value → Hi → Prop} {H : Hi} {x1 : Int32} {x2 : Int32} {x3 : Int32} {x4 : Int32} 
    (hF : ∀ H_1 : Hi, H_1 = up H 0 9 (1 : Int32) → (Cm E mX8_addHand [rf E 11, .int x1, .int x2, .int x3, .int x4] H_1 (fun w H_2 => ∃ r_3 : Int32, w = some (.int r_3) ∧ (Q (some (.int r_3)) H_2)))) :
    Cm E mX9_hand [rf E 0, .int x1, .int x2, .int x3, .int x4] H Q :=
  cm_of (by decide +kernel) (Nat.le_of_ble_eq_true rfl) rfl (sgX9_hand_0  hF)
theorem sgX9_hole_0 {E : En} {Q : Option Value → Hi → Prop} {H : Hi} {x1 : Int32} {x2 : Int32} 
    (hF : ∀ H_1 : Hi, H_1 = up H 0 9 (1 : Int32) → (Cm E mX8_addHole [rf E 11, .int x1, .int x2] H_1 (fun w H_2 => ∃ r_3 : Int32, w = some (.int r_3) ∧ (Q (some (.int r_3)) H_2)))) :
    Rm E mX9_hole Q 0 [some (rf E 0), some (.int x1), some (.int x2)] [] H := by
  refine rn_aload_n dX9_hole_0 rfl ?_
  refine rn_iconst (x := (1 : Int32)) dX9_hole_1 (by decide) ?_
  refine rm_putz flRX9_79 rfl (by decide) rfl rfl rfl dX9_hole_2 (fun H_1 eH_1 => ?_)
  replace hF := hF H_1 eH_1
  refine rn_aload_n dX9_hole_5 rfl ?_
  refine rm_getr (r := 11) flRX9_43 rfl (by decide) rfl dX9_hole_6 ?_
  refine rn_iload_n dX9_hole_9 rfl ?_
  refine rn_iload_n dX9_hole_10 rfl ?_
  refine rm_callV (c0 := 11) (As := [.int x1, .int x2]) (st := []) mlRX9_133 mdX8_addHole (Nat.le_of_ble_eq_true rfl) rfl (by decide) (by decide) rfl rfl rfl (Nat.le_of_ble_eq_true rfl) ⟨Nat.le_refl _, Nat.le_refl _⟩ dX9_hole_11 ?_
  refine cm_mono hF (fun w H_2 hF => ?_)
  obtain ⟨r_3, rfl, hF⟩ := hF
  exact rm_iret rfl dX9_hole_14 hF
theorem cmX9_hole {E : En} {Q : Option Value → Hi → Prop} {H : Hi} {x1 : Int32} {x2 : Int32} 
    (hF : ∀ H_1 : Hi, H_1 = up H 0 9 (1 : Int32) → (Cm E mX8_addHole [rf E 11, .int x1, .int x2] H_1 (fun w H_2 => ∃ r_3 : Int32, w = some (.int r_3) ∧ (Q (some (.int r_3)) H_2)))) :
    Cm E mX9_hole [rf E 0, .int x1, .int x2] H Q :=
  cm_of (by decide +kernel) (Nat.le_of_ble_eq_true rfl) rfl (sgX9_hole_0  hF)
theorem sgX9_back_0 {E : En} {Q : Option Value → Hi → Prop} {H : Hi} {x1 : Int32} 
    (hF : Cm E mX9_isBit [.int x1] H (fun w H_1 => ∃ r_2 : Int32, w = some (.int r_2) ∧ ((¬ r_2 = 0 → ((¬ x1 = 0 → (∀ x2_5 : Int32, x2_5 = H_1 11 5 → ((¬ x2_5 = 0 → (∀ H_7 : Hi, H_7 = up H_1 0 9 (1 : Int32) → ((¬ x1 = 0 → (∀ H_9 : Hi, H_9 = up H_7 11 5 (x2_5 - (1 : Int32)) → (Q (some (.int (x2_5 - (1 : Int32)))) H_9))) ∧ (x1 = 0 → (∀ H_10 : Hi, H_10 = up H_7 11 2 (x2_5 - (1 : Int32)) → (Q (some (.int (x2_5 - (1 : Int32)))) H_10)))))) ∧ (x2_5 = 0 → (Q (some (.int (-3 : Int32))) H_1))))) ∧ (x1 = 0 → (∀ x2_11 : Int32, x2_11 = H_1 11 2 → ((¬ x2_11 = 0 → (∀ H_13 : Hi, H_13 = up H_1 0 9 (1 : Int32) → ((¬ x1 = 0 → (∀ H_15 : Hi, H_15 = up H_13 11 5 (x2_11 - (1 : Int32)) → (Q (some (.int (x2_11 - (1 : Int32)))) H_15))) ∧ (x1 = 0 → (∀ H_16 : Hi, H_16 = up H_13 11 2 (x2_11 - (1 : Int32)) → (Q (some (.int (x2_11 - (1 : Int32)))) H_16)))))) ∧ (x2_11 = 0 → (Q (some (.int (-3 : Int32))) H_1))))))) ∧ (r_2 = 0 → (Q (some (.int (-2 : Int32))) H_1))))) :
    Rm E mX9_back Q 0 [some (rf E 0), some (.int x1), none] [] H := by
  refine rn_iload_n dX9_back_0 rfl ?_
  refine rm_callS (As := [.int x1]) (st := []) mlRX9_116 mdX9_isBit (Nat.le_of_ble_eq_true rfl) rfl rfl (Nat.le_of_ble_eq_true rfl) ⟨Nat.le_refl _, Nat.le_refl _⟩ dX9_back_1 ?_
  refine cm_mono hF (fun w H_1 hF => ?_)
  obtain ⟨r_2, rfl, hF⟩ := hF
  refine rn_if_ne (tgt := 10) dX9_back_4 (by decide) (fun hc_3 => ?_) (fun hc_3 => ?_)
  · replace hF := hF.1 hc_3
    refine rn_iload_n dX9_back_10 rfl ?_
    refine rn_if_ne (tgt := 24) dX9_back_11 (by decide) (fun hc_4 => ?_) (fun hc_4 => ?_)
    · replace hF := hF.1 hc_4
      refine rn_aload_n dX9_back_24 rfl ?_
      refine rm_getr (r := 11) flRX9_43 rfl (by decide) rfl dX9_back_25 ?_
      refine rm_geti flRX9_139 rfl (by decide) rfl dX9_back_28 ?_
      refine rn_istore_n dX9_back_31 rfl (by decide) (fun x2_5 ex2_5 => ?_)
      replace hF := hF x2_5 ex2_5
      refine rn_iload_n dX9_back_32 rfl ?_
      refine rn_if_ne (tgt := 39) dX9_back_33 (by decide) (fun hc_6 => ?_) (fun hc_6 => ?_)
      · replace hF := hF.1 hc_6
        refine rn_aload_n dX9_back_39 rfl ?_
        refine rn_iconst (x := (1 : Int32)) dX9_back_40 (by decide) ?_
        refine rm_putz flRX9_79 rfl (by decide) rfl rfl rfl dX9_back_41 (fun H_7 eH_7 => ?_)
        replace hF := hF H_7 eH_7
        refine rn_iload_n dX9_back_44 rfl ?_
        refine rn_if_ne (tgt := 61) dX9_back_45 (by decide) (fun hc_8 => ?_) (fun hc_8 => ?_)
        · replace hF := hF.1 hc_8
          refine rn_aload_n dX9_back_61 rfl ?_
          refine rm_getr (r := 11) flRX9_43 rfl (by decide) rfl dX9_back_62 ?_
          refine rn_iload_n dX9_back_65 rfl ?_
          refine rn_iconst (x := (1 : Int32)) dX9_back_66 (by decide) ?_
          refine rn_isub dX9_back_67 ?_
          refine rm_puti flRX9_139 rfl (by decide) rfl dX9_back_68 (fun H_9 eH_9 => ?_)
          replace hF := hF H_9 eH_9
          refine rn_iload_n dX9_back_71 rfl ?_
          refine rn_iconst (x := (1 : Int32)) dX9_back_72 (by decide) ?_
          refine rn_isub dX9_back_73 ?_
          exact rm_iret rfl dX9_back_74 hF
        · replace hF := hF.2 hc_8
          refine rn_aload_n dX9_back_48 rfl ?_
          refine rm_getr (r := 11) flRX9_43 rfl (by decide) rfl dX9_back_49 ?_
          refine rn_iload_n dX9_back_52 rfl ?_
          refine rn_iconst (x := (1 : Int32)) dX9_back_53 (by decide) ?_
          refine rn_isub dX9_back_54 ?_
          refine rm_puti flRX9_136 rfl (by decide) rfl dX9_back_55 (fun H_10 eH_10 => ?_)
          replace hF := hF H_10 eH_10
          refine rn_goto (tgt := 71) dX9_back_58 (by decide) ?_
          refine rn_iload_n dX9_back_71 rfl ?_
          refine rn_iconst (x := (1 : Int32)) dX9_back_72 (by decide) ?_
          refine rn_isub dX9_back_73 ?_
          exact rm_iret rfl dX9_back_74 hF
      · replace hF := hF.2 hc_6
        refine rn_bipush (x := (-3 : Int32)) dX9_back_36 (by decide) ?_
        exact rm_iret rfl dX9_back_38 hF
    · replace hF := hF.2 hc_4
      refine rn_aload_n dX9_back_14 rfl ?_
      refine rm_getr (r := 11) flRX9_43 rfl (by decide) rfl dX9_back_15 ?_
      refine rm_geti flRX9_136 rfl (by decide) rfl dX9_back_18 ?_
      refine rn_goto (tgt := 31) dX9_back_21 (by decide) ?_
      refine rn_istore_n dX9_back_31 rfl (by decide) (fun x2_11 ex2_11 => ?_)
      replace hF := hF x2_11 ex2_11
      refine rn_iload_n dX9_back_32 rfl ?_
      refine rn_if_ne (tgt := 39) dX9_back_33 (by decide) (fun hc_12 => ?_) (fun hc_12 => ?_)
      · replace hF := hF.1 hc_12
        refine rn_aload_n dX9_back_39 rfl ?_
        refine rn_iconst (x := (1 : Int32)) dX9_back_40 (by decide) ?_
        refine rm_putz flRX9_79 rfl (by decide) rfl rfl rfl dX9_back_41 (fun H_13 eH_13 => ?_)
        replace hF := hF H_13 eH_13
        refine rn_iload_n dX9_back_44 rfl ?_
        refine rn_if_ne (tgt := 61) dX9_back_45 (by decide) (fun hc_14 => ?_) (fun hc_14 => ?_)
        · replace hF := hF.1 hc_14
          refine rn_aload_n dX9_back_61 rfl ?_
          refine rm_getr (r := 11) flRX9_43 rfl (by decide) rfl dX9_back_62 ?_
          refine rn_iload_n dX9_back_65 rfl ?_
          refine rn_iconst (x := (1 : Int32)) dX9_back_66 (by decide) ?_
          refine rn_isub dX9_back_67 ?_
          refine rm_puti flRX9_139 rfl (by decide) rfl dX9_back_68 (fun H_15 eH_15 => ?_)
          replace hF := hF H_15 eH_15
          refine rn_iload_n dX9_back_71 rfl ?_
          refine rn_iconst (x := (1 : Int32)) dX9_back_72 (by decide) ?_
          refine rn_isub dX9_back_73 ?_
          exact rm_iret rfl dX9_back_74 hF
        · replace hF := hF.2 hc_14
          refine rn_aload_n dX9_back_48 rfl ?_
          refine rm_getr (r := 11) flRX9_43 rfl (by decide) rfl dX9_back_49 ?_
          refine rn_iload_n dX9_back_52 rfl ?_
          refine rn_iconst (x := (1 : Int32)) dX9_back_53 (by decide) ?_
          refine rn_isub dX9_back_54 ?_
          refine rm_puti flRX9_136 rfl (by decide) rfl dX9_back_55 (fun H_16 eH_16 => ?_)
          replace hF := hF H_16 eH_16
          refine rn_goto (tgt := 71) dX9_back_58 (by decide) ?_
          refine rn_iload_n dX9_back_71 rfl ?_
          refine rn_iconst (x := (1 : Int32)) dX9_back_72 (by decide) ?_
          refine rn_isub dX9_back_73 ?_
          exact rm_iret rfl dX9_back_74 hF
      · replace hF := hF.2 hc_12
        refine rn_bipush (x := (-3 : Int32)) dX9_back_36 (by decide) ?_
        exact rm_iret rfl dX9_back_38 hF
  · replace hF := hF.2 hc_3
    refine rn_bipush (x := (-2 : Int32)) dX9_back_7 (by decide) ?_
    exact rm_iret rfl dX9_back_9 hF
theorem cmX9_back {E : En} {Q : Option Value → Hi → Prop} {H : Hi} {x1 : Int32} 
    (hF : Cm E mX9_isBit [.int x1] H (fun w H_1 => ∃ r_2 : Int32, w = some (.int r_2) ∧ ((¬ r_2 = 0 → ((¬ x1 = 0 → (∀ x2_5 : Int32, x2_5 = H_1 11 5 → ((¬ x2_5 = 0 → (∀ H_7 : Hi, H_7 = up H_1 0 9 (1 : Int32) → ((¬ x1 = 0 → (∀ H_9 : Hi, H_9 = up H_7 11 5 (x2_5 - (1 : Int32)) → (Q (some (.int (x2_5 - (1 : Int32)))) H_9))) ∧ (x1 = 0 → (∀ H_10 : Hi, H_10 = up H_7 11 2 (x2_5 - (1 : Int32)) → (Q (some (.int (x2_5 - (1 : Int32)))) H_10)))))) ∧ (x2_5 = 0 → (Q (some (.int (-3 : Int32))) H_1))))) ∧ (x1 = 0 → (∀ x2_11 : Int32, x2_11 = H_1 11 2 → ((¬ x2_11 = 0 → (∀ H_13 : Hi, H_13 = up H_1 0 9 (1 : Int32) → ((¬ x1 = 0 → (∀ H_15 : Hi, H_15 = up H_13 11 5 (x2_11 - (1 : Int32)) → (Q (some (.int (x2_11 - (1 : Int32)))) H_15))) ∧ (x1 = 0 → (∀ H_16 : Hi, H_16 = up H_13 11 2 (x2_11 - (1 : Int32)) → (Q (some (.int (x2_11 - (1 : Int32)))) H_16)))))) ∧ (x2_11 = 0 → (Q (some (.int (-3 : Int32))) H_1))))))) ∧ (r_2 = 0 → (Q (some (.int (-2 : Int32))) H_1))))) :
    Cm E mX9_back [rf E 0, .int x1] H Q :=
  cm_of (by decide +kernel) (Nat.le_of_ble_eq_true rfl) rfl (sgX9_back_0  hF)
theorem sgX9_read_0 {E : En} {Q : Option Value → Hi → Prop} {H : Hi} {x1 : Int32} 
    (hF : Cm E mX9_isSheet [.int x1] H (fun w H_1 => ∃ r_2 : Int32, w = some (.int r_2) ∧ ((¬ r_2 = 0 → (∃ j_4 : Nat, (j_4 < 4 ∧ x1 = nI j_4) ∧ ((0 ≤ (H_1 (91 + 2 * j_4) 1) → (∀ H_6 : Hi, H_6 = up H_1 0 9 (1 : Int32) → (Rm E mX9_read Q 40 [some (rf E 0), none, some (rf E (91 + 2 * j_4)), some (.int (0 : Int32)), some (.int (0 : Int32)), none] [] H_6))) ∧ (¬ 0 ≤ (H_1 (91 + 2 * j_4) 1) → (Cm E mX9_found [rf E 0, .int (1 : Int32)] H_1 (fun w H_9 => ∃ r_10 : Int32, w = some (.int r_10) ∧ (Q (some (.int r_10)) H_9))))))) ∧ (r_2 = 0 → (Q (some (.int (-2 : Int32))) H_1))))) :
    Rm E mX9_read Q 0 [some (rf E 0), some (.int x1), none, none, none, none] [] H := by
  refine rn_iload_n dX9_read_0 rfl ?_
  refine rm_callS (As := [.int x1]) (st := []) mlRX9_142 mdX9_isSheet (Nat.le_of_ble_eq_true rfl) rfl rfl (Nat.le_of_ble_eq_true rfl) ⟨Nat.le_refl _, Nat.le_refl _⟩ dX9_read_1 ?_
  refine cm_mono hF (fun w H_1 hF => ?_)
  obtain ⟨r_2, rfl, hF⟩ := hF
  refine rn_if_ne (tgt := 10) dX9_read_4 (by decide) (fun hc_3 => ?_) (fun hc_3 => ?_)
  · replace hF := hF.1 hc_3
    refine rn_aload_n dX9_read_10 rfl ?_
    refine rm_getr (r := 90) flRX9_74 rfl (by decide) rfl dX9_read_11 ?_
    refine rn_iload_n dX9_read_14 rfl ?_
    obtain ⟨j_4, hj_4, hF⟩ := hF
    refine rj_aald (Cn := RX5) (r := (91 + 2 * j_4)) hj_4 (sh_she _ hj_4.1).2.2.1 rfl (by decide) (by decide) rfl (by decide) dX9_read_15 ?_
    refine rn_astore_n dX9_read_16 rfl (by decide) ?_
    refine rn_aload_n dX9_read_17 rfl ?_
    refine rm_geti flRX9_145 (sh_she _ hj_4.1).1 (sh_she _ hj_4.1).2.1 (sh_she _ hj_4.1).2.2.2.2.1 dX9_read_18 ?_
    refine rn_if_ge (tgt := 30) dX9_read_21 (by decide) (fun hc_5 => ?_) (fun hc_5 => ?_)
    · replace hF := hF.1 hc_5
      refine rn_aload_n dX9_read_30 rfl ?_
      refine rn_iconst (x := (1 : Int32)) dX9_read_31 (by decide) ?_
      refine rm_putz flRX9_79 rfl (by decide) rfl rfl rfl dX9_read_32 (fun H_6 eH_6 => ?_)
      replace hF := hF H_6 eH_6
      refine rn_iconst (x := (0 : Int32)) dX9_read_35 (by decide) ?_
      refine rn_istore_n dX9_read_36 rfl (by decide) (fun x3_7 ex3_7 => ?_)
      subst ex3_7
      refine rn_iconst (x := (0 : Int32)) dX9_read_37 (by decide) ?_
      refine rn_istore dX9_read_38 rfl (by decide) (fun x4_8 ex4_8 => ?_)
      subst ex4_8
      exact rn_wk (L' := [some (rf E 0), none, some (rf E (91 + 2 * j_4)), some (.int (0 : Int32)), some (.int (0 : Int32)), none]) (⟨rfl, ⟨rfl, ⟨rfl, ⟨rfl, trivial⟩⟩⟩⟩) hF
    · replace hF := hF.2 hc_5
      refine rn_aload_n dX9_read_24 rfl ?_
      refine rn_iconst (x := (1 : Int32)) dX9_read_25 (by decide) ?_
      refine rm_callV (c0 := 0) (As := [.int (1 : Int32)]) (st := []) mlRX9_146 mdX9_found (Nat.le_of_ble_eq_true rfl) rfl (by decide) (by decide) rfl rfl rfl (Nat.le_of_ble_eq_true rfl) ⟨Nat.le_refl _, Nat.le_refl _⟩ dX9_read_26 ?_
      refine cm_mono hF (fun w H_9 hF => ?_)
      obtain ⟨r_10, rfl, hF⟩ := hF
      exact rm_iret rfl dX9_read_29 hF
  · replace hF := hF.2 hc_3
    refine rn_bipush (x := (-2 : Int32)) dX9_read_7 (by decide) ?_
    exact rm_iret rfl dX9_read_9 hF
theorem cmX9_read {E : En} {Q : Option Value → Hi → Prop} {H : Hi} {x1 : Int32} 
    (hF : Cm E mX9_isSheet [.int x1] H (fun w H_1 => ∃ r_2 : Int32, w = some (.int r_2) ∧ ((¬ r_2 = 0 → (∃ j_4 : Nat, (j_4 < 4 ∧ x1 = nI j_4) ∧ ((0 ≤ (H_1 (91 + 2 * j_4) 1) → (∀ H_6 : Hi, H_6 = up H_1 0 9 (1 : Int32) → (Rm E mX9_read Q 40 [some (rf E 0), none, some (rf E (91 + 2 * j_4)), some (.int (0 : Int32)), some (.int (0 : Int32)), none] [] H_6))) ∧ (¬ 0 ≤ (H_1 (91 + 2 * j_4) 1) → (Cm E mX9_found [rf E 0, .int (1 : Int32)] H_1 (fun w H_9 => ∃ r_10 : Int32, w = some (.int r_10) ∧ (Q (some (.int r_10)) H_9))))))) ∧ (r_2 = 0 → (Q (some (.int (-2 : Int32))) H_1))))) :
    Cm E mX9_read [rf E 0, .int x1] H Q :=
  cm_of (by decide +kernel) (Nat.le_of_ble_eq_true rfl) rfl (sgX9_read_0  hF)
theorem sgX9_read_40 {E : En} {Q : Option Value → Hi → Prop} {H : Hi} {q2 : Nat} {x3 : Int32} {x4 : Int32} (hq2 : q2 < 4)
    (hF : ((H (91 + 2 * q2) 1) ≤ (x4 + (3 : Int32)) → (Q (some (.int x3)) H)) ∧ (¬ (H (91 + 2 * q2) 1) ≤ (x4 + (3 : Int32)) → (∃ j_2 : Nat, (j_2 < 60 ∧ x4 = nI j_2) ∧ (∃ j_3 : Nat, (j_3 < 60 ∧ x4 + (1 : Int32) = nI j_3) ∧ (∃ j_4 : Nat, (j_4 < 60 ∧ x4 + (2 : Int32) = nI j_4) ∧ (∃ j_5 : Nat, (j_5 < 60 ∧ x4 + (3 : Int32) = nI j_5) ∧ (Cm E mX8_addHand [rf E 11, .int (H (92 + 2 * q2) j_2), .int (H (92 + 2 * q2) j_3), .int (H (92 + 2 * q2) j_4), .int (H (92 + 2 * q2) j_5)] H (fun w H_6 => ∃ r_7 : Int32, w = some (.int r_7) ∧ ((0 ≤ r_7 → (∀ x3_9 : Int32, x3_9 = x3 + (1 : Int32) → (∀ x4_10 : Int32, x4_10 = x4 + (4 : Int32) → (Rm E mX9_read Q 40 [some (rf E 0), none, some (rf E (91 + 2 * q2)), some (.int x3_9), some (.int x4_10), none] [] H_6)))) ∧ (¬ 0 ≤ r_7 → (Q (some (.int x3)) H_6))))))))))) :
    Rm E mX9_read Q 40 [some (rf E 0), none, some (rf E (91 + 2 * q2)), some (.int x3), some (.int x4), none] [] H := by
  refine rn_iload dX9_read_40 rfl ?_
  refine rn_iconst (x := (3 : Int32)) dX9_read_42 (by decide) ?_
  refine rn_iadd dX9_read_43 ?_
  refine rn_aload_n dX9_read_44 rfl ?_
  refine rm_geti flRX9_145 (sh_she _ hq2).1 (sh_she _ hq2).2.1 (sh_she _ hq2).2.2.2.2.1 dX9_read_45 ?_
  refine rn_icmp_ge (tgt := 105) dX9_read_48 (by decide) (fun hc_1 => ?_) (fun hc_1 => ?_)
  · replace hF := hF.1 hc_1
    refine rn_iload_n dX9_read_105 rfl ?_
    exact rm_iret rfl dX9_read_106 hF
  · replace hF := hF.2 hc_1
    refine rn_aload_n dX9_read_51 rfl ?_
    refine rm_getr (r := (92 + 2 * q2)) flRX9_149 (sh_she _ hq2).1 (sh_she _ hq2).2.1 (sh_she _ hq2).2.2.2.2.2.1 dX9_read_52 ?_
    refine rn_astore dX9_read_55 rfl (by decide) ?_
    refine rn_aload_n dX9_read_57 rfl ?_
    refine rm_getr (r := 11) flRX9_43 rfl (by decide) rfl dX9_read_58 ?_
    refine rn_aload dX9_read_61 rfl ?_
    refine rn_iload dX9_read_63 rfl ?_
    obtain ⟨j_2, hj_2, hF⟩ := hF
    refine rj_iald hj_2 (sh_she _ hq2).2.2.2.2.2.2.1 (sh_she _ hq2).2.2.2.2.2.2.2.1 (sh_she _ hq2).2.2.2.2.2.2.2.2 (by decide) dX9_read_65 ?_
    refine rn_aload dX9_read_66 rfl ?_
    refine rn_iload dX9_read_68 rfl ?_
    refine rn_iconst (x := (1 : Int32)) dX9_read_70 (by decide) ?_
    refine rn_iadd dX9_read_71 ?_
    obtain ⟨j_3, hj_3, hF⟩ := hF
    refine rj_iald hj_3 (sh_she _ hq2).2.2.2.2.2.2.1 (sh_she _ hq2).2.2.2.2.2.2.2.1 (sh_she _ hq2).2.2.2.2.2.2.2.2 (by decide) dX9_read_72 ?_
    refine rn_aload dX9_read_73 rfl ?_
    refine rn_iload dX9_read_75 rfl ?_
    refine rn_iconst (x := (2 : Int32)) dX9_read_77 (by decide) ?_
    refine rn_iadd dX9_read_78 ?_
    obtain ⟨j_4, hj_4, hF⟩ := hF
    refine rj_iald hj_4 (sh_she _ hq2).2.2.2.2.2.2.1 (sh_she _ hq2).2.2.2.2.2.2.2.1 (sh_she _ hq2).2.2.2.2.2.2.2.2 (by decide) dX9_read_79 ?_
    refine rn_aload dX9_read_80 rfl ?_
    refine rn_iload dX9_read_82 rfl ?_
    refine rn_iconst (x := (3 : Int32)) dX9_read_84 (by decide) ?_
    refine rn_iadd dX9_read_85 ?_
    obtain ⟨j_5, hj_5, hF⟩ := hF
    refine rj_iald hj_5 (sh_she _ hq2).2.2.2.2.2.2.1 (sh_she _ hq2).2.2.2.2.2.2.2.1 (sh_she _ hq2).2.2.2.2.2.2.2.2 (by decide) dX9_read_86 ?_
    refine rm_callV (c0 := 11) (As := [.int (H (92 + 2 * q2) j_2), .int (H (92 + 2 * q2) j_3), .int (H (92 + 2 * q2) j_4), .int (H (92 + 2 * q2) j_5)]) (st := []) mlRX9_129 mdX8_addHand (Nat.le_of_ble_eq_true rfl) rfl (by decide) (by decide) rfl rfl rfl (Nat.le_of_ble_eq_true rfl) ⟨Nat.le_refl _, Nat.le_refl _⟩ dX9_read_87 ?_
    refine cm_mono hF (fun w H_6 hF => ?_)
    obtain ⟨r_7, rfl, hF⟩ := hF
    refine rn_if_ge (tgt := 96) dX9_read_90 (by decide) (fun hc_8 => ?_) (fun hc_8 => ?_)
    · replace hF := hF.1 hc_8
      refine rn_iinc (w := (1 : Int32)) dX9_read_96 rfl (by decide) rfl (by decide) (fun x3_9 ex3_9 => ?_)
      replace hF := hF x3_9 ex3_9
      refine rn_iinc (w := (4 : Int32)) dX9_read_99 rfl (by decide) rfl (by decide) (fun x4_10 ex4_10 => ?_)
      replace hF := hF x4_10 ex4_10
      refine rn_goto (tgt := 40) dX9_read_102 (by decide) ?_
      exact rn_wk (L' := [some (rf E 0), none, some (rf E (91 + 2 * q2)), some (.int x3_9), some (.int x4_10), none]) (⟨rfl, ⟨rfl, ⟨rfl, ⟨rfl, trivial⟩⟩⟩⟩) hF
    · replace hF := hF.2 hc_8
      refine rn_goto (tgt := 105) dX9_read_93 (by decide) ?_
      refine rn_iload_n dX9_read_105 rfl ?_
      exact rm_iret rfl dX9_read_106 hF
theorem sgX9_where_0 {E : En} {Q : Option Value → Hi → Prop} {H : Hi} {x1 : Int32} {x2 : Int32} 
    (hF : Cm E mX9_refresh [rf E 0] H (fun w H_1 => w = none ∧ (Cm E mX9_isHour [.int x1] H_1 (fun w H_2 => ∃ r_3 : Int32, w = some (.int r_3) ∧ ((r_3 = 0 → (Q (some (.int (-2 : Int32))) H_2)) ∧ (¬ r_3 = 0 → (Cm E mX9_isThing [rf E 0, .int x2] H_2 (fun w H_5 => ∃ r_6 : Int32, w = some (.int r_6) ∧ ((¬ r_6 = 0 → (∃ j_8 : Nat, (j_8 < 24 ∧ x1 = nI j_8) ∧ (Cm E mX6_placeOf [rf E (28 + 2 * j_8), .int x2] H_5 (fun w H_9 => ∃ r_10 : Int32, w = some (.int r_10) ∧ (Q (some (.int r_10)) H_9))))) ∧ (r_6 = 0 → (Q (some (.int (-2 : Int32))) H_5))))))))))) :
    Rm E mX9_where Q 0 [some (rf E 0), some (.int x1), some (.int x2)] [] H := by
  refine rn_aload_n dX9_where_0 rfl ?_
  refine rm_callV (c0 := 0) (As := []) (st := []) mlRX9_103 mdX9_refresh (Nat.le_of_ble_eq_true rfl) rfl (by decide) (by decide) rfl rfl rfl (Nat.le_of_ble_eq_true rfl) ⟨Nat.le_refl _, Nat.le_refl _⟩ dX9_where_1 ?_
  refine cm_mono hF (fun w H_1 hF => ?_)
  obtain ⟨rfl, hF⟩ := hF
  refine rn_iload_n dX9_where_4 rfl ?_
  refine rm_callS (As := [.int x1]) (st := []) mlRX9_153 mdX9_isHour (Nat.le_of_ble_eq_true rfl) rfl rfl (Nat.le_of_ble_eq_true rfl) ⟨Nat.le_refl _, Nat.le_refl _⟩ dX9_where_5 ?_
  refine cm_mono hF (fun w H_2 hF => ?_)
  obtain ⟨r_3, rfl, hF⟩ := hF
  refine rn_if_eq (tgt := 19) dX9_where_8 (by decide) (fun hc_4 => ?_) (fun hc_4 => ?_)
  · replace hF := hF.1 hc_4
    refine rn_bipush (x := (-2 : Int32)) dX9_where_19 (by decide) ?_
    exact rm_iret rfl dX9_where_21 hF
  · replace hF := hF.2 hc_4
    refine rn_aload_n dX9_where_11 rfl ?_
    refine rn_iload_n dX9_where_12 rfl ?_
    refine rm_callV (c0 := 0) (As := [.int x2]) (st := []) mlRX9_106 mdX9_isThing (Nat.le_of_ble_eq_true rfl) rfl (by decide) (by decide) rfl rfl rfl (Nat.le_of_ble_eq_true rfl) ⟨Nat.le_refl _, Nat.le_refl _⟩ dX9_where_13 ?_
    refine cm_mono hF (fun w H_5 hF => ?_)
    obtain ⟨r_6, rfl, hF⟩ := hF
    refine rn_if_ne (tgt := 22) dX9_where_16 (by decide) (fun hc_7 => ?_) (fun hc_7 => ?_)
    · replace hF := hF.1 hc_7
      refine rn_aload_n dX9_where_22 rfl ?_
      refine rm_getr (r := 22) flRX9_52 rfl (by decide) rfl dX9_where_23 ?_
      refine rm_getr (r := 25) flRX9_156 rfl (by decide) rfl dX9_where_26 ?_
      refine rn_iload_n dX9_where_29 rfl ?_
      obtain ⟨j_8, hj_8, hF⟩ := hF
      refine rj_aald (Cn := RX6) (r := (28 + 2 * j_8)) hj_8 (st_beh _ hj_8.1).2 rfl (by decide) (by decide) rfl (by decide) dX9_where_30 ?_
      refine rn_iload_n dX9_where_31 rfl ?_
      refine rm_callV (c0 := (28 + 2 * j_8)) (As := [.int x2]) (st := []) mlRX9_160 mdX6_placeOf (Nat.le_of_ble_eq_true rfl) (st_beh _ hj_8.1).1.2.1 (st_beh _ hj_8.1).1.1 (by decide) rfl rfl rfl (Nat.le_of_ble_eq_true rfl) ⟨Nat.le_refl _, Nat.le_refl _⟩ dX9_where_32 ?_
      refine cm_mono hF (fun w H_9 hF => ?_)
      obtain ⟨r_10, rfl, hF⟩ := hF
      exact rm_iret rfl dX9_where_35 hF
    · replace hF := hF.2 hc_7
      refine rn_bipush (x := (-2 : Int32)) dX9_where_19 (by decide) ?_
      exact rm_iret rfl dX9_where_21 hF
theorem cmX9_where {E : En} {Q : Option Value → Hi → Prop} {H : Hi} {x1 : Int32} {x2 : Int32} 
    (hF : Cm E mX9_refresh [rf E 0] H (fun w H_1 => w = none ∧ (Cm E mX9_isHour [.int x1] H_1 (fun w H_2 => ∃ r_3 : Int32, w = some (.int r_3) ∧ ((r_3 = 0 → (Q (some (.int (-2 : Int32))) H_2)) ∧ (¬ r_3 = 0 → (Cm E mX9_isThing [rf E 0, .int x2] H_2 (fun w H_5 => ∃ r_6 : Int32, w = some (.int r_6) ∧ ((¬ r_6 = 0 → (∃ j_8 : Nat, (j_8 < 24 ∧ x1 = nI j_8) ∧ (Cm E mX6_placeOf [rf E (28 + 2 * j_8), .int x2] H_5 (fun w H_9 => ∃ r_10 : Int32, w = some (.int r_10) ∧ (Q (some (.int r_10)) H_9))))) ∧ (r_6 = 0 → (Q (some (.int (-2 : Int32))) H_5))))))))))) :
    Cm E mX9_where [rf E 0, .int x1, .int x2] H Q :=
  cm_of (by decide +kernel) (Nat.le_of_ble_eq_true rfl) rfl (sgX9_where_0  hF)
theorem sgX9_has_0 {E : En} {Q : Option Value → Hi → Prop} {H : Hi} {x1 : Int32} {x2 : Int32} 
    (hF : Cm E mX9_refresh [rf E 0] H (fun w H_1 => w = none ∧ (Cm E mX9_isHour [.int x1] H_1 (fun w H_2 => ∃ r_3 : Int32, w = some (.int r_3) ∧ ((r_3 = 0 → (Q (some (.int (-2 : Int32))) H_2)) ∧ (¬ r_3 = 0 → (Cm E mX9_isCousin [rf E 0, .int x2] H_2 (fun w H_5 => ∃ r_6 : Int32, w = some (.int r_6) ∧ ((¬ r_6 = 0 → (Cm E mX2_heldBy [rf E 22, .int x1, .int x2] H_5 (fun w H_8 => ∃ r_9 : Int32, w = some (.int r_9) ∧ (Q (some (.int r_9)) H_8)))) ∧ (r_6 = 0 → (Q (some (.int (-2 : Int32))) H_5))))))))))) :
    Rm E mX9_has Q 0 [some (rf E 0), some (.int x1), some (.int x2)] [] H := by
  refine rn_aload_n dX9_has_0 rfl ?_
  refine rm_callV (c0 := 0) (As := []) (st := []) mlRX9_103 mdX9_refresh (Nat.le_of_ble_eq_true rfl) rfl (by decide) (by decide) rfl rfl rfl (Nat.le_of_ble_eq_true rfl) ⟨Nat.le_refl _, Nat.le_refl _⟩ dX9_has_1 ?_
  refine cm_mono hF (fun w H_1 hF => ?_)
  obtain ⟨rfl, hF⟩ := hF
  refine rn_iload_n dX9_has_4 rfl ?_
  refine rm_callS (As := [.int x1]) (st := []) mlRX9_153 mdX9_isHour (Nat.le_of_ble_eq_true rfl) rfl rfl (Nat.le_of_ble_eq_true rfl) ⟨Nat.le_refl _, Nat.le_refl _⟩ dX9_has_5 ?_
  refine cm_mono hF (fun w H_2 hF => ?_)
  obtain ⟨r_3, rfl, hF⟩ := hF
  refine rn_if_eq (tgt := 19) dX9_has_8 (by decide) (fun hc_4 => ?_) (fun hc_4 => ?_)
  · replace hF := hF.1 hc_4
    refine rn_bipush (x := (-2 : Int32)) dX9_has_19 (by decide) ?_
    exact rm_iret rfl dX9_has_21 hF
  · replace hF := hF.2 hc_4
    refine rn_aload_n dX9_has_11 rfl ?_
    refine rn_iload_n dX9_has_12 rfl ?_
    refine rm_callV (c0 := 0) (As := [.int x2]) (st := []) mlRX9_113 mdX9_isCousin (Nat.le_of_ble_eq_true rfl) rfl (by decide) (by decide) rfl rfl rfl (Nat.le_of_ble_eq_true rfl) ⟨Nat.le_refl _, Nat.le_refl _⟩ dX9_has_13 ?_
    refine cm_mono hF (fun w H_5 hF => ?_)
    obtain ⟨r_6, rfl, hF⟩ := hF
    refine rn_if_ne (tgt := 22) dX9_has_16 (by decide) (fun hc_7 => ?_) (fun hc_7 => ?_)
    · replace hF := hF.1 hc_7
      refine rn_aload_n dX9_has_22 rfl ?_
      refine rm_getr (r := 22) flRX9_52 rfl (by decide) rfl dX9_has_23 ?_
      refine rn_iload_n dX9_has_26 rfl ?_
      refine rn_iload_n dX9_has_27 rfl ?_
      refine rm_callV (c0 := 22) (As := [.int x1, .int x2]) (st := []) mlRX9_165 mdX2_heldBy (Nat.le_of_ble_eq_true rfl) rfl (by decide) (by decide) rfl rfl rfl (Nat.le_of_ble_eq_true rfl) ⟨Nat.le_refl _, Nat.le_refl _⟩ dX9_has_28 ?_
      refine cm_mono hF (fun w H_8 hF => ?_)
      obtain ⟨r_9, rfl, hF⟩ := hF
      exact rm_iret rfl dX9_has_31 hF
    · replace hF := hF.2 hc_7
      refine rn_bipush (x := (-2 : Int32)) dX9_has_19 (by decide) ?_
      exact rm_iret rfl dX9_has_21 hF
theorem cmX9_has {E : En} {Q : Option Value → Hi → Prop} {H : Hi} {x1 : Int32} {x2 : Int32} 
    (hF : Cm E mX9_refresh [rf E 0] H (fun w H_1 => w = none ∧ (Cm E mX9_isHour [.int x1] H_1 (fun w H_2 => ∃ r_3 : Int32, w = some (.int r_3) ∧ ((r_3 = 0 → (Q (some (.int (-2 : Int32))) H_2)) ∧ (¬ r_3 = 0 → (Cm E mX9_isCousin [rf E 0, .int x2] H_2 (fun w H_5 => ∃ r_6 : Int32, w = some (.int r_6) ∧ ((¬ r_6 = 0 → (Cm E mX2_heldBy [rf E 22, .int x1, .int x2] H_5 (fun w H_8 => ∃ r_9 : Int32, w = some (.int r_9) ∧ (Q (some (.int r_9)) H_8)))) ∧ (r_6 = 0 → (Q (some (.int (-2 : Int32))) H_5))))))))))) :
    Cm E mX9_has [rf E 0, .int x1, .int x2] H Q :=
  cm_of (by decide +kernel) (Nat.le_of_ble_eq_true rfl) rfl (sgX9_has_0  hF)
theorem sgX9_load_0 {E : En} {Q : Option Value → Hi → Prop} {H : Hi} {x1 : Int32} 
    (hF : Cm E mX9_refresh [rf E 0] H (fun w H_1 => w = none ∧ (Cm E mX9_isHour [.int x1] H_1 (fun w H_2 => ∃ r_3 : Int32, w = some (.int r_3) ∧ ((r_3 = 0 → (Q (some (.int (-2 : Int32))) H_2)) ∧ (¬ r_3 = 0 → (∃ j_5 : Nat, (j_5 < 24 ∧ x1 = nI j_5) ∧ (Q (some (.int (H_2 (28 + 2 * j_5) 2))) H_2)))))))) :
    Rm E mX9_load Q 0 [some (rf E 0), some (.int x1)] [] H := by
  refine rn_aload_n dX9_load_0 rfl ?_
  refine rm_callV (c0 := 0) (As := []) (st := []) mlRX9_103 mdX9_refresh (Nat.le_of_ble_eq_true rfl) rfl (by decide) (by decide) rfl rfl rfl (Nat.le_of_ble_eq_true rfl) ⟨Nat.le_refl _, Nat.le_refl _⟩ dX9_load_1 ?_
  refine cm_mono hF (fun w H_1 hF => ?_)
  obtain ⟨rfl, hF⟩ := hF
  refine rn_iload_n dX9_load_4 rfl ?_
  refine rm_callS (As := [.int x1]) (st := []) mlRX9_153 mdX9_isHour (Nat.le_of_ble_eq_true rfl) rfl rfl (Nat.le_of_ble_eq_true rfl) ⟨Nat.le_refl _, Nat.le_refl _⟩ dX9_load_5 ?_
  refine cm_mono hF (fun w H_2 hF => ?_)
  obtain ⟨r_3, rfl, hF⟩ := hF
  refine rn_if_eq (tgt := 26) dX9_load_8 (by decide) (fun hc_4 => ?_) (fun hc_4 => ?_)
  · replace hF := hF.1 hc_4
    refine rn_bipush (x := (-2 : Int32)) dX9_load_26 (by decide) ?_
    exact rm_iret rfl dX9_load_28 hF
  · replace hF := hF.2 hc_4
    refine rn_aload_n dX9_load_11 rfl ?_
    refine rm_getr (r := 22) flRX9_52 rfl (by decide) rfl dX9_load_12 ?_
    refine rm_getr (r := 25) flRX9_156 rfl (by decide) rfl dX9_load_15 ?_
    refine rn_iload_n dX9_load_18 rfl ?_
    obtain ⟨j_5, hj_5, hF⟩ := hF
    refine rj_aald (Cn := RX6) (r := (28 + 2 * j_5)) hj_5 (st_beh _ hj_5.1).2 rfl (by decide) (by decide) rfl (by decide) dX9_load_19 ?_
    refine rm_geti flRX9_168 (st_beh _ hj_5.1).1.2.1 (st_beh _ hj_5.1).1.1 (rT_row (st_beh _ hj_5.1).1.2.2 _) dX9_load_20 ?_
    refine rn_goto (tgt := 28) dX9_load_23 (by decide) ?_
    exact rm_iret rfl dX9_load_28 hF
theorem cmX9_load {E : En} {Q : Option Value → Hi → Prop} {H : Hi} {x1 : Int32} 
    (hF : Cm E mX9_refresh [rf E 0] H (fun w H_1 => w = none ∧ (Cm E mX9_isHour [.int x1] H_1 (fun w H_2 => ∃ r_3 : Int32, w = some (.int r_3) ∧ ((r_3 = 0 → (Q (some (.int (-2 : Int32))) H_2)) ∧ (¬ r_3 = 0 → (∃ j_5 : Nat, (j_5 < 24 ∧ x1 = nI j_5) ∧ (Q (some (.int (H_2 (28 + 2 * j_5) 2))) H_2)))))))) :
    Cm E mX9_load [rf E 0, .int x1] H Q :=
  cm_of (by decide +kernel) (Nat.le_of_ble_eq_true rfl) rfl (sgX9_load_0  hF)
theorem sgX9_happy_0 {E : En} {Q : Option Value → Hi → Prop} {H : Hi} {x1 : Int32} 
    (hF : Cm E mX9_refresh [rf E 0] H (fun w H_1 => w = none ∧ (Cm E mX9_isHour [.int x1] H_1 (fun w H_2 => ∃ r_3 : Int32, w = some (.int r_3) ∧ ((r_3 = 0 → (Q (some (.int (-2 : Int32))) H_2)) ∧ (¬ r_3 = 0 → (Cm E mX2_content [rf E 22, .int x1] H_2 (fun w H_5 => ∃ r_6 : Int32, w = some (.int r_6) ∧ (Q (some (.int r_6)) H_5))))))))) :
    Rm E mX9_happy Q 0 [some (rf E 0), some (.int x1)] [] H := by
  refine rn_aload_n dX9_happy_0 rfl ?_
  refine rm_callV (c0 := 0) (As := []) (st := []) mlRX9_103 mdX9_refresh (Nat.le_of_ble_eq_true rfl) rfl (by decide) (by decide) rfl rfl rfl (Nat.le_of_ble_eq_true rfl) ⟨Nat.le_refl _, Nat.le_refl _⟩ dX9_happy_1 ?_
  refine cm_mono hF (fun w H_1 hF => ?_)
  obtain ⟨rfl, hF⟩ := hF
  refine rn_iload_n dX9_happy_4 rfl ?_
  refine rm_callS (As := [.int x1]) (st := []) mlRX9_153 mdX9_isHour (Nat.le_of_ble_eq_true rfl) rfl rfl (Nat.le_of_ble_eq_true rfl) ⟨Nat.le_refl _, Nat.le_refl _⟩ dX9_happy_5 ?_
  refine cm_mono hF (fun w H_2 hF => ?_)
  obtain ⟨r_3, rfl, hF⟩ := hF
  refine rn_if_eq (tgt := 22) dX9_happy_8 (by decide) (fun hc_4 => ?_) (fun hc_4 => ?_)
  · replace hF := hF.1 hc_4
    refine rn_bipush (x := (-2 : Int32)) dX9_happy_22 (by decide) ?_
    exact rm_iret rfl dX9_happy_24 hF
  · replace hF := hF.2 hc_4
    refine rn_aload_n dX9_happy_11 rfl ?_
    refine rm_getr (r := 22) flRX9_52 rfl (by decide) rfl dX9_happy_12 ?_
    refine rn_iload_n dX9_happy_15 rfl ?_
    refine rm_callV (c0 := 22) (As := [.int x1]) (st := []) mlRX9_171 mdX2_content (Nat.le_of_ble_eq_true rfl) rfl (by decide) (by decide) rfl rfl rfl (Nat.le_of_ble_eq_true rfl) ⟨Nat.le_refl _, Nat.le_refl _⟩ dX9_happy_16 ?_
    refine cm_mono hF (fun w H_5 hF => ?_)
    obtain ⟨r_6, rfl, hF⟩ := hF
    refine rn_goto (tgt := 24) dX9_happy_19 (by decide) ?_
    exact rm_iret rfl dX9_happy_24 hF
theorem cmX9_happy {E : En} {Q : Option Value → Hi → Prop} {H : Hi} {x1 : Int32} 
    (hF : Cm E mX9_refresh [rf E 0] H (fun w H_1 => w = none ∧ (Cm E mX9_isHour [.int x1] H_1 (fun w H_2 => ∃ r_3 : Int32, w = some (.int r_3) ∧ ((r_3 = 0 → (Q (some (.int (-2 : Int32))) H_2)) ∧ (¬ r_3 = 0 → (Cm E mX2_content [rf E 22, .int x1] H_2 (fun w H_5 => ∃ r_6 : Int32, w = some (.int r_6) ∧ (Q (some (.int r_6)) H_5))))))))) :
    Cm E mX9_happy [rf E 0, .int x1] H Q :=
  cm_of (by decide +kernel) (Nat.le_of_ble_eq_true rfl) rfl (sgX9_happy_0  hF)
theorem sgX9_works_0 {E : En} {Q : Option Value → Hi → Prop} {H : Hi} {x1 : Int32} 
    (hF : Cm E mX9_refresh [rf E 0] H (fun w H_1 => w = none ∧ ((x1 < 0 → (Q (some (.int (-2 : Int32))) H_1)) ∧ (¬ x1 < 0 → ((x1 < (H_1 11 2) → (Q (some (.int (((H_1 22 5) >>> (x1 &&& 31)) &&& (1 : Int32)))) H_1)) ∧ (¬ x1 < (H_1 11 2) → (Q (some (.int (-2 : Int32))) H_1))))))) :
    Rm E mX9_works Q 0 [some (rf E 0), some (.int x1)] [] H := by
  refine rn_aload_n dX9_works_0 rfl ?_
  refine rm_callV (c0 := 0) (As := []) (st := []) mlRX9_103 mdX9_refresh (Nat.le_of_ble_eq_true rfl) rfl (by decide) (by decide) rfl rfl rfl (Nat.le_of_ble_eq_true rfl) ⟨Nat.le_refl _, Nat.le_refl _⟩ dX9_works_1 ?_
  refine cm_mono hF (fun w H_1 hF => ?_)
  obtain ⟨rfl, hF⟩ := hF
  refine rn_iload_n dX9_works_4 rfl ?_
  refine rn_if_lt (tgt := 19) dX9_works_5 (by decide) (fun hc_2 => ?_) (fun hc_2 => ?_)
  · replace hF := hF.1 hc_2
    refine rn_bipush (x := (-2 : Int32)) dX9_works_19 (by decide) ?_
    exact rm_iret rfl dX9_works_21 hF
  · replace hF := hF.2 hc_2
    refine rn_iload_n dX9_works_8 rfl ?_
    refine rn_aload_n dX9_works_9 rfl ?_
    refine rm_getr (r := 11) flRX9_43 rfl (by decide) rfl dX9_works_10 ?_
    refine rm_geti flRX9_136 rfl (by decide) rfl dX9_works_13 ?_
    refine rn_icmp_lt (tgt := 22) dX9_works_16 (by decide) (fun hc_3 => ?_) (fun hc_3 => ?_)
    · replace hF := hF.1 hc_3
      refine rn_aload_n dX9_works_22 rfl ?_
      refine rm_getr (r := 22) flRX9_52 rfl (by decide) rfl dX9_works_23 ?_
      refine rm_geti flRX9_174 rfl (by decide) rfl dX9_works_26 ?_
      refine rn_iload_n dX9_works_29 rfl ?_
      refine rn_ishr dX9_works_30 ?_
      refine rn_iconst (x := (1 : Int32)) dX9_works_31 (by decide) ?_
      refine rn_iand dX9_works_32 ?_
      exact rm_iret rfl dX9_works_33 hF
    · replace hF := hF.2 hc_3
      refine rn_bipush (x := (-2 : Int32)) dX9_works_19 (by decide) ?_
      exact rm_iret rfl dX9_works_21 hF
theorem cmX9_works {E : En} {Q : Option Value → Hi → Prop} {H : Hi} {x1 : Int32} 
    (hF : Cm E mX9_refresh [rf E 0] H (fun w H_1 => w = none ∧ ((x1 < 0 → (Q (some (.int (-2 : Int32))) H_1)) ∧ (¬ x1 < 0 → ((x1 < (H_1 11 2) → (Q (some (.int (((H_1 22 5) >>> (x1 &&& 31)) &&& (1 : Int32)))) H_1)) ∧ (¬ x1 < (H_1 11 2) → (Q (some (.int (-2 : Int32))) H_1))))))) :
    Cm E mX9_works [rf E 0, .int x1] H Q :=
  cm_of (by decide +kernel) (Nat.le_of_ble_eq_true rfl) rfl (sgX9_works_0  hF)
theorem sgX9_fails_0 {E : En} {Q : Option Value → Hi → Prop} {H : Hi}  
    (hF : Cm E mX9_refresh [rf E 0] H (fun w H_1 => w = none ∧ (Cm E mX2_firstIdle [rf E 22] H_1 (fun w H_2 => ∃ r_3 : Int32, w = some (.int r_3) ∧ (Q (some (.int r_3)) H_2))))) :
    Rm E mX9_fails Q 0 [some (rf E 0)] [] H := by
  refine rn_aload_n dX9_fails_0 rfl ?_
  refine rm_callV (c0 := 0) (As := []) (st := []) mlRX9_103 mdX9_refresh (Nat.le_of_ble_eq_true rfl) rfl (by decide) (by decide) rfl rfl rfl (Nat.le_of_ble_eq_true rfl) ⟨Nat.le_refl _, Nat.le_refl _⟩ dX9_fails_1 ?_
  refine cm_mono hF (fun w H_1 hF => ?_)
  obtain ⟨rfl, hF⟩ := hF
  refine rn_aload_n dX9_fails_4 rfl ?_
  refine rm_getr (r := 22) flRX9_52 rfl (by decide) rfl dX9_fails_5 ?_
  refine rm_callV (c0 := 22) (As := []) (st := []) mlRX9_177 mdX2_firstIdle (Nat.le_of_ble_eq_true rfl) rfl (by decide) (by decide) rfl rfl rfl (Nat.le_of_ble_eq_true rfl) ⟨Nat.le_refl _, Nat.le_refl _⟩ dX9_fails_8 ?_
  refine cm_mono hF (fun w H_2 hF => ?_)
  obtain ⟨r_3, rfl, hF⟩ := hF
  exact rm_iret rfl dX9_fails_11 hF
theorem cmX9_fails {E : En} {Q : Option Value → Hi → Prop} {H : Hi}  
    (hF : Cm E mX9_refresh [rf E 0] H (fun w H_1 => w = none ∧ (Cm E mX2_firstIdle [rf E 22] H_1 (fun w H_2 => ∃ r_3 : Int32, w = some (.int r_3) ∧ (Q (some (.int r_3)) H_2))))) :
    Cm E mX9_fails [rf E 0] H Q :=
  cm_of (by decide +kernel) (Nat.le_of_ble_eq_true rfl) rfl (sgX9_fails_0  hF)
theorem sgX9_went_0 {E : En} {Q : Option Value → Hi → Prop} {H : Hi} {x1 : Int32} 
    (hF : Cm E mX9_refresh [rf E 0] H (fun w H_1 => w = none ∧ (Cm E mX9_isThing [rf E 0, .int x1] H_1 (fun w H_2 => ∃ r_3 : Int32, w = some (.int r_3) ∧ ((r_3 = 0 → (Q (some (.int (-2 : Int32))) H_2)) ∧ (¬ r_3 = 0 → (Cm E mX2_firstGone [rf E 22, .int x1] H_2 (fun w H_5 => ∃ r_6 : Int32, w = some (.int r_6) ∧ (Q (some (.int r_6)) H_5))))))))) :
    Rm E mX9_went Q 0 [some (rf E 0), some (.int x1)] [] H := by
  refine rn_aload_n dX9_went_0 rfl ?_
  refine rm_callV (c0 := 0) (As := []) (st := []) mlRX9_103 mdX9_refresh (Nat.le_of_ble_eq_true rfl) rfl (by decide) (by decide) rfl rfl rfl (Nat.le_of_ble_eq_true rfl) ⟨Nat.le_refl _, Nat.le_refl _⟩ dX9_went_1 ?_
  refine cm_mono hF (fun w H_1 hF => ?_)
  obtain ⟨rfl, hF⟩ := hF
  refine rn_aload_n dX9_went_4 rfl ?_
  refine rn_iload_n dX9_went_5 rfl ?_
  refine rm_callV (c0 := 0) (As := [.int x1]) (st := []) mlRX9_106 mdX9_isThing (Nat.le_of_ble_eq_true rfl) rfl (by decide) (by decide) rfl rfl rfl (Nat.le_of_ble_eq_true rfl) ⟨Nat.le_refl _, Nat.le_refl _⟩ dX9_went_6 ?_
  refine cm_mono hF (fun w H_2 hF => ?_)
  obtain ⟨r_3, rfl, hF⟩ := hF
  refine rn_if_eq (tgt := 23) dX9_went_9 (by decide) (fun hc_4 => ?_) (fun hc_4 => ?_)
  · replace hF := hF.1 hc_4
    refine rn_bipush (x := (-2 : Int32)) dX9_went_23 (by decide) ?_
    exact rm_iret rfl dX9_went_25 hF
  · replace hF := hF.2 hc_4
    refine rn_aload_n dX9_went_12 rfl ?_
    refine rm_getr (r := 22) flRX9_52 rfl (by decide) rfl dX9_went_13 ?_
    refine rn_iload_n dX9_went_16 rfl ?_
    refine rm_callV (c0 := 22) (As := [.int x1]) (st := []) mlRX9_180 mdX2_firstGone (Nat.le_of_ble_eq_true rfl) rfl (by decide) (by decide) rfl rfl rfl (Nat.le_of_ble_eq_true rfl) ⟨Nat.le_refl _, Nat.le_refl _⟩ dX9_went_17 ?_
    refine cm_mono hF (fun w H_5 hF => ?_)
    obtain ⟨r_6, rfl, hF⟩ := hF
    refine rn_goto (tgt := 25) dX9_went_20 (by decide) ?_
    exact rm_iret rfl dX9_went_25 hF
theorem cmX9_went {E : En} {Q : Option Value → Hi → Prop} {H : Hi} {x1 : Int32} 
    (hF : Cm E mX9_refresh [rf E 0] H (fun w H_1 => w = none ∧ (Cm E mX9_isThing [rf E 0, .int x1] H_1 (fun w H_2 => ∃ r_3 : Int32, w = some (.int r_3) ∧ ((r_3 = 0 → (Q (some (.int (-2 : Int32))) H_2)) ∧ (¬ r_3 = 0 → (Cm E mX2_firstGone [rf E 22, .int x1] H_2 (fun w H_5 => ∃ r_6 : Int32, w = some (.int r_6) ∧ (Q (some (.int r_6)) H_5))))))))) :
    Cm E mX9_went [rf E 0, .int x1] H Q :=
  cm_of (by decide +kernel) (Nat.le_of_ble_eq_true rfl) rfl (sgX9_went_0  hF)
theorem sgX9_lend_0 {E : En} {Q : Option Value → Hi → Prop} {H : Hi} {x1 : Int32} {x2 : Int32} {x3 : Int32} {x4 : Int32} {x5 : Int32} 
    (hF : Cm E mX9_refresh [rf E 0] H (fun w H_1 => w = none ∧ (Cm E mX9_isCousin [rf E 0, .int x1] H_1 (fun w H_2 => ∃ r_3 : Int32, w = some (.int r_3) ∧ ((r_3 = 0 → (Q (some (.int (-2 : Int32))) H_2)) ∧ (¬ r_3 = 0 → (Cm E mX9_isThing [rf E 0, .int x2] H_2 (fun w H_5 => ∃ r_6 : Int32, w = some (.int r_6) ∧ ((r_6 = 0 → (Q (some (.int (-2 : Int32))) H_5)) ∧ (¬ r_6 = 0 → (Cm E mX9_isHour [.int x3] H_5 (fun w H_8 => ∃ r_9 : Int32, w = some (.int r_9) ∧ ((r_9 = 0 → (Q (some (.int (-2 : Int32))) H_8)) ∧ (¬ r_9 = 0 → (Cm E mX9_isHour [.int x4] H_8 (fun w H_11 => ∃ r_12 : Int32, w = some (.int r_12) ∧ ((r_12 = 0 → (Q (some (.int (-2 : Int32))) H_11)) ∧ (¬ r_12 = 0 → (Cm E mX9_isRowPlace [.int x5] H_11 (fun w H_14 => ∃ r_15 : Int32, w = some (.int r_15) ∧ ((¬ r_15 = 0 → (Cm E mX3_planLend [rf E 75, .int x1, .int x2, .int x3, .int x4] H_14 (fun w H_17 => w = none ∧ (Cm E mX4_told [rf E 76, .int x5] H_17 (fun w H_18 => ∃ r_19 : Int32, w = some (.int r_19) ∧ (Q (some (.int r_19)) H_18)))))) ∧ (r_15 = 0 → (Q (some (.int (-2 : Int32))) H_14))))))))))))))))))))))) :
    Rm E mX9_lend Q 0 [some (rf E 0), some (.int x1), some (.int x2), some (.int x3), some (.int x4), some (.int x5)] [] H := by
  refine rn_aload_n dX9_lend_0 rfl ?_
  refine rm_callV (c0 := 0) (As := []) (st := []) mlRX9_103 mdX9_refresh (Nat.le_of_ble_eq_true rfl) rfl (by decide) (by decide) rfl rfl rfl (Nat.le_of_ble_eq_true rfl) ⟨Nat.le_refl _, Nat.le_refl _⟩ dX9_lend_1 ?_
  refine cm_mono hF (fun w H_1 hF => ?_)
  obtain ⟨rfl, hF⟩ := hF
  refine rn_aload_n dX9_lend_4 rfl ?_
  refine rn_iload_n dX9_lend_5 rfl ?_
  refine rm_callV (c0 := 0) (As := [.int x1]) (st := []) mlRX9_113 mdX9_isCousin (Nat.le_of_ble_eq_true rfl) rfl (by decide) (by decide) rfl rfl rfl (Nat.le_of_ble_eq_true rfl) ⟨Nat.le_refl _, Nat.le_refl _⟩ dX9_lend_6 ?_
  refine cm_mono hF (fun w H_2 hF => ?_)
  obtain ⟨r_3, rfl, hF⟩ := hF
  refine rn_if_eq (tgt := 43) dX9_lend_9 (by decide) (fun hc_4 => ?_) (fun hc_4 => ?_)
  · replace hF := hF.1 hc_4
    refine rn_bipush (x := (-2 : Int32)) dX9_lend_43 (by decide) ?_
    exact rm_iret rfl dX9_lend_45 hF
  · replace hF := hF.2 hc_4
    refine rn_aload_n dX9_lend_12 rfl ?_
    refine rn_iload_n dX9_lend_13 rfl ?_
    refine rm_callV (c0 := 0) (As := [.int x2]) (st := []) mlRX9_106 mdX9_isThing (Nat.le_of_ble_eq_true rfl) rfl (by decide) (by decide) rfl rfl rfl (Nat.le_of_ble_eq_true rfl) ⟨Nat.le_refl _, Nat.le_refl _⟩ dX9_lend_14 ?_
    refine cm_mono hF (fun w H_5 hF => ?_)
    obtain ⟨r_6, rfl, hF⟩ := hF
    refine rn_if_eq (tgt := 43) dX9_lend_17 (by decide) (fun hc_7 => ?_) (fun hc_7 => ?_)
    · replace hF := hF.1 hc_7
      refine rn_bipush (x := (-2 : Int32)) dX9_lend_43 (by decide) ?_
      exact rm_iret rfl dX9_lend_45 hF
    · replace hF := hF.2 hc_7
      refine rn_iload_n dX9_lend_20 rfl ?_
      refine rm_callS (As := [.int x3]) (st := []) mlRX9_153 mdX9_isHour (Nat.le_of_ble_eq_true rfl) rfl rfl (Nat.le_of_ble_eq_true rfl) ⟨Nat.le_refl _, Nat.le_refl _⟩ dX9_lend_21 ?_
      refine cm_mono hF (fun w H_8 hF => ?_)
      obtain ⟨r_9, rfl, hF⟩ := hF
      refine rn_if_eq (tgt := 43) dX9_lend_24 (by decide) (fun hc_10 => ?_) (fun hc_10 => ?_)
      · replace hF := hF.1 hc_10
        refine rn_bipush (x := (-2 : Int32)) dX9_lend_43 (by decide) ?_
        exact rm_iret rfl dX9_lend_45 hF
      · replace hF := hF.2 hc_10
        refine rn_iload dX9_lend_27 rfl ?_
        refine rm_callS (As := [.int x4]) (st := []) mlRX9_153 mdX9_isHour (Nat.le_of_ble_eq_true rfl) rfl rfl (Nat.le_of_ble_eq_true rfl) ⟨Nat.le_refl _, Nat.le_refl _⟩ dX9_lend_29 ?_
        refine cm_mono hF (fun w H_11 hF => ?_)
        obtain ⟨r_12, rfl, hF⟩ := hF
        refine rn_if_eq (tgt := 43) dX9_lend_32 (by decide) (fun hc_13 => ?_) (fun hc_13 => ?_)
        · replace hF := hF.1 hc_13
          refine rn_bipush (x := (-2 : Int32)) dX9_lend_43 (by decide) ?_
          exact rm_iret rfl dX9_lend_45 hF
        · replace hF := hF.2 hc_13
          refine rn_iload dX9_lend_35 rfl ?_
          refine rm_callS (As := [.int x5]) (st := []) mlRX9_183 mdX9_isRowPlace (Nat.le_of_ble_eq_true rfl) rfl rfl (Nat.le_of_ble_eq_true rfl) ⟨Nat.le_refl _, Nat.le_refl _⟩ dX9_lend_37 ?_
          refine cm_mono hF (fun w H_14 hF => ?_)
          obtain ⟨r_15, rfl, hF⟩ := hF
          refine rn_if_ne (tgt := 46) dX9_lend_40 (by decide) (fun hc_16 => ?_) (fun hc_16 => ?_)
          · replace hF := hF.1 hc_16
            refine rn_aload_n dX9_lend_46 rfl ?_
            refine rm_getr (r := 75) flRX9_61 rfl (by decide) rfl dX9_lend_47 ?_
            refine rn_iload_n dX9_lend_50 rfl ?_
            refine rn_iload_n dX9_lend_51 rfl ?_
            refine rn_iload_n dX9_lend_52 rfl ?_
            refine rn_iload dX9_lend_53 rfl ?_
            refine rm_callV (c0 := 75) (As := [.int x1, .int x2, .int x3, .int x4]) (st := []) mlRX9_186 mdX3_planLend (Nat.le_of_ble_eq_true rfl) rfl (by decide) (by decide) rfl rfl rfl (Nat.le_of_ble_eq_true rfl) ⟨Nat.le_refl _, Nat.le_refl _⟩ dX9_lend_55 ?_
            refine cm_mono hF (fun w H_17 hF => ?_)
            obtain ⟨rfl, hF⟩ := hF
            refine rn_aload_n dX9_lend_58 rfl ?_
            refine rm_getr (r := 75) flRX9_61 rfl (by decide) rfl dX9_lend_59 ?_
            refine rm_getr (r := 76) flRX9_190 rfl (by decide) rfl dX9_lend_62 ?_
            refine rn_iload dX9_lend_65 rfl ?_
            refine rm_callV (c0 := 76) (As := [.int x5]) (st := []) mlRX9_194 mdX4_told (Nat.le_of_ble_eq_true rfl) rfl (by decide) (by decide) rfl rfl rfl (Nat.le_of_ble_eq_true rfl) ⟨Nat.le_refl _, Nat.le_refl _⟩ dX9_lend_67 ?_
            refine cm_mono hF (fun w H_18 hF => ?_)
            obtain ⟨r_19, rfl, hF⟩ := hF
            exact rm_iret rfl dX9_lend_70 hF
          · replace hF := hF.2 hc_16
            refine rn_bipush (x := (-2 : Int32)) dX9_lend_43 (by decide) ?_
            exact rm_iret rfl dX9_lend_45 hF
theorem cmX9_lend {E : En} {Q : Option Value → Hi → Prop} {H : Hi} {x1 : Int32} {x2 : Int32} {x3 : Int32} {x4 : Int32} {x5 : Int32} 
    (hF : Cm E mX9_refresh [rf E 0] H (fun w H_1 => w = none ∧ (Cm E mX9_isCousin [rf E 0, .int x1] H_1 (fun w H_2 => ∃ r_3 : Int32, w = some (.int r_3) ∧ ((r_3 = 0 → (Q (some (.int (-2 : Int32))) H_2)) ∧ (¬ r_3 = 0 → (Cm E mX9_isThing [rf E 0, .int x2] H_2 (fun w H_5 => ∃ r_6 : Int32, w = some (.int r_6) ∧ ((r_6 = 0 → (Q (some (.int (-2 : Int32))) H_5)) ∧ (¬ r_6 = 0 → (Cm E mX9_isHour [.int x3] H_5 (fun w H_8 => ∃ r_9 : Int32, w = some (.int r_9) ∧ ((r_9 = 0 → (Q (some (.int (-2 : Int32))) H_8)) ∧ (¬ r_9 = 0 → (Cm E mX9_isHour [.int x4] H_8 (fun w H_11 => ∃ r_12 : Int32, w = some (.int r_12) ∧ ((r_12 = 0 → (Q (some (.int (-2 : Int32))) H_11)) ∧ (¬ r_12 = 0 → (Cm E mX9_isRowPlace [.int x5] H_11 (fun w H_14 => ∃ r_15 : Int32, w = some (.int r_15) ∧ ((¬ r_15 = 0 → (Cm E mX3_planLend [rf E 75, .int x1, .int x2, .int x3, .int x4] H_14 (fun w H_17 => w = none ∧ (Cm E mX4_told [rf E 76, .int x5] H_17 (fun w H_18 => ∃ r_19 : Int32, w = some (.int r_19) ∧ (Q (some (.int r_19)) H_18)))))) ∧ (r_15 = 0 → (Q (some (.int (-2 : Int32))) H_14))))))))))))))))))))))) :
    Cm E mX9_lend [rf E 0, .int x1, .int x2, .int x3, .int x4, .int x5] H Q :=
  cm_of (by decide +kernel) (Nat.le_of_ble_eq_true rfl) rfl (sgX9_lend_0  hF)
theorem sgX9_hangs_0 {E : En} {Q : Option Value → Hi → Prop} {H : Hi} {x1 : Int32} 
    (hF : Cm E mX9_refresh [rf E 0] H (fun w H_1 => w = none ∧ (Cm E mX9_isHour [.int x1] H_1 (fun w H_2 => ∃ r_3 : Int32, w = some (.int r_3) ∧ ((r_3 = 0 → (Q (some (.int (-2 : Int32))) H_2)) ∧ (¬ r_3 = 0 → (Cm E mX3_unsettled [rf E 75, .int x1] H_2 (fun w H_5 => ∃ r_6 : Int32, w = some (.int r_6) ∧ (Q (some (.int r_6)) H_5))))))))) :
    Rm E mX9_hangs Q 0 [some (rf E 0), some (.int x1)] [] H := by
  refine rn_aload_n dX9_hangs_0 rfl ?_
  refine rm_callV (c0 := 0) (As := []) (st := []) mlRX9_103 mdX9_refresh (Nat.le_of_ble_eq_true rfl) rfl (by decide) (by decide) rfl rfl rfl (Nat.le_of_ble_eq_true rfl) ⟨Nat.le_refl _, Nat.le_refl _⟩ dX9_hangs_1 ?_
  refine cm_mono hF (fun w H_1 hF => ?_)
  obtain ⟨rfl, hF⟩ := hF
  refine rn_iload_n dX9_hangs_4 rfl ?_
  refine rm_callS (As := [.int x1]) (st := []) mlRX9_153 mdX9_isHour (Nat.le_of_ble_eq_true rfl) rfl rfl (Nat.le_of_ble_eq_true rfl) ⟨Nat.le_refl _, Nat.le_refl _⟩ dX9_hangs_5 ?_
  refine cm_mono hF (fun w H_2 hF => ?_)
  obtain ⟨r_3, rfl, hF⟩ := hF
  refine rn_if_eq (tgt := 22) dX9_hangs_8 (by decide) (fun hc_4 => ?_) (fun hc_4 => ?_)
  · replace hF := hF.1 hc_4
    refine rn_bipush (x := (-2 : Int32)) dX9_hangs_22 (by decide) ?_
    exact rm_iret rfl dX9_hangs_24 hF
  · replace hF := hF.2 hc_4
    refine rn_aload_n dX9_hangs_11 rfl ?_
    refine rm_getr (r := 75) flRX9_61 rfl (by decide) rfl dX9_hangs_12 ?_
    refine rn_iload_n dX9_hangs_15 rfl ?_
    refine rm_callV (c0 := 75) (As := [.int x1]) (st := []) mlRX9_198 mdX3_unsettled (Nat.le_of_ble_eq_true rfl) rfl (by decide) (by decide) rfl rfl rfl (Nat.le_of_ble_eq_true rfl) ⟨Nat.le_refl _, Nat.le_refl _⟩ dX9_hangs_16 ?_
    refine cm_mono hF (fun w H_5 hF => ?_)
    obtain ⟨r_6, rfl, hF⟩ := hF
    refine rn_goto (tgt := 24) dX9_hangs_19 (by decide) ?_
    exact rm_iret rfl dX9_hangs_24 hF
theorem cmX9_hangs {E : En} {Q : Option Value → Hi → Prop} {H : Hi} {x1 : Int32} 
    (hF : Cm E mX9_refresh [rf E 0] H (fun w H_1 => w = none ∧ (Cm E mX9_isHour [.int x1] H_1 (fun w H_2 => ∃ r_3 : Int32, w = some (.int r_3) ∧ ((r_3 = 0 → (Q (some (.int (-2 : Int32))) H_2)) ∧ (¬ r_3 = 0 → (Cm E mX3_unsettled [rf E 75, .int x1] H_2 (fun w H_5 => ∃ r_6 : Int32, w = some (.int r_6) ∧ (Q (some (.int r_6)) H_5))))))))) :
    Cm E mX9_hangs [rf E 0, .int x1] H Q :=
  cm_of (by decide +kernel) (Nat.le_of_ble_eq_true rfl) rfl (sgX9_hangs_0  hF)
theorem sgX9_sort_0 {E : En} {Q : Option Value → Hi → Prop} {H : Hi} {x1 : Int32} {x2 : Int32} 
    (hF : Cm E mX9_refresh [rf E 0] H (fun w H_1 => w = none ∧ ((x1 < 0 → (Q (some (.int (-2 : Int32))) H_1)) ∧ (¬ x1 < 0 → (((72 : Int32) < x1 → (Q (some (.int (-2 : Int32))) H_1)) ∧ (¬ (72 : Int32) < x1 → (Cm E mX9_isRowPlace [.int x2] H_1 (fun w H_4 => ∃ r_5 : Int32, w = some (.int r_5) ∧ ((¬ r_5 = 0 → (Cm E mX3_planSort [rf E 75, .int x1] H_4 (fun w H_7 => w = none ∧ (Cm E mX4_told [rf E 77, .int x2] H_7 (fun w H_8 => ∃ r_9 : Int32, w = some (.int r_9) ∧ (Q (some (.int r_9)) H_8)))))) ∧ (r_5 = 0 → (Q (some (.int (-2 : Int32))) H_4))))))))))) :
    Rm E mX9_sort Q 0 [some (rf E 0), some (.int x1), some (.int x2)] [] H := by
  refine rn_aload_n dX9_sort_0 rfl ?_
  refine rm_callV (c0 := 0) (As := []) (st := []) mlRX9_103 mdX9_refresh (Nat.le_of_ble_eq_true rfl) rfl (by decide) (by decide) rfl rfl rfl (Nat.le_of_ble_eq_true rfl) ⟨Nat.le_refl _, Nat.le_refl _⟩ dX9_sort_1 ?_
  refine cm_mono hF (fun w H_1 hF => ?_)
  obtain ⟨rfl, hF⟩ := hF
  refine rn_iload_n dX9_sort_4 rfl ?_
  refine rn_if_lt (tgt := 21) dX9_sort_5 (by decide) (fun hc_2 => ?_) (fun hc_2 => ?_)
  · replace hF := hF.1 hc_2
    refine rn_bipush (x := (-2 : Int32)) dX9_sort_21 (by decide) ?_
    exact rm_iret rfl dX9_sort_23 hF
  · replace hF := hF.2 hc_2
    refine rn_iload_n dX9_sort_8 rfl ?_
    refine rn_bipush (x := (72 : Int32)) dX9_sort_9 (by decide) ?_
    refine rn_icmp_gt (tgt := 21) dX9_sort_11 (by decide) (fun hc_3 => ?_) (fun hc_3 => ?_)
    · replace hF := hF.1 hc_3
      refine rn_bipush (x := (-2 : Int32)) dX9_sort_21 (by decide) ?_
      exact rm_iret rfl dX9_sort_23 hF
    · replace hF := hF.2 hc_3
      refine rn_iload_n dX9_sort_14 rfl ?_
      refine rm_callS (As := [.int x2]) (st := []) mlRX9_183 mdX9_isRowPlace (Nat.le_of_ble_eq_true rfl) rfl rfl (Nat.le_of_ble_eq_true rfl) ⟨Nat.le_refl _, Nat.le_refl _⟩ dX9_sort_15 ?_
      refine cm_mono hF (fun w H_4 hF => ?_)
      obtain ⟨r_5, rfl, hF⟩ := hF
      refine rn_if_ne (tgt := 24) dX9_sort_18 (by decide) (fun hc_6 => ?_) (fun hc_6 => ?_)
      · replace hF := hF.1 hc_6
        refine rn_aload_n dX9_sort_24 rfl ?_
        refine rm_getr (r := 75) flRX9_61 rfl (by decide) rfl dX9_sort_25 ?_
        refine rn_iload_n dX9_sort_28 rfl ?_
        refine rm_callV (c0 := 75) (As := [.int x1]) (st := []) mlRX9_201 mdX3_planSort (Nat.le_of_ble_eq_true rfl) rfl (by decide) (by decide) rfl rfl rfl (Nat.le_of_ble_eq_true rfl) ⟨Nat.le_refl _, Nat.le_refl _⟩ dX9_sort_29 ?_
        refine cm_mono hF (fun w H_7 hF => ?_)
        obtain ⟨rfl, hF⟩ := hF
        refine rn_aload_n dX9_sort_32 rfl ?_
        refine rm_getr (r := 75) flRX9_61 rfl (by decide) rfl dX9_sort_33 ?_
        refine rm_getr (r := 77) flRX9_205 rfl (by decide) rfl dX9_sort_36 ?_
        refine rn_iload_n dX9_sort_39 rfl ?_
        refine rm_callV (c0 := 77) (As := [.int x2]) (st := []) mlRX9_194 mdX4_told (Nat.le_of_ble_eq_true rfl) rfl (by decide) (by decide) rfl rfl rfl (Nat.le_of_ble_eq_true rfl) ⟨Nat.le_refl _, Nat.le_refl _⟩ dX9_sort_40 ?_
        refine cm_mono hF (fun w H_8 hF => ?_)
        obtain ⟨r_9, rfl, hF⟩ := hF
        exact rm_iret rfl dX9_sort_43 hF
      · replace hF := hF.2 hc_6
        refine rn_bipush (x := (-2 : Int32)) dX9_sort_21 (by decide) ?_
        exact rm_iret rfl dX9_sort_23 hF
theorem cmX9_sort {E : En} {Q : Option Value → Hi → Prop} {H : Hi} {x1 : Int32} {x2 : Int32} 
    (hF : Cm E mX9_refresh [rf E 0] H (fun w H_1 => w = none ∧ ((x1 < 0 → (Q (some (.int (-2 : Int32))) H_1)) ∧ (¬ x1 < 0 → (((72 : Int32) < x1 → (Q (some (.int (-2 : Int32))) H_1)) ∧ (¬ (72 : Int32) < x1 → (Cm E mX9_isRowPlace [.int x2] H_1 (fun w H_4 => ∃ r_5 : Int32, w = some (.int r_5) ∧ ((¬ r_5 = 0 → (Cm E mX3_planSort [rf E 75, .int x1] H_4 (fun w H_7 => w = none ∧ (Cm E mX4_told [rf E 77, .int x2] H_7 (fun w H_8 => ∃ r_9 : Int32, w = some (.int r_9) ∧ (Q (some (.int r_9)) H_8)))))) ∧ (r_5 = 0 → (Q (some (.int (-2 : Int32))) H_4))))))))))) :
    Cm E mX9_sort [rf E 0, .int x1, .int x2] H Q :=
  cm_of (by decide +kernel) (Nat.le_of_ble_eq_true rfl) rfl (sgX9_sort_0  hF)
theorem sgX9_felt_0 {E : En} {Q : Option Value → Hi → Prop} {H : Hi} {x1 : Int32} {x2 : Int32} {x3 : Int32} 
    (hF : Cm E mX8_addFelt [rf E 11, .int x1, .int x2, .int x3] H (fun w H_1 => ∃ r_2 : Int32, w = some (.int r_2) ∧ (Q (some (.int r_2)) H_1))) :
    Rm E mX9_felt Q 0 [some (rf E 0), some (.int x1), some (.int x2), some (.int x3)] [] H := by
  refine rn_aload_n dX9_felt_0 rfl ?_
  refine rm_getr (r := 11) flRX9_43 rfl (by decide) rfl dX9_felt_1 ?_
  refine rn_iload_n dX9_felt_4 rfl ?_
  refine rn_iload_n dX9_felt_5 rfl ?_
  refine rn_iload_n dX9_felt_6 rfl ?_
  refine rm_callV (c0 := 11) (As := [.int x1, .int x2, .int x3]) (st := []) mlRX9_208 mdX8_addFelt (Nat.le_of_ble_eq_true rfl) rfl (by decide) (by decide) rfl rfl rfl (Nat.le_of_ble_eq_true rfl) ⟨Nat.le_refl _, Nat.le_refl _⟩ dX9_felt_7 ?_
  refine cm_mono hF (fun w H_1 hF => ?_)
  obtain ⟨r_2, rfl, hF⟩ := hF
  exact rm_iret rfl dX9_felt_10 hF
theorem cmX9_felt {E : En} {Q : Option Value → Hi → Prop} {H : Hi} {x1 : Int32} {x2 : Int32} {x3 : Int32} 
    (hF : Cm E mX8_addFelt [rf E 11, .int x1, .int x2, .int x3] H (fun w H_1 => ∃ r_2 : Int32, w = some (.int r_2) ∧ (Q (some (.int r_2)) H_1))) :
    Cm E mX9_felt [rf E 0, .int x1, .int x2, .int x3] H Q :=
  cm_of (by decide +kernel) (Nat.le_of_ble_eq_true rfl) rfl (sgX9_felt_0  hF)
theorem sgX9_forget_0 {E : En} {Q : Option Value → Hi → Prop} {H : Hi}  
    (hF : ∀ x1_1 : Int32, x1_1 = H 11 8 → (∀ H_2 : Hi, H_2 = up H 11 8 (0 : Int32) → (Q (some (.int x1_1)) H_2))) :
    Rm E mX9_forget Q 0 [some (rf E 0), none] [] H := by
  refine rn_aload_n dX9_forget_0 rfl ?_
  refine rm_getr (r := 11) flRX9_43 rfl (by decide) rfl dX9_forget_1 ?_
  refine rm_geti flRX9_212 rfl (by decide) rfl dX9_forget_4 ?_
  refine rn_istore_n dX9_forget_7 rfl (by decide) (fun x1_1 ex1_1 => ?_)
  replace hF := hF x1_1 ex1_1
  refine rn_aload_n dX9_forget_8 rfl ?_
  refine rm_getr (r := 11) flRX9_43 rfl (by decide) rfl dX9_forget_9 ?_
  refine rn_iconst (x := (0 : Int32)) dX9_forget_12 (by decide) ?_
  refine rm_puti flRX9_212 rfl (by decide) rfl dX9_forget_13 (fun H_2 eH_2 => ?_)
  replace hF := hF H_2 eH_2
  refine rn_iload_n dX9_forget_16 rfl ?_
  exact rm_iret rfl dX9_forget_17 hF
theorem cmX9_forget {E : En} {Q : Option Value → Hi → Prop} {H : Hi}  
    (hF : ∀ x1_1 : Int32, x1_1 = H 11 8 → (∀ H_2 : Hi, H_2 = up H 11 8 (0 : Int32) → (Q (some (.int x1_1)) H_2))) :
    Cm E mX9_forget [rf E 0] H Q :=
  cm_of (by decide +kernel) (Nat.le_of_ble_eq_true rfl) rfl (sgX9_forget_0  hF)
theorem sgX9_when_0 {E : En} {Q : Option Value → Hi → Prop} {H : Hi} {x1 : Int32} {x2 : Int32} 
    (hF : Cm E mX9_refresh [rf E 0] H (fun w H_1 => w = none ∧ (Cm E mX9_isCousin [rf E 0, .int x1] H_1 (fun w H_2 => ∃ r_3 : Int32, w = some (.int r_3) ∧ ((r_3 = 0 → (Q (some (.int (-2 : Int32))) H_2)) ∧ (¬ r_3 = 0 → (Cm E mX9_isThing [rf E 0, .int x2] H_2 (fun w H_5 => ∃ r_6 : Int32, w = some (.int r_6) ∧ ((r_6 = 0 → (Q (some (.int (-2 : Int32))) H_5)) ∧ (¬ r_6 = 0 → (Cm E mX1_fittingHours [rf E 86, .int x1, .int x2] H_5 (fun w H_8 => ∃ r_9 : Int32, w = some (.int r_9) ∧ (Q (some (.int r_9)) H_8))))))))))))) :
    Rm E mX9_when Q 0 [some (rf E 0), some (.int x1), some (.int x2)] [] H := by
  refine rn_aload_n dX9_when_0 rfl ?_
  refine rm_callV (c0 := 0) (As := []) (st := []) mlRX9_103 mdX9_refresh (Nat.le_of_ble_eq_true rfl) rfl (by decide) (by decide) rfl rfl rfl (Nat.le_of_ble_eq_true rfl) ⟨Nat.le_refl _, Nat.le_refl _⟩ dX9_when_1 ?_
  refine cm_mono hF (fun w H_1 hF => ?_)
  obtain ⟨rfl, hF⟩ := hF
  refine rn_aload_n dX9_when_4 rfl ?_
  refine rn_iload_n dX9_when_5 rfl ?_
  refine rm_callV (c0 := 0) (As := [.int x1]) (st := []) mlRX9_113 mdX9_isCousin (Nat.le_of_ble_eq_true rfl) rfl (by decide) (by decide) rfl rfl rfl (Nat.le_of_ble_eq_true rfl) ⟨Nat.le_refl _, Nat.le_refl _⟩ dX9_when_6 ?_
  refine cm_mono hF (fun w H_2 hF => ?_)
  obtain ⟨r_3, rfl, hF⟩ := hF
  refine rn_if_eq (tgt := 32) dX9_when_9 (by decide) (fun hc_4 => ?_) (fun hc_4 => ?_)
  · replace hF := hF.1 hc_4
    refine rn_bipush (x := (-2 : Int32)) dX9_when_32 (by decide) ?_
    exact rm_iret rfl dX9_when_34 hF
  · replace hF := hF.2 hc_4
    refine rn_aload_n dX9_when_12 rfl ?_
    refine rn_iload_n dX9_when_13 rfl ?_
    refine rm_callV (c0 := 0) (As := [.int x2]) (st := []) mlRX9_106 mdX9_isThing (Nat.le_of_ble_eq_true rfl) rfl (by decide) (by decide) rfl rfl rfl (Nat.le_of_ble_eq_true rfl) ⟨Nat.le_refl _, Nat.le_refl _⟩ dX9_when_14 ?_
    refine cm_mono hF (fun w H_5 hF => ?_)
    obtain ⟨r_6, rfl, hF⟩ := hF
    refine rn_if_eq (tgt := 32) dX9_when_17 (by decide) (fun hc_7 => ?_) (fun hc_7 => ?_)
    · replace hF := hF.1 hc_7
      refine rn_bipush (x := (-2 : Int32)) dX9_when_32 (by decide) ?_
      exact rm_iret rfl dX9_when_34 hF
    · replace hF := hF.2 hc_7
      refine rn_aload_n dX9_when_20 rfl ?_
      refine rm_getr (r := 86) flRX9_68 rfl (by decide) rfl dX9_when_21 ?_
      refine rn_iload_n dX9_when_24 rfl ?_
      refine rn_iload_n dX9_when_25 rfl ?_
      refine rm_callV (c0 := 86) (As := [.int x1, .int x2]) (st := []) mlRX9_215 mdX1_fittingHours (Nat.le_of_ble_eq_true rfl) rfl (by decide) (by decide) rfl rfl rfl (Nat.le_of_ble_eq_true rfl) ⟨Nat.le_refl _, Nat.le_refl _⟩ dX9_when_26 ?_
      refine cm_mono hF (fun w H_8 hF => ?_)
      obtain ⟨r_9, rfl, hF⟩ := hF
      refine rn_goto (tgt := 34) dX9_when_29 (by decide) ?_
      exact rm_iret rfl dX9_when_34 hF
theorem cmX9_when {E : En} {Q : Option Value → Hi → Prop} {H : Hi} {x1 : Int32} {x2 : Int32} 
    (hF : Cm E mX9_refresh [rf E 0] H (fun w H_1 => w = none ∧ (Cm E mX9_isCousin [rf E 0, .int x1] H_1 (fun w H_2 => ∃ r_3 : Int32, w = some (.int r_3) ∧ ((r_3 = 0 → (Q (some (.int (-2 : Int32))) H_2)) ∧ (¬ r_3 = 0 → (Cm E mX9_isThing [rf E 0, .int x2] H_2 (fun w H_5 => ∃ r_6 : Int32, w = some (.int r_6) ∧ ((r_6 = 0 → (Q (some (.int (-2 : Int32))) H_5)) ∧ (¬ r_6 = 0 → (Cm E mX1_fittingHours [rf E 86, .int x1, .int x2] H_5 (fun w H_8 => ∃ r_9 : Int32, w = some (.int r_9) ∧ (Q (some (.int r_9)) H_8))))))))))))) :
    Cm E mX9_when [rf E 0, .int x1, .int x2] H Q :=
  cm_of (by decide +kernel) (Nat.le_of_ble_eq_true rfl) rfl (sgX9_when_0  hF)
theorem sgX9_thief_0 {E : En} {Q : Option Value → Hi → Prop} {H : Hi} {x1 : Int32} 
    (hF : Cm E mX9_refresh [rf E 0] H (fun w H_1 => w = none ∧ (Cm E mX9_isThing [rf E 0, .int x1] H_1 (fun w H_2 => ∃ r_3 : Int32, w = some (.int r_3) ∧ ((r_3 = 0 → (Q (some (.int (-2 : Int32))) H_2)) ∧ (¬ r_3 = 0 → (Cm E mX1_suspects [rf E 86, .int x1] H_2 (fun w H_5 => ∃ r_6 : Int32, w = some (.int r_6) ∧ (Q (some (.int r_6)) H_5))))))))) :
    Rm E mX9_thief Q 0 [some (rf E 0), some (.int x1)] [] H := by
  refine rn_aload_n dX9_thief_0 rfl ?_
  refine rm_callV (c0 := 0) (As := []) (st := []) mlRX9_103 mdX9_refresh (Nat.le_of_ble_eq_true rfl) rfl (by decide) (by decide) rfl rfl rfl (Nat.le_of_ble_eq_true rfl) ⟨Nat.le_refl _, Nat.le_refl _⟩ dX9_thief_1 ?_
  refine cm_mono hF (fun w H_1 hF => ?_)
  obtain ⟨rfl, hF⟩ := hF
  refine rn_aload_n dX9_thief_4 rfl ?_
  refine rn_iload_n dX9_thief_5 rfl ?_
  refine rm_callV (c0 := 0) (As := [.int x1]) (st := []) mlRX9_106 mdX9_isThing (Nat.le_of_ble_eq_true rfl) rfl (by decide) (by decide) rfl rfl rfl (Nat.le_of_ble_eq_true rfl) ⟨Nat.le_refl _, Nat.le_refl _⟩ dX9_thief_6 ?_
  refine cm_mono hF (fun w H_2 hF => ?_)
  obtain ⟨r_3, rfl, hF⟩ := hF
  refine rn_if_eq (tgt := 23) dX9_thief_9 (by decide) (fun hc_4 => ?_) (fun hc_4 => ?_)
  · replace hF := hF.1 hc_4
    refine rn_bipush (x := (-2 : Int32)) dX9_thief_23 (by decide) ?_
    exact rm_iret rfl dX9_thief_25 hF
  · replace hF := hF.2 hc_4
    refine rn_aload_n dX9_thief_12 rfl ?_
    refine rm_getr (r := 86) flRX9_68 rfl (by decide) rfl dX9_thief_13 ?_
    refine rn_iload_n dX9_thief_16 rfl ?_
    refine rm_callV (c0 := 86) (As := [.int x1]) (st := []) mlRX9_218 mdX1_suspects (Nat.le_of_ble_eq_true rfl) rfl (by decide) (by decide) rfl rfl rfl (Nat.le_of_ble_eq_true rfl) ⟨Nat.le_refl _, Nat.le_refl _⟩ dX9_thief_17 ?_
    refine cm_mono hF (fun w H_5 hF => ?_)
    obtain ⟨r_6, rfl, hF⟩ := hF
    refine rn_goto (tgt := 25) dX9_thief_20 (by decide) ?_
    exact rm_iret rfl dX9_thief_25 hF
theorem cmX9_thief {E : En} {Q : Option Value → Hi → Prop} {H : Hi} {x1 : Int32} 
    (hF : Cm E mX9_refresh [rf E 0] H (fun w H_1 => w = none ∧ (Cm E mX9_isThing [rf E 0, .int x1] H_1 (fun w H_2 => ∃ r_3 : Int32, w = some (.int r_3) ∧ ((r_3 = 0 → (Q (some (.int (-2 : Int32))) H_2)) ∧ (¬ r_3 = 0 → (Cm E mX1_suspects [rf E 86, .int x1] H_2 (fun w H_5 => ∃ r_6 : Int32, w = some (.int r_6) ∧ (Q (some (.int r_6)) H_5))))))))) :
    Cm E mX9_thief [rf E 0, .int x1] H Q :=
  cm_of (by decide +kernel) (Nat.le_of_ble_eq_true rfl) rfl (sgX9_thief_0  hF)
theorem sgX9_feel_0 {E : En} {Q : Option Value → Hi → Prop} {H : Hi} {x1 : Int32} {x2 : Int32} 
    (hF : Cm E mX9_refresh [rf E 0] H (fun w H_1 => w = none ∧ (Cm E mX9_isCousin [rf E 0, .int x1] H_1 (fun w H_2 => ∃ r_3 : Int32, w = some (.int r_3) ∧ ((r_3 = 0 → (Q (some (.int (-2 : Int32))) H_2)) ∧ (¬ r_3 = 0 → (Cm E mX9_isThing [rf E 0, .int x2] H_2 (fun w H_5 => ∃ r_6 : Int32, w = some (.int r_6) ∧ ((r_6 = 0 → (Q (some (.int (-2 : Int32))) H_5)) ∧ (¬ r_6 = 0 → (Cm E mX1_bestHour [rf E 86, .int x1, .int x2] H_5 (fun w H_8 => ∃ r_9 : Int32, w = some (.int r_9) ∧ (Q (some (.int r_9)) H_8))))))))))))) :
    Rm E mX9_feel Q 0 [some (rf E 0), some (.int x1), some (.int x2)] [] H := by
  refine rn_aload_n dX9_feel_0 rfl ?_
  refine rm_callV (c0 := 0) (As := []) (st := []) mlRX9_103 mdX9_refresh (Nat.le_of_ble_eq_true rfl) rfl (by decide) (by decide) rfl rfl rfl (Nat.le_of_ble_eq_true rfl) ⟨Nat.le_refl _, Nat.le_refl _⟩ dX9_feel_1 ?_
  refine cm_mono hF (fun w H_1 hF => ?_)
  obtain ⟨rfl, hF⟩ := hF
  refine rn_aload_n dX9_feel_4 rfl ?_
  refine rn_iload_n dX9_feel_5 rfl ?_
  refine rm_callV (c0 := 0) (As := [.int x1]) (st := []) mlRX9_113 mdX9_isCousin (Nat.le_of_ble_eq_true rfl) rfl (by decide) (by decide) rfl rfl rfl (Nat.le_of_ble_eq_true rfl) ⟨Nat.le_refl _, Nat.le_refl _⟩ dX9_feel_6 ?_
  refine cm_mono hF (fun w H_2 hF => ?_)
  obtain ⟨r_3, rfl, hF⟩ := hF
  refine rn_if_eq (tgt := 32) dX9_feel_9 (by decide) (fun hc_4 => ?_) (fun hc_4 => ?_)
  · replace hF := hF.1 hc_4
    refine rn_bipush (x := (-2 : Int32)) dX9_feel_32 (by decide) ?_
    exact rm_iret rfl dX9_feel_34 hF
  · replace hF := hF.2 hc_4
    refine rn_aload_n dX9_feel_12 rfl ?_
    refine rn_iload_n dX9_feel_13 rfl ?_
    refine rm_callV (c0 := 0) (As := [.int x2]) (st := []) mlRX9_106 mdX9_isThing (Nat.le_of_ble_eq_true rfl) rfl (by decide) (by decide) rfl rfl rfl (Nat.le_of_ble_eq_true rfl) ⟨Nat.le_refl _, Nat.le_refl _⟩ dX9_feel_14 ?_
    refine cm_mono hF (fun w H_5 hF => ?_)
    obtain ⟨r_6, rfl, hF⟩ := hF
    refine rn_if_eq (tgt := 32) dX9_feel_17 (by decide) (fun hc_7 => ?_) (fun hc_7 => ?_)
    · replace hF := hF.1 hc_7
      refine rn_bipush (x := (-2 : Int32)) dX9_feel_32 (by decide) ?_
      exact rm_iret rfl dX9_feel_34 hF
    · replace hF := hF.2 hc_7
      refine rn_aload_n dX9_feel_20 rfl ?_
      refine rm_getr (r := 86) flRX9_68 rfl (by decide) rfl dX9_feel_21 ?_
      refine rn_iload_n dX9_feel_24 rfl ?_
      refine rn_iload_n dX9_feel_25 rfl ?_
      refine rm_callV (c0 := 86) (As := [.int x1, .int x2]) (st := []) mlRX9_221 mdX1_bestHour (Nat.le_of_ble_eq_true rfl) rfl (by decide) (by decide) rfl rfl rfl (Nat.le_of_ble_eq_true rfl) ⟨Nat.le_refl _, Nat.le_refl _⟩ dX9_feel_26 ?_
      refine cm_mono hF (fun w H_8 hF => ?_)
      obtain ⟨r_9, rfl, hF⟩ := hF
      refine rn_goto (tgt := 34) dX9_feel_29 (by decide) ?_
      exact rm_iret rfl dX9_feel_34 hF
theorem cmX9_feel {E : En} {Q : Option Value → Hi → Prop} {H : Hi} {x1 : Int32} {x2 : Int32} 
    (hF : Cm E mX9_refresh [rf E 0] H (fun w H_1 => w = none ∧ (Cm E mX9_isCousin [rf E 0, .int x1] H_1 (fun w H_2 => ∃ r_3 : Int32, w = some (.int r_3) ∧ ((r_3 = 0 → (Q (some (.int (-2 : Int32))) H_2)) ∧ (¬ r_3 = 0 → (Cm E mX9_isThing [rf E 0, .int x2] H_2 (fun w H_5 => ∃ r_6 : Int32, w = some (.int r_6) ∧ ((r_6 = 0 → (Q (some (.int (-2 : Int32))) H_5)) ∧ (¬ r_6 = 0 → (Cm E mX1_bestHour [rf E 86, .int x1, .int x2] H_5 (fun w H_8 => ∃ r_9 : Int32, w = some (.int r_9) ∧ (Q (some (.int r_9)) H_8))))))))))))) :
    Cm E mX9_feel [rf E 0, .int x1, .int x2] H Q :=
  cm_of (by decide +kernel) (Nat.le_of_ble_eq_true rfl) rfl (sgX9_feel_0  hF)
theorem sgX9_jumps_0 {E : En} {Q : Option Value → Hi → Prop} {H : Hi} {x1 : Int32} {x2 : Int32} {x3 : Int32} {x4 : Int32} 
    (hF : Cm E mX9_refresh [rf E 0] H (fun w H_1 => w = none ∧ ((x1 < 0 → (Q (some (.long (-9223372036854775806 : Int64))) H_1)) ∧ (¬ x1 < 0 → (((16 : Int32) < x1 → (Q (some (.long (-9223372036854775806 : Int64))) H_1)) ∧ (¬ (16 : Int32) < x1 → (Cm E mX9_isThing [rf E 0, .int x2] H_1 (fun w H_4 => ∃ r_5 : Int32, w = some (.int r_5) ∧ ((r_5 = 0 → (Q (some (.long (-9223372036854775806 : Int64))) H_4)) ∧ (¬ r_5 = 0 → ((x3 < 0 → (Q (some (.long (-9223372036854775806 : Int64))) H_4)) ∧ (¬ x3 < 0 → (((12 : Int32) < x3 → (Q (some (.long (-9223372036854775806 : Int64))) H_4)) ∧ (¬ (12 : Int32) < x3 → (Cm E mX9_isBit [.int x4] H_4 (fun w H_9 => ∃ r_10 : Int32, w = some (.int r_10) ∧ ((¬ r_10 = 0 → (Cm E mX2_stayChance [rf E 22, .int x1, .int x2, .int x3, .int x4] H_9 (fun w H_12 => ∃ r_13 : Int64, w = some (.long r_13) ∧ (Q (some (.long r_13)) H_12)))) ∧ (r_10 = 0 → (Q (some (.long (-9223372036854775806 : Int64))) H_9))))))))))))))))))) :
    Rm E mX9_jumps Q 0 [some (rf E 0), some (.int x1), some (.int x2), some (.int x3), some (.int x4)] [] H := by
  refine rn_aload_n dX9_jumps_0 rfl ?_
  refine rm_callV (c0 := 0) (As := []) (st := []) mlRX9_103 mdX9_refresh (Nat.le_of_ble_eq_true rfl) rfl (by decide) (by decide) rfl rfl rfl (Nat.le_of_ble_eq_true rfl) ⟨Nat.le_refl _, Nat.le_refl _⟩ dX9_jumps_1 ?_
  refine cm_mono hF (fun w H_1 hF => ?_)
  obtain ⟨rfl, hF⟩ := hF
  refine rn_iload_n dX9_jumps_4 rfl ?_
  refine rn_if_lt (tgt := 40) dX9_jumps_5 (by decide) (fun hc_2 => ?_) (fun hc_2 => ?_)
  · replace hF := hF.1 hc_2
    refine rn_ldc2 coRX9_224 dX9_jumps_40 ?_
    exact rm_lret rfl dX9_jumps_43 hF
  · replace hF := hF.2 hc_2
    refine rn_iload_n dX9_jumps_8 rfl ?_
    refine rn_bipush (x := (16 : Int32)) dX9_jumps_9 (by decide) ?_
    refine rn_icmp_gt (tgt := 40) dX9_jumps_11 (by decide) (fun hc_3 => ?_) (fun hc_3 => ?_)
    · replace hF := hF.1 hc_3
      refine rn_ldc2 coRX9_224 dX9_jumps_40 ?_
      exact rm_lret rfl dX9_jumps_43 hF
    · replace hF := hF.2 hc_3
      refine rn_aload_n dX9_jumps_14 rfl ?_
      refine rn_iload_n dX9_jumps_15 rfl ?_
      refine rm_callV (c0 := 0) (As := [.int x2]) (st := []) mlRX9_106 mdX9_isThing (Nat.le_of_ble_eq_true rfl) rfl (by decide) (by decide) rfl rfl rfl (Nat.le_of_ble_eq_true rfl) ⟨Nat.le_refl _, Nat.le_refl _⟩ dX9_jumps_16 ?_
      refine cm_mono hF (fun w H_4 hF => ?_)
      obtain ⟨r_5, rfl, hF⟩ := hF
      refine rn_if_eq (tgt := 40) dX9_jumps_19 (by decide) (fun hc_6 => ?_) (fun hc_6 => ?_)
      · replace hF := hF.1 hc_6
        refine rn_ldc2 coRX9_224 dX9_jumps_40 ?_
        exact rm_lret rfl dX9_jumps_43 hF
      · replace hF := hF.2 hc_6
        refine rn_iload_n dX9_jumps_22 rfl ?_
        refine rn_if_lt (tgt := 40) dX9_jumps_23 (by decide) (fun hc_7 => ?_) (fun hc_7 => ?_)
        · replace hF := hF.1 hc_7
          refine rn_ldc2 coRX9_224 dX9_jumps_40 ?_
          exact rm_lret rfl dX9_jumps_43 hF
        · replace hF := hF.2 hc_7
          refine rn_iload_n dX9_jumps_26 rfl ?_
          refine rn_bipush (x := (12 : Int32)) dX9_jumps_27 (by decide) ?_
          refine rn_icmp_gt (tgt := 40) dX9_jumps_29 (by decide) (fun hc_8 => ?_) (fun hc_8 => ?_)
          · replace hF := hF.1 hc_8
            refine rn_ldc2 coRX9_224 dX9_jumps_40 ?_
            exact rm_lret rfl dX9_jumps_43 hF
          · replace hF := hF.2 hc_8
            refine rn_iload dX9_jumps_32 rfl ?_
            refine rm_callS (As := [.int x4]) (st := []) mlRX9_116 mdX9_isBit (Nat.le_of_ble_eq_true rfl) rfl rfl (Nat.le_of_ble_eq_true rfl) ⟨Nat.le_refl _, Nat.le_refl _⟩ dX9_jumps_34 ?_
            refine cm_mono hF (fun w H_9 hF => ?_)
            obtain ⟨r_10, rfl, hF⟩ := hF
            refine rn_if_ne (tgt := 44) dX9_jumps_37 (by decide) (fun hc_11 => ?_) (fun hc_11 => ?_)
            · replace hF := hF.1 hc_11
              refine rn_aload_n dX9_jumps_44 rfl ?_
              refine rm_getr (r := 22) flRX9_52 rfl (by decide) rfl dX9_jumps_45 ?_
              refine rn_iload_n dX9_jumps_48 rfl ?_
              refine rn_iload_n dX9_jumps_49 rfl ?_
              refine rn_iload_n dX9_jumps_50 rfl ?_
              refine rn_iload dX9_jumps_51 rfl ?_
              refine rm_callV (c0 := 22) (As := [.int x1, .int x2, .int x3, .int x4]) (st := []) mlRX9_226 mdX2_stayChance (Nat.le_of_ble_eq_true rfl) rfl (by decide) (by decide) rfl rfl rfl (Nat.le_of_ble_eq_true rfl) ⟨Nat.le_refl _, Nat.le_refl _⟩ dX9_jumps_53 ?_
              refine cm_mono hF (fun w H_12 hF => ?_)
              obtain ⟨r_13, rfl, hF⟩ := hF
              exact rm_lret rfl dX9_jumps_56 hF
            · replace hF := hF.2 hc_11
              refine rn_ldc2 coRX9_224 dX9_jumps_40 ?_
              exact rm_lret rfl dX9_jumps_43 hF
theorem cmX9_jumps {E : En} {Q : Option Value → Hi → Prop} {H : Hi} {x1 : Int32} {x2 : Int32} {x3 : Int32} {x4 : Int32} 
    (hF : Cm E mX9_refresh [rf E 0] H (fun w H_1 => w = none ∧ ((x1 < 0 → (Q (some (.long (-9223372036854775806 : Int64))) H_1)) ∧ (¬ x1 < 0 → (((16 : Int32) < x1 → (Q (some (.long (-9223372036854775806 : Int64))) H_1)) ∧ (¬ (16 : Int32) < x1 → (Cm E mX9_isThing [rf E 0, .int x2] H_1 (fun w H_4 => ∃ r_5 : Int32, w = some (.int r_5) ∧ ((r_5 = 0 → (Q (some (.long (-9223372036854775806 : Int64))) H_4)) ∧ (¬ r_5 = 0 → ((x3 < 0 → (Q (some (.long (-9223372036854775806 : Int64))) H_4)) ∧ (¬ x3 < 0 → (((12 : Int32) < x3 → (Q (some (.long (-9223372036854775806 : Int64))) H_4)) ∧ (¬ (12 : Int32) < x3 → (Cm E mX9_isBit [.int x4] H_4 (fun w H_9 => ∃ r_10 : Int32, w = some (.int r_10) ∧ ((¬ r_10 = 0 → (Cm E mX2_stayChance [rf E 22, .int x1, .int x2, .int x3, .int x4] H_9 (fun w H_12 => ∃ r_13 : Int64, w = some (.long r_13) ∧ (Q (some (.long r_13)) H_12)))) ∧ (r_10 = 0 → (Q (some (.long (-9223372036854775806 : Int64))) H_9))))))))))))))))))) :
    Cm E mX9_jumps [rf E 0, .int x1, .int x2, .int x3, .int x4] H Q :=
  cm_of (by decide +kernel) (Nat.le_of_ble_eq_true rfl) rfl (sgX9_jumps_0  hF)
theorem sgX9_day_0 {E : En} {Q : Option Value → Hi → Prop} {H : Hi} {x1 : Int32} {x2 : Int32} {x3 : Int32} 
    (hF : Cm E mX9_refresh [rf E 0] H (fun w H_1 => w = none ∧ (Cm E mX9_isHour [.int x2] H_1 (fun w H_2 => ∃ r_3 : Int32, w = some (.int r_3) ∧ ((r_3 = 0 → (Q (some (.int (-2 : Int32))) H_2)) ∧ (¬ r_3 = 0 → ((x3 = (-1 : Int32) → (Cm E mX2_dayBySeed [rf E 22, .int x1, .int x2, .int x3] H_2 (fun w H_6 => ∃ r_7 : Int32, w = some (.int r_7) ∧ (Q (some (.int r_7)) H_6)))) ∧ (¬ x3 = (-1 : Int32) → (Cm E mX9_isThing [rf E 0, .int x3] H_2 (fun w H_8 => ∃ r_9 : Int32, w = some (.int r_9) ∧ ((¬ r_9 = 0 → (Cm E mX2_dayBySeed [rf E 22, .int x1, .int x2, .int x3] H_8 (fun w H_11 => ∃ r_12 : Int32, w = some (.int r_12) ∧ (Q (some (.int r_12)) H_11)))) ∧ (r_9 = 0 → (Q (some (.int (-2 : Int32))) H_8))))))))))))) :
    Rm E mX9_day Q 0 [some (rf E 0), some (.int x1), some (.int x2), some (.int x3)] [] H := by
  refine rn_aload_n dX9_day_0 rfl ?_
  refine rm_callV (c0 := 0) (As := []) (st := []) mlRX9_103 mdX9_refresh (Nat.le_of_ble_eq_true rfl) rfl (by decide) (by decide) rfl rfl rfl (Nat.le_of_ble_eq_true rfl) ⟨Nat.le_refl _, Nat.le_refl _⟩ dX9_day_1 ?_
  refine cm_mono hF (fun w H_1 hF => ?_)
  obtain ⟨rfl, hF⟩ := hF
  refine rn_iload_n dX9_day_4 rfl ?_
  refine rm_callS (As := [.int x2]) (st := []) mlRX9_153 mdX9_isHour (Nat.le_of_ble_eq_true rfl) rfl rfl (Nat.le_of_ble_eq_true rfl) ⟨Nat.le_refl _, Nat.le_refl _⟩ dX9_day_5 ?_
  refine cm_mono hF (fun w H_2 hF => ?_)
  obtain ⟨r_3, rfl, hF⟩ := hF
  refine rn_if_eq (tgt := 24) dX9_day_8 (by decide) (fun hc_4 => ?_) (fun hc_4 => ?_)
  · replace hF := hF.1 hc_4
    refine rn_bipush (x := (-2 : Int32)) dX9_day_24 (by decide) ?_
    exact rm_iret rfl dX9_day_26 hF
  · replace hF := hF.2 hc_4
    refine rn_iload_n dX9_day_11 rfl ?_
    refine rn_iconst (x := (-1 : Int32)) dX9_day_12 (by decide) ?_
    refine rn_icmp_eq (tgt := 27) dX9_day_13 (by decide) (fun hc_5 => ?_) (fun hc_5 => ?_)
    · replace hF := hF.1 hc_5
      refine rn_aload_n dX9_day_27 rfl ?_
      refine rm_getr (r := 22) flRX9_52 rfl (by decide) rfl dX9_day_28 ?_
      refine rn_iload_n dX9_day_31 rfl ?_
      refine rn_iload_n dX9_day_32 rfl ?_
      refine rn_iload_n dX9_day_33 rfl ?_
      refine rm_callV (c0 := 22) (As := [.int x1, .int x2, .int x3]) (st := []) mlRX9_230 mdX2_dayBySeed (Nat.le_of_ble_eq_true rfl) rfl (by decide) (by decide) rfl rfl rfl (Nat.le_of_ble_eq_true rfl) ⟨Nat.le_refl _, Nat.le_refl _⟩ dX9_day_34 ?_
      refine cm_mono hF (fun w H_6 hF => ?_)
      obtain ⟨r_7, rfl, hF⟩ := hF
      exact rm_iret rfl dX9_day_37 hF
    · replace hF := hF.2 hc_5
      refine rn_aload_n dX9_day_16 rfl ?_
      refine rn_iload_n dX9_day_17 rfl ?_
      refine rm_callV (c0 := 0) (As := [.int x3]) (st := []) mlRX9_106 mdX9_isThing (Nat.le_of_ble_eq_true rfl) rfl (by decide) (by decide) rfl rfl rfl (Nat.le_of_ble_eq_true rfl) ⟨Nat.le_refl _, Nat.le_refl _⟩ dX9_day_18 ?_
      refine cm_mono hF (fun w H_8 hF => ?_)
      obtain ⟨r_9, rfl, hF⟩ := hF
      refine rn_if_ne (tgt := 27) dX9_day_21 (by decide) (fun hc_10 => ?_) (fun hc_10 => ?_)
      · replace hF := hF.1 hc_10
        refine rn_aload_n dX9_day_27 rfl ?_
        refine rm_getr (r := 22) flRX9_52 rfl (by decide) rfl dX9_day_28 ?_
        refine rn_iload_n dX9_day_31 rfl ?_
        refine rn_iload_n dX9_day_32 rfl ?_
        refine rn_iload_n dX9_day_33 rfl ?_
        refine rm_callV (c0 := 22) (As := [.int x1, .int x2, .int x3]) (st := []) mlRX9_230 mdX2_dayBySeed (Nat.le_of_ble_eq_true rfl) rfl (by decide) (by decide) rfl rfl rfl (Nat.le_of_ble_eq_true rfl) ⟨Nat.le_refl _, Nat.le_refl _⟩ dX9_day_34 ?_
        refine cm_mono hF (fun w H_11 hF => ?_)
        obtain ⟨r_12, rfl, hF⟩ := hF
        exact rm_iret rfl dX9_day_37 hF
      · replace hF := hF.2 hc_10
        refine rn_bipush (x := (-2 : Int32)) dX9_day_24 (by decide) ?_
        exact rm_iret rfl dX9_day_26 hF
theorem cmX9_day {E : En} {Q : Option Value → Hi → Prop} {H : Hi} {x1 : Int32} {x2 : Int32} {x3 : Int32} 
    (hF : Cm E mX9_refresh [rf E 0] H (fun w H_1 => w = none ∧ (Cm E mX9_isHour [.int x2] H_1 (fun w H_2 => ∃ r_3 : Int32, w = some (.int r_3) ∧ ((r_3 = 0 → (Q (some (.int (-2 : Int32))) H_2)) ∧ (¬ r_3 = 0 → ((x3 = (-1 : Int32) → (Cm E mX2_dayBySeed [rf E 22, .int x1, .int x2, .int x3] H_2 (fun w H_6 => ∃ r_7 : Int32, w = some (.int r_7) ∧ (Q (some (.int r_7)) H_6)))) ∧ (¬ x3 = (-1 : Int32) → (Cm E mX9_isThing [rf E 0, .int x3] H_2 (fun w H_8 => ∃ r_9 : Int32, w = some (.int r_9) ∧ ((¬ r_9 = 0 → (Cm E mX2_dayBySeed [rf E 22, .int x1, .int x2, .int x3] H_8 (fun w H_11 => ∃ r_12 : Int32, w = some (.int r_12) ∧ (Q (some (.int r_12)) H_11)))) ∧ (r_9 = 0 → (Q (some (.int (-2 : Int32))) H_8))))))))))))) :
    Cm E mX9_day [rf E 0, .int x1, .int x2, .int x3] H Q :=
  cm_of (by decide +kernel) (Nat.le_of_ble_eq_true rfl) rfl (sgX9_day_0  hF)
theorem sgX9_sheet_0 {E : En} {Q : Option Value → Hi → Prop} {H : Hi} {x1 : Int32} {x2 : Int32} {x3 : Int32} 
    (hF : Cm E mX9_isSheet [.int x1] H (fun w H_1 => ∃ r_2 : Int32, w = some (.int r_2) ∧ ((r_2 = 0 → (Q (some (.int (-2 : Int32))) H_1)) ∧ (¬ r_2 = 0 → (Cm E mX9_isForm [.int x2] H_1 (fun w H_4 => ∃ r_5 : Int32, w = some (.int r_5) ∧ ((r_5 = 0 → (Q (some (.int (-2 : Int32))) H_4)) ∧ (¬ r_5 = 0 → ((x3 ≤ (60 : Int32) → ((0 ≤ x3 → (∃ j_9 : Nat, (j_9 < 4 ∧ x1 = nI j_9) ∧ (∀ H_10 : Hi, H_10 = up H_4 (91 + 2 * j_9) 0 x2 → (∀ H_11 : Hi, H_11 = up H_10 (91 + 2 * j_9) 1 x3 → (Cm E mJ7_fill_53178 [rf E (92 + 2 * j_9), .int (0 : Int32)] H_11 (fun w H_12 => w = none ∧ (Q (some (.int x3)) H_12))))))) ∧ (¬ 0 ≤ x3 → (Cm E mX9_found [rf E 0, .int (5 : Int32)] H_4 (fun w H_13 => ∃ r_14 : Int32, w = some (.int r_14) ∧ (Q (some (.int r_14)) H_13)))))) ∧ (¬ x3 ≤ (60 : Int32) → (Q (some (.int (-2 : Int32))) H_4))))))))))) :
    Rm E mX9_sheet Q 0 [some (rf E 0), some (.int x1), some (.int x2), some (.int x3), none] [] H := by
  refine rn_iload_n dX9_sheet_0 rfl ?_
  refine rm_callS (As := [.int x1]) (st := []) mlRX9_142 mdX9_isSheet (Nat.le_of_ble_eq_true rfl) rfl rfl (Nat.le_of_ble_eq_true rfl) ⟨Nat.le_refl _, Nat.le_refl _⟩ dX9_sheet_1 ?_
  refine cm_mono hF (fun w H_1 hF => ?_)
  obtain ⟨r_2, rfl, hF⟩ := hF
  refine rn_if_eq (tgt := 20) dX9_sheet_4 (by decide) (fun hc_3 => ?_) (fun hc_3 => ?_)
  · replace hF := hF.1 hc_3
    refine rn_bipush (x := (-2 : Int32)) dX9_sheet_20 (by decide) ?_
    exact rm_iret rfl dX9_sheet_22 hF
  · replace hF := hF.2 hc_3
    refine rn_iload_n dX9_sheet_7 rfl ?_
    refine rm_callS (As := [.int x2]) (st := []) mlRX9_233 mdX9_isForm (Nat.le_of_ble_eq_true rfl) rfl rfl (Nat.le_of_ble_eq_true rfl) ⟨Nat.le_refl _, Nat.le_refl _⟩ dX9_sheet_8 ?_
    refine cm_mono hF (fun w H_4 hF => ?_)
    obtain ⟨r_5, rfl, hF⟩ := hF
    refine rn_if_eq (tgt := 20) dX9_sheet_11 (by decide) (fun hc_6 => ?_) (fun hc_6 => ?_)
    · replace hF := hF.1 hc_6
      refine rn_bipush (x := (-2 : Int32)) dX9_sheet_20 (by decide) ?_
      exact rm_iret rfl dX9_sheet_22 hF
    · replace hF := hF.2 hc_6
      refine rn_iload_n dX9_sheet_14 rfl ?_
      refine rn_bipush (x := (60 : Int32)) dX9_sheet_15 (by decide) ?_
      refine rn_icmp_le (tgt := 23) dX9_sheet_17 (by decide) (fun hc_7 => ?_) (fun hc_7 => ?_)
      · replace hF := hF.1 hc_7
        refine rn_iload_n dX9_sheet_23 rfl ?_
        refine rn_if_ge (tgt := 33) dX9_sheet_24 (by decide) (fun hc_8 => ?_) (fun hc_8 => ?_)
        · replace hF := hF.1 hc_8
          refine rn_aload_n dX9_sheet_33 rfl ?_
          refine rm_getr (r := 90) flRX9_74 rfl (by decide) rfl dX9_sheet_34 ?_
          refine rn_iload_n dX9_sheet_37 rfl ?_
          obtain ⟨j_9, hj_9, hF⟩ := hF
          refine rj_aald (Cn := RX5) (r := (91 + 2 * j_9)) hj_9 (sh_she _ hj_9.1).2.2.1 rfl (by decide) (by decide) rfl (by decide) dX9_sheet_38 ?_
          refine rn_astore dX9_sheet_39 rfl (by decide) ?_
          refine rn_aload dX9_sheet_41 rfl ?_
          refine rn_iload_n dX9_sheet_43 rfl ?_
          refine rm_puti flRX9_236 (sh_she _ hj_9.1).1 (sh_she _ hj_9.1).2.1 (sh_she _ hj_9.1).2.2.2.1 dX9_sheet_44 (fun H_10 eH_10 => ?_)
          replace hF := hF H_10 eH_10
          refine rn_aload dX9_sheet_47 rfl ?_
          refine rn_iload_n dX9_sheet_49 rfl ?_
          refine rm_puti flRX9_145 (sh_she _ hj_9.1).1 (sh_she _ hj_9.1).2.1 (sh_she _ hj_9.1).2.2.2.2.1 dX9_sheet_50 (fun H_11 eH_11 => ?_)
          replace hF := hF H_11 eH_11
          refine rn_aload dX9_sheet_53 rfl ?_
          refine rm_getr (r := (92 + 2 * j_9)) flRX9_149 (sh_she _ hj_9.1).1 (sh_she _ hj_9.1).2.1 (sh_she _ hj_9.1).2.2.2.2.2.1 dX9_sheet_55 ?_
          refine rn_iconst (x := (0 : Int32)) dX9_sheet_58 (by decide) ?_
          refine rm_callS (As := [rf E (92 + 2 * j_9), .int (0 : Int32)]) (st := []) mlRX9_239 mdJ7_fill_53178 (Nat.le_of_ble_eq_true rfl) rfl rfl (Nat.le_of_ble_eq_true rfl) ⟨Nat.le_refl _, Nat.le_refl _⟩ dX9_sheet_59 ?_
          refine cm_mono hF (fun w H_12 hF => ?_)
          obtain ⟨rfl, hF⟩ := hF
          refine rn_iload_n dX9_sheet_62 rfl ?_
          exact rm_iret rfl dX9_sheet_63 hF
        · replace hF := hF.2 hc_8
          refine rn_aload_n dX9_sheet_27 rfl ?_
          refine rn_iconst (x := (5 : Int32)) dX9_sheet_28 (by decide) ?_
          refine rm_callV (c0 := 0) (As := [.int (5 : Int32)]) (st := []) mlRX9_146 mdX9_found (Nat.le_of_ble_eq_true rfl) rfl (by decide) (by decide) rfl rfl rfl (Nat.le_of_ble_eq_true rfl) ⟨Nat.le_refl _, Nat.le_refl _⟩ dX9_sheet_29 ?_
          refine cm_mono hF (fun w H_13 hF => ?_)
          obtain ⟨r_14, rfl, hF⟩ := hF
          exact rm_iret rfl dX9_sheet_32 hF
      · replace hF := hF.2 hc_7
        refine rn_bipush (x := (-2 : Int32)) dX9_sheet_20 (by decide) ?_
        exact rm_iret rfl dX9_sheet_22 hF
theorem cmX9_sheet {E : En} {Q : Option Value → Hi → Prop} {H : Hi} {x1 : Int32} {x2 : Int32} {x3 : Int32} 
    (hF : Cm E mX9_isSheet [.int x1] H (fun w H_1 => ∃ r_2 : Int32, w = some (.int r_2) ∧ ((r_2 = 0 → (Q (some (.int (-2 : Int32))) H_1)) ∧ (¬ r_2 = 0 → (Cm E mX9_isForm [.int x2] H_1 (fun w H_4 => ∃ r_5 : Int32, w = some (.int r_5) ∧ ((r_5 = 0 → (Q (some (.int (-2 : Int32))) H_4)) ∧ (¬ r_5 = 0 → ((x3 ≤ (60 : Int32) → ((0 ≤ x3 → (∃ j_9 : Nat, (j_9 < 4 ∧ x1 = nI j_9) ∧ (∀ H_10 : Hi, H_10 = up H_4 (91 + 2 * j_9) 0 x2 → (∀ H_11 : Hi, H_11 = up H_10 (91 + 2 * j_9) 1 x3 → (Cm E mJ7_fill_53178 [rf E (92 + 2 * j_9), .int (0 : Int32)] H_11 (fun w H_12 => w = none ∧ (Q (some (.int x3)) H_12))))))) ∧ (¬ 0 ≤ x3 → (Cm E mX9_found [rf E 0, .int (5 : Int32)] H_4 (fun w H_13 => ∃ r_14 : Int32, w = some (.int r_14) ∧ (Q (some (.int r_14)) H_13)))))) ∧ (¬ x3 ≤ (60 : Int32) → (Q (some (.int (-2 : Int32))) H_4))))))))))) :
    Cm E mX9_sheet [rf E 0, .int x1, .int x2, .int x3] H Q :=
  cm_of (by decide +kernel) (Nat.le_of_ble_eq_true rfl) rfl (sgX9_sheet_0  hF)
theorem sgX9_lose_0 {E : En} {Q : Option Value → Hi → Prop} {H : Hi} {x1 : Int32} 
    (hF : Cm E mX9_isSheet [.int x1] H (fun w H_1 => ∃ r_2 : Int32, w = some (.int r_2) ∧ ((¬ r_2 = 0 → (∃ j_4 : Nat, (j_4 < 4 ∧ x1 = nI j_4) ∧ (∀ x2_5 : Int32, x2_5 = H_1 (91 + 2 * j_4) 1 → ((0 ≤ x2_5 → (∃ j_7 : Nat, (j_7 < 4 ∧ x1 = nI j_7) ∧ (∀ H_8 : Hi, H_8 = up H_1 (91 + 2 * j_7) 1 (-1 : Int32) → (Q (some (.int x2_5)) H_8)))) ∧ (¬ 0 ≤ x2_5 → (Cm E mX9_found [rf E 0, .int (1 : Int32)] H_1 (fun w H_9 => ∃ r_10 : Int32, w = some (.int r_10) ∧ (Q (some (.int r_10)) H_9)))))))) ∧ (r_2 = 0 → (Q (some (.int (-2 : Int32))) H_1))))) :
    Rm E mX9_lose Q 0 [some (rf E 0), some (.int x1), none] [] H := by
  refine rn_iload_n dX9_lose_0 rfl ?_
  refine rm_callS (As := [.int x1]) (st := []) mlRX9_142 mdX9_isSheet (Nat.le_of_ble_eq_true rfl) rfl rfl (Nat.le_of_ble_eq_true rfl) ⟨Nat.le_refl _, Nat.le_refl _⟩ dX9_lose_1 ?_
  refine cm_mono hF (fun w H_1 hF => ?_)
  obtain ⟨r_2, rfl, hF⟩ := hF
  refine rn_if_ne (tgt := 10) dX9_lose_4 (by decide) (fun hc_3 => ?_) (fun hc_3 => ?_)
  · replace hF := hF.1 hc_3
    refine rn_aload_n dX9_lose_10 rfl ?_
    refine rm_getr (r := 90) flRX9_74 rfl (by decide) rfl dX9_lose_11 ?_
    refine rn_iload_n dX9_lose_14 rfl ?_
    obtain ⟨j_4, hj_4, hF⟩ := hF
    refine rj_aald (Cn := RX5) (r := (91 + 2 * j_4)) hj_4 (sh_she _ hj_4.1).2.2.1 rfl (by decide) (by decide) rfl (by decide) dX9_lose_15 ?_
    refine rm_geti flRX9_145 (sh_she _ hj_4.1).1 (sh_she _ hj_4.1).2.1 (sh_she _ hj_4.1).2.2.2.2.1 dX9_lose_16 ?_
    refine rn_istore_n dX9_lose_19 rfl (by decide) (fun x2_5 ex2_5 => ?_)
    replace hF := hF x2_5 ex2_5
    refine rn_iload_n dX9_lose_20 rfl ?_
    refine rn_if_ge (tgt := 30) dX9_lose_21 (by decide) (fun hc_6 => ?_) (fun hc_6 => ?_)
    · replace hF := hF.1 hc_6
      refine rn_aload_n dX9_lose_30 rfl ?_
      refine rm_getr (r := 90) flRX9_74 rfl (by decide) rfl dX9_lose_31 ?_
      refine rn_iload_n dX9_lose_34 rfl ?_
      obtain ⟨j_7, hj_7, hF⟩ := hF
      refine rj_aald (Cn := RX5) (r := (91 + 2 * j_7)) hj_7 (sh_she _ hj_7.1).2.2.1 rfl (by decide) (by decide) rfl (by decide) dX9_lose_35 ?_
      refine rn_iconst (x := (-1 : Int32)) dX9_lose_36 (by decide) ?_
      refine rm_puti flRX9_145 (sh_she _ hj_7.1).1 (sh_she _ hj_7.1).2.1 (sh_she _ hj_7.1).2.2.2.2.1 dX9_lose_37 (fun H_8 eH_8 => ?_)
      replace hF := hF H_8 eH_8
      refine rn_iload_n dX9_lose_40 rfl ?_
      exact rm_iret rfl dX9_lose_41 hF
    · replace hF := hF.2 hc_6
      refine rn_aload_n dX9_lose_24 rfl ?_
      refine rn_iconst (x := (1 : Int32)) dX9_lose_25 (by decide) ?_
      refine rm_callV (c0 := 0) (As := [.int (1 : Int32)]) (st := []) mlRX9_146 mdX9_found (Nat.le_of_ble_eq_true rfl) rfl (by decide) (by decide) rfl rfl rfl (Nat.le_of_ble_eq_true rfl) ⟨Nat.le_refl _, Nat.le_refl _⟩ dX9_lose_26 ?_
      refine cm_mono hF (fun w H_9 hF => ?_)
      obtain ⟨r_10, rfl, hF⟩ := hF
      exact rm_iret rfl dX9_lose_29 hF
  · replace hF := hF.2 hc_3
    refine rn_bipush (x := (-2 : Int32)) dX9_lose_7 (by decide) ?_
    exact rm_iret rfl dX9_lose_9 hF
theorem cmX9_lose {E : En} {Q : Option Value → Hi → Prop} {H : Hi} {x1 : Int32} 
    (hF : Cm E mX9_isSheet [.int x1] H (fun w H_1 => ∃ r_2 : Int32, w = some (.int r_2) ∧ ((¬ r_2 = 0 → (∃ j_4 : Nat, (j_4 < 4 ∧ x1 = nI j_4) ∧ (∀ x2_5 : Int32, x2_5 = H_1 (91 + 2 * j_4) 1 → ((0 ≤ x2_5 → (∃ j_7 : Nat, (j_7 < 4 ∧ x1 = nI j_7) ∧ (∀ H_8 : Hi, H_8 = up H_1 (91 + 2 * j_7) 1 (-1 : Int32) → (Q (some (.int x2_5)) H_8)))) ∧ (¬ 0 ≤ x2_5 → (Cm E mX9_found [rf E 0, .int (1 : Int32)] H_1 (fun w H_9 => ∃ r_10 : Int32, w = some (.int r_10) ∧ (Q (some (.int r_10)) H_9)))))))) ∧ (r_2 = 0 → (Q (some (.int (-2 : Int32))) H_1))))) :
    Cm E mX9_lose [rf E 0, .int x1] H Q :=
  cm_of (by decide +kernel) (Nat.le_of_ble_eq_true rfl) rfl (sgX9_lose_0  hF)
theorem sgX9_put_0 {E : En} {Q : Option Value → Hi → Prop} {H : Hi} {x1 : Int32} {x2 : Int32} {x3 : Int32} {x4 : Int32} 
    (hF : Cm E mX9_isSheet [.int x1] H (fun w H_1 => ∃ r_2 : Int32, w = some (.int r_2) ∧ ((r_2 = 0 → (Q (some (.int (-2 : Int32))) H_1)) ∧ (¬ r_2 = 0 → (Cm E mX9_isForm [.int x2] H_1 (fun w H_4 => ∃ r_5 : Int32, w = some (.int r_5) ∧ ((¬ r_5 = 0 → (∃ j_7 : Nat, (j_7 < 4 ∧ x1 = nI j_7) ∧ (Cm E mX5_refusal [rf E (91 + 2 * j_7), .int x2, .int x3] H_4 (fun w H_8 => ∃ r_9 : Int32, w = some (.int r_9) ∧ ((r_9 = 0 → (Cm E mX5_set [rf E (91 + 2 * j_7), .int x3, .int x4] H_8 (fun w H_12 => w = none ∧ (Q (some (.int (1 : Int32))) H_12)))) ∧ (¬ r_9 = 0 → (Cm E mX9_found [rf E 0, .int r_9] H_8 (fun w H_13 => ∃ r_14 : Int32, w = some (.int r_14) ∧ (Q (some (.int r_14)) H_13))))))))) ∧ (r_5 = 0 → (Q (some (.int (-2 : Int32))) H_4))))))))) :
    Rm E mX9_put Q 0 [some (rf E 0), some (.int x1), some (.int x2), some (.int x3), some (.int x4), none, none] [] H := by
  refine rn_iload_n dX9_put_0 rfl ?_
  refine rm_callS (As := [.int x1]) (st := []) mlRX9_142 mdX9_isSheet (Nat.le_of_ble_eq_true rfl) rfl rfl (Nat.le_of_ble_eq_true rfl) ⟨Nat.le_refl _, Nat.le_refl _⟩ dX9_put_1 ?_
  refine cm_mono hF (fun w H_1 hF => ?_)
  obtain ⟨r_2, rfl, hF⟩ := hF
  refine rn_if_eq (tgt := 14) dX9_put_4 (by decide) (fun hc_3 => ?_) (fun hc_3 => ?_)
  · replace hF := hF.1 hc_3
    refine rn_bipush (x := (-2 : Int32)) dX9_put_14 (by decide) ?_
    exact rm_iret rfl dX9_put_16 hF
  · replace hF := hF.2 hc_3
    refine rn_iload_n dX9_put_7 rfl ?_
    refine rm_callS (As := [.int x2]) (st := []) mlRX9_233 mdX9_isForm (Nat.le_of_ble_eq_true rfl) rfl rfl (Nat.le_of_ble_eq_true rfl) ⟨Nat.le_refl _, Nat.le_refl _⟩ dX9_put_8 ?_
    refine cm_mono hF (fun w H_4 hF => ?_)
    obtain ⟨r_5, rfl, hF⟩ := hF
    refine rn_if_ne (tgt := 17) dX9_put_11 (by decide) (fun hc_6 => ?_) (fun hc_6 => ?_)
    · replace hF := hF.1 hc_6
      refine rn_aload_n dX9_put_17 rfl ?_
      refine rm_getr (r := 90) flRX9_74 rfl (by decide) rfl dX9_put_18 ?_
      refine rn_iload_n dX9_put_21 rfl ?_
      obtain ⟨j_7, hj_7, hF⟩ := hF
      refine rj_aald (Cn := RX5) (r := (91 + 2 * j_7)) hj_7 (sh_she _ hj_7.1).2.2.1 rfl (by decide) (by decide) rfl (by decide) dX9_put_22 ?_
      refine rn_astore dX9_put_23 rfl (by decide) ?_
      refine rn_aload dX9_put_25 rfl ?_
      refine rn_iload_n dX9_put_27 rfl ?_
      refine rn_iload_n dX9_put_28 rfl ?_
      refine rm_callV (c0 := (91 + 2 * j_7)) (As := [.int x2, .int x3]) (st := []) mlRX9_245 mdX5_refusal (Nat.le_of_ble_eq_true rfl) (sh_she _ hj_7.1).1 (sh_she _ hj_7.1).2.1 (by decide) rfl rfl rfl (Nat.le_of_ble_eq_true rfl) ⟨Nat.le_refl _, Nat.le_refl _⟩ dX9_put_29 ?_
      refine cm_mono hF (fun w H_8 hF => ?_)
      obtain ⟨r_9, rfl, hF⟩ := hF
      refine rn_istore dX9_put_32 rfl (by decide) (fun x6_10 ex6_10 => ?_)
      subst ex6_10
      refine rn_iload dX9_put_34 rfl ?_
      refine rn_if_eq (tgt := 46) dX9_put_36 (by decide) (fun hc_11 => ?_) (fun hc_11 => ?_)
      · replace hF := hF.1 hc_11
        refine rn_aload dX9_put_46 rfl ?_
        refine rn_iload_n dX9_put_48 rfl ?_
        refine rn_iload dX9_put_49 rfl ?_
        refine rm_callV (c0 := (91 + 2 * j_7)) (As := [.int x3, .int x4]) (st := []) mlRX9_248 mdX5_set (Nat.le_of_ble_eq_true rfl) (sh_she _ hj_7.1).1 (sh_she _ hj_7.1).2.1 (by decide) rfl rfl rfl (Nat.le_of_ble_eq_true rfl) ⟨Nat.le_refl _, Nat.le_refl _⟩ dX9_put_51 ?_
        refine cm_mono hF (fun w H_12 hF => ?_)
        obtain ⟨rfl, hF⟩ := hF
        refine rn_iconst (x := (1 : Int32)) dX9_put_54 (by decide) ?_
        exact rm_iret rfl dX9_put_55 hF
      · replace hF := hF.2 hc_11
        refine rn_aload_n dX9_put_39 rfl ?_
        refine rn_iload dX9_put_40 rfl ?_
        refine rm_callV (c0 := 0) (As := [.int r_9]) (st := []) mlRX9_146 mdX9_found (Nat.le_of_ble_eq_true rfl) rfl (by decide) (by decide) rfl rfl rfl (Nat.le_of_ble_eq_true rfl) ⟨Nat.le_refl _, Nat.le_refl _⟩ dX9_put_42 ?_
        refine cm_mono hF (fun w H_13 hF => ?_)
        obtain ⟨r_14, rfl, hF⟩ := hF
        exact rm_iret rfl dX9_put_45 hF
    · replace hF := hF.2 hc_6
      refine rn_bipush (x := (-2 : Int32)) dX9_put_14 (by decide) ?_
      exact rm_iret rfl dX9_put_16 hF
theorem cmX9_put {E : En} {Q : Option Value → Hi → Prop} {H : Hi} {x1 : Int32} {x2 : Int32} {x3 : Int32} {x4 : Int32} 
    (hF : Cm E mX9_isSheet [.int x1] H (fun w H_1 => ∃ r_2 : Int32, w = some (.int r_2) ∧ ((r_2 = 0 → (Q (some (.int (-2 : Int32))) H_1)) ∧ (¬ r_2 = 0 → (Cm E mX9_isForm [.int x2] H_1 (fun w H_4 => ∃ r_5 : Int32, w = some (.int r_5) ∧ ((¬ r_5 = 0 → (∃ j_7 : Nat, (j_7 < 4 ∧ x1 = nI j_7) ∧ (Cm E mX5_refusal [rf E (91 + 2 * j_7), .int x2, .int x3] H_4 (fun w H_8 => ∃ r_9 : Int32, w = some (.int r_9) ∧ ((r_9 = 0 → (Cm E mX5_set [rf E (91 + 2 * j_7), .int x3, .int x4] H_8 (fun w H_12 => w = none ∧ (Q (some (.int (1 : Int32))) H_12)))) ∧ (¬ r_9 = 0 → (Cm E mX9_found [rf E 0, .int r_9] H_8 (fun w H_13 => ∃ r_14 : Int32, w = some (.int r_14) ∧ (Q (some (.int r_14)) H_13))))))))) ∧ (r_5 = 0 → (Q (some (.int (-2 : Int32))) H_4))))))))) :
    Cm E mX9_put [rf E 0, .int x1, .int x2, .int x3, .int x4] H Q :=
  cm_of (by decide +kernel) (Nat.le_of_ble_eq_true rfl) rfl (sgX9_put_0  hF)
theorem sgX9_get_0 {E : En} {Q : Option Value → Hi → Prop} {H : Hi} {x1 : Int32} {x2 : Int32} {x3 : Int32} 
    (hF : Cm E mX9_isSheet [.int x1] H (fun w H_1 => ∃ r_2 : Int32, w = some (.int r_2) ∧ ((r_2 = 0 → (Q (some (.int (-2147483648 : Int32))) H_1)) ∧ (¬ r_2 = 0 → (Cm E mX9_isForm [.int x2] H_1 (fun w H_4 => ∃ r_5 : Int32, w = some (.int r_5) ∧ ((¬ r_5 = 0 → (∃ j_7 : Nat, (j_7 < 4 ∧ x1 = nI j_7) ∧ (Cm E mX5_refusal [rf E (91 + 2 * j_7), .int x2, .int x3] H_4 (fun w H_8 => ∃ r_9 : Int32, w = some (.int r_9) ∧ ((r_9 = 0 → (∃ j_12 : Nat, (j_12 < 60 ∧ x3 = nI j_12) ∧ (Q (some (.int (H_8 (92 + 2 * j_7) j_12))) H_8))) ∧ (¬ r_9 = 0 → (∀ H_13 : Hi, H_13 = up H_8 0 8 r_9 → (Q (some (.int (-2147483648 : Int32))) H_13)))))))) ∧ (r_5 = 0 → (Q (some (.int (-2147483648 : Int32))) H_4))))))))) :
    Rm E mX9_get Q 0 [some (rf E 0), some (.int x1), some (.int x2), some (.int x3), none, none] [] H := by
  refine rn_iload_n dX9_get_0 rfl ?_
  refine rm_callS (As := [.int x1]) (st := []) mlRX9_142 mdX9_isSheet (Nat.le_of_ble_eq_true rfl) rfl rfl (Nat.le_of_ble_eq_true rfl) ⟨Nat.le_refl _, Nat.le_refl _⟩ dX9_get_1 ?_
  refine cm_mono hF (fun w H_1 hF => ?_)
  obtain ⟨r_2, rfl, hF⟩ := hF
  refine rn_if_eq (tgt := 14) dX9_get_4 (by decide) (fun hc_3 => ?_) (fun hc_3 => ?_)
  · replace hF := hF.1 hc_3
    refine rn_ldc coRX9_252 dX9_get_14 ?_
    exact rm_iret rfl dX9_get_16 hF
  · replace hF := hF.2 hc_3
    refine rn_iload_n dX9_get_7 rfl ?_
    refine rm_callS (As := [.int x2]) (st := []) mlRX9_233 mdX9_isForm (Nat.le_of_ble_eq_true rfl) rfl rfl (Nat.le_of_ble_eq_true rfl) ⟨Nat.le_refl _, Nat.le_refl _⟩ dX9_get_8 ?_
    refine cm_mono hF (fun w H_4 hF => ?_)
    obtain ⟨r_5, rfl, hF⟩ := hF
    refine rn_if_ne (tgt := 17) dX9_get_11 (by decide) (fun hc_6 => ?_) (fun hc_6 => ?_)
    · replace hF := hF.1 hc_6
      refine rn_aload_n dX9_get_17 rfl ?_
      refine rm_getr (r := 90) flRX9_74 rfl (by decide) rfl dX9_get_18 ?_
      refine rn_iload_n dX9_get_21 rfl ?_
      obtain ⟨j_7, hj_7, hF⟩ := hF
      refine rj_aald (Cn := RX5) (r := (91 + 2 * j_7)) hj_7 (sh_she _ hj_7.1).2.2.1 rfl (by decide) (by decide) rfl (by decide) dX9_get_22 ?_
      refine rn_astore dX9_get_23 rfl (by decide) ?_
      refine rn_aload dX9_get_25 rfl ?_
      refine rn_iload_n dX9_get_27 rfl ?_
      refine rn_iload_n dX9_get_28 rfl ?_
      refine rm_callV (c0 := (91 + 2 * j_7)) (As := [.int x2, .int x3]) (st := []) mlRX9_245 mdX5_refusal (Nat.le_of_ble_eq_true rfl) (sh_she _ hj_7.1).1 (sh_she _ hj_7.1).2.1 (by decide) rfl rfl rfl (Nat.le_of_ble_eq_true rfl) ⟨Nat.le_refl _, Nat.le_refl _⟩ dX9_get_29 ?_
      refine cm_mono hF (fun w H_8 hF => ?_)
      obtain ⟨r_9, rfl, hF⟩ := hF
      refine rn_istore dX9_get_32 rfl (by decide) (fun x5_10 ex5_10 => ?_)
      subst ex5_10
      refine rn_iload dX9_get_34 rfl ?_
      refine rn_if_eq (tgt := 48) dX9_get_36 (by decide) (fun hc_11 => ?_) (fun hc_11 => ?_)
      · replace hF := hF.1 hc_11
        refine rn_aload dX9_get_48 rfl ?_
        refine rm_getr (r := (92 + 2 * j_7)) flRX9_149 (sh_she _ hj_7.1).1 (sh_she _ hj_7.1).2.1 (sh_she _ hj_7.1).2.2.2.2.2.1 dX9_get_50 ?_
        refine rn_iload_n dX9_get_53 rfl ?_
        obtain ⟨j_12, hj_12, hF⟩ := hF
        refine rj_iald hj_12 (sh_she _ hj_7.1).2.2.2.2.2.2.1 (sh_she _ hj_7.1).2.2.2.2.2.2.2.1 (sh_she _ hj_7.1).2.2.2.2.2.2.2.2 (by decide) dX9_get_54 ?_
        exact rm_iret rfl dX9_get_55 hF
      · replace hF := hF.2 hc_11
        refine rn_aload_n dX9_get_39 rfl ?_
        refine rn_iload dX9_get_40 rfl ?_
        refine rm_puti flRX9_253 rfl (by decide) rfl dX9_get_42 (fun H_13 eH_13 => ?_)
        replace hF := hF H_13 eH_13
        refine rn_ldc coRX9_252 dX9_get_45 ?_
        exact rm_iret rfl dX9_get_47 hF
    · replace hF := hF.2 hc_6
      refine rn_ldc coRX9_252 dX9_get_14 ?_
      exact rm_iret rfl dX9_get_16 hF
theorem cmX9_get {E : En} {Q : Option Value → Hi → Prop} {H : Hi} {x1 : Int32} {x2 : Int32} {x3 : Int32} 
    (hF : Cm E mX9_isSheet [.int x1] H (fun w H_1 => ∃ r_2 : Int32, w = some (.int r_2) ∧ ((r_2 = 0 → (Q (some (.int (-2147483648 : Int32))) H_1)) ∧ (¬ r_2 = 0 → (Cm E mX9_isForm [.int x2] H_1 (fun w H_4 => ∃ r_5 : Int32, w = some (.int r_5) ∧ ((¬ r_5 = 0 → (∃ j_7 : Nat, (j_7 < 4 ∧ x1 = nI j_7) ∧ (Cm E mX5_refusal [rf E (91 + 2 * j_7), .int x2, .int x3] H_4 (fun w H_8 => ∃ r_9 : Int32, w = some (.int r_9) ∧ ((r_9 = 0 → (∃ j_12 : Nat, (j_12 < 60 ∧ x3 = nI j_12) ∧ (Q (some (.int (H_8 (92 + 2 * j_7) j_12))) H_8))) ∧ (¬ r_9 = 0 → (∀ H_13 : Hi, H_13 = up H_8 0 8 r_9 → (Q (some (.int (-2147483648 : Int32))) H_13)))))))) ∧ (r_5 = 0 → (Q (some (.int (-2147483648 : Int32))) H_4))))))))) :
    Cm E mX9_get [rf E 0, .int x1, .int x2, .int x3] H Q :=
  cm_of (by decide +kernel) (Nat.le_of_ble_eq_true rfl) rfl (sgX9_get_0  hF)
theorem sgX9_copy_0 {E : En} {Q : Option Value → Hi → Prop} {H : Hi} {x1 : Int32} {x2 : Int32} {x3 : Int32} {x4 : Int32} {x5 : Int32} 
    (hF : Cm E mX9_isSheet [.int x1] H (fun w H_1 => ∃ r_2 : Int32, w = some (.int r_2) ∧ ((r_2 = 0 → (Q (some (.int (-2 : Int32))) H_1)) ∧ (¬ r_2 = 0 → (Cm E mX9_isSheet [.int x3] H_1 (fun w H_4 => ∃ r_5 : Int32, w = some (.int r_5) ∧ ((¬ r_5 = 0 → (∃ j_7 : Nat, (j_7 < 4 ∧ x1 = nI j_7) ∧ (∃ j_8 : Nat, (j_8 < 4 ∧ x3 = nI j_8) ∧ (((H_4 (91 + 2 * j_7) 1) < 0 → (Cm E mX9_found [rf E 0, .int (1 : Int32)] H_4 (fun w H_10 => ∃ r_11 : Int32, w = some (.int r_11) ∧ (Q (some (.int r_11)) H_10)))) ∧ (¬ (H_4 (91 + 2 * j_7) 1) < 0 → ((0 ≤ (H_4 (91 + 2 * j_8) 1) → (((H_4 (91 + 2 * j_7) 0) = (H_4 (91 + 2 * j_8) 0) → (Cm E mX5_holds [rf E (91 + 2 * j_7), .int x2, .int x5] H_4 (fun w H_14 => ∃ r_15 : Int32, w = some (.int r_15) ∧ ((r_15 = 0 → (Cm E mX9_found [rf E 0, .int (2 : Int32)] H_14 (fun w H_17 => ∃ r_18 : Int32, w = some (.int r_18) ∧ (Q (some (.int r_18)) H_17)))) ∧ (¬ r_15 = 0 → (Cm E mX5_holds [rf E (91 + 2 * j_8), .int x4, .int x5] H_14 (fun w H_19 => ∃ r_20 : Int32, w = some (.int r_20) ∧ ((¬ r_20 = 0 → ((¬ x2 < 0) ∧ (¬ x4 < 0) ∧ (¬ x5 < 0) ∧ (x2.toNatClampNeg + x5.toNatClampNeg ≤ 60) ∧ (x4.toNatClampNeg + x5.toNatClampNeg ≤ 60) ∧ (∀ H_22 : Hi, H_22 = setR H_19 (92 + 2 * j_8) (va_cpy (H_19 (92 + 2 * j_7)) (H_19 (92 + 2 * j_8)) x2.toNatClampNeg x4.toNatClampNeg x5.toNatClampNeg) → (Q (some (.int (1 : Int32))) H_22)))) ∧ (r_20 = 0 → (Cm E mX9_found [rf E 0, .int (2 : Int32)] H_19 (fun w H_28 => ∃ r_29 : Int32, w = some (.int r_29) ∧ (Q (some (.int r_29)) H_28)))))))))))) ∧ (¬ (H_4 (91 + 2 * j_7) 0) = (H_4 (91 + 2 * j_8) 0) → (Cm E mX9_found [rf E 0, .int (4 : Int32)] H_4 (fun w H_30 => ∃ r_31 : Int32, w = some (.int r_31) ∧ (Q (some (.int r_31)) H_30)))))) ∧ (¬ 0 ≤ (H_4 (91 + 2 * j_8) 1) → (Cm E mX9_found [rf E 0, .int (1 : Int32)] H_4 (fun w H_32 => ∃ r_33 : Int32, w = some (.int r_33) ∧ (Q (some (.int r_33)) H_32)))))))))) ∧ (r_5 = 0 → (Q (some (.int (-2 : Int32))) H_4))))))))) :
    Rm E mX9_copy Q 0 [some (rf E 0), some (.int x1), some (.int x2), some (.int x3), some (.int x4), some (.int x5), none, none] [] H := by
  refine rn_iload_n dX9_copy_0 rfl ?_
  refine rm_callS (As := [.int x1]) (st := []) mlRX9_142 mdX9_isSheet (Nat.le_of_ble_eq_true rfl) rfl rfl (Nat.le_of_ble_eq_true rfl) ⟨Nat.le_refl _, Nat.le_refl _⟩ dX9_copy_1 ?_
  refine cm_mono hF (fun w H_1 hF => ?_)
  obtain ⟨r_2, rfl, hF⟩ := hF
  refine rn_if_eq (tgt := 14) dX9_copy_4 (by decide) (fun hc_3 => ?_) (fun hc_3 => ?_)
  · replace hF := hF.1 hc_3
    refine rn_bipush (x := (-2 : Int32)) dX9_copy_14 (by decide) ?_
    exact rm_iret rfl dX9_copy_16 hF
  · replace hF := hF.2 hc_3
    refine rn_iload_n dX9_copy_7 rfl ?_
    refine rm_callS (As := [.int x3]) (st := []) mlRX9_142 mdX9_isSheet (Nat.le_of_ble_eq_true rfl) rfl rfl (Nat.le_of_ble_eq_true rfl) ⟨Nat.le_refl _, Nat.le_refl _⟩ dX9_copy_8 ?_
    refine cm_mono hF (fun w H_4 hF => ?_)
    obtain ⟨r_5, rfl, hF⟩ := hF
    refine rn_if_ne (tgt := 17) dX9_copy_11 (by decide) (fun hc_6 => ?_) (fun hc_6 => ?_)
    · replace hF := hF.1 hc_6
      refine rn_aload_n dX9_copy_17 rfl ?_
      refine rm_getr (r := 90) flRX9_74 rfl (by decide) rfl dX9_copy_18 ?_
      refine rn_iload_n dX9_copy_21 rfl ?_
      obtain ⟨j_7, hj_7, hF⟩ := hF
      refine rj_aald (Cn := RX5) (r := (91 + 2 * j_7)) hj_7 (sh_she _ hj_7.1).2.2.1 rfl (by decide) (by decide) rfl (by decide) dX9_copy_22 ?_
      refine rn_astore dX9_copy_23 rfl (by decide) ?_
      refine rn_aload_n dX9_copy_25 rfl ?_
      refine rm_getr (r := 90) flRX9_74 rfl (by decide) rfl dX9_copy_26 ?_
      refine rn_iload_n dX9_copy_29 rfl ?_
      obtain ⟨j_8, hj_8, hF⟩ := hF
      refine rj_aald (Cn := RX5) (r := (91 + 2 * j_8)) hj_8 (sh_she _ hj_8.1).2.2.1 rfl (by decide) (by decide) rfl (by decide) dX9_copy_30 ?_
      refine rn_astore dX9_copy_31 rfl (by decide) ?_
      refine rn_aload dX9_copy_33 rfl ?_
      refine rm_geti flRX9_145 (sh_she _ hj_7.1).1 (sh_she _ hj_7.1).2.1 (sh_she _ hj_7.1).2.2.2.2.1 dX9_copy_35 ?_
      refine rn_if_lt (tgt := 49) dX9_copy_38 (by decide) (fun hc_9 => ?_) (fun hc_9 => ?_)
      · replace hF := hF.1 hc_9
        refine rn_aload_n dX9_copy_49 rfl ?_
        refine rn_iconst (x := (1 : Int32)) dX9_copy_50 (by decide) ?_
        refine rm_callV (c0 := 0) (As := [.int (1 : Int32)]) (st := []) mlRX9_146 mdX9_found (Nat.le_of_ble_eq_true rfl) rfl (by decide) (by decide) rfl rfl rfl (Nat.le_of_ble_eq_true rfl) ⟨Nat.le_refl _, Nat.le_refl _⟩ dX9_copy_51 ?_
        refine cm_mono hF (fun w H_10 hF => ?_)
        obtain ⟨r_11, rfl, hF⟩ := hF
        exact rm_iret rfl dX9_copy_54 hF
      · replace hF := hF.2 hc_9
        refine rn_aload dX9_copy_41 rfl ?_
        refine rm_geti flRX9_145 (sh_she _ hj_8.1).1 (sh_she _ hj_8.1).2.1 (sh_she _ hj_8.1).2.2.2.2.1 dX9_copy_43 ?_
        refine rn_if_ge (tgt := 55) dX9_copy_46 (by decide) (fun hc_12 => ?_) (fun hc_12 => ?_)
        · replace hF := hF.1 hc_12
          refine rn_aload dX9_copy_55 rfl ?_
          refine rm_geti flRX9_236 (sh_she _ hj_7.1).1 (sh_she _ hj_7.1).2.1 (sh_she _ hj_7.1).2.2.2.1 dX9_copy_57 ?_
          refine rn_aload dX9_copy_60 rfl ?_
          refine rm_geti flRX9_236 (sh_she _ hj_8.1).1 (sh_she _ hj_8.1).2.1 (sh_she _ hj_8.1).2.2.2.1 dX9_copy_62 ?_
          refine rn_icmp_eq (tgt := 74) dX9_copy_65 (by decide) (fun hc_13 => ?_) (fun hc_13 => ?_)
          · replace hF := hF.1 hc_13
            refine rn_aload dX9_copy_74 rfl ?_
            refine rn_iload_n dX9_copy_76 rfl ?_
            refine rn_iload dX9_copy_77 rfl ?_
            refine rm_callV (c0 := (91 + 2 * j_7)) (As := [.int x2, .int x5]) (st := []) mlRX9_256 mdX5_holds (Nat.le_of_ble_eq_true rfl) (sh_she _ hj_7.1).1 (sh_she _ hj_7.1).2.1 (by decide) rfl rfl rfl (Nat.le_of_ble_eq_true rfl) ⟨Nat.le_refl _, Nat.le_refl _⟩ dX9_copy_79 ?_
            refine cm_mono hF (fun w H_14 hF => ?_)
            obtain ⟨r_15, rfl, hF⟩ := hF
            refine rn_if_eq (tgt := 97) dX9_copy_82 (by decide) (fun hc_16 => ?_) (fun hc_16 => ?_)
            · replace hF := hF.1 hc_16
              refine rn_aload_n dX9_copy_97 rfl ?_
              refine rn_iconst (x := (2 : Int32)) dX9_copy_98 (by decide) ?_
              refine rm_callV (c0 := 0) (As := [.int (2 : Int32)]) (st := []) mlRX9_146 mdX9_found (Nat.le_of_ble_eq_true rfl) rfl (by decide) (by decide) rfl rfl rfl (Nat.le_of_ble_eq_true rfl) ⟨Nat.le_refl _, Nat.le_refl _⟩ dX9_copy_99 ?_
              refine cm_mono hF (fun w H_17 hF => ?_)
              obtain ⟨r_18, rfl, hF⟩ := hF
              exact rm_iret rfl dX9_copy_102 hF
            · replace hF := hF.2 hc_16
              refine rn_aload dX9_copy_85 rfl ?_
              refine rn_iload dX9_copy_87 rfl ?_
              refine rn_iload dX9_copy_89 rfl ?_
              refine rm_callV (c0 := (91 + 2 * j_8)) (As := [.int x4, .int x5]) (st := []) mlRX9_256 mdX5_holds (Nat.le_of_ble_eq_true rfl) (sh_she _ hj_8.1).1 (sh_she _ hj_8.1).2.1 (by decide) rfl rfl rfl (Nat.le_of_ble_eq_true rfl) ⟨Nat.le_refl _, Nat.le_refl _⟩ dX9_copy_91 ?_
              refine cm_mono hF (fun w H_19 hF => ?_)
              obtain ⟨r_20, rfl, hF⟩ := hF
              refine rn_if_ne (tgt := 103) dX9_copy_94 (by decide) (fun hc_21 => ?_) (fun hc_21 => ?_)
              · replace hF := hF.1 hc_21
                refine rn_aload dX9_copy_103 rfl ?_
                refine rm_getr (r := (92 + 2 * j_7)) flRX9_149 (sh_she _ hj_7.1).1 (sh_she _ hj_7.1).2.1 (sh_she _ hj_7.1).2.2.2.2.2.1 dX9_copy_105 ?_
                refine rn_iload_n dX9_copy_108 rfl ?_
                refine rn_aload dX9_copy_109 rfl ?_
                refine rm_getr (r := (92 + 2 * j_8)) flRX9_149 (sh_she _ hj_8.1).1 (sh_she _ hj_8.1).2.1 (sh_she _ hj_8.1).2.2.2.2.2.1 dX9_copy_111 ?_
                refine rn_iload dX9_copy_114 rfl ?_
                refine rn_iload dX9_copy_116 rfl ?_
                obtain ⟨hg_23, hg_24, hg_25, hg_26, hg_27, hF⟩ := hF
                refine rm_copy mlRX9_260 (sh_she _ hj_7.1).2.2.2.2.2.2.1 (sh_she _ hj_7.1).2.2.2.2.2.2.2.1 (sh_she _ hj_7.1).2.2.2.2.2.2.2.2 (sh_she _ hj_8.1).2.2.2.2.2.2.1 (sh_she _ hj_8.1).2.2.2.2.2.2.2.1 (sh_she _ hj_8.1).2.2.2.2.2.2.2.2 hg_23 hg_24 hg_25 hg_26 hg_27 (by decide) dX9_copy_118 (fun H_22 eH_22 => ?_)
                replace hF := hF H_22 eH_22
                refine rn_iconst (x := (1 : Int32)) dX9_copy_121 (by decide) ?_
                exact rm_iret rfl dX9_copy_122 hF
              · replace hF := hF.2 hc_21
                refine rn_aload_n dX9_copy_97 rfl ?_
                refine rn_iconst (x := (2 : Int32)) dX9_copy_98 (by decide) ?_
                refine rm_callV (c0 := 0) (As := [.int (2 : Int32)]) (st := []) mlRX9_146 mdX9_found (Nat.le_of_ble_eq_true rfl) rfl (by decide) (by decide) rfl rfl rfl (Nat.le_of_ble_eq_true rfl) ⟨Nat.le_refl _, Nat.le_refl _⟩ dX9_copy_99 ?_
                refine cm_mono hF (fun w H_28 hF => ?_)
                obtain ⟨r_29, rfl, hF⟩ := hF
                exact rm_iret rfl dX9_copy_102 hF
          · replace hF := hF.2 hc_13
            refine rn_aload_n dX9_copy_68 rfl ?_
            refine rn_iconst (x := (4 : Int32)) dX9_copy_69 (by decide) ?_
            refine rm_callV (c0 := 0) (As := [.int (4 : Int32)]) (st := []) mlRX9_146 mdX9_found (Nat.le_of_ble_eq_true rfl) rfl (by decide) (by decide) rfl rfl rfl (Nat.le_of_ble_eq_true rfl) ⟨Nat.le_refl _, Nat.le_refl _⟩ dX9_copy_70 ?_
            refine cm_mono hF (fun w H_30 hF => ?_)
            obtain ⟨r_31, rfl, hF⟩ := hF
            exact rm_iret rfl dX9_copy_73 hF
        · replace hF := hF.2 hc_12
          refine rn_aload_n dX9_copy_49 rfl ?_
          refine rn_iconst (x := (1 : Int32)) dX9_copy_50 (by decide) ?_
          refine rm_callV (c0 := 0) (As := [.int (1 : Int32)]) (st := []) mlRX9_146 mdX9_found (Nat.le_of_ble_eq_true rfl) rfl (by decide) (by decide) rfl rfl rfl (Nat.le_of_ble_eq_true rfl) ⟨Nat.le_refl _, Nat.le_refl _⟩ dX9_copy_51 ?_
          refine cm_mono hF (fun w H_32 hF => ?_)
          obtain ⟨r_33, rfl, hF⟩ := hF
          exact rm_iret rfl dX9_copy_54 hF
    · replace hF := hF.2 hc_6
      refine rn_bipush (x := (-2 : Int32)) dX9_copy_14 (by decide) ?_
      exact rm_iret rfl dX9_copy_16 hF
theorem cmX9_copy {E : En} {Q : Option Value → Hi → Prop} {H : Hi} {x1 : Int32} {x2 : Int32} {x3 : Int32} {x4 : Int32} {x5 : Int32} 
    (hF : Cm E mX9_isSheet [.int x1] H (fun w H_1 => ∃ r_2 : Int32, w = some (.int r_2) ∧ ((r_2 = 0 → (Q (some (.int (-2 : Int32))) H_1)) ∧ (¬ r_2 = 0 → (Cm E mX9_isSheet [.int x3] H_1 (fun w H_4 => ∃ r_5 : Int32, w = some (.int r_5) ∧ ((¬ r_5 = 0 → (∃ j_7 : Nat, (j_7 < 4 ∧ x1 = nI j_7) ∧ (∃ j_8 : Nat, (j_8 < 4 ∧ x3 = nI j_8) ∧ (((H_4 (91 + 2 * j_7) 1) < 0 → (Cm E mX9_found [rf E 0, .int (1 : Int32)] H_4 (fun w H_10 => ∃ r_11 : Int32, w = some (.int r_11) ∧ (Q (some (.int r_11)) H_10)))) ∧ (¬ (H_4 (91 + 2 * j_7) 1) < 0 → ((0 ≤ (H_4 (91 + 2 * j_8) 1) → (((H_4 (91 + 2 * j_7) 0) = (H_4 (91 + 2 * j_8) 0) → (Cm E mX5_holds [rf E (91 + 2 * j_7), .int x2, .int x5] H_4 (fun w H_14 => ∃ r_15 : Int32, w = some (.int r_15) ∧ ((r_15 = 0 → (Cm E mX9_found [rf E 0, .int (2 : Int32)] H_14 (fun w H_17 => ∃ r_18 : Int32, w = some (.int r_18) ∧ (Q (some (.int r_18)) H_17)))) ∧ (¬ r_15 = 0 → (Cm E mX5_holds [rf E (91 + 2 * j_8), .int x4, .int x5] H_14 (fun w H_19 => ∃ r_20 : Int32, w = some (.int r_20) ∧ ((¬ r_20 = 0 → ((¬ x2 < 0) ∧ (¬ x4 < 0) ∧ (¬ x5 < 0) ∧ (x2.toNatClampNeg + x5.toNatClampNeg ≤ 60) ∧ (x4.toNatClampNeg + x5.toNatClampNeg ≤ 60) ∧ (∀ H_22 : Hi, H_22 = setR H_19 (92 + 2 * j_8) (va_cpy (H_19 (92 + 2 * j_7)) (H_19 (92 + 2 * j_8)) x2.toNatClampNeg x4.toNatClampNeg x5.toNatClampNeg) → (Q (some (.int (1 : Int32))) H_22)))) ∧ (r_20 = 0 → (Cm E mX9_found [rf E 0, .int (2 : Int32)] H_19 (fun w H_28 => ∃ r_29 : Int32, w = some (.int r_29) ∧ (Q (some (.int r_29)) H_28)))))))))))) ∧ (¬ (H_4 (91 + 2 * j_7) 0) = (H_4 (91 + 2 * j_8) 0) → (Cm E mX9_found [rf E 0, .int (4 : Int32)] H_4 (fun w H_30 => ∃ r_31 : Int32, w = some (.int r_31) ∧ (Q (some (.int r_31)) H_30)))))) ∧ (¬ 0 ≤ (H_4 (91 + 2 * j_8) 1) → (Cm E mX9_found [rf E 0, .int (1 : Int32)] H_4 (fun w H_32 => ∃ r_33 : Int32, w = some (.int r_33) ∧ (Q (some (.int r_33)) H_32)))))))))) ∧ (r_5 = 0 → (Q (some (.int (-2 : Int32))) H_4))))))))) :
    Cm E mX9_copy [rf E 0, .int x1, .int x2, .int x3, .int x4, .int x5] H Q :=
  cm_of (by decide +kernel) (Nat.le_of_ble_eq_true rfl) rfl (sgX9_copy_0  hF)
theorem sgX9_write_0 {E : En} {Q : Option Value → Hi → Prop} {H : Hi} {x1 : Int32} {x2 : Int32} 
    (hF : Cm E mX9_isBit [.int x1] H (fun w H_1 => ∃ r_2 : Int32, w = some (.int r_2) ∧ ((r_2 = 0 → (Q (some (.int (-2 : Int32))) H_1)) ∧ (¬ r_2 = 0 → (Cm E mX9_isSheet [.int x2] H_1 (fun w H_4 => ∃ r_5 : Int32, w = some (.int r_5) ∧ ((¬ r_5 = 0 → (∃ j_7 : Nat, (j_7 < 4 ∧ x2 = nI j_7) ∧ ((0 ≤ (H_4 (91 + 2 * j_7) 1) → (Cm E mX9_refresh [rf E 0] H_4 (fun w H_9 => w = none ∧ (Cm E mJ9_min_7cf53 [.int (H_9 (91 + 2 * j_7) 1), .int (24 : Int32)] H_9 (fun w H_10 => ∃ r_11 : Int32, w = some (.int r_11) ∧ (Rm E mX9_write Q 55 [some (rf E 0), some (.int x1), none, some (rf E (91 + 2 * j_7)), some (.int r_11), some (.int (0 : Int32))] [] H_10)))))) ∧ (¬ 0 ≤ (H_4 (91 + 2 * j_7) 1) → (Cm E mX9_found [rf E 0, .int (1 : Int32)] H_4 (fun w H_14 => ∃ r_15 : Int32, w = some (.int r_15) ∧ (Q (some (.int r_15)) H_14))))))) ∧ (r_5 = 0 → (Q (some (.int (-2 : Int32))) H_4))))))))) :
    Rm E mX9_write Q 0 [some (rf E 0), some (.int x1), some (.int x2), none, none, none] [] H := by
  refine rn_iload_n dX9_write_0 rfl ?_
  refine rm_callS (As := [.int x1]) (st := []) mlRX9_116 mdX9_isBit (Nat.le_of_ble_eq_true rfl) rfl rfl (Nat.le_of_ble_eq_true rfl) ⟨Nat.le_refl _, Nat.le_refl _⟩ dX9_write_1 ?_
  refine cm_mono hF (fun w H_1 hF => ?_)
  obtain ⟨r_2, rfl, hF⟩ := hF
  refine rn_if_eq (tgt := 14) dX9_write_4 (by decide) (fun hc_3 => ?_) (fun hc_3 => ?_)
  · replace hF := hF.1 hc_3
    refine rn_bipush (x := (-2 : Int32)) dX9_write_14 (by decide) ?_
    exact rm_iret rfl dX9_write_16 hF
  · replace hF := hF.2 hc_3
    refine rn_iload_n dX9_write_7 rfl ?_
    refine rm_callS (As := [.int x2]) (st := []) mlRX9_142 mdX9_isSheet (Nat.le_of_ble_eq_true rfl) rfl rfl (Nat.le_of_ble_eq_true rfl) ⟨Nat.le_refl _, Nat.le_refl _⟩ dX9_write_8 ?_
    refine cm_mono hF (fun w H_4 hF => ?_)
    obtain ⟨r_5, rfl, hF⟩ := hF
    refine rn_if_ne (tgt := 17) dX9_write_11 (by decide) (fun hc_6 => ?_) (fun hc_6 => ?_)
    · replace hF := hF.1 hc_6
      refine rn_aload_n dX9_write_17 rfl ?_
      refine rm_getr (r := 90) flRX9_74 rfl (by decide) rfl dX9_write_18 ?_
      refine rn_iload_n dX9_write_21 rfl ?_
      obtain ⟨j_7, hj_7, hF⟩ := hF
      refine rj_aald (Cn := RX5) (r := (91 + 2 * j_7)) hj_7 (sh_she _ hj_7.1).2.2.1 rfl (by decide) (by decide) rfl (by decide) dX9_write_22 ?_
      refine rn_astore_n dX9_write_23 rfl (by decide) ?_
      refine rn_aload_n dX9_write_24 rfl ?_
      refine rm_geti flRX9_145 (sh_she _ hj_7.1).1 (sh_she _ hj_7.1).2.1 (sh_she _ hj_7.1).2.2.2.2.1 dX9_write_25 ?_
      refine rn_if_ge (tgt := 37) dX9_write_28 (by decide) (fun hc_8 => ?_) (fun hc_8 => ?_)
      · replace hF := hF.1 hc_8
        refine rn_aload_n dX9_write_37 rfl ?_
        refine rm_callV (c0 := 0) (As := []) (st := []) mlRX9_103 mdX9_refresh (Nat.le_of_ble_eq_true rfl) rfl (by decide) (by decide) rfl rfl rfl (Nat.le_of_ble_eq_true rfl) ⟨Nat.le_refl _, Nat.le_refl _⟩ dX9_write_38 ?_
        refine cm_mono hF (fun w H_9 hF => ?_)
        obtain ⟨rfl, hF⟩ := hF
        refine rn_aload_n dX9_write_41 rfl ?_
        refine rm_geti flRX9_145 (sh_she _ hj_7.1).1 (sh_she _ hj_7.1).2.1 (sh_she _ hj_7.1).2.2.2.2.1 dX9_write_42 ?_
        refine rn_bipush (x := (24 : Int32)) dX9_write_45 (by decide) ?_
        refine rm_callS (As := [.int (H_9 (91 + 2 * j_7) 1), .int (24 : Int32)]) (st := []) mlRX9_266 mdJ9_min_7cf53 (Nat.le_of_ble_eq_true rfl) rfl rfl (Nat.le_of_ble_eq_true rfl) ⟨Nat.le_refl _, Nat.le_refl _⟩ dX9_write_47 ?_
        refine cm_mono hF (fun w H_10 hF => ?_)
        obtain ⟨r_11, rfl, hF⟩ := hF
        refine rn_istore dX9_write_50 rfl (by decide) (fun x4_12 ex4_12 => ?_)
        subst ex4_12
        refine rn_iconst (x := (0 : Int32)) dX9_write_52 (by decide) ?_
        refine rn_istore dX9_write_53 rfl (by decide) (fun x5_13 ex5_13 => ?_)
        subst ex5_13
        exact rn_wk (L' := [some (rf E 0), some (.int x1), none, some (rf E (91 + 2 * j_7)), some (.int r_11), some (.int (0 : Int32))]) (⟨rfl, ⟨rfl, ⟨rfl, ⟨rfl, ⟨rfl, trivial⟩⟩⟩⟩⟩) hF
      · replace hF := hF.2 hc_8
        refine rn_aload_n dX9_write_31 rfl ?_
        refine rn_iconst (x := (1 : Int32)) dX9_write_32 (by decide) ?_
        refine rm_callV (c0 := 0) (As := [.int (1 : Int32)]) (st := []) mlRX9_146 mdX9_found (Nat.le_of_ble_eq_true rfl) rfl (by decide) (by decide) rfl rfl rfl (Nat.le_of_ble_eq_true rfl) ⟨Nat.le_refl _, Nat.le_refl _⟩ dX9_write_33 ?_
        refine cm_mono hF (fun w H_14 hF => ?_)
        obtain ⟨r_15, rfl, hF⟩ := hF
        exact rm_iret rfl dX9_write_36 hF
    · replace hF := hF.2 hc_6
      refine rn_bipush (x := (-2 : Int32)) dX9_write_14 (by decide) ?_
      exact rm_iret rfl dX9_write_16 hF
theorem cmX9_write {E : En} {Q : Option Value → Hi → Prop} {H : Hi} {x1 : Int32} {x2 : Int32} 
    (hF : Cm E mX9_isBit [.int x1] H (fun w H_1 => ∃ r_2 : Int32, w = some (.int r_2) ∧ ((r_2 = 0 → (Q (some (.int (-2 : Int32))) H_1)) ∧ (¬ r_2 = 0 → (Cm E mX9_isSheet [.int x2] H_1 (fun w H_4 => ∃ r_5 : Int32, w = some (.int r_5) ∧ ((¬ r_5 = 0 → (∃ j_7 : Nat, (j_7 < 4 ∧ x2 = nI j_7) ∧ ((0 ≤ (H_4 (91 + 2 * j_7) 1) → (Cm E mX9_refresh [rf E 0] H_4 (fun w H_9 => w = none ∧ (Cm E mJ9_min_7cf53 [.int (H_9 (91 + 2 * j_7) 1), .int (24 : Int32)] H_9 (fun w H_10 => ∃ r_11 : Int32, w = some (.int r_11) ∧ (Rm E mX9_write Q 55 [some (rf E 0), some (.int x1), none, some (rf E (91 + 2 * j_7)), some (.int r_11), some (.int (0 : Int32))] [] H_10)))))) ∧ (¬ 0 ≤ (H_4 (91 + 2 * j_7) 1) → (Cm E mX9_found [rf E 0, .int (1 : Int32)] H_4 (fun w H_14 => ∃ r_15 : Int32, w = some (.int r_15) ∧ (Q (some (.int r_15)) H_14))))))) ∧ (r_5 = 0 → (Q (some (.int (-2 : Int32))) H_4))))))))) :
    Cm E mX9_write [rf E 0, .int x1, .int x2] H Q :=
  cm_of (by decide +kernel) (Nat.le_of_ble_eq_true rfl) rfl (sgX9_write_0  hF)
theorem sgX9_write_55 {E : En} {Q : Option Value → Hi → Prop} {H : Hi} {x1 : Int32} {q3 : Nat} {x4 : Int32} {x5 : Int32} (hq3 : q3 < 4)
    (hF : (x4 ≤ x5 → (Q (some (.int x4)) H)) ∧ (¬ x4 ≤ x5 → ((¬ x1 = 0 → (Cm E mX2_content [rf E 22, .int x5] H (fun w H_3 => ∃ r_4 : Int32, w = some (.int r_4) ∧ (Cm E mX5_set [rf E (91 + 2 * q3), .int x5, .int r_4] H_3 (fun w H_5 => w = none ∧ (∀ x5_6 : Int32, x5_6 = x5 + (1 : Int32) → (Rm E mX9_write Q 55 [some (rf E 0), some (.int x1), none, some (rf E (91 + 2 * q3)), some (.int x4), some (.int x5_6)] [] H_5))))))) ∧ (x1 = 0 → (∃ j_7 : Nat, (j_7 < 24 ∧ x5 = nI j_7) ∧ (Cm E mX5_set [rf E (91 + 2 * q3), .int x5, .int (H (28 + 2 * j_7) 2)] H (fun w H_8 => w = none ∧ (∀ x5_9 : Int32, x5_9 = x5 + (1 : Int32) → (Rm E mX9_write Q 55 [some (rf E 0), some (.int x1), none, some (rf E (91 + 2 * q3)), some (.int x4), some (.int x5_9)] [] H_8))))))))) :
    Rm E mX9_write Q 55 [some (rf E 0), some (.int x1), none, some (rf E (91 + 2 * q3)), some (.int x4), some (.int x5)] [] H := by
  refine rn_iload dX9_write_55 rfl ?_
  refine rn_iload dX9_write_57 rfl ?_
  refine rn_icmp_ge (tgt := 103) dX9_write_59 (by decide) (fun hc_1 => ?_) (fun hc_1 => ?_)
  · replace hF := hF.1 hc_1
    refine rn_iload dX9_write_103 rfl ?_
    exact rm_iret rfl dX9_write_105 hF
  · replace hF := hF.2 hc_1
    refine rn_aload_n dX9_write_62 rfl ?_
    refine rn_iload dX9_write_63 rfl ?_
    refine rn_iload_n dX9_write_65 rfl ?_
    refine rn_if_ne (tgt := 85) dX9_write_66 (by decide) (fun hc_2 => ?_) (fun hc_2 => ?_)
    · replace hF := hF.1 hc_2
      refine rn_aload_n dX9_write_85 rfl ?_
      refine rm_getr (r := 22) flRX9_52 rfl (by decide) rfl dX9_write_86 ?_
      refine rn_iload dX9_write_89 rfl ?_
      refine rm_callV (c0 := 22) (As := [.int x5]) (st := [.int x5, rf E (91 + 2 * q3)]) mlRX9_171 mdX2_content (Nat.le_of_ble_eq_true rfl) rfl (by decide) (by decide) rfl rfl rfl (Nat.le_of_ble_eq_true rfl) ⟨Nat.le_refl _, Nat.le_refl _⟩ dX9_write_91 ?_
      refine cm_mono hF (fun w H_3 hF => ?_)
      obtain ⟨r_4, rfl, hF⟩ := hF
      refine rm_callV (c0 := (91 + 2 * q3)) (As := [.int x5, .int r_4]) (st := []) mlRX9_248 mdX5_set (Nat.le_of_ble_eq_true rfl) (sh_she _ hq3).1 (sh_she _ hq3).2.1 (by decide) rfl rfl rfl (Nat.le_of_ble_eq_true rfl) ⟨Nat.le_refl _, Nat.le_refl _⟩ dX9_write_94 ?_
      refine cm_mono hF (fun w H_5 hF => ?_)
      obtain ⟨rfl, hF⟩ := hF
      refine rn_iinc (w := (1 : Int32)) dX9_write_97 rfl (by decide) rfl (by decide) (fun x5_6 ex5_6 => ?_)
      replace hF := hF x5_6 ex5_6
      refine rn_goto (tgt := 55) dX9_write_100 (by decide) ?_
      exact rn_wk (L' := [some (rf E 0), some (.int x1), none, some (rf E (91 + 2 * q3)), some (.int x4), some (.int x5_6)]) (⟨rfl, ⟨rfl, ⟨rfl, ⟨rfl, ⟨rfl, trivial⟩⟩⟩⟩⟩) hF
    · replace hF := hF.2 hc_2
      refine rn_aload_n dX9_write_69 rfl ?_
      refine rm_getr (r := 22) flRX9_52 rfl (by decide) rfl dX9_write_70 ?_
      refine rm_getr (r := 25) flRX9_156 rfl (by decide) rfl dX9_write_73 ?_
      refine rn_iload dX9_write_76 rfl ?_
      obtain ⟨j_7, hj_7, hF⟩ := hF
      refine rj_aald (Cn := RX6) (r := (28 + 2 * j_7)) hj_7 (st_beh _ hj_7.1).2 rfl (by decide) (by decide) rfl (by decide) dX9_write_78 ?_
      refine rm_geti flRX9_168 (st_beh _ hj_7.1).1.2.1 (st_beh _ hj_7.1).1.1 (rT_row (st_beh _ hj_7.1).1.2.2 _) dX9_write_79 ?_
      refine rn_goto (tgt := 94) dX9_write_82 (by decide) ?_
      refine rm_callV (c0 := (91 + 2 * q3)) (As := [.int x5, .int (H (28 + 2 * j_7) 2)]) (st := []) mlRX9_248 mdX5_set (Nat.le_of_ble_eq_true rfl) (sh_she _ hq3).1 (sh_she _ hq3).2.1 (by decide) rfl rfl rfl (Nat.le_of_ble_eq_true rfl) ⟨Nat.le_refl _, Nat.le_refl _⟩ dX9_write_94 ?_
      refine cm_mono hF (fun w H_8 hF => ?_)
      obtain ⟨rfl, hF⟩ := hF
      refine rn_iinc (w := (1 : Int32)) dX9_write_97 rfl (by decide) rfl (by decide) (fun x5_9 ex5_9 => ?_)
      replace hF := hF x5_9 ex5_9
      refine rn_goto (tgt := 55) dX9_write_100 (by decide) ?_
      exact rn_wk (L' := [some (rf E 0), some (.int x1), none, some (rf E (91 + 2 * q3)), some (.int x4), some (.int x5_9)]) (⟨rfl, ⟨rfl, ⟨rfl, ⟨rfl, ⟨rfl, trivial⟩⟩⟩⟩⟩) hF
theorem sgX9_count_0 {E : En} {Q : Option Value → Hi → Prop} {H : Hi} {x1 : Int32} 
    (hF : Cm E mX9_refresh [rf E 0] H (fun w H_1 => w = none ∧ (Cm E mX9_tally [rf E 0, .int x1] H_1 (fun w H_2 => ∃ r_3 : Int32, w = some (.int r_3) ∧ (Q (some (.int r_3)) H_2))))) :
    Rm E mX9_count Q 0 [some (rf E 0), some (.int x1)] [] H := by
  refine rn_aload_n dX9_count_0 rfl ?_
  refine rm_callV (c0 := 0) (As := []) (st := []) mlRX9_103 mdX9_refresh (Nat.le_of_ble_eq_true rfl) rfl (by decide) (by decide) rfl rfl rfl (Nat.le_of_ble_eq_true rfl) ⟨Nat.le_refl _, Nat.le_refl _⟩ dX9_count_1 ?_
  refine cm_mono hF (fun w H_1 hF => ?_)
  obtain ⟨rfl, hF⟩ := hF
  refine rn_aload_n dX9_count_4 rfl ?_
  refine rn_iload_n dX9_count_5 rfl ?_
  refine rm_callV (c0 := 0) (As := [.int x1]) (st := []) mlRX9_271 mdX9_tally (Nat.le_of_ble_eq_true rfl) rfl (by decide) (by decide) rfl rfl rfl (Nat.le_of_ble_eq_true rfl) ⟨Nat.le_refl _, Nat.le_refl _⟩ dX9_count_6 ?_
  refine cm_mono hF (fun w H_2 hF => ?_)
  obtain ⟨r_3, rfl, hF⟩ := hF
  exact rm_iret rfl dX9_count_9 hF
theorem cmX9_count {E : En} {Q : Option Value → Hi → Prop} {H : Hi} {x1 : Int32} 
    (hF : Cm E mX9_refresh [rf E 0] H (fun w H_1 => w = none ∧ (Cm E mX9_tally [rf E 0, .int x1] H_1 (fun w H_2 => ∃ r_3 : Int32, w = some (.int r_3) ∧ (Q (some (.int r_3)) H_2))))) :
    Cm E mX9_count [rf E 0, .int x1] H Q :=
  cm_of (by decide +kernel) (Nat.le_of_ble_eq_true rfl) rfl (sgX9_count_0  hF)
