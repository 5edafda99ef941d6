theorem sgJ9_min_7cf53_0 {E : En} {Q : Option Value → Hi → Prop} {H : Hi} {x0 : Int32} {x1 : Int32} 
    (hF : (x1 < x0 → (Q (some (.int x1)) H)) ∧ (¬ x1 < x0 → (Q (some (.int x0)) H))) :
    Rm E mJ9_min_7cf53 Q 0 [some (.int x0), some (.int x1)] [] H := by
  refine rn_iload_n dJ9_min_7cf53_0 rfl ?_
  refine rn_iload_n dJ9_min_7cf53_1 rfl ?_
  refine rn_icmp_gt (tgt := 9) dJ9_min_7cf53_2 (by decide) (fun hc_1 => ?_) (fun hc_1 => ?_)
  · replace hF := hF.1 hc_1
    refine rn_iload_n dJ9_min_7cf53_9 rfl ?_
    exact rm_iret rfl dJ9_min_7cf53_10 hF
  · replace hF := hF.2 hc_1
    refine rn_iload_n dJ9_min_7cf53_5 rfl ?_
    refine rn_goto (tgt := 10) dJ9_min_7cf53_6 (by decide) ?_
    exact rm_iret rfl dJ9_min_7cf53_10 hF
theorem cmJ9_min_7cf53 {E : En} {Q : Option Value → Hi → Prop} {H : Hi} {x0 : Int32} {x1 : Int32} 
    (hF : (x1 < x0 → (Q (some (.int x1)) H)) ∧ (¬ x1 < x0 → (Q (some (.int x0)) H))) :
    Cm E mJ9_min_7cf53 [.int x0, .int x1] H Q :=
  cm_of (by decide +kernel) (Nat.le_of_ble_eq_true rfl) rfl (sgJ9_min_7cf53_0  hF)
theorem sgJ9_max_7cf53_0 {E : En} {Q : Option Value → Hi → Prop} {H : Hi} {x0 : Int32} {x1 : Int32} 
    (hF : (x0 < x1 → (Q (some (.int x1)) H)) ∧ (¬ x0 < x1 → (Q (some (.int x0)) H))) :
    Rm E mJ9_max_7cf53 Q 0 [some (.int x0), some (.int x1)] [] H := by
  refine rn_iload_n dJ9_max_7cf53_0 rfl ?_
  refine rn_iload_n dJ9_max_7cf53_1 rfl ?_
  refine rn_icmp_lt (tgt := 9) dJ9_max_7cf53_2 (by decide) (fun hc_1 => ?_) (fun hc_1 => ?_)
  · replace hF := hF.1 hc_1
    refine rn_iload_n dJ9_max_7cf53_9 rfl ?_
    exact rm_iret rfl dJ9_max_7cf53_10 hF
  · replace hF := hF.2 hc_1
    refine rn_iload_n dJ9_max_7cf53_5 rfl ?_
    refine rn_goto (tgt := 10) dJ9_max_7cf53_6 (by decide) ?_
    exact rm_iret rfl dJ9_max_7cf53_10 hF
theorem cmJ9_max_7cf53 {E : En} {Q : Option Value → Hi → Prop} {H : Hi} {x0 : Int32} {x1 : Int32} 
    (hF : (x0 < x1 → (Q (some (.int x1)) H)) ∧ (¬ x0 < x1 → (Q (some (.int x0)) H))) :
    Cm E mJ9_max_7cf53 [.int x0, .int x1] H Q :=
  cm_of (by decide +kernel) (Nat.le_of_ble_eq_true rfl) rfl (sgJ9_max_7cf53_0  hF)
theorem sgJ7_fill_53178_0 {E : En} {Q : Option Value → Hi → Prop} {H : Hi} {a0 N0 : Nat} {x1 : Int32} (ha0 : shp a0 = (100, N0) ∧ a0 < nN ∧ rfL.getD a0 [] = [] ∧ N0 < 2 ^ 31)
    (hF : ∀ x3_2 : Int32, x3_2 = nI N0 → (Rm E mJ7_fill_53178 Q 5 [some (rf E a0), some (.int x1), some (.int (0 : Int32)), some (.int x3_2)] [] H)) :
    Rm E mJ7_fill_53178 Q 0 [some (rf E a0), some (.int x1), none, none] [] H := by
  refine rn_iconst (x := (0 : Int32)) dJ7_fill_53178_0 (by decide) ?_
  refine rn_istore_n dJ7_fill_53178_1 rfl (by decide) (fun x2_1 ex2_1 => ?_)
  subst ex2_1
  refine rn_aload_n dJ7_fill_53178_2 rfl ?_
  refine rn_alen (ty := .int) (x := nI N0) ha0.1 ha0.2.1 (by decide) rfl rfl dJ7_fill_53178_3 ?_
  refine rn_istore_n dJ7_fill_53178_4 rfl (by decide) (fun x3_2 ex3_2 => ?_)
  replace hF := hF x3_2 ex3_2
  exact rn_wk (L' := [some (rf E a0), some (.int x1), some (.int (0 : Int32)), some (.int x3_2)]) (⟨rfl, ⟨rfl, ⟨rfl, ⟨rfl, trivial⟩⟩⟩⟩) hF
theorem cmJ7_fill_53178 {E : En} {Q : Option Value → Hi → Prop} {H : Hi} {a0 N0 : Nat} {x1 : Int32} (ha0 : shp a0 = (100, N0) ∧ a0 < nN ∧ rfL.getD a0 [] = [] ∧ N0 < 2 ^ 31)
    (hF : ∀ x3_2 : Int32, x3_2 = nI N0 → (Rm E mJ7_fill_53178 Q 5 [some (rf E a0), some (.int x1), some (.int (0 : Int32)), some (.int x3_2)] [] H)) :
    Cm E mJ7_fill_53178 [rf E a0, .int x1] H Q :=
  cm_of (by decide +kernel) (Nat.le_of_ble_eq_true rfl) rfl (sgJ7_fill_53178_0 ha0 hF)
theorem sgJ7_fill_53178_5 {E : En} {Q : Option Value → Hi → Prop} {H : Hi} {a0 N0 : Nat} {x1 : Int32} {x2 : Int32} {x3 : Int32} (ha0 : shp a0 = (100, N0) ∧ a0 < nN ∧ rfL.getD a0 [] = [] ∧ N0 < 2 ^ 31)
    (hF : (x3 ≤ x2 → (Q none H)) ∧ (¬ x3 ≤ x2 → (∃ j_2 : Nat, (j_2 < N0 ∧ x2 = nI j_2) ∧ (∀ H_3 : Hi, H_3 = up H a0 j_2 x1 → (∀ x2_4 : Int32, x2_4 = x2 + (1 : Int32) → (Rm E mJ7_fill_53178 Q 5 [some (rf E a0), some (.int x1), some (.int x2_4), some (.int x3)] [] H_3)))))) :
    Rm E mJ7_fill_53178 Q 5 [some (rf E a0), some (.int x1), some (.int x2), some (.int x3)] [] H := by
  refine rn_iload_n dJ7_fill_53178_5 rfl ?_
  refine rn_iload_n dJ7_fill_53178_6 rfl ?_
  refine rn_icmp_ge (tgt := 20) dJ7_fill_53178_7 (by decide) (fun hc_1 => ?_) (fun hc_1 => ?_)
  · replace hF := hF.1 hc_1
    exact rm_vret rfl dJ7_fill_53178_20 hF
  · replace hF := hF.2 hc_1
    refine rn_aload_n dJ7_fill_53178_10 rfl ?_
    refine rn_iload_n dJ7_fill_53178_11 rfl ?_
    refine rn_iload_n dJ7_fill_53178_12 rfl ?_
    obtain ⟨j_2, hj_2, hF⟩ := hF
    refine rj_iast hj_2 ha0.1 ha0.2.1 ha0.2.2.1 ha0.2.2.2 dJ7_fill_53178_13 (fun H_3 eH_3 => ?_)
    replace hF := hF H_3 eH_3
    refine rn_iinc (w := (1 : Int32)) dJ7_fill_53178_14 rfl (by decide) rfl (by decide) (fun x2_4 ex2_4 => ?_)
    replace hF := hF x2_4 ex2_4
    refine rn_goto (tgt := 5) dJ7_fill_53178_17 (by decide) ?_
    exact rn_wk (L' := [some (rf E a0), some (.int x1), some (.int x2_4), some (.int x3)]) (⟨rfl, ⟨rfl, ⟨rfl, ⟨rfl, trivial⟩⟩⟩⟩) hF
theorem sgJ6_bitCount_0f7a4_0 {E : En} {Q : Option Value → Hi → Prop} {H : Hi} {x0 : Int32} 
    (hF : ∀ x0_1 : Int32, x0_1 = x0 - ((ushr x0 (1 : Int32)) &&& (1431655765 : Int32)) → (∀ x0_2 : Int32, x0_2 = (x0_1 &&& (858993459 : Int32)) + ((ushr x0_1 (2 : Int32)) &&& (858993459 : Int32)) → (∀ x0_3 : Int32, x0_3 = (x0_2 + (ushr x0_2 (4 : Int32))) &&& (252645135 : Int32) → (∀ x0_4 : Int32, x0_4 = x0_3 + (ushr x0_3 (8 : Int32)) → (∀ x0_5 : Int32, x0_5 = x0_4 + (ushr x0_4 (16 : Int32)) → (Q (some (.int (x0_5 &&& (63 : Int32)))) H)))))) :
    Rm E mJ6_bitCount_0f7a4 Q 0 [some (.int x0)] [] H := by
  refine rn_iload_n dJ6_bitCount_0f7a4_0 rfl ?_
  refine rn_iload_n dJ6_bitCount_0f7a4_1 rfl ?_
  refine rn_iconst (x := (1 : Int32)) dJ6_bitCount_0f7a4_2 (by decide) ?_
  refine rn_iushr dJ6_bitCount_0f7a4_3 ?_
  refine rn_ldcw coRJ6_265 dJ6_bitCount_0f7a4_4 ?_
  refine rn_iand dJ6_bitCount_0f7a4_7 ?_
  refine rn_isub dJ6_bitCount_0f7a4_8 ?_
  refine rn_istore_n dJ6_bitCount_0f7a4_9 rfl (by decide) (fun x0_1 ex0_1 => ?_)
  replace hF := hF x0_1 ex0_1
  refine rn_iload_n dJ6_bitCount_0f7a4_10 rfl ?_
  refine rn_ldcw coRJ6_266 dJ6_bitCount_0f7a4_11 ?_
  refine rn_iand dJ6_bitCount_0f7a4_14 ?_
  refine rn_iload_n dJ6_bitCount_0f7a4_15 rfl ?_
  refine rn_iconst (x := (2 : Int32)) dJ6_bitCount_0f7a4_16 (by decide) ?_
  refine rn_iushr dJ6_bitCount_0f7a4_17 ?_
  refine rn_ldcw coRJ6_266 dJ6_bitCount_0f7a4_18 ?_
  refine rn_iand dJ6_bitCount_0f7a4_21 ?_
  refine rn_iadd dJ6_bitCount_0f7a4_22 ?_
  refine rn_istore_n dJ6_bitCount_0f7a4_23 rfl (by decide) (fun x0_2 ex0_2 => ?_)
  replace hF := hF x0_2 ex0_2
  refine rn_iload_n dJ6_bitCount_0f7a4_24 rfl ?_
  refine rn_iload_n dJ6_bitCount_0f7a4_25 rfl ?_
  refine rn_iconst (x := (4 : Int32)) dJ6_bitCount_0f7a4_26 (by decide) ?_
  refine rn_iushr dJ6_bitCount_0f7a4_27 ?_
  refine rn_iadd dJ6_bitCount_0f7a4_28 ?_
  refine rn_ldcw coRJ6_267 dJ6_bitCount_0f7a4_29 ?_
  refine rn_iand dJ6_bitCount_0f7a4_32 ?_
  refine rn_istore_n dJ6_bitCount_0f7a4_33 rfl (by decide) (fun x0_3 ex0_3 => ?_)
  replace hF := hF x0_3 ex0_3
  refine rn_iload_n dJ6_bitCount_0f7a4_34 rfl ?_
  refine rn_iload_n dJ6_bitCount_0f7a4_35 rfl ?_
  refine rn_bipush (x := (8 : Int32)) dJ6_bitCount_0f7a4_36 (by decide) ?_
  refine rn_iushr dJ6_bitCount_0f7a4_38 ?_
  refine rn_iadd dJ6_bitCount_0f7a4_39 ?_
  refine rn_istore_n dJ6_bitCount_0f7a4_40 rfl (by decide) (fun x0_4 ex0_4 => ?_)
  replace hF := hF x0_4 ex0_4
  refine rn_iload_n dJ6_bitCount_0f7a4_41 rfl ?_
  refine rn_iload_n dJ6_bitCount_0f7a4_42 rfl ?_
  refine rn_bipush (x := (16 : Int32)) dJ6_bitCount_0f7a4_43 (by decide) ?_
  refine rn_iushr dJ6_bitCount_0f7a4_45 ?_
  refine rn_iadd dJ6_bitCount_0f7a4_46 ?_
  refine rn_istore_n dJ6_bitCount_0f7a4_47 rfl (by decide) (fun x0_5 ex0_5 => ?_)
  replace hF := hF x0_5 ex0_5
  refine rn_iload_n dJ6_bitCount_0f7a4_48 rfl ?_
  refine rn_bipush (x := (63 : Int32)) dJ6_bitCount_0f7a4_49 (by decide) ?_
  refine rn_iand dJ6_bitCount_0f7a4_51 ?_
  exact rm_iret rfl dJ6_bitCount_0f7a4_52 hF
theorem cmJ6_bitCount_0f7a4 {E : En} {Q : Option Value → Hi → Prop} {H : Hi} {x0 : Int32} 
    (hF : ∀ x0_1 : Int32, x0_1 = x0 - ((ushr x0 (1 : Int32)) &&& (1431655765 : Int32)) → (∀ x0_2 : Int32, x0_2 = (x0_1 &&& (858993459 : Int32)) + ((ushr x0_1 (2 : Int32)) &&& (858993459 : Int32)) → (∀ x0_3 : Int32, x0_3 = (x0_2 + (ushr x0_2 (4 : Int32))) &&& (252645135 : Int32) → (∀ x0_4 : Int32, x0_4 = x0_3 + (ushr x0_3 (8 : Int32)) → (∀ x0_5 : Int32, x0_5 = x0_4 + (ushr x0_4 (16 : Int32)) → (Q (some (.int (x0_5 &&& (63 : Int32)))) H)))))) :
    Cm E mJ6_bitCount_0f7a4 [.int x0] H Q :=
  cm_of (by decide +kernel) (Nat.le_of_ble_eq_true rfl) rfl (sgJ6_bitCount_0f7a4_0  hF)
theorem sgJ0_indexOf_0f7a4_0 {E : En} {Q : Option Value → Hi → Prop} {H : Hi} {q0 : Nat} {x1 : Int32} (hq0 : q0 < 6)
    (hF : Cm E mJ0_indexOf_7cf53 [rf E (1000 + q0), .int x1, .int (0 : Int32)] H (fun w H_1 => ∃ r_2 : Int32, w = some (.int r_2) ∧ (Q (some (.int r_2)) H_1))) :
    Rm E mJ0_indexOf_0f7a4 Q 0 [some (rf E (1000 + q0)), some (.int x1)] [] H := by
  refine rn_aload_n dJ0_indexOf_0f7a4_0 rfl ?_
  refine rn_iload_n dJ0_indexOf_0f7a4_1 rfl ?_
  refine rn_iconst (x := (0 : Int32)) dJ0_indexOf_0f7a4_2 (by decide) ?_
  refine rm_callVS (j := q0) (As := [.int x1, .int (0 : Int32)]) (st := []) mlRJ0_633 mdJ0_indexOf_7cf53 (Nat.le_of_ble_eq_true rfl) hq0 rfl rfl rfl (Nat.le_of_ble_eq_true rfl) ⟨Nat.le_refl _, Nat.le_refl _⟩ dJ0_indexOf_0f7a4_3 ?_
  refine cm_mono hF (fun w H_1 hF => ?_)
  obtain ⟨r_2, rfl, hF⟩ := hF
  exact rm_iret rfl dJ0_indexOf_0f7a4_6 hF
theorem cmJ0_indexOf_0f7a4 {E : En} {Q : Option Value → Hi → Prop} {H : Hi} {q0 : Nat} {x1 : Int32} (hq0 : q0 < 6)
    (hF : Cm E mJ0_indexOf_7cf53 [rf E (1000 + q0), .int x1, .int (0 : Int32)] H (fun w H_1 => ∃ r_2 : Int32, w = some (.int r_2) ∧ (Q (some (.int r_2)) H_1))) :
    Cm E mJ0_indexOf_0f7a4 [rf E (1000 + q0), .int x1] H Q :=
  cm_of (by decide +kernel) (Nat.le_of_ble_eq_true rfl) rfl (sgJ0_indexOf_0f7a4_0 hq0 hF)
theorem sgJ0_indexOf_7cf53_0 {E : En} {Q : Option Value → Hi → Prop} {H : Hi} {q0 : Nat} {x1 : Int32} {x2 : Int32} (hq0 : q0 < 6)
    (hF : Cm E mJ0_isLatin1_aae02 [rf E (1000 + q0)] H (fun w H_1 => ∃ r_2 : Int32, w = some (.int r_2) ∧ ((r_2 = 0 → (Cm E mJ0_length_8abf5 [rf E (1000 + q0)] H_1 (fun w H_4 => ∃ r_5 : Int32, w = some (.int r_5) ∧ (Cm E mJ2_indexOf_4cfef [rv E q0, .int x1, .int x2, .int r_5] H_4 (fun w H_6 => ∃ r_7 : Int32, w = some (.int r_7) ∧ (Q (some (.int r_7)) H_6)))))) ∧ (¬ r_2 = 0 → (Cm E mJ0_length_8abf5 [rf E (1000 + q0)] H_1 (fun w H_8 => ∃ r_9 : Int32, w = some (.int r_9) ∧ (Cm E mJ1_indexOf_4cfef [rv E q0, .int x1, .int x2, .int r_9] H_8 (fun w H_10 => ∃ r_11 : Int32, w = some (.int r_11) ∧ (Q (some (.int r_11)) H_10))))))))) :
    Rm E mJ0_indexOf_7cf53 Q 0 [some (rf E (1000 + q0)), some (.int x1), some (.int x2)] [] H := by
  refine rn_aload_n dJ0_indexOf_7cf53_0 rfl ?_
  refine rm_callVS (j := q0) (As := []) (st := []) mlRJ0_492 mdJ0_isLatin1_aae02 (Nat.le_of_ble_eq_true rfl) hq0 rfl rfl rfl (Nat.le_of_ble_eq_true rfl) ⟨Nat.le_refl _, Nat.le_refl _⟩ dJ0_indexOf_7cf53_1 ?_
  refine cm_mono hF (fun w H_1 hF => ?_)
  obtain ⟨r_2, rfl, hF⟩ := hF
  refine rn_if_eq (tgt := 23) dJ0_indexOf_7cf53_4 (by decide) (fun hc_3 => ?_) (fun hc_3 => ?_)
  · replace hF := hF.1 hc_3
    refine rn_aload_n dJ0_indexOf_7cf53_23 rfl ?_
    refine rn_sval hq0 foRJ0_9 dJ0_indexOf_7cf53_24 ?_
    refine rn_iload_n dJ0_indexOf_7cf53_27 rfl ?_
    refine rn_iload_n dJ0_indexOf_7cf53_28 rfl ?_
    refine rn_aload_n dJ0_indexOf_7cf53_29 rfl ?_
    refine rm_callVS (j := q0) (As := []) (st := [.int x2, .int x1, rv E q0]) mlRJ0_505 mdJ0_length_8abf5 (Nat.le_of_ble_eq_true rfl) hq0 rfl rfl rfl (Nat.le_of_ble_eq_true rfl) ⟨Nat.le_refl _, Nat.le_refl _⟩ dJ0_indexOf_7cf53_30 ?_
    refine cm_mono hF (fun w H_4 hF => ?_)
    obtain ⟨r_5, rfl, hF⟩ := hF
    refine rm_callS (As := [rv E q0, .int x1, .int x2, .int r_5]) (st := []) mlRJ0_640 mdJ2_indexOf_4cfef (Nat.le_of_ble_eq_true rfl) rfl rfl (Nat.le_of_ble_eq_true rfl) ⟨Nat.le_refl _, Nat.le_refl _⟩ dJ0_indexOf_7cf53_33 ?_
    refine cm_mono hF (fun w H_6 hF => ?_)
    obtain ⟨r_7, rfl, hF⟩ := hF
    exact rm_iret rfl dJ0_indexOf_7cf53_36 hF
  · replace hF := hF.2 hc_3
    refine rn_aload_n dJ0_indexOf_7cf53_7 rfl ?_
    refine rn_sval hq0 foRJ0_9 dJ0_indexOf_7cf53_8 ?_
    refine rn_iload_n dJ0_indexOf_7cf53_11 rfl ?_
    refine rn_iload_n dJ0_indexOf_7cf53_12 rfl ?_
    refine rn_aload_n dJ0_indexOf_7cf53_13 rfl ?_
    refine rm_callVS (j := q0) (As := []) (st := [.int x2, .int x1, rv E q0]) mlRJ0_505 mdJ0_length_8abf5 (Nat.le_of_ble_eq_true rfl) hq0 rfl rfl rfl (Nat.le_of_ble_eq_true rfl) ⟨Nat.le_refl _, Nat.le_refl _⟩ dJ0_indexOf_7cf53_14 ?_
    refine cm_mono hF (fun w H_8 hF => ?_)
    obtain ⟨r_9, rfl, hF⟩ := hF
    refine rm_callS (As := [rv E q0, .int x1, .int x2, .int r_9]) (st := []) mlRJ0_637 mdJ1_indexOf_4cfef (Nat.le_of_ble_eq_true rfl) rfl rfl (Nat.le_of_ble_eq_true rfl) ⟨Nat.le_refl _, Nat.le_refl _⟩ dJ0_indexOf_7cf53_17 ?_
    refine cm_mono hF (fun w H_10 hF => ?_)
    obtain ⟨r_11, rfl, hF⟩ := hF
    refine rn_goto (tgt := 36) dJ0_indexOf_7cf53_20 (by decide) ?_
    exact rm_iret rfl dJ0_indexOf_7cf53_36 hF
theorem cmJ0_indexOf_7cf53 {E : En} {Q : Option Value → Hi → Prop} {H : Hi} {q0 : Nat} {x1 : Int32} {x2 : Int32} (hq0 : q0 < 6)
    (hF : Cm E mJ0_isLatin1_aae02 [rf E (1000 + q0)] H (fun w H_1 => ∃ r_2 : Int32, w = some (.int r_2) ∧ ((r_2 = 0 → (Cm E mJ0_length_8abf5 [rf E (1000 + q0)] H_1 (fun w H_4 => ∃ r_5 : Int32, w = some (.int r_5) ∧ (Cm E mJ2_indexOf_4cfef [rv E q0, .int x1, .int x2, .int r_5] H_4 (fun w H_6 => ∃ r_7 : Int32, w = some (.int r_7) ∧ (Q (some (.int r_7)) H_6)))))) ∧ (¬ r_2 = 0 → (Cm E mJ0_length_8abf5 [rf E (1000 + q0)] H_1 (fun w H_8 => ∃ r_9 : Int32, w = some (.int r_9) ∧ (Cm E mJ1_indexOf_4cfef [rv E q0, .int x1, .int x2, .int r_9] H_8 (fun w H_10 => ∃ r_11 : Int32, w = some (.int r_11) ∧ (Q (some (.int r_11)) H_10))))))))) :
    Cm E mJ0_indexOf_7cf53 [rf E (1000 + q0), .int x1, .int x2] H Q :=
  cm_of (by decide +kernel) (Nat.le_of_ble_eq_true rfl) rfl (sgJ0_indexOf_7cf53_0 hq0 hF)
theorem sgJ0_isLatin1_aae02_0 {E : En} {Q : Option Value → Hi → Prop} {H : Hi} {q0 : Nat} (hq0 : q0 < 6)
    (hF : ((1 : Int32) = 0 → (Q (some (.int (0 : Int32))) H)) ∧ (¬ (1 : Int32) = 0 → ((¬ (0 : Int32) = 0 → (Q (some (.int (0 : Int32))) H)) ∧ ((0 : Int32) = 0 → (Q (some (.int (1 : Int32))) H))))) :
    Rm E mJ0_isLatin1_aae02 Q 0 [some (rf E (1000 + q0))] [] H := by
  refine rn_scomp foRJ0_38 dJ0_isLatin1_aae02_0 ?_
  refine rn_if_eq (tgt := 17) dJ0_isLatin1_aae02_3 (by decide) (fun hc_1 => ?_) (fun hc_1 => ?_)
  · replace hF := hF.1 hc_1
    refine rn_iconst (x := (0 : Int32)) dJ0_isLatin1_aae02_17 (by decide) ?_
    exact rm_zret rfl rfl dJ0_isLatin1_aae02_18 hF
  · replace hF := hF.2 hc_1
    refine rn_aload_n dJ0_isLatin1_aae02_6 rfl ?_
    refine rn_scod hq0 foRJ0_15 dJ0_isLatin1_aae02_7 ?_
    refine rn_if_ne (tgt := 17) dJ0_isLatin1_aae02_10 (by decide) (fun hc_2 => ?_) (fun hc_2 => ?_)
    · replace hF := hF.1 hc_2
      refine rn_iconst (x := (0 : Int32)) dJ0_isLatin1_aae02_17 (by decide) ?_
      exact rm_zret rfl rfl dJ0_isLatin1_aae02_18 hF
    · replace hF := hF.2 hc_2
      refine rn_iconst (x := (1 : Int32)) dJ0_isLatin1_aae02_13 (by decide) ?_
      refine rn_goto (tgt := 18) dJ0_isLatin1_aae02_14 (by decide) ?_
      exact rm_zret rfl rfl dJ0_isLatin1_aae02_18 hF
theorem cmJ0_isLatin1_aae02 {E : En} {Q : Option Value → Hi → Prop} {H : Hi} {q0 : Nat} (hq0 : q0 < 6)
    (hF : ((1 : Int32) = 0 → (Q (some (.int (0 : Int32))) H)) ∧ (¬ (1 : Int32) = 0 → ((¬ (0 : Int32) = 0 → (Q (some (.int (0 : Int32))) H)) ∧ ((0 : Int32) = 0 → (Q (some (.int (1 : Int32))) H))))) :
    Cm E mJ0_isLatin1_aae02 [rf E (1000 + q0)] H Q :=
  cm_of (by decide +kernel) (Nat.le_of_ble_eq_true rfl) rfl (sgJ0_isLatin1_aae02_0 hq0 hF)
theorem sgJ0_length_8abf5_0 {E : En} {Q : Option Value → Hi → Prop} {H : Hi} {q0 : Nat} (hq0 : q0 < 6)
    (hF : Cm E mJ0_coder_7d493 [rf E (1000 + q0)] H (fun w H_1 => ∃ r_2 : Int32, w = some (.int r_2) ∧ (Q (some (.int ((nI (skLen.getD q0 0)) >>> (r_2 &&& 31)))) H_1))) :
    Rm E mJ0_length_8abf5 Q 0 [some (rf E (1000 + q0))] [] H := by
  refine rn_aload_n dJ0_length_8abf5_0 rfl ?_
  refine rn_sval hq0 foRJ0_9 dJ0_length_8abf5_1 ?_
  refine rn_slenB (x := nI (skLen.getD q0 0)) hq0 rfl dJ0_length_8abf5_4 ?_
  refine rn_aload_n dJ0_length_8abf5_5 rfl ?_
  refine rm_callVS (j := q0) (As := []) (st := [.int (nI (skLen.getD q0 0))]) mlRJ0_335 mdJ0_coder_7d493 (Nat.le_of_ble_eq_true rfl) hq0 rfl rfl rfl (Nat.le_of_ble_eq_true rfl) ⟨Nat.le_refl _, Nat.le_refl _⟩ dJ0_length_8abf5_6 ?_
  refine cm_mono hF (fun w H_1 hF => ?_)
  obtain ⟨r_2, rfl, hF⟩ := hF
  refine rn_ishr dJ0_length_8abf5_9 ?_
  exact rm_iret rfl dJ0_length_8abf5_10 hF
theorem cmJ0_length_8abf5 {E : En} {Q : Option Value → Hi → Prop} {H : Hi} {q0 : Nat} (hq0 : q0 < 6)
    (hF : Cm E mJ0_coder_7d493 [rf E (1000 + q0)] H (fun w H_1 => ∃ r_2 : Int32, w = some (.int r_2) ∧ (Q (some (.int ((nI (skLen.getD q0 0)) >>> (r_2 &&& 31)))) H_1))) :
    Cm E mJ0_length_8abf5 [rf E (1000 + q0)] H Q :=
  cm_of (by decide +kernel) (Nat.le_of_ble_eq_true rfl) rfl (sgJ0_length_8abf5_0 hq0 hF)
theorem sgJ0_coder_7d493_0 {E : En} {Q : Option Value → Hi → Prop} {H : Hi} {q0 : Nat} (hq0 : q0 < 6)
    (hF : ((1 : Int32) = 0 → (Q (some (.int (1 : Int32))) H)) ∧ (¬ (1 : Int32) = 0 → (Q (some (.int (0 : Int32))) H))) :
    Rm E mJ0_coder_7d493 Q 0 [some (rf E (1000 + q0))] [] H := by
  refine rn_scomp foRJ0_38 dJ0_coder_7d493_0 ?_
  refine rn_if_eq (tgt := 13) dJ0_coder_7d493_3 (by decide) (fun hc_1 => ?_) (fun hc_1 => ?_)
  · replace hF := hF.1 hc_1
    refine rn_iconst (x := (1 : Int32)) dJ0_coder_7d493_13 (by decide) ?_
    exact rm_zret rfl rfl dJ0_coder_7d493_14 hF
  · replace hF := hF.2 hc_1
    refine rn_aload_n dJ0_coder_7d493_6 rfl ?_
    refine rn_scod hq0 foRJ0_15 dJ0_coder_7d493_7 ?_
    refine rn_goto (tgt := 14) dJ0_coder_7d493_10 (by decide) ?_
    exact rm_zret rfl rfl dJ0_coder_7d493_14 hF
theorem cmJ0_coder_7d493 {E : En} {Q : Option Value → Hi → Prop} {H : Hi} {q0 : Nat} (hq0 : q0 < 6)
    (hF : ((1 : Int32) = 0 → (Q (some (.int (1 : Int32))) H)) ∧ (¬ (1 : Int32) = 0 → (Q (some (.int (0 : Int32))) H))) :
    Cm E mJ0_coder_7d493 [rf E (1000 + q0)] H Q :=
  cm_of (by decide +kernel) (Nat.le_of_ble_eq_true rfl) rfl (sgJ0_coder_7d493_0 hq0 hF)
theorem sgJ1_canEncode_9a6ad_0 {E : En} {Q : Option Value → Hi → Prop} {H : Hi} {x0 : Int32} 
    (hF : (x0 < 0 → (Q (some (.int (0 : Int32))) H)) ∧ (¬ x0 < 0 → (((255 : Int32) < x0 → (Q (some (.int (0 : Int32))) H)) ∧ (¬ (255 : Int32) < x0 → (Q (some (.int (1 : Int32))) H))))) :
    Rm E mJ1_canEncode_9a6ad Q 0 [some (.int x0)] [] H := by
  refine rn_iload_n dJ1_canEncode_9a6ad_0 rfl ?_
  refine rn_if_lt (tgt := 15) dJ1_canEncode_9a6ad_1 (by decide) (fun hc_1 => ?_) (fun hc_1 => ?_)
  · replace hF := hF.1 hc_1
    refine rn_iconst (x := (0 : Int32)) dJ1_canEncode_9a6ad_15 (by decide) ?_
    exact rm_zret rfl rfl dJ1_canEncode_9a6ad_16 hF
  · replace hF := hF.2 hc_1
    refine rn_iload_n dJ1_canEncode_9a6ad_4 rfl ?_
    refine rn_sipush (x := (255 : Int32)) dJ1_canEncode_9a6ad_5 (by decide) ?_
    refine rn_icmp_gt (tgt := 15) dJ1_canEncode_9a6ad_8 (by decide) (fun hc_2 => ?_) (fun hc_2 => ?_)
    · replace hF := hF.1 hc_2
      refine rn_iconst (x := (0 : Int32)) dJ1_canEncode_9a6ad_15 (by decide) ?_
      exact rm_zret rfl rfl dJ1_canEncode_9a6ad_16 hF
    · replace hF := hF.2 hc_2
      refine rn_iconst (x := (1 : Int32)) dJ1_canEncode_9a6ad_11 (by decide) ?_
      refine rn_goto (tgt := 16) dJ1_canEncode_9a6ad_12 (by decide) ?_
      exact rm_zret rfl rfl dJ1_canEncode_9a6ad_16 hF
theorem cmJ1_canEncode_9a6ad {E : En} {Q : Option Value → Hi → Prop} {H : Hi} {x0 : Int32} 
    (hF : (x0 < 0 → (Q (some (.int (0 : Int32))) H)) ∧ (¬ x0 < 0 → (((255 : Int32) < x0 → (Q (some (.int (0 : Int32))) H)) ∧ (¬ (255 : Int32) < x0 → (Q (some (.int (1 : Int32))) H))))) :
    Cm E mJ1_canEncode_9a6ad [.int x0] H Q :=
  cm_of (by decide +kernel) (Nat.le_of_ble_eq_true rfl) rfl (sgJ1_canEncode_9a6ad_0  hF)
theorem sgJ1_indexOf_4cfef_0 {E : En} {Q : Option Value → Hi → Prop} {H : Hi} {q0 : Nat} {x1 : Int32} {x2 : Int32} {x3 : Int32} (hq0 : q0 < 6)
    (hF : Cm E mJ1_canEncode_9a6ad [.int x1] H (fun w H_1 => ∃ r_2 : Int32, w = some (.int r_2) ∧ ((¬ r_2 = 0 → (Cm E mJ9_max_7cf53 [.int x2, .int (0 : Int32)] H_1 (fun w H_4 => ∃ r_5 : Int32, w = some (.int r_5) ∧ (Cm E mJ9_min_7cf53 [.int x3, .int (nI (skLen.getD q0 0))] H_4 (fun w H_7 => ∃ r_8 : Int32, w = some (.int r_8) ∧ ((r_5 < r_8 → (Cm E mJ1_indexOfChar_4cfef [rv E q0, .int x1, .int r_5, .int r_8] H_7 (fun w H_11 => ∃ r_12 : Int32, w = some (.int r_12) ∧ (Q (some (.int r_12)) H_11)))) ∧ (¬ r_5 < r_8 → (Q (some (.int (-1 : Int32))) H_7)))))))) ∧ (r_2 = 0 → (Q (some (.int (-1 : Int32))) H_1))))) :
    Rm E mJ1_indexOf_4cfef Q 0 [some (rv E q0), some (.int x1), some (.int x2), some (.int x3)] [] H := by
  refine rn_iload_n dJ1_indexOf_4cfef_0 rfl ?_
  refine rm_callS (As := [.int x1]) (st := []) mlRJ1_88 mdJ1_canEncode_9a6ad (Nat.le_of_ble_eq_true rfl) rfl rfl (Nat.le_of_ble_eq_true rfl) ⟨Nat.le_refl _, Nat.le_refl _⟩ dJ1_indexOf_4cfef_1 ?_
  refine cm_mono hF (fun w H_1 hF => ?_)
  obtain ⟨r_2, rfl, hF⟩ := hF
  refine rn_if_ne (tgt := 9) dJ1_indexOf_4cfef_4 (by decide) (fun hc_3 => ?_) (fun hc_3 => ?_)
  · replace hF := hF.1 hc_3
    refine rn_iload_n dJ1_indexOf_4cfef_9 rfl ?_
    refine rn_iconst (x := (0 : Int32)) dJ1_indexOf_4cfef_10 (by decide) ?_
    refine rm_callS (As := [.int x2, .int (0 : Int32)]) (st := []) mlRJ1_92 mdJ9_max_7cf53 (Nat.le_of_ble_eq_true rfl) rfl rfl (Nat.le_of_ble_eq_true rfl) ⟨Nat.le_refl _, Nat.le_refl _⟩ dJ1_indexOf_4cfef_11 ?_
    refine cm_mono hF (fun w H_4 hF => ?_)
    obtain ⟨r_5, rfl, hF⟩ := hF
    refine rn_istore_n dJ1_indexOf_4cfef_14 rfl (by decide) (fun x2_6 ex2_6 => ?_)
    subst ex2_6
    refine rn_iload_n dJ1_indexOf_4cfef_15 rfl ?_
    refine rn_aload_n dJ1_indexOf_4cfef_16 rfl ?_
    refine rn_slenB (x := nI (skLen.getD q0 0)) hq0 rfl dJ1_indexOf_4cfef_17 ?_
    refine rm_callS (As := [.int x3, .int (nI (skLen.getD q0 0))]) (st := []) mlRJ1_38 mdJ9_min_7cf53 (Nat.le_of_ble_eq_true rfl) rfl rfl (Nat.le_of_ble_eq_true rfl) ⟨Nat.le_refl _, Nat.le_refl _⟩ dJ1_indexOf_4cfef_18 ?_
    refine cm_mono hF (fun w H_7 hF => ?_)
    obtain ⟨r_8, rfl, hF⟩ := hF
    refine rn_istore_n dJ1_indexOf_4cfef_21 rfl (by decide) (fun x3_9 ex3_9 => ?_)
    subst ex3_9
    refine rn_iload_n dJ1_indexOf_4cfef_22 rfl ?_
    refine rn_iload_n dJ1_indexOf_4cfef_23 rfl ?_
    refine rn_icmp_lt (tgt := 29) dJ1_indexOf_4cfef_24 (by decide) (fun hc_10 => ?_) (fun hc_10 => ?_)
    · replace hF := hF.1 hc_10
      refine rn_aload_n dJ1_indexOf_4cfef_29 rfl ?_
      refine rn_iload_n dJ1_indexOf_4cfef_30 rfl ?_
      refine rn_iload_n dJ1_indexOf_4cfef_31 rfl ?_
      refine rn_iload_n dJ1_indexOf_4cfef_32 rfl ?_
      refine rm_callS (As := [rv E q0, .int x1, .int r_5, .int r_8]) (st := []) mlRJ1_95 mdJ1_indexOfChar_4cfef (Nat.le_of_ble_eq_true rfl) rfl rfl (Nat.le_of_ble_eq_true rfl) ⟨Nat.le_refl _, Nat.le_refl _⟩ dJ1_indexOf_4cfef_33 ?_
      refine cm_mono hF (fun w H_11 hF => ?_)
      obtain ⟨r_12, rfl, hF⟩ := hF
      exact rm_iret rfl dJ1_indexOf_4cfef_36 hF
    · replace hF := hF.2 hc_10
      refine rn_iconst (x := (-1 : Int32)) dJ1_indexOf_4cfef_27 (by decide) ?_
      exact rm_iret rfl dJ1_indexOf_4cfef_28 hF
  · replace hF := hF.2 hc_3
    refine rn_iconst (x := (-1 : Int32)) dJ1_indexOf_4cfef_7 (by decide) ?_
    exact rm_iret rfl dJ1_indexOf_4cfef_8 hF
theorem cmJ1_indexOf_4cfef {E : En} {Q : Option Value → Hi → Prop} {H : Hi} {q0 : Nat} {x1 : Int32} {x2 : Int32} {x3 : Int32} (hq0 : q0 < 6)
    (hF : Cm E mJ1_canEncode_9a6ad [.int x1] H (fun w H_1 => ∃ r_2 : Int32, w = some (.int r_2) ∧ ((¬ r_2 = 0 → (Cm E mJ9_max_7cf53 [.int x2, .int (0 : Int32)] H_1 (fun w H_4 => ∃ r_5 : Int32, w = some (.int r_5) ∧ (Cm E mJ9_min_7cf53 [.int x3, .int (nI (skLen.getD q0 0))] H_4 (fun w H_7 => ∃ r_8 : Int32, w = some (.int r_8) ∧ ((r_5 < r_8 → (Cm E mJ1_indexOfChar_4cfef [rv E q0, .int x1, .int r_5, .int r_8] H_7 (fun w H_11 => ∃ r_12 : Int32, w = some (.int r_12) ∧ (Q (some (.int r_12)) H_11)))) ∧ (¬ r_5 < r_8 → (Q (some (.int (-1 : Int32))) H_7)))))))) ∧ (r_2 = 0 → (Q (some (.int (-1 : Int32))) H_1))))) :
    Cm E mJ1_indexOf_4cfef [rv E q0, .int x1, .int x2, .int x3] H Q :=
  cm_of (by decide +kernel) (Nat.le_of_ble_eq_true rfl) rfl (sgJ1_indexOf_4cfef_0 hq0 hF)
theorem sgJ1_indexOfChar_4cfef_0 {E : En} {Q : Option Value → Hi → Prop} {H : Hi} {q0 : Nat} {x1 : Int32} {x2 : Int32} {x3 : Int32} (hq0 : q0 < 6)
    (hF : ∀ x4_1 : Int32, x4_1 = x1.toInt8.toInt32 → (Rm E mJ1_indexOfChar_4cfef Q 7 [some (rv E q0), none, none, some (.int x3), some (.int x4_1), some (.int x2)] [] H)) :
    Rm E mJ1_indexOfChar_4cfef Q 0 [some (rv E q0), some (.int x1), some (.int x2), some (.int x3), none, none] [] H := by
  refine rn_iload_n dJ1_indexOfChar_4cfef_0 rfl ?_
  refine rn_i2b dJ1_indexOfChar_4cfef_1 ?_
  refine rn_istore dJ1_indexOfChar_4cfef_2 rfl (by decide) (fun x4_1 ex4_1 => ?_)
  replace hF := hF x4_1 ex4_1
  refine rn_iload_n dJ1_indexOfChar_4cfef_4 rfl ?_
  refine rn_istore dJ1_indexOfChar_4cfef_5 rfl (by decide) (fun x5_2 ex5_2 => ?_)
  subst ex5_2
  exact rn_wk (L' := [some (rv E q0), none, none, some (.int x3), some (.int x4_1), some (.int x2)]) (⟨rfl, ⟨rfl, ⟨rfl, ⟨rfl, trivial⟩⟩⟩⟩) hF
theorem cmJ1_indexOfChar_4cfef {E : En} {Q : Option Value → Hi → Prop} {H : Hi} {q0 : Nat} {x1 : Int32} {x2 : Int32} {x3 : Int32} (hq0 : q0 < 6)
    (hF : ∀ x4_1 : Int32, x4_1 = x1.toInt8.toInt32 → (Rm E mJ1_indexOfChar_4cfef Q 7 [some (rv E q0), none, none, some (.int x3), some (.int x4_1), some (.int x2)] [] H)) :
    Cm E mJ1_indexOfChar_4cfef [rv E q0, .int x1, .int x2, .int x3] H Q :=
  cm_of (by decide +kernel) (Nat.le_of_ble_eq_true rfl) rfl (sgJ1_indexOfChar_4cfef_0 hq0 hF)
theorem sgJ1_indexOfChar_4cfef_7 {E : En} {Q : Option Value → Hi → Prop} {H : Hi} {q0 : Nat} {x3 : Int32} {x4 : Int32} {x5 : Int32} (hq0 : q0 < 6)
    (hF : (x3 ≤ x5 → (Q (some (.int (-1 : Int32))) H)) ∧ (¬ x3 ≤ x5 → (∃ j_2 : Nat, (j_2 < skLen.getD q0 0 ∧ x5 = nI j_2) ∧ ((¬ ((skByt.getD q0 []).getD j_2 0) = x4 → (∀ x5_4 : Int32, x5_4 = x5 + (1 : Int32) → (Rm E mJ1_indexOfChar_4cfef Q 7 [some (rv E q0), none, none, some (.int x3), some (.int x4), some (.int x5_4)] [] H))) ∧ (((skByt.getD q0 []).getD j_2 0) = x4 → (Q (some (.int x5)) H)))))) :
    Rm E mJ1_indexOfChar_4cfef Q 7 [some (rv E q0), none, none, some (.int x3), some (.int x4), some (.int x5)] [] H := by
  refine rn_iload dJ1_indexOfChar_4cfef_7 rfl ?_
  refine rn_iload_n dJ1_indexOfChar_4cfef_9 rfl ?_
  refine rn_icmp_ge (tgt := 31) dJ1_indexOfChar_4cfef_10 (by decide) (fun hc_1 => ?_) (fun hc_1 => ?_)
  · replace hF := hF.1 hc_1
    refine rn_iconst (x := (-1 : Int32)) dJ1_indexOfChar_4cfef_31 (by decide) ?_
    exact rm_iret rfl dJ1_indexOfChar_4cfef_32 hF
  · replace hF := hF.2 hc_1
    refine rn_aload_n dJ1_indexOfChar_4cfef_13 rfl ?_
    refine rn_iload dJ1_indexOfChar_4cfef_14 rfl ?_
    obtain ⟨j_2, hj_2, hF⟩ := hF
    refine rj_sbyte hj_2 hq0 (skL _) dJ1_indexOfChar_4cfef_16 ?_
    refine rn_iload dJ1_indexOfChar_4cfef_17 rfl ?_
    refine rn_icmp_ne (tgt := 25) dJ1_indexOfChar_4cfef_19 (by decide) (fun hc_3 => ?_) (fun hc_3 => ?_)
    · replace hF := hF.1 hc_3
      refine rn_iinc (w := (1 : Int32)) dJ1_indexOfChar_4cfef_25 rfl (by decide) rfl (by decide) (fun x5_4 ex5_4 => ?_)
      replace hF := hF x5_4 ex5_4
      refine rn_goto (tgt := 7) dJ1_indexOfChar_4cfef_28 (by decide) ?_
      exact rn_wk (L' := [some (rv E q0), none, none, some (.int x3), some (.int x4), some (.int x5_4)]) (⟨rfl, ⟨rfl, ⟨rfl, ⟨rfl, trivial⟩⟩⟩⟩) hF
    · replace hF := hF.2 hc_3
      refine rn_iload dJ1_indexOfChar_4cfef_22 rfl ?_
      exact rm_iret rfl dJ1_indexOfChar_4cfef_24 hF
