theorem sgJ7_fill_53178_0 {E : En} {Q : Option Value → Hi → Prop} {H : Hi} {za0 zn0 : Nat} {zx1 : Int32} (ha0 : shp za0 = (100, zn0) ∧ za0 < nN ∧ rfL.getD za0 [] = [] ∧ zn0 < 2 ^ 31)
    (hF : ∀ zx3_2 : Int32, zx3_2 = nI zn0 → (Rm E mJ7_fill_53178 Q 5 [some (rf E za0), some (.int zx1), some (.int (0 : Int32)), some (.int zx3_2)] [] H)) :
    Rm E mJ7_fill_53178 Q 0 [some (rf E za0), some (.int zx1), none, none] [] H := by
  refine rn_iconst (x := (0 : Int32)) dJ7_fill_53178_0 (by decide) ?_
  refine ra_istore_n dJ7_fill_53178_1 rfl (Nat.le_of_ble_eq_true rfl) ?_
  show Rn _ _ _ _ _ _ _ _ [some (rf E za0), some (.int zx1), some (.int (0 : Int32)), none] _ _ _
  refine rn_aload_n dJ7_fill_53178_2 rfl ?_
  refine rn_alen (ty := .int) (x := nI zn0) ha0.1 ha0.2.1 (by decide) rfl rfl dJ7_fill_53178_3 ?_
  refine rn_istore_n dJ7_fill_53178_4 rfl (Nat.le_of_ble_eq_true rfl) (fun zx3_2 ezx3_2 => ?_)
  replace hF := hF zx3_2 ezx3_2
  show Rn _ _ _ _ _ _ _ _ [some (rf E za0), some (.int zx1), some (.int (0 : Int32)), some (.int zx3_2)] _ _ _
  exact rn_wk (L' := [some (rf E za0), some (.int zx1), some (.int (0 : Int32)), some (.int zx3_2)]) (⟨rfl, ⟨rfl, ⟨rfl, ⟨rfl, trivial⟩⟩⟩⟩) hF
theorem cmJ7_fill_53178 {E : En} {Q : Option Value → Hi → Prop} {H : Hi} {za0 zn0 : Nat} {zx1 : Int32} (ha0 : shp za0 = (100, zn0) ∧ za0 < nN ∧ rfL.getD za0 [] = [] ∧ zn0 < 2 ^ 31)
    (hF : ∀ zx3_2 : Int32, zx3_2 = nI zn0 → (Rm E mJ7_fill_53178 Q 5 [some (rf E za0), some (.int zx1), some (.int (0 : Int32)), some (.int zx3_2)] [] H)) :
    Cm E mJ7_fill_53178 [rf E za0, .int zx1] H Q :=
  cm_of (by decide +kernel : plainName RJ7 = true) (Nat.le_of_ble_eq_true rfl) rfl (sgJ7_fill_53178_0 ha0 hF)
theorem sgJ7_fill_53178_5 {E : En} {Q : Option Value → Hi → Prop} {H : Hi} {za0 zn0 : Nat} {zx1 : Int32} {zx2 : Int32} {zx3 : Int32} (ha0 : shp za0 = (100, zn0) ∧ za0 < nN ∧ rfL.getD za0 [] = [] ∧ zn0 < 2 ^ 31)
    (hF : (zx3 ≤ zx2 → (Q none H)) ∧ (¬ zx3 ≤ zx2 → (∃ zj_2 : Nat, (zj_2 < zn0 ∧ zx2 = nI zj_2) ∧ (∀ zH_3 : Hi, zH_3 = up H za0 zj_2 zx1 → (∀ zx2_4 : Int32, zx2_4 = zx2 + (1 : Int32) → (Rm E mJ7_fill_53178 Q 5 [some (rf E za0), some (.int zx1), some (.int zx2_4), some (.int zx3)] [] zH_3)))))) :
    Rm E mJ7_fill_53178 Q 5 [some (rf E za0), some (.int zx1), some (.int zx2), some (.int zx3)] [] H := by
  refine rn_iload_n dJ7_fill_53178_5 rfl ?_
  refine rn_iload_n dJ7_fill_53178_6 rfl ?_
  refine rn_icmp_ge (tgt := 20) dJ7_fill_53178_7 (by decide) (fun hc_1 => ?_) (fun hc_1 => ?_)
  · replace hF := hF.1 hc_1
    exact rm_vret rfl dJ7_fill_53178_20 hF
  · replace hF := hF.2 hc_1
    refine rn_aload_n dJ7_fill_53178_10 rfl ?_
    refine rn_iload_n dJ7_fill_53178_11 rfl ?_
    refine rn_iload_n dJ7_fill_53178_12 rfl ?_
    obtain ⟨zj_2, hzj_2, hF⟩ := hF
    refine rj_iast (j := zj_2) hzj_2 ha0.1 ha0.2.1 ha0.2.2.1 ha0.2.2.2 dJ7_fill_53178_13 (fun zH_3 ezH_3 => ?_)
    replace hF := hF zH_3 ezH_3
    refine rn_iinc (w := (1 : Int32)) dJ7_fill_53178_14 rfl (by decide) rfl (Nat.le_of_ble_eq_true rfl) (fun zx2_4 ezx2_4 => ?_)
    replace hF := hF zx2_4 ezx2_4
    show Rn _ _ _ _ _ _ _ _ [some (rf E za0), some (.int zx1), some (.int zx2_4), some (.int zx3)] _ _ _
    refine rn_goto (tgt := 5) dJ7_fill_53178_17 (by decide) ?_
    exact rn_wk (L' := [some (rf E za0), some (.int zx1), some (.int zx2_4), some (.int zx3)]) (⟨rfl, ⟨rfl, ⟨rfl, ⟨rfl, trivial⟩⟩⟩⟩) hF
theorem sgJ6_bitCount_0f7a4_0 {E : En} {Q : Option Value → Hi → Prop} {H : Hi} {zx0 : Int32} 
    (hF : ∀ zx0_1 : Int32, zx0_1 = zx0 - ((ushr zx0 (1 : Int32)) &&& (1431655765 : Int32)) → (∀ zx0_2 : Int32, zx0_2 = (zx0_1 &&& (858993459 : Int32)) + ((ushr zx0_1 (2 : Int32)) &&& (858993459 : Int32)) → (∀ zx0_3 : Int32, zx0_3 = (zx0_2 + (ushr zx0_2 (4 : Int32))) &&& (252645135 : Int32) → (∀ zx0_4 : Int32, zx0_4 = zx0_3 + (ushr zx0_3 (8 : Int32)) → (∀ zx0_5 : Int32, zx0_5 = zx0_4 + (ushr zx0_4 (16 : Int32)) → (Q (some (.int (zx0_5 &&& (63 : Int32)))) H)))))) :
    Rm E mJ6_bitCount_0f7a4 Q 0 [some (.int zx0)] [] H := by
  refine rn_iload_n dJ6_bitCount_0f7a4_0 rfl ?_
  refine rn_iload_n dJ6_bitCount_0f7a4_1 rfl ?_
  refine rn_iconst (x := (1 : Int32)) dJ6_bitCount_0f7a4_2 (by decide) ?_
  refine rn_iushr dJ6_bitCount_0f7a4_3 ?_
  refine rn_ldcw coRJ6_265 dJ6_bitCount_0f7a4_4 ?_
  refine rn_iand dJ6_bitCount_0f7a4_7 ?_
  refine rn_isub dJ6_bitCount_0f7a4_8 ?_
  refine rn_istore_n dJ6_bitCount_0f7a4_9 rfl (Nat.le_of_ble_eq_true rfl) (fun zx0_1 ezx0_1 => ?_)
  replace hF := hF zx0_1 ezx0_1
  show Rn _ _ _ _ _ _ _ _ [some (.int zx0_1)] _ _ _
  refine rn_iload_n dJ6_bitCount_0f7a4_10 rfl ?_
  refine rn_ldcw coRJ6_266 dJ6_bitCount_0f7a4_11 ?_
  refine rn_iand dJ6_bitCount_0f7a4_14 ?_
  refine rn_iload_n dJ6_bitCount_0f7a4_15 rfl ?_
  refine rn_iconst (x := (2 : Int32)) dJ6_bitCount_0f7a4_16 (by decide) ?_
  refine rn_iushr dJ6_bitCount_0f7a4_17 ?_
  refine rn_ldcw coRJ6_266 dJ6_bitCount_0f7a4_18 ?_
  refine rn_iand dJ6_bitCount_0f7a4_21 ?_
  refine rn_iadd dJ6_bitCount_0f7a4_22 ?_
  refine rn_istore_n dJ6_bitCount_0f7a4_23 rfl (Nat.le_of_ble_eq_true rfl) (fun zx0_2 ezx0_2 => ?_)
  replace hF := hF zx0_2 ezx0_2
  show Rn _ _ _ _ _ _ _ _ [some (.int zx0_2)] _ _ _
  refine rn_iload_n dJ6_bitCount_0f7a4_24 rfl ?_
  refine rn_iload_n dJ6_bitCount_0f7a4_25 rfl ?_
  refine rn_iconst (x := (4 : Int32)) dJ6_bitCount_0f7a4_26 (by decide) ?_
  refine rn_iushr dJ6_bitCount_0f7a4_27 ?_
  refine rn_iadd dJ6_bitCount_0f7a4_28 ?_
  refine rn_ldcw coRJ6_267 dJ6_bitCount_0f7a4_29 ?_
  refine rn_iand dJ6_bitCount_0f7a4_32 ?_
  refine rn_istore_n dJ6_bitCount_0f7a4_33 rfl (Nat.le_of_ble_eq_true rfl) (fun zx0_3 ezx0_3 => ?_)
  replace hF := hF zx0_3 ezx0_3
  show Rn _ _ _ _ _ _ _ _ [some (.int zx0_3)] _ _ _
  refine rn_iload_n dJ6_bitCount_0f7a4_34 rfl ?_
  refine rn_iload_n dJ6_bitCount_0f7a4_35 rfl ?_
  refine rn_bipush (x := (8 : Int32)) dJ6_bitCount_0f7a4_36 (by decide) ?_
  refine rn_iushr dJ6_bitCount_0f7a4_38 ?_
  refine rn_iadd dJ6_bitCount_0f7a4_39 ?_
  refine rn_istore_n dJ6_bitCount_0f7a4_40 rfl (Nat.le_of_ble_eq_true rfl) (fun zx0_4 ezx0_4 => ?_)
  replace hF := hF zx0_4 ezx0_4
  show Rn _ _ _ _ _ _ _ _ [some (.int zx0_4)] _ _ _
  refine rn_iload_n dJ6_bitCount_0f7a4_41 rfl ?_
  refine rn_iload_n dJ6_bitCount_0f7a4_42 rfl ?_
  refine rn_bipush (x := (16 : Int32)) dJ6_bitCount_0f7a4_43 (by decide) ?_
  refine rn_iushr dJ6_bitCount_0f7a4_45 ?_
  refine rn_iadd dJ6_bitCount_0f7a4_46 ?_
  refine rn_istore_n dJ6_bitCount_0f7a4_47 rfl (Nat.le_of_ble_eq_true rfl) (fun zx0_5 ezx0_5 => ?_)
  replace hF := hF zx0_5 ezx0_5
  show Rn _ _ _ _ _ _ _ _ [some (.int zx0_5)] _ _ _
  refine rn_iload_n dJ6_bitCount_0f7a4_48 rfl ?_
  refine rn_bipush (x := (63 : Int32)) dJ6_bitCount_0f7a4_49 (by decide) ?_
  refine rn_iand dJ6_bitCount_0f7a4_51 ?_
  exact rm_iret rfl dJ6_bitCount_0f7a4_52 hF
theorem cmJ6_bitCount_0f7a4 {E : En} {Q : Option Value → Hi → Prop} {H : Hi} {zx0 : Int32} 
    (hF : ∀ zx0_1 : Int32, zx0_1 = zx0 - ((ushr zx0 (1 : Int32)) &&& (1431655765 : Int32)) → (∀ zx0_2 : Int32, zx0_2 = (zx0_1 &&& (858993459 : Int32)) + ((ushr zx0_1 (2 : Int32)) &&& (858993459 : Int32)) → (∀ zx0_3 : Int32, zx0_3 = (zx0_2 + (ushr zx0_2 (4 : Int32))) &&& (252645135 : Int32) → (∀ zx0_4 : Int32, zx0_4 = zx0_3 + (ushr zx0_3 (8 : Int32)) → (∀ zx0_5 : Int32, zx0_5 = zx0_4 + (ushr zx0_4 (16 : Int32)) → (Q (some (.int (zx0_5 &&& (63 : Int32)))) H)))))) :
    Cm E mJ6_bitCount_0f7a4 [.int zx0] H Q :=
  cm_of (by decide +kernel : plainName RJ6 = true) (Nat.le_of_ble_eq_true rfl) rfl (sgJ6_bitCount_0f7a4_0  hF)
theorem sgJ0_indexOf_0f7a4_0 {E : En} {Q : Option Value → Hi → Prop} {H : Hi} {zq0 : Nat} {zx1 : Int32} (hq0 : zq0 < 6)
    (hF : Cm E mJ0_indexOf_7cf53 [rf E (1000 + zq0), .int zx1, .int (0 : Int32)] H (fun w zH_1 => ∃ zr_2 : Int32, w = some (.int zr_2) ∧ (Q (some (.int zr_2)) zH_1))) :
    Rm E mJ0_indexOf_0f7a4 Q 0 [some (rf E (1000 + zq0)), some (.int zx1)] [] H := by
  refine rn_aload_n dJ0_indexOf_0f7a4_0 rfl ?_
  refine rn_iload_n dJ0_indexOf_0f7a4_1 rfl ?_
  refine rn_iconst (x := (0 : Int32)) dJ0_indexOf_0f7a4_2 (by decide) ?_
  refine rm_callVS (j := zq0) (As := [.int zx1, .int (0 : Int32)]) (st := []) mlRJ0_633 mdJ0_indexOf_7cf53 (Nat.le_of_ble_eq_true rfl) hq0 rfl rfl rfl (Nat.le_of_ble_eq_true rfl) ⟨Nat.le_refl _, Nat.le_refl _⟩ dJ0_indexOf_0f7a4_3 ?_
  refine cm_mono hF (fun w zH_1 hF => ?_)
  obtain ⟨zr_2, rfl, hF⟩ := hF
  exact rm_iret rfl dJ0_indexOf_0f7a4_6 hF
theorem cmJ0_indexOf_0f7a4 {E : En} {Q : Option Value → Hi → Prop} {H : Hi} {zq0 : Nat} {zx1 : Int32} (hq0 : zq0 < 6)
    (hF : Cm E mJ0_indexOf_7cf53 [rf E (1000 + zq0), .int zx1, .int (0 : Int32)] H (fun w zH_1 => ∃ zr_2 : Int32, w = some (.int zr_2) ∧ (Q (some (.int zr_2)) zH_1))) :
    Cm E mJ0_indexOf_0f7a4 [rf E (1000 + zq0), .int zx1] H Q :=
  cm_of (by decide +kernel : plainName RJ0 = true) (Nat.le_of_ble_eq_true rfl) rfl (sgJ0_indexOf_0f7a4_0 hq0 hF)
theorem sgJ0_indexOf_7cf53_0 {E : En} {Q : Option Value → Hi → Prop} {H : Hi} {zq0 : Nat} {zx1 : Int32} {zx2 : Int32} (hq0 : zq0 < 6)
    (hF : Cm E mJ0_isLatin1_aae02 [rf E (1000 + zq0)] H (fun w zH_1 => ∃ zr_2 : Int32, w = some (.int zr_2) ∧ ((zr_2 = 0 → (Cm E mJ0_length_8abf5 [rf E (1000 + zq0)] zH_1 (fun w zH_4 => ∃ zr_5 : Int32, w = some (.int zr_5) ∧ (Cm E mJ2_indexOf_4cfef [rv E zq0, .int zx1, .int zx2, .int zr_5] zH_4 (fun w zH_6 => ∃ zr_7 : Int32, w = some (.int zr_7) ∧ (Q (some (.int zr_7)) zH_6)))))) ∧ (¬ zr_2 = 0 → (Cm E mJ0_length_8abf5 [rf E (1000 + zq0)] zH_1 (fun w zH_8 => ∃ zr_9 : Int32, w = some (.int zr_9) ∧ (Cm E mJ1_indexOf_4cfef [rv E zq0, .int zx1, .int zx2, .int zr_9] zH_8 (fun w zH_10 => ∃ zr_11 : Int32, w = some (.int zr_11) ∧ (Q (some (.int zr_11)) zH_10))))))))) :
    Rm E mJ0_indexOf_7cf53 Q 0 [some (rf E (1000 + zq0)), some (.int zx1), some (.int zx2)] [] H := by
  refine rn_aload_n dJ0_indexOf_7cf53_0 rfl ?_
  refine rm_callVS (j := zq0) (As := []) (st := []) mlRJ0_492 mdJ0_isLatin1_aae02 (Nat.le_of_ble_eq_true rfl) hq0 rfl rfl rfl (Nat.le_of_ble_eq_true rfl) ⟨Nat.le_refl _, Nat.le_refl _⟩ dJ0_indexOf_7cf53_1 ?_
  refine cm_mono hF (fun w zH_1 hF => ?_)
  obtain ⟨zr_2, rfl, hF⟩ := hF
  refine rn_if_eq (tgt := 23) dJ0_indexOf_7cf53_4 (by decide) (fun hc_3 => ?_) (fun hc_3 => ?_)
  · replace hF := hF.1 hc_3
    refine rn_aload_n dJ0_indexOf_7cf53_23 rfl ?_
    refine rn_sval hq0 foRJ0_9 dJ0_indexOf_7cf53_24 ?_
    refine rn_iload_n dJ0_indexOf_7cf53_27 rfl ?_
    refine rn_iload_n dJ0_indexOf_7cf53_28 rfl ?_
    refine rn_aload_n dJ0_indexOf_7cf53_29 rfl ?_
    refine rm_callVS (j := zq0) (As := []) (st := [.int zx2, .int zx1, rv E zq0]) mlRJ0_505 mdJ0_length_8abf5 (Nat.le_of_ble_eq_true rfl) hq0 rfl rfl rfl (Nat.le_of_ble_eq_true rfl) ⟨Nat.le_refl _, Nat.le_refl _⟩ dJ0_indexOf_7cf53_30 ?_
    refine cm_mono hF (fun w zH_4 hF => ?_)
    obtain ⟨zr_5, rfl, hF⟩ := hF
    refine rm_callS (As := [rv E zq0, .int zx1, .int zx2, .int zr_5]) (st := []) mlRJ0_640 mdJ2_indexOf_4cfef (Nat.le_of_ble_eq_true rfl) rfl rfl (Nat.le_of_ble_eq_true rfl) ⟨Nat.le_refl _, Nat.le_refl _⟩ dJ0_indexOf_7cf53_33 ?_
    refine cm_mono hF (fun w zH_6 hF => ?_)
    obtain ⟨zr_7, rfl, hF⟩ := hF
    exact rm_iret rfl dJ0_indexOf_7cf53_36 hF
  · replace hF := hF.2 hc_3
    refine rn_aload_n dJ0_indexOf_7cf53_7 rfl ?_
    refine rn_sval hq0 foRJ0_9 dJ0_indexOf_7cf53_8 ?_
    refine rn_iload_n dJ0_indexOf_7cf53_11 rfl ?_
    refine rn_iload_n dJ0_indexOf_7cf53_12 rfl ?_
    refine rn_aload_n dJ0_indexOf_7cf53_13 rfl ?_
    refine rm_callVS (j := zq0) (As := []) (st := [.int zx2, .int zx1, rv E zq0]) mlRJ0_505 mdJ0_length_8abf5 (Nat.le_of_ble_eq_true rfl) hq0 rfl rfl rfl (Nat.le_of_ble_eq_true rfl) ⟨Nat.le_refl _, Nat.le_refl _⟩ dJ0_indexOf_7cf53_14 ?_
    refine cm_mono hF (fun w zH_8 hF => ?_)
    obtain ⟨zr_9, rfl, hF⟩ := hF
    refine rm_callS (As := [rv E zq0, .int zx1, .int zx2, .int zr_9]) (st := []) mlRJ0_637 mdJ1_indexOf_4cfef (Nat.le_of_ble_eq_true rfl) rfl rfl (Nat.le_of_ble_eq_true rfl) ⟨Nat.le_refl _, Nat.le_refl _⟩ dJ0_indexOf_7cf53_17 ?_
    refine cm_mono hF (fun w zH_10 hF => ?_)
    obtain ⟨zr_11, rfl, hF⟩ := hF
    refine rn_goto (tgt := 36) dJ0_indexOf_7cf53_20 (by decide) ?_
    exact rm_iret rfl dJ0_indexOf_7cf53_36 hF
theorem cmJ0_indexOf_7cf53 {E : En} {Q : Option Value → Hi → Prop} {H : Hi} {zq0 : Nat} {zx1 : Int32} {zx2 : Int32} (hq0 : zq0 < 6)
    (hF : Cm E mJ0_isLatin1_aae02 [rf E (1000 + zq0)] H (fun w zH_1 => ∃ zr_2 : Int32, w = some (.int zr_2) ∧ ((zr_2 = 0 → (Cm E mJ0_length_8abf5 [rf E (1000 + zq0)] zH_1 (fun w zH_4 => ∃ zr_5 : Int32, w = some (.int zr_5) ∧ (Cm E mJ2_indexOf_4cfef [rv E zq0, .int zx1, .int zx2, .int zr_5] zH_4 (fun w zH_6 => ∃ zr_7 : Int32, w = some (.int zr_7) ∧ (Q (some (.int zr_7)) zH_6)))))) ∧ (¬ zr_2 = 0 → (Cm E mJ0_length_8abf5 [rf E (1000 + zq0)] zH_1 (fun w zH_8 => ∃ zr_9 : Int32, w = some (.int zr_9) ∧ (Cm E mJ1_indexOf_4cfef [rv E zq0, .int zx1, .int zx2, .int zr_9] zH_8 (fun w zH_10 => ∃ zr_11 : Int32, w = some (.int zr_11) ∧ (Q (some (.int zr_11)) zH_10))))))))) :
    Cm E mJ0_indexOf_7cf53 [rf E (1000 + zq0), .int zx1, .int zx2] H Q :=
  cm_of (by decide +kernel : plainName RJ0 = true) (Nat.le_of_ble_eq_true rfl) rfl (sgJ0_indexOf_7cf53_0 hq0 hF)
theorem sgJ0_isLatin1_aae02_0 {E : En} {Q : Option Value → Hi → Prop} {H : Hi} {zq0 : Nat} (hq0 : zq0 < 6)
    (hF : ((1 : Int32) = 0 → (Q (some (.int (0 : Int32))) H)) ∧ (¬ (1 : Int32) = 0 → ((¬ (0 : Int32) = 0 → (Q (some (.int (0 : Int32))) H)) ∧ ((0 : Int32) = 0 → (Q (some (.int (1 : Int32))) H))))) :
    Rm E mJ0_isLatin1_aae02 Q 0 [some (rf E (1000 + zq0))] [] H := by
  refine rn_scomp foRJ0_38 dJ0_isLatin1_aae02_0 ?_
  refine rn_if_eq (tgt := 17) dJ0_isLatin1_aae02_3 (by decide) (fun hc_1 => ?_) (fun hc_1 => ?_)
  · replace hF := hF.1 hc_1
    refine rn_iconst (x := (0 : Int32)) dJ0_isLatin1_aae02_17 (by decide) ?_
    exact rm_zret rfl rfl dJ0_isLatin1_aae02_18 hF
  · replace hF := hF.2 hc_1
    refine rn_aload_n dJ0_isLatin1_aae02_6 rfl ?_
    refine rn_scod hq0 foRJ0_15 dJ0_isLatin1_aae02_7 ?_
    refine rn_if_ne (tgt := 17) dJ0_isLatin1_aae02_10 (by decide) (fun hc_2 => ?_) (fun hc_2 => ?_)
    · replace hF := hF.1 hc_2
      refine rn_iconst (x := (0 : Int32)) dJ0_isLatin1_aae02_17 (by decide) ?_
      exact rm_zret rfl rfl dJ0_isLatin1_aae02_18 hF
    · replace hF := hF.2 hc_2
      refine rn_iconst (x := (1 : Int32)) dJ0_isLatin1_aae02_13 (by decide) ?_
      refine rn_goto (tgt := 18) dJ0_isLatin1_aae02_14 (by decide) ?_
      exact rm_zret rfl rfl dJ0_isLatin1_aae02_18 hF
theorem cmJ0_isLatin1_aae02 {E : En} {Q : Option Value → Hi → Prop} {H : Hi} {zq0 : Nat} (hq0 : zq0 < 6)
    (hF : ((1 : Int32) = 0 → (Q (some (.int (0 : Int32))) H)) ∧ (¬ (1 : Int32) = 0 → ((¬ (0 : Int32) = 0 → (Q (some (.int (0 : Int32))) H)) ∧ ((0 : Int32) = 0 → (Q (some (.int (1 : Int32))) H))))) :
    Cm E mJ0_isLatin1_aae02 [rf E (1000 + zq0)] H Q :=
  cm_of (by decide +kernel : plainName RJ0 = true) (Nat.le_of_ble_eq_true rfl) rfl (sgJ0_isLatin1_aae02_0 hq0 hF)
theorem sgJ0_length_8abf5_0 {E : En} {Q : Option Value → Hi → Prop} {H : Hi} {zq0 : Nat} (hq0 : zq0 < 6)
    (hF : Cm E mJ0_coder_7d493 [rf E (1000 + zq0)] H (fun w zH_1 => ∃ zr_2 : Int32, w = some (.int zr_2) ∧ (Q (some (.int ((nI (skLen.getD zq0 0)) >>> (zr_2 &&& 31)))) zH_1))) :
    Rm E mJ0_length_8abf5 Q 0 [some (rf E (1000 + zq0))] [] H := by
  refine rn_aload_n dJ0_length_8abf5_0 rfl ?_
  refine rn_sval hq0 foRJ0_9 dJ0_length_8abf5_1 ?_
  refine rn_slenB (x := nI (skLen.getD zq0 0)) hq0 rfl dJ0_length_8abf5_4 ?_
  refine rn_aload_n dJ0_length_8abf5_5 rfl ?_
  refine rm_callVS (j := zq0) (As := []) (st := [.int (nI (skLen.getD zq0 0))]) mlRJ0_335 mdJ0_coder_7d493 (Nat.le_of_ble_eq_true rfl) hq0 rfl rfl rfl (Nat.le_of_ble_eq_true rfl) ⟨Nat.le_refl _, Nat.le_refl _⟩ dJ0_length_8abf5_6 ?_
  refine cm_mono hF (fun w zH_1 hF => ?_)
  obtain ⟨zr_2, rfl, hF⟩ := hF
  refine rn_ishr dJ0_length_8abf5_9 ?_
  exact rm_iret rfl dJ0_length_8abf5_10 hF
theorem cmJ0_length_8abf5 {E : En} {Q : Option Value → Hi → Prop} {H : Hi} {zq0 : Nat} (hq0 : zq0 < 6)
    (hF : Cm E mJ0_coder_7d493 [rf E (1000 + zq0)] H (fun w zH_1 => ∃ zr_2 : Int32, w = some (.int zr_2) ∧ (Q (some (.int ((nI (skLen.getD zq0 0)) >>> (zr_2 &&& 31)))) zH_1))) :
    Cm E mJ0_length_8abf5 [rf E (1000 + zq0)] H Q :=
  cm_of (by decide +kernel : plainName RJ0 = true) (Nat.le_of_ble_eq_true rfl) rfl (sgJ0_length_8abf5_0 hq0 hF)
theorem sgJ0_coder_7d493_0 {E : En} {Q : Option Value → Hi → Prop} {H : Hi} {zq0 : Nat} (hq0 : zq0 < 6)
    (hF : ((1 : Int32) = 0 → (Q (some (.int (1 : Int32))) H)) ∧ (¬ (1 : Int32) = 0 → (Q (some (.int (0 : Int32))) H))) :
    Rm E mJ0_coder_7d493 Q 0 [some (rf E (1000 + zq0))] [] H := by
  refine rn_scomp foRJ0_38 dJ0_coder_7d493_0 ?_
  refine rn_if_eq (tgt := 13) dJ0_coder_7d493_3 (by decide) (fun hc_1 => ?_) (fun hc_1 => ?_)
  · replace hF := hF.1 hc_1
    refine rn_iconst (x := (1 : Int32)) dJ0_coder_7d493_13 (by decide) ?_
    exact rm_zret rfl rfl dJ0_coder_7d493_14 hF
  · replace hF := hF.2 hc_1
    refine rn_aload_n dJ0_coder_7d493_6 rfl ?_
    refine rn_scod hq0 foRJ0_15 dJ0_coder_7d493_7 ?_
    refine rn_goto (tgt := 14) dJ0_coder_7d493_10 (by decide) ?_
    exact rm_zret rfl rfl dJ0_coder_7d493_14 hF
theorem cmJ0_coder_7d493 {E : En} {Q : Option Value → Hi → Prop} {H : Hi} {zq0 : Nat} (hq0 : zq0 < 6)
    (hF : ((1 : Int32) = 0 → (Q (some (.int (1 : Int32))) H)) ∧ (¬ (1 : Int32) = 0 → (Q (some (.int (0 : Int32))) H))) :
    Cm E mJ0_coder_7d493 [rf E (1000 + zq0)] H Q :=
  cm_of (by decide +kernel : plainName RJ0 = true) (Nat.le_of_ble_eq_true rfl) rfl (sgJ0_coder_7d493_0 hq0 hF)
theorem sgJ1_canEncode_9a6ad_0 {E : En} {Q : Option Value → Hi → Prop} {H : Hi} {zx0 : Int32} 
    (hF : (zx0 < 0 → (Q (some (.int (0 : Int32))) H)) ∧ (¬ zx0 < 0 → (((255 : Int32) < zx0 → (Q (some (.int (0 : Int32))) H)) ∧ (¬ (255 : Int32) < zx0 → (Q (some (.int (1 : Int32))) H))))) :
    Rm E mJ1_canEncode_9a6ad Q 0 [some (.int zx0)] [] H := by
  refine rn_iload_n dJ1_canEncode_9a6ad_0 rfl ?_
  refine rn_if_lt (tgt := 15) dJ1_canEncode_9a6ad_1 (by decide) (fun hc_1 => ?_) (fun hc_1 => ?_)
  · replace hF := hF.1 hc_1
    refine rn_iconst (x := (0 : Int32)) dJ1_canEncode_9a6ad_15 (by decide) ?_
    exact rm_zret rfl rfl dJ1_canEncode_9a6ad_16 hF
  · replace hF := hF.2 hc_1
    refine rn_iload_n dJ1_canEncode_9a6ad_4 rfl ?_
    refine rn_sipush (x := (255 : Int32)) dJ1_canEncode_9a6ad_5 (by decide) ?_
    refine rn_icmp_gt (tgt := 15) dJ1_canEncode_9a6ad_8 (by decide) (fun hc_2 => ?_) (fun hc_2 => ?_)
    · replace hF := hF.1 hc_2
      refine rn_iconst (x := (0 : Int32)) dJ1_canEncode_9a6ad_15 (by decide) ?_
      exact rm_zret rfl rfl dJ1_canEncode_9a6ad_16 hF
    · replace hF := hF.2 hc_2
      refine rn_iconst (x := (1 : Int32)) dJ1_canEncode_9a6ad_11 (by decide) ?_
      refine rn_goto (tgt := 16) dJ1_canEncode_9a6ad_12 (by decide) ?_
      exact rm_zret rfl rfl dJ1_canEncode_9a6ad_16 hF
theorem cmJ1_canEncode_9a6ad {E : En} {Q : Option Value → Hi → Prop} {H : Hi} {zx0 : Int32} 
    (hF : (zx0 < 0 → (Q (some (.int (0 : Int32))) H)) ∧ (¬ zx0 < 0 → (((255 : Int32) < zx0 → (Q (some (.int (0 : Int32))) H)) ∧ (¬ (255 : Int32) < zx0 → (Q (some (.int (1 : Int32))) H))))) :
    Cm E mJ1_canEncode_9a6ad [.int zx0] H Q :=
  cm_of (by decide +kernel : plainName RJ1 = true) (Nat.le_of_ble_eq_true rfl) rfl (sgJ1_canEncode_9a6ad_0  hF)
theorem sgJ1_indexOf_4cfef_0 {E : En} {Q : Option Value → Hi → Prop} {H : Hi} {zq0 : Nat} {zx1 : Int32} {zx2 : Int32} {zx3 : Int32} (hq0 : zq0 < 6)
    (hF : Cm E mJ1_canEncode_9a6ad [.int zx1] H (fun w zH_1 => ∃ zr_2 : Int32, w = some (.int zr_2) ∧ ((¬ zr_2 = 0 → (∀ zx2_4 : Int32, zx2_4 = mmax zx2 (0 : Int32) → (∀ zx3_5 : Int32, zx3_5 = mmin zx3 (nI (skLen.getD zq0 0)) → ((zx2_4 < zx3_5 → (Cm E mJ1_indexOfChar_4cfef [rv E zq0, .int zx1, .int zx2_4, .int zx3_5] zH_1 (fun w zH_7 => ∃ zr_8 : Int32, w = some (.int zr_8) ∧ (Q (some (.int zr_8)) zH_7)))) ∧ (¬ zx2_4 < zx3_5 → (Q (some (.int (-1 : Int32))) zH_1)))))) ∧ (zr_2 = 0 → (Q (some (.int (-1 : Int32))) zH_1))))) :
    Rm E mJ1_indexOf_4cfef Q 0 [some (rv E zq0), some (.int zx1), some (.int zx2), some (.int zx3)] [] H := by
  refine rn_iload_n dJ1_indexOf_4cfef_0 rfl ?_
  refine rm_callS (As := [.int zx1]) (st := []) mlRJ1_88 mdJ1_canEncode_9a6ad (Nat.le_of_ble_eq_true rfl) rfl rfl (Nat.le_of_ble_eq_true rfl) ⟨Nat.le_refl _, Nat.le_refl _⟩ dJ1_indexOf_4cfef_1 ?_
  refine cm_mono hF (fun w zH_1 hF => ?_)
  obtain ⟨zr_2, rfl, hF⟩ := hF
  refine rn_if_ne (tgt := 9) dJ1_indexOf_4cfef_4 (by decide) (fun hc_3 => ?_) (fun hc_3 => ?_)
  · replace hF := hF.1 hc_3
    refine rn_iload_n dJ1_indexOf_4cfef_9 rfl ?_
    refine rn_iconst (x := (0 : Int32)) dJ1_indexOf_4cfef_10 (by decide) ?_
    refine rn_mmax mlRJ1_92 (Nat.le_of_ble_eq_true rfl) ⟨Nat.le_refl _, Nat.le_refl _⟩ dJ1_indexOf_4cfef_11 ?_
    refine rn_istore_n dJ1_indexOf_4cfef_14 rfl (Nat.le_of_ble_eq_true rfl) (fun zx2_4 ezx2_4 => ?_)
    replace hF := hF zx2_4 ezx2_4
    show Rn _ _ _ _ _ _ _ _ [some (rv E zq0), some (.int zx1), some (.int zx2_4), some (.int zx3)] _ _ _
    refine rn_iload_n dJ1_indexOf_4cfef_15 rfl ?_
    refine rn_aload_n dJ1_indexOf_4cfef_16 rfl ?_
    refine rn_slenB (x := nI (skLen.getD zq0 0)) hq0 rfl dJ1_indexOf_4cfef_17 ?_
    refine rn_mmin mlRJ1_38 (Nat.le_of_ble_eq_true rfl) ⟨Nat.le_refl _, Nat.le_refl _⟩ dJ1_indexOf_4cfef_18 ?_
    refine rn_istore_n dJ1_indexOf_4cfef_21 rfl (Nat.le_of_ble_eq_true rfl) (fun zx3_5 ezx3_5 => ?_)
    replace hF := hF zx3_5 ezx3_5
    show Rn _ _ _ _ _ _ _ _ [some (rv E zq0), some (.int zx1), some (.int zx2_4), some (.int zx3_5)] _ _ _
    refine rn_iload_n dJ1_indexOf_4cfef_22 rfl ?_
    refine rn_iload_n dJ1_indexOf_4cfef_23 rfl ?_
    refine rn_icmp_lt (tgt := 29) dJ1_indexOf_4cfef_24 (by decide) (fun hc_6 => ?_) (fun hc_6 => ?_)
    · replace hF := hF.1 hc_6
      refine rn_aload_n dJ1_indexOf_4cfef_29 rfl ?_
      refine rn_iload_n dJ1_indexOf_4cfef_30 rfl ?_
      refine rn_iload_n dJ1_indexOf_4cfef_31 rfl ?_
      refine rn_iload_n dJ1_indexOf_4cfef_32 rfl ?_
      refine rm_callS (As := [rv E zq0, .int zx1, .int zx2_4, .int zx3_5]) (st := []) mlRJ1_95 mdJ1_indexOfChar_4cfef (Nat.le_of_ble_eq_true rfl) rfl rfl (Nat.le_of_ble_eq_true rfl) ⟨Nat.le_refl _, Nat.le_refl _⟩ dJ1_indexOf_4cfef_33 ?_
      refine cm_mono hF (fun w zH_7 hF => ?_)
      obtain ⟨zr_8, rfl, hF⟩ := hF
      exact rm_iret rfl dJ1_indexOf_4cfef_36 hF
    · replace hF := hF.2 hc_6
      refine rn_iconst (x := (-1 : Int32)) dJ1_indexOf_4cfef_27 (by decide) ?_
      exact rm_iret rfl dJ1_indexOf_4cfef_28 hF
  · replace hF := hF.2 hc_3
    refine rn_iconst (x := (-1 : Int32)) dJ1_indexOf_4cfef_7 (by decide) ?_
    exact rm_iret rfl dJ1_indexOf_4cfef_8 hF
theorem cmJ1_indexOf_4cfef {E : En} {Q : Option Value → Hi → Prop} {H : Hi} {zq0 : Nat} {zx1 : Int32} {zx2 : Int32} {zx3 : Int32} (hq0 : zq0 < 6)
    (hF : Cm E mJ1_canEncode_9a6ad [.int zx1] H (fun w zH_1 => ∃ zr_2 : Int32, w = some (.int zr_2) ∧ ((¬ zr_2 = 0 → (∀ zx2_4 : Int32, zx2_4 = mmax zx2 (0 : Int32) → (∀ zx3_5 : Int32, zx3_5 = mmin zx3 (nI (skLen.getD zq0 0)) → ((zx2_4 < zx3_5 → (Cm E mJ1_indexOfChar_4cfef [rv E zq0, .int zx1, .int zx2_4, .int zx3_5] zH_1 (fun w zH_7 => ∃ zr_8 : Int32, w = some (.int zr_8) ∧ (Q (some (.int zr_8)) zH_7)))) ∧ (¬ zx2_4 < zx3_5 → (Q (some (.int (-1 : Int32))) zH_1)))))) ∧ (zr_2 = 0 → (Q (some (.int (-1 : Int32))) zH_1))))) :
    Cm E mJ1_indexOf_4cfef [rv E zq0, .int zx1, .int zx2, .int zx3] H Q :=
  cm_of (by decide +kernel : plainName RJ1 = true) (Nat.le_of_ble_eq_true rfl) rfl (sgJ1_indexOf_4cfef_0 hq0 hF)
theorem sgJ1_indexOfChar_4cfef_0 {E : En} {Q : Option Value → Hi → Prop} {H : Hi} {zq0 : Nat} {zx1 : Int32} {zx2 : Int32} {zx3 : Int32} (hq0 : zq0 < 6)
    (hF : ∀ zx4_1 : Int32, zx4_1 = zx1.toInt8.toInt32 → (Rm E mJ1_indexOfChar_4cfef Q 7 [some (rv E zq0), none, none, some (.int zx3), some (.int zx4_1), some (.int zx2)] [] H)) :
    Rm E mJ1_indexOfChar_4cfef Q 0 [some (rv E zq0), some (.int zx1), some (.int zx2), some (.int zx3), none, none] [] H := by
  refine rn_iload_n dJ1_indexOfChar_4cfef_0 rfl ?_
  refine rn_i2b dJ1_indexOfChar_4cfef_1 ?_
  refine rn_istore dJ1_indexOfChar_4cfef_2 rfl (Nat.le_of_ble_eq_true rfl) (fun zx4_1 ezx4_1 => ?_)
  replace hF := hF zx4_1 ezx4_1
  show Rn _ _ _ _ _ _ _ _ [some (rv E zq0), some (.int zx1), some (.int zx2), some (.int zx3), some (.int zx4_1), none] _ _ _
  refine rn_iload_n dJ1_indexOfChar_4cfef_4 rfl ?_
  refine ra_istore dJ1_indexOfChar_4cfef_5 rfl (Nat.le_of_ble_eq_true rfl) ?_
  show Rn _ _ _ _ _ _ _ _ [some (rv E zq0), some (.int zx1), some (.int zx2), some (.int zx3), some (.int zx4_1), some (.int zx2)] _ _ _
  exact rn_wk (L' := [some (rv E zq0), none, none, some (.int zx3), some (.int zx4_1), some (.int zx2)]) (⟨rfl, ⟨rfl, ⟨rfl, ⟨rfl, trivial⟩⟩⟩⟩) hF
theorem cmJ1_indexOfChar_4cfef {E : En} {Q : Option Value → Hi → Prop} {H : Hi} {zq0 : Nat} {zx1 : Int32} {zx2 : Int32} {zx3 : Int32} (hq0 : zq0 < 6)
    (hF : ∀ zx4_1 : Int32, zx4_1 = zx1.toInt8.toInt32 → (Rm E mJ1_indexOfChar_4cfef Q 7 [some (rv E zq0), none, none, some (.int zx3), some (.int zx4_1), some (.int zx2)] [] H)) :
    Cm E mJ1_indexOfChar_4cfef [rv E zq0, .int zx1, .int zx2, .int zx3] H Q :=
  cm_of (by decide +kernel : plainName RJ1 = true) (Nat.le_of_ble_eq_true rfl) rfl (sgJ1_indexOfChar_4cfef_0 hq0 hF)
theorem sgJ1_indexOfChar_4cfef_7 {E : En} {Q : Option Value → Hi → Prop} {H : Hi} {zq0 : Nat} {zx3 : Int32} {zx4 : Int32} {zx5 : Int32} (hq0 : zq0 < 6)
    (hF : (zx3 ≤ zx5 → (Q (some (.int (-1 : Int32))) H)) ∧ (¬ zx3 ≤ zx5 → (∃ zj_2 : Nat, (zj_2 < skLen.getD zq0 0 ∧ zx5 = nI zj_2) ∧ ((¬ ((skByt.getD zq0 []).getD zj_2 0) = zx4 → (∀ zx5_4 : Int32, zx5_4 = zx5 + (1 : Int32) → (Rm E mJ1_indexOfChar_4cfef Q 7 [some (rv E zq0), none, none, some (.int zx3), some (.int zx4), some (.int zx5_4)] [] H))) ∧ (((skByt.getD zq0 []).getD zj_2 0) = zx4 → (Q (some (.int zx5)) H)))))) :
    Rm E mJ1_indexOfChar_4cfef Q 7 [some (rv E zq0), none, none, some (.int zx3), some (.int zx4), some (.int zx5)] [] H := by
  refine rn_iload dJ1_indexOfChar_4cfef_7 rfl ?_
  refine rn_iload_n dJ1_indexOfChar_4cfef_9 rfl ?_
  refine rn_icmp_ge (tgt := 31) dJ1_indexOfChar_4cfef_10 (by decide) (fun hc_1 => ?_) (fun hc_1 => ?_)
  · replace hF := hF.1 hc_1
    refine rn_iconst (x := (-1 : Int32)) dJ1_indexOfChar_4cfef_31 (by decide) ?_
    exact rm_iret rfl dJ1_indexOfChar_4cfef_32 hF
  · replace hF := hF.2 hc_1
    refine rn_aload_n dJ1_indexOfChar_4cfef_13 rfl ?_
    refine rn_iload dJ1_indexOfChar_4cfef_14 rfl ?_
    obtain ⟨zj_2, hzj_2, hF⟩ := hF
    refine rj_sbyte (k := zj_2) hzj_2 hq0 (skL _) dJ1_indexOfChar_4cfef_16 ?_
    refine rn_iload dJ1_indexOfChar_4cfef_17 rfl ?_
    refine rn_icmp_ne (tgt := 25) dJ1_indexOfChar_4cfef_19 (by decide) (fun hc_3 => ?_) (fun hc_3 => ?_)
    · replace hF := hF.1 hc_3
      refine rn_iinc (w := (1 : Int32)) dJ1_indexOfChar_4cfef_25 rfl (by decide) rfl (Nat.le_of_ble_eq_true rfl) (fun zx5_4 ezx5_4 => ?_)
      replace hF := hF zx5_4 ezx5_4
      show Rn _ _ _ _ _ _ _ _ [some (rv E zq0), none, none, some (.int zx3), some (.int zx4), some (.int zx5_4)] _ _ _
      refine rn_goto (tgt := 7) dJ1_indexOfChar_4cfef_28 (by decide) ?_
      exact rn_wk (L' := [some (rv E zq0), none, none, some (.int zx3), some (.int zx4), some (.int zx5_4)]) (⟨rfl, ⟨rfl, ⟨rfl, ⟨rfl, trivial⟩⟩⟩⟩) hF
    · replace hF := hF.2 hc_3
      refine rn_iload dJ1_indexOfChar_4cfef_22 rfl ?_
      exact rm_iret rfl dJ1_indexOfChar_4cfef_24 hF
