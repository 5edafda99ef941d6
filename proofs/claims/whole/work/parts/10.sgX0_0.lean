theorem sgX0_learnThings_0 {E : En} {Q : Option Value → Hi → Prop} {H : Hi}  
    (hF : Cm E mX7_items [rf E 1] H (fun w zH_1 => ∃ zr_2 : Int32, w = some (.int zr_2) ∧ (∀ zH_3 : Hi, zH_3 = up zH_1 5 0 (mmin zr_2 (8 : Int32)) → (∀ zH_4 : Hi, zH_4 = up zH_3 5 7 (0 : Int32) → (∀ zH_5 : Hi, zH_5 = up zH_4 5 8 (0 : Int32) → (Cm E mJ7_fill_53178 [rf E 10, .int (0 : Int32)] zH_5 (fun w zH_6 => w = none ∧ (Rm E mX0_learnThings Q 33 [some (rf E 5), some (rf E 1), some (.int (0 : Int32)), none] [] zH_6)))))))) :
    Rm E mX0_learnThings Q 0 [some (rf E 5), some (rf E 1), none, none] [] H := by
  refine rn_aload_n dX0_learnThings_0 rfl ?_
  refine rn_aload_n dX0_learnThings_1 rfl ?_
  refine rm_callV (c0 := 1) (As := []) (st := [rf E 5]) mlRX0_27 mdX7_items (Nat.le_of_ble_eq_true rfl) rfl (by decide) (by decide) rfl rfl rfl (Nat.le_of_ble_eq_true rfl) ⟨Nat.le_refl _, Nat.le_refl _⟩ dX0_learnThings_2 ?_
  refine cm_mono hF (fun w zH_1 hF => ?_)
  obtain ⟨zr_2, rfl, hF⟩ := hF
  refine rn_bipush (x := (8 : Int32)) dX0_learnThings_5 (by decide) ?_
  refine rn_mmin mlRX0_33 (Nat.le_of_ble_eq_true rfl) ⟨Nat.le_refl _, Nat.le_refl _⟩ dX0_learnThings_7 ?_
  refine rm_puti flRX0_39 rfl (by decide) rfl dX0_learnThings_10 (fun zH_3 ezH_3 => ?_)
  replace hF := hF zH_3 ezH_3
  refine rn_aload_n dX0_learnThings_13 rfl ?_
  refine rn_iconst (x := (0 : Int32)) dX0_learnThings_14 (by decide) ?_
  refine rm_puti flRX0_43 rfl (by decide) rfl dX0_learnThings_15 (fun zH_4 ezH_4 => ?_)
  replace hF := hF zH_4 ezH_4
  refine rn_aload_n dX0_learnThings_18 rfl ?_
  refine rn_iconst (x := (0 : Int32)) dX0_learnThings_19 (by decide) ?_
  refine rm_puti flRX0_46 rfl (by decide) rfl dX0_learnThings_20 (fun zH_5 ezH_5 => ?_)
  replace hF := hF zH_5 ezH_5
  refine rn_aload_n dX0_learnThings_23 rfl ?_
  refine rm_getr (r := 10) flRX0_24 rfl (by decide) rfl dX0_learnThings_24 ?_
  refine rn_iconst (x := (0 : Int32)) dX0_learnThings_27 (by decide) ?_
  refine rm_callS (As := [rf E 10, .int (0 : Int32)]) (st := []) mlRX0_49 mdJ7_fill_53178 (Nat.le_of_ble_eq_true rfl) rfl rfl (Nat.le_of_ble_eq_true rfl) ⟨Nat.le_refl _, Nat.le_refl _⟩ dX0_learnThings_28 ?_
  refine cm_mono hF (fun w zH_6 hF => ?_)
  obtain ⟨rfl, hF⟩ := hF
  refine rn_iconst (x := (0 : Int32)) dX0_learnThings_31 (by decide) ?_
  refine ra_istore_n dX0_learnThings_32 rfl (Nat.le_of_ble_eq_true rfl) ?_
  show Rn _ _ _ _ _ _ _ _ [some (rf E 5), some (rf E 1), some (.int (0 : Int32)), none] _ _ _
  exact rn_wk (L' := [some (rf E 5), some (rf E 1), some (.int (0 : Int32)), none]) (⟨rfl, ⟨rfl, ⟨rfl, trivial⟩⟩⟩) hF
theorem cmX0_learnThings {E : En} {Q : Option Value → Hi → Prop} {H : Hi}  
    (hF : Cm E mX7_items [rf E 1] H (fun w zH_1 => ∃ zr_2 : Int32, w = some (.int zr_2) ∧ (∀ zH_3 : Hi, zH_3 = up zH_1 5 0 (mmin zr_2 (8 : Int32)) → (∀ zH_4 : Hi, zH_4 = up zH_3 5 7 (0 : Int32) → (∀ zH_5 : Hi, zH_5 = up zH_4 5 8 (0 : Int32) → (Cm E mJ7_fill_53178 [rf E 10, .int (0 : Int32)] zH_5 (fun w zH_6 => w = none ∧ (Rm E mX0_learnThings Q 33 [some (rf E 5), some (rf E 1), some (.int (0 : Int32)), none] [] zH_6)))))))) :
    Cm E mX0_learnThings [rf E 5, rf E 1] H Q :=
  cm_of (by decide +kernel : plainName RX0 = true) (Nat.le_of_ble_eq_true rfl) rfl (sgX0_learnThings_0  hF)
theorem sgX0_learnThings_33 {E : En} {Q : Option Value → Hi → Prop} {H : Hi} {zx2 : Int32} 
    (hF : ((H 5 0) ≤ zx2 → (Q none H)) ∧ (¬ (H 5 0) ≤ zx2 → (Cm E mX7_sign [rf E 1, .int zx2, .int (0 : Int32)] H (fun w zH_2 => ∃ zr_3 : Int32, w = some (.int zr_3) ∧ (∃ zj_4 : Nat, (zj_4 < 8 ∧ zx2 = nI zj_4) ∧ (∀ zH_5 : Hi, zH_5 = up zH_2 6 zj_4 (zr_3 + (1 : Int32)) → (Cm E mX7_sign [rf E 1, .int zx2, .int (1 : Int32)] zH_5 (fun w zH_6 => ∃ zr_7 : Int32, w = some (.int zr_7) ∧ (∃ zj_8 : Nat, (zj_8 < 8 ∧ zx2 = nI zj_8) ∧ (∀ zH_9 : Hi, zH_9 = up zH_6 7 zj_8 zr_7 → (Cm E mX7_sign [rf E 1, .int zx2, .int (2 : Int32)] zH_9 (fun w zH_10 => ∃ zr_11 : Int32, w = some (.int zr_11) ∧ (∃ zj_12 : Nat, (zj_12 < 8 ∧ zx2 = nI zj_12) ∧ (∀ zH_13 : Hi, zH_13 = up zH_10 8 zj_12 zr_11 → (∃ zj_14 : Nat, (zj_14 < 8 ∧ zx2 = nI zj_14) ∧ (∀ zH_15 : Hi, zH_15 = up zH_13 5 8 ((zH_13 5 8) + (zH_13 6 zj_14)) → (∃ zj_16 : Nat, (zj_16 < 8 ∧ zx2 = nI zj_16) ∧ ((¬ (zH_15 8 zj_16) = (1 : Int32) → (Rm E mX0_learnThings Q 118 [some (rf E 5), some (rf E 1), some (.int zx2), some (.int (0 : Int32))] [] zH_15)) ∧ ((zH_15 8 zj_16) = (1 : Int32) → (∀ zH_19 : Hi, zH_19 = up zH_15 5 7 ((zH_15 5 7) ||| ((1 : Int32) <<< (zx2 &&& 31))) → (Rm E mX0_learnThings Q 118 [some (rf E 5), some (rf E 1), some (.int zx2), some (.int (0 : Int32))] [] zH_19))))))))))))))))))))) :
    Rm E mX0_learnThings Q 33 [some (rf E 5), some (rf E 1), some (.int zx2), none] [] H := by
  refine rn_iload_n dX0_learnThings_33 rfl ?_
  refine rn_aload_n dX0_learnThings_34 rfl ?_
  refine rm_geti flRX0_39 rfl (by decide) rfl dX0_learnThings_35 ?_
  refine rn_icmp_ge (tgt := 161) dX0_learnThings_38 (by decide) (fun hc_1 => ?_) (fun hc_1 => ?_)
  · replace hF := hF.1 hc_1
    exact rm_vret rfl dX0_learnThings_161 hF
  · replace hF := hF.2 hc_1
    refine rn_aload_n dX0_learnThings_41 rfl ?_
    refine rm_getr (r := 6) flRX0_9 rfl (by decide) rfl dX0_learnThings_42 ?_
    refine rn_iload_n dX0_learnThings_45 rfl ?_
    refine rn_aload_n dX0_learnThings_46 rfl ?_
    refine rn_iload_n dX0_learnThings_47 rfl ?_
    refine rn_iconst (x := (0 : Int32)) dX0_learnThings_48 (by decide) ?_
    refine rm_callV (c0 := 1) (As := [.int zx2, .int (0 : Int32)]) (st := [.int zx2, rf E 6]) mlRX0_55 mdX7_sign (Nat.le_of_ble_eq_true rfl) rfl (by decide) (by decide) rfl rfl rfl (Nat.le_of_ble_eq_true rfl) ⟨Nat.le_refl _, Nat.le_refl _⟩ dX0_learnThings_49 ?_
    refine cm_mono hF (fun w zH_2 hF => ?_)
    obtain ⟨zr_3, rfl, hF⟩ := hF
    refine rn_iconst (x := (1 : Int32)) dX0_learnThings_52 (by decide) ?_
    refine rn_iadd dX0_learnThings_53 ?_
    obtain ⟨zj_4, hzj_4, hF⟩ := hF
    refine rj_iast (j := zj_4) hzj_4 rfl (by decide) rfl (by decide) dX0_learnThings_54 (fun zH_5 ezH_5 => ?_)
    replace hF := hF zH_5 ezH_5
    refine rn_aload_n dX0_learnThings_55 rfl ?_
    refine rm_getr (r := 7) flRX0_15 rfl (by decide) rfl dX0_learnThings_56 ?_
    refine rn_iload_n dX0_learnThings_59 rfl ?_
    refine rn_aload_n dX0_learnThings_60 rfl ?_
    refine rn_iload_n dX0_learnThings_61 rfl ?_
    refine rn_iconst (x := (1 : Int32)) dX0_learnThings_62 (by decide) ?_
    refine rm_callV (c0 := 1) (As := [.int zx2, .int (1 : Int32)]) (st := [.int zx2, rf E 7]) mlRX0_55 mdX7_sign (Nat.le_of_ble_eq_true rfl) rfl (by decide) (by decide) rfl rfl rfl (Nat.le_of_ble_eq_true rfl) ⟨Nat.le_refl _, Nat.le_refl _⟩ dX0_learnThings_63 ?_
    refine cm_mono hF (fun w zH_6 hF => ?_)
    obtain ⟨zr_7, rfl, hF⟩ := hF
    obtain ⟨zj_8, hzj_8, hF⟩ := hF
    refine rj_iast (j := zj_8) hzj_8 rfl (by decide) rfl (by decide) dX0_learnThings_66 (fun zH_9 ezH_9 => ?_)
    replace hF := hF zH_9 ezH_9
    refine rn_aload_n dX0_learnThings_67 rfl ?_
    refine rm_getr (r := 8) flRX0_18 rfl (by decide) rfl dX0_learnThings_68 ?_
    refine rn_iload_n dX0_learnThings_71 rfl ?_
    refine rn_aload_n dX0_learnThings_72 rfl ?_
    refine rn_iload_n dX0_learnThings_73 rfl ?_
    refine rn_iconst (x := (2 : Int32)) dX0_learnThings_74 (by decide) ?_
    refine rm_callV (c0 := 1) (As := [.int zx2, .int (2 : Int32)]) (st := [.int zx2, rf E 8]) mlRX0_55 mdX7_sign (Nat.le_of_ble_eq_true rfl) rfl (by decide) (by decide) rfl rfl rfl (Nat.le_of_ble_eq_true rfl) ⟨Nat.le_refl _, Nat.le_refl _⟩ dX0_learnThings_75 ?_
    refine cm_mono hF (fun w zH_10 hF => ?_)
    obtain ⟨zr_11, rfl, hF⟩ := hF
    obtain ⟨zj_12, hzj_12, hF⟩ := hF
    refine rj_iast (j := zj_12) hzj_12 rfl (by decide) rfl (by decide) dX0_learnThings_78 (fun zH_13 ezH_13 => ?_)
    replace hF := hF zH_13 ezH_13
    refine rn_aload_n dX0_learnThings_79 rfl ?_
    refine rn_dup dX0_learnThings_80 rfl ?_
    refine rm_geti flRX0_46 rfl (by decide) rfl dX0_learnThings_81 ?_
    refine rn_aload_n dX0_learnThings_84 rfl ?_
    refine rm_getr (r := 6) flRX0_9 rfl (by decide) rfl dX0_learnThings_85 ?_
    refine rn_iload_n dX0_learnThings_88 rfl ?_
    obtain ⟨zj_14, hzj_14, hF⟩ := hF
    refine rj_iald (j := zj_14) hzj_14 rfl (by decide) rfl (by decide) dX0_learnThings_89 ?_
    refine rn_iadd dX0_learnThings_90 ?_
    refine rm_puti flRX0_46 rfl (by decide) rfl dX0_learnThings_91 (fun zH_15 ezH_15 => ?_)
    replace hF := hF zH_15 ezH_15
    refine rn_aload_n dX0_learnThings_94 rfl ?_
    refine rm_getr (r := 8) flRX0_18 rfl (by decide) rfl dX0_learnThings_95 ?_
    refine rn_iload_n dX0_learnThings_98 rfl ?_
    obtain ⟨zj_16, hzj_16, hF⟩ := hF
    refine rj_iald (j := zj_16) hzj_16 rfl (by decide) rfl (by decide) dX0_learnThings_99 ?_
    refine rn_iconst (x := (1 : Int32)) dX0_learnThings_100 (by decide) ?_
    refine rn_icmp_ne (tgt := 116) dX0_learnThings_101 (by decide) (fun hc_17 => ?_) (fun hc_17 => ?_)
    · replace hF := hF.1 hc_17
      refine rn_iconst (x := (0 : Int32)) dX0_learnThings_116 (by decide) ?_
      refine ra_istore_n dX0_learnThings_117 rfl (Nat.le_of_ble_eq_true rfl) ?_
      show Rn _ _ _ _ _ _ _ _ [some (rf E 5), some (rf E 1), some (.int zx2), some (.int (0 : Int32))] _ _ _
      exact rn_wk (L' := [some (rf E 5), some (rf E 1), some (.int zx2), some (.int (0 : Int32))]) (⟨rfl, ⟨rfl, ⟨rfl, ⟨rfl, trivial⟩⟩⟩⟩) hF
    · replace hF := hF.2 hc_17
      refine rn_aload_n dX0_learnThings_104 rfl ?_
      refine rn_dup dX0_learnThings_105 rfl ?_
      refine rm_geti flRX0_43 rfl (by decide) rfl dX0_learnThings_106 ?_
      refine rn_iconst (x := (1 : Int32)) dX0_learnThings_109 (by decide) ?_
      refine rn_iload_n dX0_learnThings_110 rfl ?_
      refine rn_ishl dX0_learnThings_111 ?_
      refine rn_ior dX0_learnThings_112 ?_
      refine rm_puti flRX0_43 rfl (by decide) rfl dX0_learnThings_113 (fun zH_19 ezH_19 => ?_)
      replace hF := hF zH_19 ezH_19
      refine rn_iconst (x := (0 : Int32)) dX0_learnThings_116 (by decide) ?_
      refine ra_istore_n dX0_learnThings_117 rfl (Nat.le_of_ble_eq_true rfl) ?_
      show Rn _ _ _ _ _ _ _ _ [some (rf E 5), some (rf E 1), some (.int zx2), some (.int (0 : Int32))] _ _ _
      exact rn_wk (L' := [some (rf E 5), some (rf E 1), some (.int zx2), some (.int (0 : Int32))]) (⟨rfl, ⟨rfl, ⟨rfl, ⟨rfl, trivial⟩⟩⟩⟩) hF
theorem sgX0_learnThings_118 {E : En} {Q : Option Value → Hi → Prop} {H : Hi} {zx2 : Int32} {zx3 : Int32} 
    (hF : ((10 : Int32) ≤ zx3 → (∀ zx2_2 : Int32, zx2_2 = zx2 + (1 : Int32) → (Rm E mX0_learnThings Q 33 [some (rf E 5), some (rf E 1), some (.int zx2_2), none] [] H))) ∧ (¬ (10 : Int32) ≤ zx3 → (∃ zj_3 : Nat, (zj_3 < 8 ∧ zx2 = nI zj_3) ∧ ((zx3 < (H 6 zj_3) → (∀ zx3_5 : Int32, zx3_5 = zx3 + (1 : Int32) → (Rm E mX0_learnThings Q 118 [some (rf E 5), some (rf E 1), some (.int zx2), some (.int zx3_5)] [] H))) ∧ (¬ zx3 < (H 6 zj_3) → (∃ zj_6 : Nat, (zj_6 < 10 ∧ zx3 = nI zj_6) ∧ (∃ zj_7 : Nat, (zj_7 < 10 ∧ zx3 = nI zj_7) ∧ (∀ zH_8 : Hi, zH_8 = up H 10 zj_7 ((H 10 zj_6) ||| ((1 : Int32) <<< (zx2 &&& 31))) → (∀ zx3_9 : Int32, zx3_9 = zx3 + (1 : Int32) → (Rm E mX0_learnThings Q 118 [some (rf E 5), some (rf E 1), some (.int zx2), some (.int zx3_9)] [] zH_8)))))))))) :
    Rm E mX0_learnThings Q 118 [some (rf E 5), some (rf E 1), some (.int zx2), some (.int zx3)] [] H := by
  refine rn_iload_n dX0_learnThings_118 rfl ?_
  refine rn_aload_n dX0_learnThings_119 rfl ?_
  refine rm_getr (r := 10) flRX0_24 rfl (by decide) rfl dX0_learnThings_120 ?_
  refine rn_alen (ty := .int) (x := (10 : Int32)) rfl (by decide) (by decide) rfl (by decide) dX0_learnThings_123 ?_
  refine rn_icmp_ge (tgt := 155) dX0_learnThings_124 (by decide) (fun hc_1 => ?_) (fun hc_1 => ?_)
  · replace hF := hF.1 hc_1
    refine rn_iinc (w := (1 : Int32)) dX0_learnThings_155 rfl (by decide) rfl (Nat.le_of_ble_eq_true rfl) (fun zx2_2 ezx2_2 => ?_)
    replace hF := hF zx2_2 ezx2_2
    show Rn _ _ _ _ _ _ _ _ [some (rf E 5), some (rf E 1), some (.int zx2_2), some (.int zx3)] _ _ _
    refine rn_goto (tgt := 33) dX0_learnThings_158 (by decide) ?_
    exact rn_wk (L' := [some (rf E 5), some (rf E 1), some (.int zx2_2), none]) (⟨rfl, ⟨rfl, ⟨rfl, trivial⟩⟩⟩) hF
  · replace hF := hF.2 hc_1
    refine rn_aload_n dX0_learnThings_127 rfl ?_
    refine rm_getr (r := 6) flRX0_9 rfl (by decide) rfl dX0_learnThings_128 ?_
    refine rn_iload_n dX0_learnThings_131 rfl ?_
    obtain ⟨zj_3, hzj_3, hF⟩ := hF
    refine rj_iald (j := zj_3) hzj_3 rfl (by decide) rfl (by decide) dX0_learnThings_132 ?_
    refine rn_iload_n dX0_learnThings_133 rfl ?_
    refine rn_icmp_gt (tgt := 149) dX0_learnThings_134 (by decide) (fun hc_4 => ?_) (fun hc_4 => ?_)
    · replace hF := hF.1 hc_4
      refine rn_iinc (w := (1 : Int32)) dX0_learnThings_149 rfl (by decide) rfl (Nat.le_of_ble_eq_true rfl) (fun zx3_5 ezx3_5 => ?_)
      replace hF := hF zx3_5 ezx3_5
      show Rn _ _ _ _ _ _ _ _ [some (rf E 5), some (rf E 1), some (.int zx2), some (.int zx3_5)] _ _ _
      refine rn_goto (tgt := 118) dX0_learnThings_152 (by decide) ?_
      exact rn_wk (L' := [some (rf E 5), some (rf E 1), some (.int zx2), some (.int zx3_5)]) (⟨rfl, ⟨rfl, ⟨rfl, ⟨rfl, trivial⟩⟩⟩⟩) hF
    · replace hF := hF.2 hc_4
      refine rn_aload_n dX0_learnThings_137 rfl ?_
      refine rm_getr (r := 10) flRX0_24 rfl (by decide) rfl dX0_learnThings_138 ?_
      refine rn_iload_n dX0_learnThings_141 rfl ?_
      refine rn_dup2 dX0_learnThings_142 rfl rfl ?_
      obtain ⟨zj_6, hzj_6, hF⟩ := hF
      refine rj_iald (j := zj_6) hzj_6 rfl (by decide) rfl (by decide) dX0_learnThings_143 ?_
      refine rn_iconst (x := (1 : Int32)) dX0_learnThings_144 (by decide) ?_
      refine rn_iload_n dX0_learnThings_145 rfl ?_
      refine rn_ishl dX0_learnThings_146 ?_
      refine rn_ior dX0_learnThings_147 ?_
      obtain ⟨zj_7, hzj_7, hF⟩ := hF
      refine rj_iast (j := zj_7) hzj_7 rfl (by decide) rfl (by decide) dX0_learnThings_148 (fun zH_8 ezH_8 => ?_)
      replace hF := hF zH_8 ezH_8
      refine rn_iinc (w := (1 : Int32)) dX0_learnThings_149 rfl (by decide) rfl (Nat.le_of_ble_eq_true rfl) (fun zx3_9 ezx3_9 => ?_)
      replace hF := hF zx3_9 ezx3_9
      show Rn _ _ _ _ _ _ _ _ [some (rf E 5), some (rf E 1), some (.int zx2), some (.int zx3_9)] _ _ _
      refine rn_goto (tgt := 118) dX0_learnThings_152 (by decide) ?_
      exact rn_wk (L' := [some (rf E 5), some (rf E 1), some (.int zx2), some (.int zx3_9)]) (⟨rfl, ⟨rfl, ⟨rfl, ⟨rfl, trivial⟩⟩⟩⟩) hF
theorem sgX0_learnCousins_0 {E : En} {Q : Option Value → Hi → Prop} {H : Hi}  
    (hF : Cm E mX7_items [rf E 3] H (fun w zH_1 => ∃ zr_2 : Int32, w = some (.int zr_2) ∧ (∀ zH_3 : Hi, zH_3 = up zH_1 5 1 (mmin zr_2 (8 : Int32)) → (∀ zH_4 : Hi, zH_4 = up zH_3 5 6 (0 : Int32) → (Rm E mX0_learnCousins Q 20 [some (rf E 5), some (rf E 3), some (.int (0 : Int32)), none] [] zH_4))))) :
    Rm E mX0_learnCousins Q 0 [some (rf E 5), some (rf E 3), none, none] [] H := by
  refine rn_aload_n dX0_learnCousins_0 rfl ?_
  refine rn_aload_n dX0_learnCousins_1 rfl ?_
  refine rm_callV (c0 := 3) (As := []) (st := [rf E 5]) mlRX0_27 mdX7_items (Nat.le_of_ble_eq_true rfl) rfl (by decide) (by decide) rfl rfl rfl (Nat.le_of_ble_eq_true rfl) ⟨Nat.le_refl _, Nat.le_refl _⟩ dX0_learnCousins_2 ?_
  refine cm_mono hF (fun w zH_1 hF => ?_)
  obtain ⟨zr_2, rfl, hF⟩ := hF
  refine rn_bipush (x := (8 : Int32)) dX0_learnCousins_5 (by decide) ?_
  refine rn_mmin mlRX0_33 (Nat.le_of_ble_eq_true rfl) ⟨Nat.le_refl _, Nat.le_refl _⟩ dX0_learnCousins_7 ?_
  refine rm_puti flRX0_58 rfl (by decide) rfl dX0_learnCousins_10 (fun zH_3 ezH_3 => ?_)
  replace hF := hF zH_3 ezH_3
  refine rn_aload_n dX0_learnCousins_13 rfl ?_
  refine rn_iconst (x := (0 : Int32)) dX0_learnCousins_14 (by decide) ?_
  refine rm_puti flRX0_61 rfl (by decide) rfl dX0_learnCousins_15 (fun zH_4 ezH_4 => ?_)
  replace hF := hF zH_4 ezH_4
  refine rn_iconst (x := (0 : Int32)) dX0_learnCousins_18 (by decide) ?_
  refine ra_istore_n dX0_learnCousins_19 rfl (Nat.le_of_ble_eq_true rfl) ?_
  show Rn _ _ _ _ _ _ _ _ [some (rf E 5), some (rf E 3), some (.int (0 : Int32)), none] _ _ _
  exact rn_wk (L' := [some (rf E 5), some (rf E 3), some (.int (0 : Int32)), none]) (⟨rfl, ⟨rfl, ⟨rfl, trivial⟩⟩⟩) hF
theorem cmX0_learnCousins {E : En} {Q : Option Value → Hi → Prop} {H : Hi}  
    (hF : Cm E mX7_items [rf E 3] H (fun w zH_1 => ∃ zr_2 : Int32, w = some (.int zr_2) ∧ (∀ zH_3 : Hi, zH_3 = up zH_1 5 1 (mmin zr_2 (8 : Int32)) → (∀ zH_4 : Hi, zH_4 = up zH_3 5 6 (0 : Int32) → (Rm E mX0_learnCousins Q 20 [some (rf E 5), some (rf E 3), some (.int (0 : Int32)), none] [] zH_4))))) :
    Cm E mX0_learnCousins [rf E 5, rf E 3] H Q :=
  cm_of (by decide +kernel : plainName RX0 = true) (Nat.le_of_ble_eq_true rfl) rfl (sgX0_learnCousins_0  hF)
theorem sgX0_learnCousins_20 {E : En} {Q : Option Value → Hi → Prop} {H : Hi} {zx2 : Int32} 
    (hF : ((H 5 1) ≤ zx2 → (Q none H)) ∧ (¬ (H 5 1) ≤ zx2 → (Cm E mX7_sign [rf E 3, .int zx2, .int (0 : Int32)] H (fun w zH_2 => ∃ zr_3 : Int32, w = some (.int zr_3) ∧ (∀ zH_4 : Hi, zH_4 = up zH_2 5 6 ((H 5 6) ||| (zr_3 <<< (zx2 &&& 31))) → (Cm E mX7_sign [rf E 3, .int zx2, .int (1 : Int32)] zH_4 (fun w zH_5 => ∃ zr_6 : Int32, w = some (.int zr_6) ∧ (((8 : Int32) ≤ zr_6 → (∃ zj_9 : Nat, (zj_9 < 8 ∧ zx2 = nI zj_9) ∧ (∀ zH_10 : Hi, zH_10 = up zH_5 9 zj_9 (-1 : Int32) → (∀ zx2_11 : Int32, zx2_11 = zx2 + (1 : Int32) → (Rm E mX0_learnCousins Q 20 [some (rf E 5), some (rf E 3), some (.int zx2_11), none] [] zH_10))))) ∧ (¬ (8 : Int32) ≤ zr_6 → (∃ zj_12 : Nat, (zj_12 < 8 ∧ zx2 = nI zj_12) ∧ (∀ zH_13 : Hi, zH_13 = up zH_5 9 zj_12 zr_6 → (∀ zx2_14 : Int32, zx2_14 = zx2 + (1 : Int32) → (Rm E mX0_learnCousins Q 20 [some (rf E 5), some (rf E 3), some (.int zx2_14), none] [] zH_13))))))))))))) :
    Rm E mX0_learnCousins Q 20 [some (rf E 5), some (rf E 3), some (.int zx2), none] [] H := by
  refine rn_iload_n dX0_learnCousins_20 rfl ?_
  refine rn_aload_n dX0_learnCousins_21 rfl ?_
  refine rm_geti flRX0_58 rfl (by decide) rfl dX0_learnCousins_22 ?_
  refine rn_icmp_ge (tgt := 75) dX0_learnCousins_25 (by decide) (fun hc_1 => ?_) (fun hc_1 => ?_)
  · replace hF := hF.1 hc_1
    exact rm_vret rfl dX0_learnCousins_75 hF
  · replace hF := hF.2 hc_1
    refine rn_aload_n dX0_learnCousins_28 rfl ?_
    refine rn_dup dX0_learnCousins_29 rfl ?_
    refine rm_geti flRX0_61 rfl (by decide) rfl dX0_learnCousins_30 ?_
    refine rn_aload_n dX0_learnCousins_33 rfl ?_
    refine rn_iload_n dX0_learnCousins_34 rfl ?_
    refine rn_iconst (x := (0 : Int32)) dX0_learnCousins_35 (by decide) ?_
    refine rm_callV (c0 := 3) (As := [.int zx2, .int (0 : Int32)]) (st := [.int (H 5 6), rf E 5]) mlRX0_55 mdX7_sign (Nat.le_of_ble_eq_true rfl) rfl (by decide) (by decide) rfl rfl rfl (Nat.le_of_ble_eq_true rfl) ⟨Nat.le_refl _, Nat.le_refl _⟩ dX0_learnCousins_36 ?_
    refine cm_mono hF (fun w zH_2 hF => ?_)
    obtain ⟨zr_3, rfl, hF⟩ := hF
    refine rn_iload_n dX0_learnCousins_39 rfl ?_
    refine rn_ishl dX0_learnCousins_40 ?_
    refine rn_ior dX0_learnCousins_41 ?_
    refine rm_puti flRX0_61 rfl (by decide) rfl dX0_learnCousins_42 (fun zH_4 ezH_4 => ?_)
    replace hF := hF zH_4 ezH_4
    refine rn_aload_n dX0_learnCousins_45 rfl ?_
    refine rn_iload_n dX0_learnCousins_46 rfl ?_
    refine rn_iconst (x := (1 : Int32)) dX0_learnCousins_47 (by decide) ?_
    refine rm_callV (c0 := 3) (As := [.int zx2, .int (1 : Int32)]) (st := []) mlRX0_55 mdX7_sign (Nat.le_of_ble_eq_true rfl) rfl (by decide) (by decide) rfl rfl rfl (Nat.le_of_ble_eq_true rfl) ⟨Nat.le_refl _, Nat.le_refl _⟩ dX0_learnCousins_48 ?_
    refine cm_mono hF (fun w zH_5 hF => ?_)
    obtain ⟨zr_6, rfl, hF⟩ := hF
    refine ra_istore_n dX0_learnCousins_51 rfl (Nat.le_of_ble_eq_true rfl) ?_
    show Rn _ _ _ _ _ _ _ _ [some (rf E 5), some (rf E 3), some (.int zx2), some (.int zr_6)] _ _ _
    refine rn_aload_n dX0_learnCousins_52 rfl ?_
    refine rm_getr (r := 9) flRX0_21 rfl (by decide) rfl dX0_learnCousins_53 ?_
    refine rn_iload_n dX0_learnCousins_56 rfl ?_
    refine rn_iload_n dX0_learnCousins_57 rfl ?_
    refine rn_bipush (x := (8 : Int32)) dX0_learnCousins_58 (by decide) ?_
    refine rn_icmp_ge (tgt := 67) dX0_learnCousins_60 (by decide) (fun hc_8 => ?_) (fun hc_8 => ?_)
    · replace hF := hF.1 hc_8
      refine rn_iconst (x := (-1 : Int32)) dX0_learnCousins_67 (by decide) ?_
      obtain ⟨zj_9, hzj_9, hF⟩ := hF
      refine rj_iast (j := zj_9) hzj_9 rfl (by decide) rfl (by decide) dX0_learnCousins_68 (fun zH_10 ezH_10 => ?_)
      replace hF := hF zH_10 ezH_10
      refine rn_iinc (w := (1 : Int32)) dX0_learnCousins_69 rfl (by decide) rfl (Nat.le_of_ble_eq_true rfl) (fun zx2_11 ezx2_11 => ?_)
      replace hF := hF zx2_11 ezx2_11
      show Rn _ _ _ _ _ _ _ _ [some (rf E 5), some (rf E 3), some (.int zx2_11), some (.int zr_6)] _ _ _
      refine rn_goto (tgt := 20) dX0_learnCousins_72 (by decide) ?_
      exact rn_wk (L' := [some (rf E 5), some (rf E 3), some (.int zx2_11), none]) (⟨rfl, ⟨rfl, ⟨rfl, trivial⟩⟩⟩) hF
    · replace hF := hF.2 hc_8
      refine rn_iload_n dX0_learnCousins_63 rfl ?_
      refine rn_goto (tgt := 68) dX0_learnCousins_64 (by decide) ?_
      obtain ⟨zj_12, hzj_12, hF⟩ := hF
      refine rj_iast (j := zj_12) hzj_12 rfl (by decide) rfl (by decide) dX0_learnCousins_68 (fun zH_13 ezH_13 => ?_)
      replace hF := hF zH_13 ezH_13
      refine rn_iinc (w := (1 : Int32)) dX0_learnCousins_69 rfl (by decide) rfl (Nat.le_of_ble_eq_true rfl) (fun zx2_14 ezx2_14 => ?_)
      replace hF := hF zx2_14 ezx2_14
      show Rn _ _ _ _ _ _ _ _ [some (rf E 5), some (rf E 3), some (.int zx2_14), some (.int zr_6)] _ _ _
      refine rn_goto (tgt := 20) dX0_learnCousins_72 (by decide) ?_
      exact rn_wk (L' := [some (rf E 5), some (rf E 3), some (.int zx2_14), none]) (⟨rfl, ⟨rfl, ⟨rfl, trivial⟩⟩⟩) hF
theorem sgX0_ofThing_0 {E : En} {Q : Option Value → Hi → Prop} {H : Hi} {zx1 : Int32} {zx2 : Int32} 
    (hF : (¬ zx2 = 0 → ((¬ zx2 = (1 : Int32) → (∃ zj_3 : Nat, (zj_3 < 8 ∧ zx1 = nI zj_3) ∧ (Q (some (.int (H 8 zj_3))) H))) ∧ (zx2 = (1 : Int32) → (∃ zj_4 : Nat, (zj_4 < 8 ∧ zx1 = nI zj_4) ∧ (Q (some (.int (H 7 zj_4))) H))))) ∧ (zx2 = 0 → (∃ zj_5 : Nat, (zj_5 < 8 ∧ zx1 = nI zj_5) ∧ (Q (some (.int (H 6 zj_5))) H)))) :
    Rm E mX0_ofThing Q 0 [some (rf E 5), some (.int zx1), some (.int zx2)] [] H := by
  refine rn_iload_n dX0_ofThing_0 rfl ?_
  refine rn_if_ne (tgt := 11) dX0_ofThing_1 (by decide) (fun hc_1 => ?_) (fun hc_1 => ?_)
  · replace hF := hF.1 hc_1
    refine rn_iload_n dX0_ofThing_11 rfl ?_
    refine rn_iconst (x := (1 : Int32)) dX0_ofThing_12 (by decide) ?_
    refine rn_icmp_ne (tgt := 25) dX0_ofThing_13 (by decide) (fun hc_2 => ?_) (fun hc_2 => ?_)
    · replace hF := hF.1 hc_2
      refine rn_aload_n dX0_ofThing_25 rfl ?_
      refine rm_getr (r := 8) flRX0_18 rfl (by decide) rfl dX0_ofThing_26 ?_
      refine rn_iload_n dX0_ofThing_29 rfl ?_
      obtain ⟨zj_3, hzj_3, hF⟩ := hF
      refine rj_iald (j := zj_3) hzj_3 rfl (by decide) rfl (by decide) dX0_ofThing_30 ?_
      exact rm_iret rfl dX0_ofThing_31 hF
    · replace hF := hF.2 hc_2
      refine rn_aload_n dX0_ofThing_16 rfl ?_
      refine rm_getr (r := 7) flRX0_15 rfl (by decide) rfl dX0_ofThing_17 ?_
      refine rn_iload_n dX0_ofThing_20 rfl ?_
      obtain ⟨zj_4, hzj_4, hF⟩ := hF
      refine rj_iald (j := zj_4) hzj_4 rfl (by decide) rfl (by decide) dX0_ofThing_21 ?_
      refine rn_goto (tgt := 31) dX0_ofThing_22 (by decide) ?_
      exact rm_iret rfl dX0_ofThing_31 hF
  · replace hF := hF.2 hc_1
    refine rn_aload_n dX0_ofThing_4 rfl ?_
    refine rm_getr (r := 6) flRX0_9 rfl (by decide) rfl dX0_ofThing_5 ?_
    refine rn_iload_n dX0_ofThing_8 rfl ?_
    obtain ⟨zj_5, hzj_5, hF⟩ := hF
    refine rj_iald (j := zj_5) hzj_5 rfl (by decide) rfl (by decide) dX0_ofThing_9 ?_
    exact rm_iret rfl dX0_ofThing_10 hF
theorem cmX0_ofThing {E : En} {Q : Option Value → Hi → Prop} {H : Hi} {zx1 : Int32} {zx2 : Int32} 
    (hF : (¬ zx2 = 0 → ((¬ zx2 = (1 : Int32) → (∃ zj_3 : Nat, (zj_3 < 8 ∧ zx1 = nI zj_3) ∧ (Q (some (.int (H 8 zj_3))) H))) ∧ (zx2 = (1 : Int32) → (∃ zj_4 : Nat, (zj_4 < 8 ∧ zx1 = nI zj_4) ∧ (Q (some (.int (H 7 zj_4))) H))))) ∧ (zx2 = 0 → (∃ zj_5 : Nat, (zj_5 < 8 ∧ zx1 = nI zj_5) ∧ (Q (some (.int (H 6 zj_5))) H)))) :
    Cm E mX0_ofThing [rf E 5, .int zx1, .int zx2] H Q :=
  cm_of (by decide +kernel : plainName RX0 = true) (Nat.le_of_ble_eq_true rfl) rfl (sgX0_ofThing_0  hF)
theorem sgX0_ofCousin_0 {E : En} {Q : Option Value → Hi → Prop} {H : Hi} {zx1 : Int32} {zx2 : Int32} 
    (hF : (¬ zx2 = 0 → (∃ zj_2 : Nat, (zj_2 < 8 ∧ zx1 = nI zj_2) ∧ (Q (some (.int (H 9 zj_2))) H))) ∧ (zx2 = 0 → (Q (some (.int (((H 5 6) >>> (zx1 &&& 31)) &&& (1 : Int32)))) H))) :
    Rm E mX0_ofCousin Q 0 [some (rf E 5), some (.int zx1), some (.int zx2)] [] H := by
  refine rn_iload_n dX0_ofCousin_0 rfl ?_
  refine rn_if_ne (tgt := 15) dX0_ofCousin_1 (by decide) (fun hc_1 => ?_) (fun hc_1 => ?_)
  · replace hF := hF.1 hc_1
    refine rn_aload_n dX0_ofCousin_15 rfl ?_
    refine rm_getr (r := 9) flRX0_21 rfl (by decide) rfl dX0_ofCousin_16 ?_
    refine rn_iload_n dX0_ofCousin_19 rfl ?_
    obtain ⟨zj_2, hzj_2, hF⟩ := hF
    refine rj_iald (j := zj_2) hzj_2 rfl (by decide) rfl (by decide) dX0_ofCousin_20 ?_
    exact rm_iret rfl dX0_ofCousin_21 hF
  · replace hF := hF.2 hc_1
    refine rn_aload_n dX0_ofCousin_4 rfl ?_
    refine rm_geti flRX0_61 rfl (by decide) rfl dX0_ofCousin_5 ?_
    refine rn_iload_n dX0_ofCousin_8 rfl ?_
    refine rn_ishr dX0_ofCousin_9 ?_
    refine rn_iconst (x := (1 : Int32)) dX0_ofCousin_10 (by decide) ?_
    refine rn_iand dX0_ofCousin_11 ?_
    refine rn_goto (tgt := 21) dX0_ofCousin_12 (by decide) ?_
    exact rm_iret rfl dX0_ofCousin_21 hF
theorem cmX0_ofCousin {E : En} {Q : Option Value → Hi → Prop} {H : Hi} {zx1 : Int32} {zx2 : Int32} 
    (hF : (¬ zx2 = 0 → (∃ zj_2 : Nat, (zj_2 < 8 ∧ zx1 = nI zj_2) ∧ (Q (some (.int (H 9 zj_2))) H))) ∧ (zx2 = 0 → (Q (some (.int (((H 5 6) >>> (zx1 &&& 31)) &&& (1 : Int32)))) H))) :
    Cm E mX0_ofCousin [rf E 5, .int zx1, .int zx2] H Q :=
  cm_of (by decide +kernel : plainName RX0 = true) (Nat.le_of_ble_eq_true rfl) rfl (sgX0_ofCousin_0  hF)
