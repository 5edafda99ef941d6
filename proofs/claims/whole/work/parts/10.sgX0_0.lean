theorem sgX0_learnThings_0 {E : En} {Q : Option Value → Hi → Prop} {H : Hi}  
    (hF : Cm E mX7_items [rf E 1] H (fun w H_1 => ∃ r_2 : Int32, w = some (.int r_2) ∧ (Cm E mJ9_min_7cf53 [.int r_2, .int (8 : Int32)] H_1 (fun w H_3 => ∃ r_4 : Int32, w = some (.int r_4) ∧ (∀ H_5 : Hi, H_5 = up H_3 5 0 r_4 → (∀ H_6 : Hi, H_6 = up H_5 5 7 (0 : Int32) → (∀ H_7 : Hi, H_7 = up H_6 5 8 (0 : Int32) → (Cm E mJ7_fill_53178 [rf E 10, .int (0 : Int32)] H_7 (fun w H_8 => w = none ∧ (Rm E mX0_learnThings Q 33 [some (rf E 5), some (rf E 1), some (.int (0 : Int32)), none] [] H_8)))))))))) :
    Rm E mX0_learnThings Q 0 [some (rf E 5), some (rf E 1), none, none] [] H := by
  refine rn_aload_n dX0_learnThings_0 rfl ?_
  refine rn_aload_n dX0_learnThings_1 rfl ?_
  refine rm_callV (c0 := 1) (As := []) (st := [rf E 5]) mlRX0_27 mdX7_items (Nat.le_of_ble_eq_true rfl) rfl (by decide) (by decide) rfl rfl rfl (Nat.le_of_ble_eq_true rfl) ⟨Nat.le_refl _, Nat.le_refl _⟩ dX0_learnThings_2 ?_
  refine cm_mono hF (fun w H_1 hF => ?_)
  obtain ⟨r_2, rfl, hF⟩ := hF
  refine rn_bipush (x := (8 : Int32)) dX0_learnThings_5 (by decide) ?_
  refine rm_callS (As := [.int r_2, .int (8 : Int32)]) (st := [rf E 5]) mlRX0_33 mdJ9_min_7cf53 (Nat.le_of_ble_eq_true rfl) rfl rfl (Nat.le_of_ble_eq_true rfl) ⟨Nat.le_refl _, Nat.le_refl _⟩ dX0_learnThings_7 ?_
  refine cm_mono hF (fun w H_3 hF => ?_)
  obtain ⟨r_4, rfl, hF⟩ := hF
  refine rm_puti flRX0_39 rfl (by decide) rfl dX0_learnThings_10 (fun H_5 eH_5 => ?_)
  replace hF := hF H_5 eH_5
  refine rn_aload_n dX0_learnThings_13 rfl ?_
  refine rn_iconst (x := (0 : Int32)) dX0_learnThings_14 (by decide) ?_
  refine rm_puti flRX0_43 rfl (by decide) rfl dX0_learnThings_15 (fun H_6 eH_6 => ?_)
  replace hF := hF H_6 eH_6
  refine rn_aload_n dX0_learnThings_18 rfl ?_
  refine rn_iconst (x := (0 : Int32)) dX0_learnThings_19 (by decide) ?_
  refine rm_puti flRX0_46 rfl (by decide) rfl dX0_learnThings_20 (fun H_7 eH_7 => ?_)
  replace hF := hF H_7 eH_7
  refine rn_aload_n dX0_learnThings_23 rfl ?_
  refine rm_getr (r := 10) flRX0_24 rfl (by decide) rfl dX0_learnThings_24 ?_
  refine rn_iconst (x := (0 : Int32)) dX0_learnThings_27 (by decide) ?_
  refine rm_callS (As := [rf E 10, .int (0 : Int32)]) (st := []) mlRX0_49 mdJ7_fill_53178 (Nat.le_of_ble_eq_true rfl) rfl rfl (Nat.le_of_ble_eq_true rfl) ⟨Nat.le_refl _, Nat.le_refl _⟩ dX0_learnThings_28 ?_
  refine cm_mono hF (fun w H_8 hF => ?_)
  obtain ⟨rfl, hF⟩ := hF
  refine rn_iconst (x := (0 : Int32)) dX0_learnThings_31 (by decide) ?_
  refine rn_istore_n dX0_learnThings_32 rfl (by decide) (fun x2_9 ex2_9 => ?_)
  subst ex2_9
  exact rn_wk (L' := [some (rf E 5), some (rf E 1), some (.int (0 : Int32)), none]) (⟨rfl, ⟨rfl, ⟨rfl, trivial⟩⟩⟩) hF
theorem cmX0_learnThings {E : En} {Q : Option Value → Hi → Prop} {H : Hi}  
    (hF : Cm E mX7_items [rf E 1] H (fun w H_1 => ∃ r_2 : Int32, w = some (.int r_2) ∧ (Cm E mJ9_min_7cf53 [.int r_2, .int (8 : Int32)] H_1 (fun w H_3 => ∃ r_4 : Int32, w = some (.int r_4) ∧ (∀ H_5 : Hi, H_5 = up H_3 5 0 r_4 → (∀ H_6 : Hi, H_6 = up H_5 5 7 (0 : Int32) → (∀ H_7 : Hi, H_7 = up H_6 5 8 (0 : Int32) → (Cm E mJ7_fill_53178 [rf E 10, .int (0 : Int32)] H_7 (fun w H_8 => w = none ∧ (Rm E mX0_learnThings Q 33 [some (rf E 5), some (rf E 1), some (.int (0 : Int32)), none] [] H_8)))))))))) :
    Cm E mX0_learnThings [rf E 5, rf E 1] H Q :=
  cm_of (by decide +kernel) (Nat.le_of_ble_eq_true rfl) rfl (sgX0_learnThings_0  hF)
theorem sgX0_learnThings_33 {E : En} {Q : Option Value → Hi → Prop} {H : Hi} {x2 : Int32} 
    (hF : ((H 5 0) ≤ x2 → (Q none H)) ∧ (¬ (H 5 0) ≤ x2 → (Cm E mX7_sign [rf E 1, .int x2, .int (0 : Int32)] H (fun w H_2 => ∃ r_3 : Int32, w = some (.int r_3) ∧ (∃ j_4 : Nat, (j_4 < 8 ∧ x2 = nI j_4) ∧ (∀ H_5 : Hi, H_5 = up H_2 6 j_4 (r_3 + (1 : Int32)) → (Cm E mX7_sign [rf E 1, .int x2, .int (1 : Int32)] H_5 (fun w H_6 => ∃ r_7 : Int32, w = some (.int r_7) ∧ (∃ j_8 : Nat, (j_8 < 8 ∧ x2 = nI j_8) ∧ (∀ H_9 : Hi, H_9 = up H_6 7 j_8 r_7 → (Cm E mX7_sign [rf E 1, .int x2, .int (2 : Int32)] H_9 (fun w H_10 => ∃ r_11 : Int32, w = some (.int r_11) ∧ (∃ j_12 : Nat, (j_12 < 8 ∧ x2 = nI j_12) ∧ (∀ H_13 : Hi, H_13 = up H_10 8 j_12 r_11 → (∃ j_14 : Nat, (j_14 < 8 ∧ x2 = nI j_14) ∧ (∀ H_15 : Hi, H_15 = up H_13 5 8 ((H_13 5 8) + (H_13 6 j_14)) → (∃ j_16 : Nat, (j_16 < 8 ∧ x2 = nI j_16) ∧ ((¬ (H_15 8 j_16) = (1 : Int32) → (Rm E mX0_learnThings Q 118 [some (rf E 5), some (rf E 1), some (.int x2), some (.int (0 : Int32))] [] H_15)) ∧ ((H_15 8 j_16) = (1 : Int32) → (∀ H_19 : Hi, H_19 = up H_15 5 7 ((H_15 5 7) ||| ((1 : Int32) <<< (x2 &&& 31))) → (Rm E mX0_learnThings Q 118 [some (rf E 5), some (rf E 1), some (.int x2), some (.int (0 : Int32))] [] H_19))))))))))))))))))))) :
    Rm E mX0_learnThings Q 33 [some (rf E 5), some (rf E 1), some (.int x2), none] [] H := by
  refine rn_iload_n dX0_learnThings_33 rfl ?_
  refine rn_aload_n dX0_learnThings_34 rfl ?_
  refine rm_geti flRX0_39 rfl (by decide) rfl dX0_learnThings_35 ?_
  refine rn_icmp_ge (tgt := 161) dX0_learnThings_38 (by decide) (fun hc_1 => ?_) (fun hc_1 => ?_)
  · replace hF := hF.1 hc_1
    exact rm_vret rfl dX0_learnThings_161 hF
  · replace hF := hF.2 hc_1
    refine rn_aload_n dX0_learnThings_41 rfl ?_
    refine rm_getr (r := 6) flRX0_9 rfl (by decide) rfl dX0_learnThings_42 ?_
    refine rn_iload_n dX0_learnThings_45 rfl ?_
    refine rn_aload_n dX0_learnThings_46 rfl ?_
    refine rn_iload_n dX0_learnThings_47 rfl ?_
    refine rn_iconst (x := (0 : Int32)) dX0_learnThings_48 (by decide) ?_
    refine rm_callV (c0 := 1) (As := [.int x2, .int (0 : Int32)]) (st := [.int x2, rf E 6]) mlRX0_55 mdX7_sign (Nat.le_of_ble_eq_true rfl) rfl (by decide) (by decide) rfl rfl rfl (Nat.le_of_ble_eq_true rfl) ⟨Nat.le_refl _, Nat.le_refl _⟩ dX0_learnThings_49 ?_
    refine cm_mono hF (fun w H_2 hF => ?_)
    obtain ⟨r_3, rfl, hF⟩ := hF
    refine rn_iconst (x := (1 : Int32)) dX0_learnThings_52 (by decide) ?_
    refine rn_iadd dX0_learnThings_53 ?_
    obtain ⟨j_4, hj_4, hF⟩ := hF
    refine rj_iast hj_4 rfl (by decide) rfl (by decide) dX0_learnThings_54 (fun H_5 eH_5 => ?_)
    replace hF := hF H_5 eH_5
    refine rn_aload_n dX0_learnThings_55 rfl ?_
    refine rm_getr (r := 7) flRX0_15 rfl (by decide) rfl dX0_learnThings_56 ?_
    refine rn_iload_n dX0_learnThings_59 rfl ?_
    refine rn_aload_n dX0_learnThings_60 rfl ?_
    refine rn_iload_n dX0_learnThings_61 rfl ?_
    refine rn_iconst (x := (1 : Int32)) dX0_learnThings_62 (by decide) ?_
    refine rm_callV (c0 := 1) (As := [.int x2, .int (1 : Int32)]) (st := [.int x2, rf E 7]) mlRX0_55 mdX7_sign (Nat.le_of_ble_eq_true rfl) rfl (by decide) (by decide) rfl rfl rfl (Nat.le_of_ble_eq_true rfl) ⟨Nat.le_refl _, Nat.le_refl _⟩ dX0_learnThings_63 ?_
    refine cm_mono hF (fun w H_6 hF => ?_)
    obtain ⟨r_7, rfl, hF⟩ := hF
    obtain ⟨j_8, hj_8, hF⟩ := hF
    refine rj_iast hj_8 rfl (by decide) rfl (by decide) dX0_learnThings_66 (fun H_9 eH_9 => ?_)
    replace hF := hF H_9 eH_9
    refine rn_aload_n dX0_learnThings_67 rfl ?_
    refine rm_getr (r := 8) flRX0_18 rfl (by decide) rfl dX0_learnThings_68 ?_
    refine rn_iload_n dX0_learnThings_71 rfl ?_
    refine rn_aload_n dX0_learnThings_72 rfl ?_
    refine rn_iload_n dX0_learnThings_73 rfl ?_
    refine rn_iconst (x := (2 : Int32)) dX0_learnThings_74 (by decide) ?_
    refine rm_callV (c0 := 1) (As := [.int x2, .int (2 : Int32)]) (st := [.int x2, rf E 8]) mlRX0_55 mdX7_sign (Nat.le_of_ble_eq_true rfl) rfl (by decide) (by decide) rfl rfl rfl (Nat.le_of_ble_eq_true rfl) ⟨Nat.le_refl _, Nat.le_refl _⟩ dX0_learnThings_75 ?_
    refine cm_mono hF (fun w H_10 hF => ?_)
    obtain ⟨r_11, rfl, hF⟩ := hF
    obtain ⟨j_12, hj_12, hF⟩ := hF
    refine rj_iast hj_12 rfl (by decide) rfl (by decide) dX0_learnThings_78 (fun H_13 eH_13 => ?_)
    replace hF := hF H_13 eH_13
    refine rn_aload_n dX0_learnThings_79 rfl ?_
    refine rn_dup dX0_learnThings_80 rfl ?_
    refine rm_geti flRX0_46 rfl (by decide) rfl dX0_learnThings_81 ?_
    refine rn_aload_n dX0_learnThings_84 rfl ?_
    refine rm_getr (r := 6) flRX0_9 rfl (by decide) rfl dX0_learnThings_85 ?_
    refine rn_iload_n dX0_learnThings_88 rfl ?_
    obtain ⟨j_14, hj_14, hF⟩ := hF
    refine rj_iald hj_14 rfl (by decide) rfl (by decide) dX0_learnThings_89 ?_
    refine rn_iadd dX0_learnThings_90 ?_
    refine rm_puti flRX0_46 rfl (by decide) rfl dX0_learnThings_91 (fun H_15 eH_15 => ?_)
    replace hF := hF H_15 eH_15
    refine rn_aload_n dX0_learnThings_94 rfl ?_
    refine rm_getr (r := 8) flRX0_18 rfl (by decide) rfl dX0_learnThings_95 ?_
    refine rn_iload_n dX0_learnThings_98 rfl ?_
    obtain ⟨j_16, hj_16, hF⟩ := hF
    refine rj_iald hj_16 rfl (by decide) rfl (by decide) dX0_learnThings_99 ?_
    refine rn_iconst (x := (1 : Int32)) dX0_learnThings_100 (by decide) ?_
    refine rn_icmp_ne (tgt := 116) dX0_learnThings_101 (by decide) (fun hc_17 => ?_) (fun hc_17 => ?_)
    · replace hF := hF.1 hc_17
      refine rn_iconst (x := (0 : Int32)) dX0_learnThings_116 (by decide) ?_
      refine rn_istore_n dX0_learnThings_117 rfl (by decide) (fun x3_18 ex3_18 => ?_)
      subst ex3_18
      exact rn_wk (L' := [some (rf E 5), some (rf E 1), some (.int x2), some (.int (0 : Int32))]) (⟨rfl, ⟨rfl, ⟨rfl, ⟨rfl, trivial⟩⟩⟩⟩) hF
    · replace hF := hF.2 hc_17
      refine rn_aload_n dX0_learnThings_104 rfl ?_
      refine rn_dup dX0_learnThings_105 rfl ?_
      refine rm_geti flRX0_43 rfl (by decide) rfl dX0_learnThings_106 ?_
      refine rn_iconst (x := (1 : Int32)) dX0_learnThings_109 (by decide) ?_
      refine rn_iload_n dX0_learnThings_110 rfl ?_
      refine rn_ishl dX0_learnThings_111 ?_
      refine rn_ior dX0_learnThings_112 ?_
      refine rm_puti flRX0_43 rfl (by decide) rfl dX0_learnThings_113 (fun H_19 eH_19 => ?_)
      replace hF := hF H_19 eH_19
      refine rn_iconst (x := (0 : Int32)) dX0_learnThings_116 (by decide) ?_
      refine rn_istore_n dX0_learnThings_117 rfl (by decide) (fun x3_20 ex3_20 => ?_)
      subst ex3_20
      exact rn_wk (L' := [some (rf E 5), some (rf E 1), some (.int x2), some (.int (0 : Int32))]) (⟨rfl, ⟨rfl, ⟨rfl, ⟨rfl, trivial⟩⟩⟩⟩) hF
theorem sgX0_learnThings_118 {E : En} {Q : Option Value → Hi → Prop} {H : Hi} {x2 : Int32} {x3 : Int32} 
    (hF : ((10 : Int32) ≤ x3 → (∀ x2_2 : Int32, x2_2 = x2 + (1 : Int32) → (Rm E mX0_learnThings Q 33 [some (rf E 5), some (rf E 1), some (.int x2_2), none] [] H))) ∧ (¬ (10 : Int32) ≤ x3 → (∃ j_3 : Nat, (j_3 < 8 ∧ x2 = nI j_3) ∧ ((x3 < (H 6 j_3) → (∀ x3_5 : Int32, x3_5 = x3 + (1 : Int32) → (Rm E mX0_learnThings Q 118 [some (rf E 5), some (rf E 1), some (.int x2), some (.int x3_5)] [] H))) ∧ (¬ x3 < (H 6 j_3) → (∃ j_6 : Nat, (j_6 < 10 ∧ x3 = nI j_6) ∧ (∃ j_7 : Nat, (j_7 < 10 ∧ x3 = nI j_7) ∧ (∀ H_8 : Hi, H_8 = up H 10 j_7 ((H 10 j_6) ||| ((1 : Int32) <<< (x2 &&& 31))) → (∀ x3_9 : Int32, x3_9 = x3 + (1 : Int32) → (Rm E mX0_learnThings Q 118 [some (rf E 5), some (rf E 1), some (.int x2), some (.int x3_9)] [] H_8)))))))))) :
    Rm E mX0_learnThings Q 118 [some (rf E 5), some (rf E 1), some (.int x2), some (.int x3)] [] H := by
  refine rn_iload_n dX0_learnThings_118 rfl ?_
  refine rn_aload_n dX0_learnThings_119 rfl ?_
  refine rm_getr (r := 10) flRX0_24 rfl (by decide) rfl dX0_learnThings_120 ?_
  refine rn_alen (ty := .int) (x := (10 : Int32)) rfl (by decide) (by decide) rfl (by decide) dX0_learnThings_123 ?_
  refine rn_icmp_ge (tgt := 155) dX0_learnThings_124 (by decide) (fun hc_1 => ?_) (fun hc_1 => ?_)
  · replace hF := hF.1 hc_1
    refine rn_iinc (w := (1 : Int32)) dX0_learnThings_155 rfl (by decide) rfl (by decide) (fun x2_2 ex2_2 => ?_)
    replace hF := hF x2_2 ex2_2
    refine rn_goto (tgt := 33) dX0_learnThings_158 (by decide) ?_
    exact rn_wk (L' := [some (rf E 5), some (rf E 1), some (.int x2_2), none]) (⟨rfl, ⟨rfl, ⟨rfl, trivial⟩⟩⟩) hF
  · replace hF := hF.2 hc_1
    refine rn_aload_n dX0_learnThings_127 rfl ?_
    refine rm_getr (r := 6) flRX0_9 rfl (by decide) rfl dX0_learnThings_128 ?_
    refine rn_iload_n dX0_learnThings_131 rfl ?_
    obtain ⟨j_3, hj_3, hF⟩ := hF
    refine rj_iald hj_3 rfl (by decide) rfl (by decide) dX0_learnThings_132 ?_
    refine rn_iload_n dX0_learnThings_133 rfl ?_
    refine rn_icmp_gt (tgt := 149) dX0_learnThings_134 (by decide) (fun hc_4 => ?_) (fun hc_4 => ?_)
    · replace hF := hF.1 hc_4
      refine rn_iinc (w := (1 : Int32)) dX0_learnThings_149 rfl (by decide) rfl (by decide) (fun x3_5 ex3_5 => ?_)
      replace hF := hF x3_5 ex3_5
      refine rn_goto (tgt := 118) dX0_learnThings_152 (by decide) ?_
      exact rn_wk (L' := [some (rf E 5), some (rf E 1), some (.int x2), some (.int x3_5)]) (⟨rfl, ⟨rfl, ⟨rfl, ⟨rfl, trivial⟩⟩⟩⟩) hF
    · replace hF := hF.2 hc_4
      refine rn_aload_n dX0_learnThings_137 rfl ?_
      refine rm_getr (r := 10) flRX0_24 rfl (by decide) rfl dX0_learnThings_138 ?_
      refine rn_iload_n dX0_learnThings_141 rfl ?_
      refine rn_dup2 dX0_learnThings_142 rfl rfl ?_
      obtain ⟨j_6, hj_6, hF⟩ := hF
      refine rj_iald hj_6 rfl (by decide) rfl (by decide) dX0_learnThings_143 ?_
      refine rn_iconst (x := (1 : Int32)) dX0_learnThings_144 (by decide) ?_
      refine rn_iload_n dX0_learnThings_145 rfl ?_
      refine rn_ishl dX0_learnThings_146 ?_
      refine rn_ior dX0_learnThings_147 ?_
      obtain ⟨j_7, hj_7, hF⟩ := hF
      refine rj_iast hj_7 rfl (by decide) rfl (by decide) dX0_learnThings_148 (fun H_8 eH_8 => ?_)
      replace hF := hF H_8 eH_8
      refine rn_iinc (w := (1 : Int32)) dX0_learnThings_149 rfl (by decide) rfl (by decide) (fun x3_9 ex3_9 => ?_)
      replace hF := hF x3_9 ex3_9
      refine rn_goto (tgt := 118) dX0_learnThings_152 (by decide) ?_
      exact rn_wk (L' := [some (rf E 5), some (rf E 1), some (.int x2), some (.int x3_9)]) (⟨rfl, ⟨rfl, ⟨rfl, ⟨rfl, trivial⟩⟩⟩⟩) hF
theorem sgX0_learnCousins_0 {E : En} {Q : Option Value → Hi → Prop} {H : Hi}  
    (hF : Cm E mX7_items [rf E 3] H (fun w H_1 => ∃ r_2 : Int32, w = some (.int r_2) ∧ (Cm E mJ9_min_7cf53 [.int r_2, .int (8 : Int32)] H_1 (fun w H_3 => ∃ r_4 : Int32, w = some (.int r_4) ∧ (∀ H_5 : Hi, H_5 = up H_3 5 1 r_4 → (∀ H_6 : Hi, H_6 = up H_5 5 6 (0 : Int32) → (Rm E mX0_learnCousins Q 20 [some (rf E 5), some (rf E 3), some (.int (0 : Int32)), none] [] H_6))))))) :
    Rm E mX0_learnCousins Q 0 [some (rf E 5), some (rf E 3), none, none] [] H := by
  refine rn_aload_n dX0_learnCousins_0 rfl ?_
  refine rn_aload_n dX0_learnCousins_1 rfl ?_
  refine rm_callV (c0 := 3) (As := []) (st := [rf E 5]) mlRX0_27 mdX7_items (Nat.le_of_ble_eq_true rfl) rfl (by decide) (by decide) rfl rfl rfl (Nat.le_of_ble_eq_true rfl) ⟨Nat.le_refl _, Nat.le_refl _⟩ dX0_learnCousins_2 ?_
  refine cm_mono hF (fun w H_1 hF => ?_)
  obtain ⟨r_2, rfl, hF⟩ := hF
  refine rn_bipush (x := (8 : Int32)) dX0_learnCousins_5 (by decide) ?_
  refine rm_callS (As := [.int r_2, .int (8 : Int32)]) (st := [rf E 5]) mlRX0_33 mdJ9_min_7cf53 (Nat.le_of_ble_eq_true rfl) rfl rfl (Nat.le_of_ble_eq_true rfl) ⟨Nat.le_refl _, Nat.le_refl _⟩ dX0_learnCousins_7 ?_
  refine cm_mono hF (fun w H_3 hF => ?_)
  obtain ⟨r_4, rfl, hF⟩ := hF
  refine rm_puti flRX0_58 rfl (by decide) rfl dX0_learnCousins_10 (fun H_5 eH_5 => ?_)
  replace hF := hF H_5 eH_5
  refine rn_aload_n dX0_learnCousins_13 rfl ?_
  refine rn_iconst (x := (0 : Int32)) dX0_learnCousins_14 (by decide) ?_
  refine rm_puti flRX0_61 rfl (by decide) rfl dX0_learnCousins_15 (fun H_6 eH_6 => ?_)
  replace hF := hF H_6 eH_6
  refine rn_iconst (x := (0 : Int32)) dX0_learnCousins_18 (by decide) ?_
  refine rn_istore_n dX0_learnCousins_19 rfl (by decide) (fun x2_7 ex2_7 => ?_)
  subst ex2_7
  exact rn_wk (L' := [some (rf E 5), some (rf E 3), some (.int (0 : Int32)), none]) (⟨rfl, ⟨rfl, ⟨rfl, trivial⟩⟩⟩) hF
theorem cmX0_learnCousins {E : En} {Q : Option Value → Hi → Prop} {H : Hi}  
    (hF : Cm E mX7_items [rf E 3] H (fun w H_1 => ∃ r_2 : Int32, w = some (.int r_2) ∧ (Cm E mJ9_min_7cf53 [.int r_2, .int (8 : Int32)] H_1 (fun w H_3 => ∃ r_4 : Int32, w = some (.int r_4) ∧ (∀ H_5 : Hi, H_5 = up H_3 5 1 r_4 → (∀ H_6 : Hi, H_6 = up H_5 5 6 (0 : Int32) → (Rm E mX0_learnCousins Q 20 [some (rf E 5), some (rf E 3), some (.int (0 : Int32)), none] [] H_6))))))) :
    Cm E mX0_learnCousins [rf E 5, rf E 3] H Q :=
  cm_of (by decide +kernel) (Nat.le_of_ble_eq_true rfl) rfl (sgX0_learnCousins_0  hF)
theorem sgX0_learnCousins_20 {E : En} {Q : Option Value → Hi → Prop} {H : Hi} {x2 : Int32} 
    (hF : ((H 5 1) ≤ x2 → (Q none H)) ∧ (¬ (H 5 1) ≤ x2 → (Cm E mX7_sign [rf E 3, .int x2, .int (0 : Int32)] H (fun w H_2 => ∃ r_3 : Int32, w = some (.int r_3) ∧ (∀ H_4 : Hi, H_4 = up H_2 5 6 ((H 5 6) ||| (r_3 <<< (x2 &&& 31))) → (Cm E mX7_sign [rf E 3, .int x2, .int (1 : Int32)] H_4 (fun w H_5 => ∃ r_6 : Int32, w = some (.int r_6) ∧ (((8 : Int32) ≤ r_6 → (∃ j_9 : Nat, (j_9 < 8 ∧ x2 = nI j_9) ∧ (∀ H_10 : Hi, H_10 = up H_5 9 j_9 (-1 : Int32) → (∀ x2_11 : Int32, x2_11 = x2 + (1 : Int32) → (Rm E mX0_learnCousins Q 20 [some (rf E 5), some (rf E 3), some (.int x2_11), none] [] H_10))))) ∧ (¬ (8 : Int32) ≤ r_6 → (∃ j_12 : Nat, (j_12 < 8 ∧ x2 = nI j_12) ∧ (∀ H_13 : Hi, H_13 = up H_5 9 j_12 r_6 → (∀ x2_14 : Int32, x2_14 = x2 + (1 : Int32) → (Rm E mX0_learnCousins Q 20 [some (rf E 5), some (rf E 3), some (.int x2_14), none] [] H_13))))))))))))) :
    Rm E mX0_learnCousins Q 20 [some (rf E 5), some (rf E 3), some (.int x2), none] [] H := by
  refine rn_iload_n dX0_learnCousins_20 rfl ?_
  refine rn_aload_n dX0_learnCousins_21 rfl ?_
  refine rm_geti flRX0_58 rfl (by decide) rfl dX0_learnCousins_22 ?_
  refine rn_icmp_ge (tgt := 75) dX0_learnCousins_25 (by decide) (fun hc_1 => ?_) (fun hc_1 => ?_)
  · replace hF := hF.1 hc_1
    exact rm_vret rfl dX0_learnCousins_75 hF
  · replace hF := hF.2 hc_1
    refine rn_aload_n dX0_learnCousins_28 rfl ?_
    refine rn_dup dX0_learnCousins_29 rfl ?_
    refine rm_geti flRX0_61 rfl (by decide) rfl dX0_learnCousins_30 ?_
    refine rn_aload_n dX0_learnCousins_33 rfl ?_
    refine rn_iload_n dX0_learnCousins_34 rfl ?_
    refine rn_iconst (x := (0 : Int32)) dX0_learnCousins_35 (by decide) ?_
    refine rm_callV (c0 := 3) (As := [.int x2, .int (0 : Int32)]) (st := [.int (H 5 6), rf E 5]) mlRX0_55 mdX7_sign (Nat.le_of_ble_eq_true rfl) rfl (by decide) (by decide) rfl rfl rfl (Nat.le_of_ble_eq_true rfl) ⟨Nat.le_refl _, Nat.le_refl _⟩ dX0_learnCousins_36 ?_
    refine cm_mono hF (fun w H_2 hF => ?_)
    obtain ⟨r_3, rfl, hF⟩ := hF
    refine rn_iload_n dX0_learnCousins_39 rfl ?_
    refine rn_ishl dX0_learnCousins_40 ?_
    refine rn_ior dX0_learnCousins_41 ?_
    refine rm_puti flRX0_61 rfl (by decide) rfl dX0_learnCousins_42 (fun H_4 eH_4 => ?_)
    replace hF := hF H_4 eH_4
    refine rn_aload_n dX0_learnCousins_45 rfl ?_
    refine rn_iload_n dX0_learnCousins_46 rfl ?_
    refine rn_iconst (x := (1 : Int32)) dX0_learnCousins_47 (by decide) ?_
    refine rm_callV (c0 := 3) (As := [.int x2, .int (1 : Int32)]) (st := []) mlRX0_55 mdX7_sign (Nat.le_of_ble_eq_true rfl) rfl (by decide) (by decide) rfl rfl rfl (Nat.le_of_ble_eq_true rfl) ⟨Nat.le_refl _, Nat.le_refl _⟩ dX0_learnCousins_48 ?_
    refine cm_mono hF (fun w H_5 hF => ?_)
    obtain ⟨r_6, rfl, hF⟩ := hF
    refine rn_istore_n dX0_learnCousins_51 rfl (by decide) (fun x3_7 ex3_7 => ?_)
    subst ex3_7
    refine rn_aload_n dX0_learnCousins_52 rfl ?_
    refine rm_getr (r := 9) flRX0_21 rfl (by decide) rfl dX0_learnCousins_53 ?_
    refine rn_iload_n dX0_learnCousins_56 rfl ?_
    refine rn_iload_n dX0_learnCousins_57 rfl ?_
    refine rn_bipush (x := (8 : Int32)) dX0_learnCousins_58 (by decide) ?_
    refine rn_icmp_ge (tgt := 67) dX0_learnCousins_60 (by decide) (fun hc_8 => ?_) (fun hc_8 => ?_)
    · replace hF := hF.1 hc_8
      refine rn_iconst (x := (-1 : Int32)) dX0_learnCousins_67 (by decide) ?_
      obtain ⟨j_9, hj_9, hF⟩ := hF
      refine rj_iast hj_9 rfl (by decide) rfl (by decide) dX0_learnCousins_68 (fun H_10 eH_10 => ?_)
      replace hF := hF H_10 eH_10
      refine rn_iinc (w := (1 : Int32)) dX0_learnCousins_69 rfl (by decide) rfl (by decide) (fun x2_11 ex2_11 => ?_)
      replace hF := hF x2_11 ex2_11
      refine rn_goto (tgt := 20) dX0_learnCousins_72 (by decide) ?_
      exact rn_wk (L' := [some (rf E 5), some (rf E 3), some (.int x2_11), none]) (⟨rfl, ⟨rfl, ⟨rfl, trivial⟩⟩⟩) hF
    · replace hF := hF.2 hc_8
      refine rn_iload_n dX0_learnCousins_63 rfl ?_
      refine rn_goto (tgt := 68) dX0_learnCousins_64 (by decide) ?_
      obtain ⟨j_12, hj_12, hF⟩ := hF
      refine rj_iast hj_12 rfl (by decide) rfl (by decide) dX0_learnCousins_68 (fun H_13 eH_13 => ?_)
      replace hF := hF H_13 eH_13
      refine rn_iinc (w := (1 : Int32)) dX0_learnCousins_69 rfl (by decide) rfl (by decide) (fun x2_14 ex2_14 => ?_)
      replace hF := hF x2_14 ex2_14
      refine rn_goto (tgt := 20) dX0_learnCousins_72 (by decide) ?_
      exact rn_wk (L' := [some (rf E 5), some (rf E 3), some (.int x2_14), none]) (⟨rfl, ⟨rfl, ⟨rfl, trivial⟩⟩⟩) hF
theorem sgX0_ofThing_0 {E : En} {Q : Option Value → Hi → Prop} {H : Hi} {x1 : Int32} {x2 : Int32} 
    (hF : (¬ x2 = 0 → ((¬ x2 = (1 : Int32) → (∃ j_3 : Nat, (j_3 < 8 ∧ x1 = nI j_3) ∧ (Q (some (.int (H 8 j_3))) H))) ∧ (x2 = (1 : Int32) → (∃ j_4 : Nat, (j_4 < 8 ∧ x1 = nI j_4) ∧ (Q (some (.int (H 7 j_4))) H))))) ∧ (x2 = 0 → (∃ j_5 : Nat, (j_5 < 8 ∧ x1 = nI j_5) ∧ (Q (some (.int (H 6 j_5))) H)))) :
    Rm E mX0_ofThing Q 0 [some (rf E 5), some (.int x1), some (.int x2)] [] H := by
  refine rn_iload_n dX0_ofThing_0 rfl ?_
  refine rn_if_ne (tgt := 11) dX0_ofThing_1 (by decide) (fun hc_1 => ?_) (fun hc_1 => ?_)
  · replace hF := hF.1 hc_1
    refine rn_iload_n dX0_ofThing_11 rfl ?_
    refine rn_iconst (x := (1 : Int32)) dX0_ofThing_12 (by decide) ?_
    refine rn_icmp_ne (tgt := 25) dX0_ofThing_13 (by decide) (fun hc_2 => ?_) (fun hc_2 => ?_)
    · replace hF := hF.1 hc_2
      refine rn_aload_n dX0_ofThing_25 rfl ?_
      refine rm_getr (r := 8) flRX0_18 rfl (by decide) rfl dX0_ofThing_26 ?_
      refine rn_iload_n dX0_ofThing_29 rfl ?_
      obtain ⟨j_3, hj_3, hF⟩ := hF
      refine rj_iald hj_3 rfl (by decide) rfl (by decide) dX0_ofThing_30 ?_
      exact rm_iret rfl dX0_ofThing_31 hF
    · replace hF := hF.2 hc_2
      refine rn_aload_n dX0_ofThing_16 rfl ?_
      refine rm_getr (r := 7) flRX0_15 rfl (by decide) rfl dX0_ofThing_17 ?_
      refine rn_iload_n dX0_ofThing_20 rfl ?_
      obtain ⟨j_4, hj_4, hF⟩ := hF
      refine rj_iald hj_4 rfl (by decide) rfl (by decide) dX0_ofThing_21 ?_
      refine rn_goto (tgt := 31) dX0_ofThing_22 (by decide) ?_
      exact rm_iret rfl dX0_ofThing_31 hF
  · replace hF := hF.2 hc_1
    refine rn_aload_n dX0_ofThing_4 rfl ?_
    refine rm_getr (r := 6) flRX0_9 rfl (by decide) rfl dX0_ofThing_5 ?_
    refine rn_iload_n dX0_ofThing_8 rfl ?_
    obtain ⟨j_5, hj_5, hF⟩ := hF
    refine rj_iald hj_5 rfl (by decide) rfl (by decide) dX0_ofThing_9 ?_
    exact rm_iret rfl dX0_ofThing_10 hF
theorem cmX0_ofThing {E : En} {Q : Option Value → Hi → Prop} {H : Hi} {x1 : Int32} {x2 : Int32} 
    (hF : (¬ x2 = 0 → ((¬ x2 = (1 : Int32) → (∃ j_3 : Nat, (j_3 < 8 ∧ x1 = nI j_3) ∧ (Q (some (.int (H 8 j_3))) H))) ∧ (x2 = (1 : Int32) → (∃ j_4 : Nat, (j_4 < 8 ∧ x1 = nI j_4) ∧ (Q (some (.int (H 7 j_4))) H))))) ∧ (x2 = 0 → (∃ j_5 : Nat, (j_5 < 8 ∧ x1 = nI j_5) ∧ (Q (some (.int (H 6 j_5))) H)))) :
    Cm E mX0_ofThing [rf E 5, .int x1, .int x2] H Q :=
  cm_of (by decide +kernel) (Nat.le_of_ble_eq_true rfl) rfl (sgX0_ofThing_0  hF)
theorem sgX0_ofCousin_0 {E : En} {Q : Option Value → Hi → Prop} {H : Hi} {x1 : Int32} {x2 : Int32} 
    (hF : (¬ x2 = 0 → (∃ j_2 : Nat, (j_2 < 8 ∧ x1 = nI j_2) ∧ (Q (some (.int (H 9 j_2))) H))) ∧ (x2 = 0 → (Q (some (.int (((H 5 6) >>> (x1 &&& 31)) &&& (1 : Int32)))) H))) :
    Rm E mX0_ofCousin Q 0 [some (rf E 5), some (.int x1), some (.int x2)] [] H := by
  refine rn_iload_n dX0_ofCousin_0 rfl ?_
  refine rn_if_ne (tgt := 15) dX0_ofCousin_1 (by decide) (fun hc_1 => ?_) (fun hc_1 => ?_)
  · replace hF := hF.1 hc_1
    refine rn_aload_n dX0_ofCousin_15 rfl ?_
    refine rm_getr (r := 9) flRX0_21 rfl (by decide) rfl dX0_ofCousin_16 ?_
    refine rn_iload_n dX0_ofCousin_19 rfl ?_
    obtain ⟨j_2, hj_2, hF⟩ := hF
    refine rj_iald hj_2 rfl (by decide) rfl (by decide) dX0_ofCousin_20 ?_
    exact rm_iret rfl dX0_ofCousin_21 hF
  · replace hF := hF.2 hc_1
    refine rn_aload_n dX0_ofCousin_4 rfl ?_
    refine rm_geti flRX0_61 rfl (by decide) rfl dX0_ofCousin_5 ?_
    refine rn_iload_n dX0_ofCousin_8 rfl ?_
    refine rn_ishr dX0_ofCousin_9 ?_
    refine rn_iconst (x := (1 : Int32)) dX0_ofCousin_10 (by decide) ?_
    refine rn_iand dX0_ofCousin_11 ?_
    refine rn_goto (tgt := 21) dX0_ofCousin_12 (by decide) ?_
    exact rm_iret rfl dX0_ofCousin_21 hF
theorem cmX0_ofCousin {E : En} {Q : Option Value → Hi → Prop} {H : Hi} {x1 : Int32} {x2 : Int32} 
    (hF : (¬ x2 = 0 → (∃ j_2 : Nat, (j_2 < 8 ∧ x1 = nI j_2) ∧ (Q (some (.int (H 9 j_2))) H))) ∧ (x2 = 0 → (Q (some (.int (((H 5 6) >>> (x1 &&& 31)) &&& (1 : Int32)))) H))) :
    Cm E mX0_ofCousin [rf E 5, .int x1, .int x2] H Q :=
  cm_of (by decide +kernel) (Nat.le_of_ble_eq_true rfl) rfl (sgX0_ofCousin_0  hF)
