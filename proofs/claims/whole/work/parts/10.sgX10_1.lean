theorem sgX10_begins_0 {E : En} {Q : Option Value → Hi → Prop} {H : Hi}  
    (hF : Rm E mX10_begins Q 2 [some (rf E 99), some (.int (0 : Int32))] [] H) :
    Rm E mX10_begins Q 0 [some (rf E 99), none] [] H := by
  refine rn_iconst (x := (0 : Int32)) dX10_begins_0 (by decide) ?_
  refine rn_istore_n dX10_begins_1 rfl (by decide) (fun x1_1 ex1_1 => ?_)
  subst ex1_1
  exact rn_wk (L' := [some (rf E 99), some (.int (0 : Int32))]) (⟨rfl, ⟨rfl, trivial⟩⟩) hF
theorem cmX10_begins {E : En} {Q : Option Value → Hi → Prop} {H : Hi}  
    (hF : Rm E mX10_begins Q 2 [some (rf E 99), some (.int (0 : Int32))] [] H) :
    Cm E mX10_begins [rf E 99] H Q :=
  cm_of (by decide +kernel) (Nat.le_of_ble_eq_true rfl) rfl (sgX10_begins_0  hF)
theorem sgX10_begins_2 {E : En} {Q : Option Value → Hi → Prop} {H : Hi} {x1 : Int32} 
    (hF : ((8 : Int32) ≤ x1 → (Rm E mX10_begins Q 68 [some (rf E 99), some (.int (0 : Int32))] [] H)) ∧ (¬ (8 : Int32) ≤ x1 → (((H 99 2) ≤ x1 → (∃ j_4 : Nat, (j_4 < 8 ∧ x1 = nI j_4) ∧ (∀ H_5 : Hi, H_5 = up H 111 j_4 (9 : Int32) → (∃ j_6 : Nat, (j_6 < 8 ∧ x1 = nI j_6) ∧ (∀ H_7 : Hi, H_7 = up H_5 112 j_6 (0 : Int32) → (∃ j_8 : Nat, (j_8 < 8 ∧ x1 = nI j_8) ∧ (∀ H_9 : Hi, H_9 = up H_7 113 j_8 (0 : Int32) → (∀ x1_10 : Int32, x1_10 = x1 + (1 : Int32) → (Rm E mX10_begins Q 2 [some (rf E 99), some (.int x1_10)] [] H_9))))))))) ∧ (¬ (H 99 2) ≤ x1 → (∃ j_11 : Nat, (j_11 < 9 ∧ x1 = nI j_11) ∧ (((H 99 6) ≤ (H 103 j_11) → (∃ j_13 : Nat, (j_13 < 8 ∧ x1 = nI j_13) ∧ (∀ H_14 : Hi, H_14 = up H 111 j_13 (9 : Int32) → (∃ j_15 : Nat, (j_15 < 8 ∧ x1 = nI j_15) ∧ (∀ H_16 : Hi, H_16 = up H_14 112 j_15 (0 : Int32) → (∃ j_17 : Nat, (j_17 < 8 ∧ x1 = nI j_17) ∧ (∀ H_18 : Hi, H_18 = up H_16 113 j_17 (0 : Int32) → (∀ x1_19 : Int32, x1_19 = x1 + (1 : Int32) → (Rm E mX10_begins Q 2 [some (rf E 99), some (.int x1_19)] [] H_18))))))))) ∧ (¬ (H 99 6) ≤ (H 103 j_11) → (∃ j_20 : Nat, (j_20 < 9 ∧ x1 = nI j_20) ∧ (∃ j_21 : Nat, (j_21 < 8 ∧ x1 = nI j_21) ∧ (∀ H_22 : Hi, H_22 = up H 111 j_21 (H 103 j_20) → (∃ j_23 : Nat, (j_23 < 8 ∧ x1 = nI j_23) ∧ (∀ H_24 : Hi, H_24 = up H_22 112 j_23 (0 : Int32) → (∃ j_25 : Nat, (j_25 < 8 ∧ x1 = nI j_25) ∧ (∀ H_26 : Hi, H_26 = up H_24 113 j_25 (0 : Int32) → (∀ x1_27 : Int32, x1_27 = x1 + (1 : Int32) → (Rm E mX10_begins Q 2 [some (rf E 99), some (.int x1_27)] [] H_26)))))))))))))))) :
    Rm E mX10_begins Q 2 [some (rf E 99), some (.int x1)] [] H := by
  refine rn_iload_n dX10_begins_2 rfl ?_
  refine rn_bipush (x := (8 : Int32)) dX10_begins_3 (by decide) ?_
  refine rn_icmp_ge (tgt := 66) dX10_begins_5 (by decide) (fun hc_1 => ?_) (fun hc_1 => ?_)
  · replace hF := hF.1 hc_1
    refine rn_iconst (x := (0 : Int32)) dX10_begins_66 (by decide) ?_
    refine rn_istore_n dX10_begins_67 rfl (by decide) (fun x1_2 ex1_2 => ?_)
    subst ex1_2
    exact rn_wk (L' := [some (rf E 99), some (.int (0 : Int32))]) (⟨rfl, ⟨rfl, trivial⟩⟩) hF
  · replace hF := hF.2 hc_1
    refine rn_aload_n dX10_begins_8 rfl ?_
    refine rm_getr (r := 111) flRX10_43 rfl (by decide) rfl dX10_begins_9 ?_
    refine rn_iload_n dX10_begins_12 rfl ?_
    refine rn_iload_n dX10_begins_13 rfl ?_
    refine rn_aload_n dX10_begins_14 rfl ?_
    refine rm_geti flRX10_125 rfl (by decide) rfl dX10_begins_15 ?_
    refine rn_icmp_ge (tgt := 43) dX10_begins_18 (by decide) (fun hc_3 => ?_) (fun hc_3 => ?_)
    · replace hF := hF.1 hc_3
      refine rn_bipush (x := (9 : Int32)) dX10_begins_43 (by decide) ?_
      obtain ⟨j_4, hj_4, hF⟩ := hF
      refine rj_iast hj_4 rfl (by decide) rfl (by decide) dX10_begins_45 (fun H_5 eH_5 => ?_)
      replace hF := hF H_5 eH_5
      refine rn_aload_n dX10_begins_46 rfl ?_
      refine rm_getr (r := 112) flRX10_46 rfl (by decide) rfl dX10_begins_47 ?_
      refine rn_iload_n dX10_begins_50 rfl ?_
      refine rn_iconst (x := (0 : Int32)) dX10_begins_51 (by decide) ?_
      obtain ⟨j_6, hj_6, hF⟩ := hF
      refine rj_iast hj_6 rfl (by decide) rfl (by decide) dX10_begins_52 (fun H_7 eH_7 => ?_)
      replace hF := hF H_7 eH_7
      refine rn_aload_n dX10_begins_53 rfl ?_
      refine rm_getr (r := 113) flRX10_49 rfl (by decide) rfl dX10_begins_54 ?_
      refine rn_iload_n dX10_begins_57 rfl ?_
      refine rn_iconst (x := (0 : Int32)) dX10_begins_58 (by decide) ?_
      obtain ⟨j_8, hj_8, hF⟩ := hF
      refine rj_iast hj_8 rfl (by decide) rfl (by decide) dX10_begins_59 (fun H_9 eH_9 => ?_)
      replace hF := hF H_9 eH_9
      refine rn_iinc (w := (1 : Int32)) dX10_begins_60 rfl (by decide) rfl (by decide) (fun x1_10 ex1_10 => ?_)
      replace hF := hF x1_10 ex1_10
      refine rn_goto (tgt := 2) dX10_begins_63 (by decide) ?_
      exact rn_wk (L' := [some (rf E 99), some (.int x1_10)]) (⟨rfl, ⟨rfl, trivial⟩⟩) hF
    · replace hF := hF.2 hc_3
      refine rn_aload_n dX10_begins_21 rfl ?_
      refine rm_getr (r := 103) flRX10_19 rfl (by decide) rfl dX10_begins_22 ?_
      refine rn_iload_n dX10_begins_25 rfl ?_
      obtain ⟨j_11, hj_11, hF⟩ := hF
      refine rj_iald hj_11 rfl (by decide) rfl (by decide) dX10_begins_26 ?_
      refine rn_aload_n dX10_begins_27 rfl ?_
      refine rm_geti flRX10_128 rfl (by decide) rfl dX10_begins_28 ?_
      refine rn_icmp_ge (tgt := 43) dX10_begins_31 (by decide) (fun hc_12 => ?_) (fun hc_12 => ?_)
      · replace hF := hF.1 hc_12
        refine rn_bipush (x := (9 : Int32)) dX10_begins_43 (by decide) ?_
        obtain ⟨j_13, hj_13, hF⟩ := hF
        refine rj_iast hj_13 rfl (by decide) rfl (by decide) dX10_begins_45 (fun H_14 eH_14 => ?_)
        replace hF := hF H_14 eH_14
        refine rn_aload_n dX10_begins_46 rfl ?_
        refine rm_getr (r := 112) flRX10_46 rfl (by decide) rfl dX10_begins_47 ?_
        refine rn_iload_n dX10_begins_50 rfl ?_
        refine rn_iconst (x := (0 : Int32)) dX10_begins_51 (by decide) ?_
        obtain ⟨j_15, hj_15, hF⟩ := hF
        refine rj_iast hj_15 rfl (by decide) rfl (by decide) dX10_begins_52 (fun H_16 eH_16 => ?_)
        replace hF := hF H_16 eH_16
        refine rn_aload_n dX10_begins_53 rfl ?_
        refine rm_getr (r := 113) flRX10_49 rfl (by decide) rfl dX10_begins_54 ?_
        refine rn_iload_n dX10_begins_57 rfl ?_
        refine rn_iconst (x := (0 : Int32)) dX10_begins_58 (by decide) ?_
        obtain ⟨j_17, hj_17, hF⟩ := hF
        refine rj_iast hj_17 rfl (by decide) rfl (by decide) dX10_begins_59 (fun H_18 eH_18 => ?_)
        replace hF := hF H_18 eH_18
        refine rn_iinc (w := (1 : Int32)) dX10_begins_60 rfl (by decide) rfl (by decide) (fun x1_19 ex1_19 => ?_)
        replace hF := hF x1_19 ex1_19
        refine rn_goto (tgt := 2) dX10_begins_63 (by decide) ?_
        exact rn_wk (L' := [some (rf E 99), some (.int x1_19)]) (⟨rfl, ⟨rfl, trivial⟩⟩) hF
      · replace hF := hF.2 hc_12
        refine rn_aload_n dX10_begins_34 rfl ?_
        refine rm_getr (r := 103) flRX10_19 rfl (by decide) rfl dX10_begins_35 ?_
        refine rn_iload_n dX10_begins_38 rfl ?_
        obtain ⟨j_20, hj_20, hF⟩ := hF
        refine rj_iald hj_20 rfl (by decide) rfl (by decide) dX10_begins_39 ?_
        refine rn_goto (tgt := 45) dX10_begins_40 (by decide) ?_
        obtain ⟨j_21, hj_21, hF⟩ := hF
        refine rj_iast hj_21 rfl (by decide) rfl (by decide) dX10_begins_45 (fun H_22 eH_22 => ?_)
        replace hF := hF H_22 eH_22
        refine rn_aload_n dX10_begins_46 rfl ?_
        refine rm_getr (r := 112) flRX10_46 rfl (by decide) rfl dX10_begins_47 ?_
        refine rn_iload_n dX10_begins_50 rfl ?_
        refine rn_iconst (x := (0 : Int32)) dX10_begins_51 (by decide) ?_
        obtain ⟨j_23, hj_23, hF⟩ := hF
        refine rj_iast hj_23 rfl (by decide) rfl (by decide) dX10_begins_52 (fun H_24 eH_24 => ?_)
        replace hF := hF H_24 eH_24
        refine rn_aload_n dX10_begins_53 rfl ?_
        refine rm_getr (r := 113) flRX10_49 rfl (by decide) rfl dX10_begins_54 ?_
        refine rn_iload_n dX10_begins_57 rfl ?_
        refine rn_iconst (x := (0 : Int32)) dX10_begins_58 (by decide) ?_
        obtain ⟨j_25, hj_25, hF⟩ := hF
        refine rj_iast hj_25 rfl (by decide) rfl (by decide) dX10_begins_59 (fun H_26 eH_26 => ?_)
        replace hF := hF H_26 eH_26
        refine rn_iinc (w := (1 : Int32)) dX10_begins_60 rfl (by decide) rfl (by decide) (fun x1_27 ex1_27 => ?_)
        replace hF := hF x1_27 ex1_27
        refine rn_goto (tgt := 2) dX10_begins_63 (by decide) ?_
        exact rn_wk (L' := [some (rf E 99), some (.int x1_27)]) (⟨rfl, ⟨rfl, trivial⟩⟩) hF
theorem sgX10_begins_68 {E : En} {Q : Option Value → Hi → Prop} {H : Hi} {x1 : Int32} 
    (hF : ((44 : Int32) ≤ x1 → (Q none H)) ∧ (¬ (44 : Int32) ≤ x1 → (∃ j_2 : Nat, (j_2 < 44 ∧ x1 = nI j_2) ∧ (∀ H_3 : Hi, H_3 = up H 115 j_2 (vp_nar .boolean (0 : Int32)) → (∀ x1_4 : Int32, x1_4 = x1 + (1 : Int32) → (Rm E mX10_begins Q 68 [some (rf E 99), some (.int x1_4)] [] H_3)))))) :
    Rm E mX10_begins Q 68 [some (rf E 99), some (.int x1)] [] H := by
  refine rn_iload_n dX10_begins_68 rfl ?_
  refine rn_bipush (x := (44 : Int32)) dX10_begins_69 (by decide) ?_
  refine rn_icmp_ge (tgt := 87) dX10_begins_71 (by decide) (fun hc_1 => ?_) (fun hc_1 => ?_)
  · replace hF := hF.1 hc_1
    exact rm_vret rfl dX10_begins_87 hF
  · replace hF := hF.2 hc_1
    refine rn_aload_n dX10_begins_74 rfl ?_
    refine rm_getr (r := 115) flRX10_55 rfl (by decide) rfl dX10_begins_75 ?_
    refine rn_iload_n dX10_begins_78 rfl ?_
    refine rn_iconst (x := (0 : Int32)) dX10_begins_79 (by decide) ?_
    obtain ⟨j_2, hj_2, hF⟩ := hF
    refine rj_zast hj_2 rfl (by decide) rfl (by decide) dX10_begins_80 (fun H_3 eH_3 => ?_)
    replace hF := hF H_3 eH_3
    refine rn_iinc (w := (1 : Int32)) dX10_begins_81 rfl (by decide) rfl (by decide) (fun x1_4 ex1_4 => ?_)
    replace hF := hF x1_4 ex1_4
    refine rn_goto (tgt := 68) dX10_begins_84 (by decide) ?_
    exact rn_wk (L' := [some (rf E 99), some (.int x1_4)]) (⟨rfl, ⟨rfl, trivial⟩⟩) hF
theorem sgX10_putsBack_0 {E : En} {Q : Option Value → Hi → Prop} {H : Hi}  
    (hF : Rm E mX10_putsBack Q 2 [some (rf E 99), some (.int (0 : Int32)), none, none] [] H) :
    Rm E mX10_putsBack Q 0 [some (rf E 99), none, none, none] [] H := by
  refine rn_iconst (x := (0 : Int32)) dX10_putsBack_0 (by decide) ?_
  refine rn_istore_n dX10_putsBack_1 rfl (by decide) (fun x1_1 ex1_1 => ?_)
  subst ex1_1
  exact rn_wk (L' := [some (rf E 99), some (.int (0 : Int32)), none, none]) (⟨rfl, ⟨rfl, trivial⟩⟩) hF
theorem cmX10_putsBack {E : En} {Q : Option Value → Hi → Prop} {H : Hi}  
    (hF : Rm E mX10_putsBack Q 2 [some (rf E 99), some (.int (0 : Int32)), none, none] [] H) :
    Cm E mX10_putsBack [rf E 99] H Q :=
  cm_of (by decide +kernel) (Nat.le_of_ble_eq_true rfl) rfl (sgX10_putsBack_0  hF)
theorem sgX10_putsBack_2 {E : En} {Q : Option Value → Hi → Prop} {H : Hi} {x1 : Int32} 
    (hF : ((8 : Int32) ≤ x1 → (Rm E mX10_putsBack Q 35 [some (rf E 99), some (.int (0 : Int32)), none, none] [] H)) ∧ (¬ (8 : Int32) ≤ x1 → (∃ j_3 : Nat, (j_3 < 8 ∧ x1 = nI j_3) ∧ (∃ j_4 : Nat, (j_4 < 8 ∧ x1 = nI j_4) ∧ (∀ H_5 : Hi, H_5 = up H 114 j_4 (H 113 j_3) → (∃ j_6 : Nat, (j_6 < 8 ∧ x1 = nI j_6) ∧ (∀ H_7 : Hi, H_7 = up H_5 113 j_6 (0 : Int32) → (∀ x1_8 : Int32, x1_8 = x1 + (1 : Int32) → (Rm E mX10_putsBack Q 2 [some (rf E 99), some (.int x1_8), none, none] [] H_7))))))))) :
    Rm E mX10_putsBack Q 2 [some (rf E 99), some (.int x1), none, none] [] H := by
  refine rn_iload_n dX10_putsBack_2 rfl ?_
  refine rn_bipush (x := (8 : Int32)) dX10_putsBack_3 (by decide) ?_
  refine rn_icmp_ge (tgt := 33) dX10_putsBack_5 (by decide) (fun hc_1 => ?_) (fun hc_1 => ?_)
  · replace hF := hF.1 hc_1
    refine rn_iconst (x := (0 : Int32)) dX10_putsBack_33 (by decide) ?_
    refine rn_istore_n dX10_putsBack_34 rfl (by decide) (fun x1_2 ex1_2 => ?_)
    subst ex1_2
    exact rn_wk (L' := [some (rf E 99), some (.int (0 : Int32)), none, none]) (⟨rfl, ⟨rfl, trivial⟩⟩) hF
  · replace hF := hF.2 hc_1
    refine rn_aload_n dX10_putsBack_8 rfl ?_
    refine rm_getr (r := 114) flRX10_52 rfl (by decide) rfl dX10_putsBack_9 ?_
    refine rn_iload_n dX10_putsBack_12 rfl ?_
    refine rn_aload_n dX10_putsBack_13 rfl ?_
    refine rm_getr (r := 113) flRX10_49 rfl (by decide) rfl dX10_putsBack_14 ?_
    refine rn_iload_n dX10_putsBack_17 rfl ?_
    obtain ⟨j_3, hj_3, hF⟩ := hF
    refine rj_iald hj_3 rfl (by decide) rfl (by decide) dX10_putsBack_18 ?_
    obtain ⟨j_4, hj_4, hF⟩ := hF
    refine rj_iast hj_4 rfl (by decide) rfl (by decide) dX10_putsBack_19 (fun H_5 eH_5 => ?_)
    replace hF := hF H_5 eH_5
    refine rn_aload_n dX10_putsBack_20 rfl ?_
    refine rm_getr (r := 113) flRX10_49 rfl (by decide) rfl dX10_putsBack_21 ?_
    refine rn_iload_n dX10_putsBack_24 rfl ?_
    refine rn_iconst (x := (0 : Int32)) dX10_putsBack_25 (by decide) ?_
    obtain ⟨j_6, hj_6, hF⟩ := hF
    refine rj_iast hj_6 rfl (by decide) rfl (by decide) dX10_putsBack_26 (fun H_7 eH_7 => ?_)
    replace hF := hF H_7 eH_7
    refine rn_iinc (w := (1 : Int32)) dX10_putsBack_27 rfl (by decide) rfl (by decide) (fun x1_8 ex1_8 => ?_)
    replace hF := hF x1_8 ex1_8
    refine rn_goto (tgt := 2) dX10_putsBack_30 (by decide) ?_
    exact rn_wk (L' := [some (rf E 99), some (.int x1_8), none, none]) (⟨rfl, ⟨rfl, trivial⟩⟩) hF
theorem sgX10_putsBack_35 {E : En} {Q : Option Value → Hi → Prop} {H : Hi} {x1 : Int32} 
    (hF : ((H 99 6) ≤ x1 → (Q none H)) ∧ (¬ (H 99 6) ≤ x1 → (Rm E mX10_putsBack Q 45 [some (rf E 99), some (.int x1), some (.int (0 : Int32)), none] [] H))) :
    Rm E mX10_putsBack Q 35 [some (rf E 99), some (.int x1), none, none] [] H := by
  refine rn_iload_n dX10_putsBack_35 rfl ?_
  refine rn_aload_n dX10_putsBack_36 rfl ?_
  refine rm_geti flRX10_128 rfl (by decide) rfl dX10_putsBack_37 ?_
  refine rn_icmp_ge (tgt := 114) dX10_putsBack_40 (by decide) (fun hc_1 => ?_) (fun hc_1 => ?_)
  · replace hF := hF.1 hc_1
    exact rm_vret rfl dX10_putsBack_114 hF
  · replace hF := hF.2 hc_1
    refine rn_iconst (x := (0 : Int32)) dX10_putsBack_43 (by decide) ?_
    refine rn_istore_n dX10_putsBack_44 rfl (by decide) (fun x2_2 ex2_2 => ?_)
    subst ex2_2
    exact rn_wk (L' := [some (rf E 99), some (.int x1), some (.int (0 : Int32)), none]) (⟨rfl, ⟨rfl, ⟨rfl, trivial⟩⟩⟩) hF
theorem sgX10_putsBack_45 {E : En} {Q : Option Value → Hi → Prop} {H : Hi} {x1 : Int32} {x2 : Int32} 
    (hF : ((H 99 2) ≤ x2 → (∀ x1_2 : Int32, x1_2 = x1 + (1 : Int32) → (Rm E mX10_putsBack Q 35 [some (rf E 99), some (.int x1_2), none, none] [] H))) ∧ (¬ (H 99 2) ≤ x2 → (∃ j_3 : Nat, (j_3 < 9 ∧ x1 = nI j_3) ∧ ((¬ (H 105 j_3) = (1 : Int32) → (∀ x2_5 : Int32, x2_5 = x2 + (1 : Int32) → (Rm E mX10_putsBack Q 45 [some (rf E 99), some (.int x1), some (.int x2_5), none] [] H))) ∧ ((H 105 j_3) = (1 : Int32) → (∃ j_6 : Nat, (j_6 < 8 ∧ x1 = nI j_6) ∧ (Cm E mX10_isIn [.int (H 114 j_6), .int x2] H (fun w H_7 => ∃ r_8 : Int32, w = some (.int r_8) ∧ ((r_8 = 0 → (∀ x2_10 : Int32, x2_10 = x2 + (1 : Int32) → (Rm E mX10_putsBack Q 45 [some (rf E 99), some (.int x1), some (.int x2_10), none] [] H_7))) ∧ (¬ r_8 = 0 → (∃ j_11 : Nat, (j_11 < 9 ∧ x2 = nI j_11) ∧ (((H_7 103 j_11) = x1 → (∀ x2_13 : Int32, x2_13 = x2 + (1 : Int32) → (Rm E mX10_putsBack Q 45 [some (rf E 99), some (.int x1), some (.int x2_13), none] [] H_7))) ∧ (¬ (H_7 103 j_11) = x1 → (∃ j_14 : Nat, (j_14 < 8 ∧ x2 = nI j_14) ∧ ((¬ (H_7 111 j_14) = x1 → (∀ x2_16 : Int32, x2_16 = x2 + (1 : Int32) → (Rm E mX10_putsBack Q 45 [some (rf E 99), some (.int x1), some (.int x2_16), none] [] H_7))) ∧ ((H_7 111 j_14) = x1 → (Cm E mX10_putsIn [rf E 99, .int x2] H_7 (fun w H_17 => ∃ r_18 : Int32, w = some (.int r_18) ∧ (∀ x2_20 : Int32, x2_20 = x2 + (1 : Int32) → (Rm E mX10_putsBack Q 45 [some (rf E 99), some (.int x1), some (.int x2_20), none] [] H_17)))))))))))))))))))) :
    Rm E mX10_putsBack Q 45 [some (rf E 99), some (.int x1), some (.int x2), none] [] H := by
  refine rn_iload_n dX10_putsBack_45 rfl ?_
  refine rn_aload_n dX10_putsBack_46 rfl ?_
  refine rm_geti flRX10_125 rfl (by decide) rfl dX10_putsBack_47 ?_
  refine rn_icmp_ge (tgt := 108) dX10_putsBack_50 (by decide) (fun hc_1 => ?_) (fun hc_1 => ?_)
  · replace hF := hF.1 hc_1
    refine rn_iinc (w := (1 : Int32)) dX10_putsBack_108 rfl (by decide) rfl (by decide) (fun x1_2 ex1_2 => ?_)
    replace hF := hF x1_2 ex1_2
    refine rn_goto (tgt := 35) dX10_putsBack_111 (by decide) ?_
    exact rn_wk (L' := [some (rf E 99), some (.int x1_2), none, none]) (⟨rfl, ⟨rfl, trivial⟩⟩) hF
  · replace hF := hF.2 hc_1
    refine rn_aload_n dX10_putsBack_53 rfl ?_
    refine rm_getr (r := 105) flRX10_25 rfl (by decide) rfl dX10_putsBack_54 ?_
    refine rn_iload_n dX10_putsBack_57 rfl ?_
    obtain ⟨j_3, hj_3, hF⟩ := hF
    refine rj_iald hj_3 rfl (by decide) rfl (by decide) dX10_putsBack_58 ?_
    refine rn_iconst (x := (1 : Int32)) dX10_putsBack_59 (by decide) ?_
    refine rn_icmp_ne (tgt := 102) dX10_putsBack_60 (by decide) (fun hc_4 => ?_) (fun hc_4 => ?_)
    · replace hF := hF.1 hc_4
      refine rn_iinc (w := (1 : Int32)) dX10_putsBack_102 rfl (by decide) rfl (by decide) (fun x2_5 ex2_5 => ?_)
      replace hF := hF x2_5 ex2_5
      refine rn_goto (tgt := 45) dX10_putsBack_105 (by decide) ?_
      exact rn_wk (L' := [some (rf E 99), some (.int x1), some (.int x2_5), none]) (⟨rfl, ⟨rfl, ⟨rfl, trivial⟩⟩⟩) hF
    · replace hF := hF.2 hc_4
      refine rn_aload_n dX10_putsBack_63 rfl ?_
      refine rm_getr (r := 114) flRX10_52 rfl (by decide) rfl dX10_putsBack_64 ?_
      refine rn_iload_n dX10_putsBack_67 rfl ?_
      obtain ⟨j_6, hj_6, hF⟩ := hF
      refine rj_iald hj_6 rfl (by decide) rfl (by decide) dX10_putsBack_68 ?_
      refine rn_iload_n dX10_putsBack_69 rfl ?_
      refine rm_callS (As := [.int (H 114 j_6), .int x2]) (st := []) mlRX10_189 mdX10_isIn (Nat.le_of_ble_eq_true rfl) rfl rfl (Nat.le_of_ble_eq_true rfl) ⟨Nat.le_refl _, Nat.le_refl _⟩ dX10_putsBack_70 ?_
      refine cm_mono hF (fun w H_7 hF => ?_)
      obtain ⟨r_8, rfl, hF⟩ := hF
      refine rn_if_eq (tgt := 102) dX10_putsBack_73 (by decide) (fun hc_9 => ?_) (fun hc_9 => ?_)
      · replace hF := hF.1 hc_9
        refine rn_iinc (w := (1 : Int32)) dX10_putsBack_102 rfl (by decide) rfl (by decide) (fun x2_10 ex2_10 => ?_)
        replace hF := hF x2_10 ex2_10
        refine rn_goto (tgt := 45) dX10_putsBack_105 (by decide) ?_
        exact rn_wk (L' := [some (rf E 99), some (.int x1), some (.int x2_10), none]) (⟨rfl, ⟨rfl, ⟨rfl, trivial⟩⟩⟩) hF
      · replace hF := hF.2 hc_9
        refine rn_aload_n dX10_putsBack_76 rfl ?_
        refine rm_getr (r := 103) flRX10_19 rfl (by decide) rfl dX10_putsBack_77 ?_
        refine rn_iload_n dX10_putsBack_80 rfl ?_
        obtain ⟨j_11, hj_11, hF⟩ := hF
        refine rj_iald hj_11 rfl (by decide) rfl (by decide) dX10_putsBack_81 ?_
        refine rn_iload_n dX10_putsBack_82 rfl ?_
        refine rn_icmp_eq (tgt := 102) dX10_putsBack_83 (by decide) (fun hc_12 => ?_) (fun hc_12 => ?_)
        · replace hF := hF.1 hc_12
          refine rn_iinc (w := (1 : Int32)) dX10_putsBack_102 rfl (by decide) rfl (by decide) (fun x2_13 ex2_13 => ?_)
          replace hF := hF x2_13 ex2_13
          refine rn_goto (tgt := 45) dX10_putsBack_105 (by decide) ?_
          exact rn_wk (L' := [some (rf E 99), some (.int x1), some (.int x2_13), none]) (⟨rfl, ⟨rfl, ⟨rfl, trivial⟩⟩⟩) hF
        · replace hF := hF.2 hc_12
          refine rn_aload_n dX10_putsBack_86 rfl ?_
          refine rm_getr (r := 111) flRX10_43 rfl (by decide) rfl dX10_putsBack_87 ?_
          refine rn_iload_n dX10_putsBack_90 rfl ?_
          obtain ⟨j_14, hj_14, hF⟩ := hF
          refine rj_iald hj_14 rfl (by decide) rfl (by decide) dX10_putsBack_91 ?_
          refine rn_iload_n dX10_putsBack_92 rfl ?_
          refine rn_icmp_ne (tgt := 102) dX10_putsBack_93 (by decide) (fun hc_15 => ?_) (fun hc_15 => ?_)
          · replace hF := hF.1 hc_15
            refine rn_iinc (w := (1 : Int32)) dX10_putsBack_102 rfl (by decide) rfl (by decide) (fun x2_16 ex2_16 => ?_)
            replace hF := hF x2_16 ex2_16
            refine rn_goto (tgt := 45) dX10_putsBack_105 (by decide) ?_
            exact rn_wk (L' := [some (rf E 99), some (.int x1), some (.int x2_16), none]) (⟨rfl, ⟨rfl, ⟨rfl, trivial⟩⟩⟩) hF
          · replace hF := hF.2 hc_15
            refine rn_aload_n dX10_putsBack_96 rfl ?_
            refine rn_iload_n dX10_putsBack_97 rfl ?_
            refine rm_callV (c0 := 99) (As := [.int x2]) (st := []) mlRX10_193 mdX10_putsIn (Nat.le_of_ble_eq_true rfl) rfl (by decide) (by decide) rfl rfl rfl (Nat.le_of_ble_eq_true rfl) ⟨Nat.le_refl _, Nat.le_refl _⟩ dX10_putsBack_98 ?_
            refine cm_mono hF (fun w H_17 hF => ?_)
            obtain ⟨r_18, rfl, hF⟩ := hF
            refine rn_istore_n dX10_putsBack_101 rfl (by decide) (fun x3_19 ex3_19 => ?_)
            subst ex3_19
            refine rn_iinc (w := (1 : Int32)) dX10_putsBack_102 rfl (by decide) rfl (by decide) (fun x2_20 ex2_20 => ?_)
            replace hF := hF x2_20 ex2_20
            refine rn_goto (tgt := 45) dX10_putsBack_105 (by decide) ?_
            exact rn_wk (L' := [some (rf E 99), some (.int x1), some (.int x2_20), none]) (⟨rfl, ⟨rfl, ⟨rfl, trivial⟩⟩⟩) hF
theorem sgX10_acts_0 {E : En} {Q : Option Value → Hi → Prop} {H : Hi} {x1 : Int32} 
    (hF : ∀ x2_1 : Int32, x2_1 = (x1 / (8 : Int32)) - (x1 / (8 : Int32)) / (8 : Int32) * (8 : Int32) → (∀ x3_2 : Int32, x3_2 = x1 - x1 / (8 : Int32) * (8 : Int32) → (((H 99 6) ≤ x2_1 → (Q (some (.int (0 : Int32))) H)) ∧ (¬ (H 99 6) ≤ x2_1 → ((x3_2 < (H 99 2) → (((64 : Int32) ≤ x1 → (∃ j_6 : Nat, (j_6 < 8 ∧ x3_2 = nI j_6) ∧ (((H 111 j_6) = (8 : Int32) → (∃ j_8 : Nat, (j_8 < 8 ∧ x3_2 = nI j_8) ∧ (∀ H_9 : Hi, H_9 = up H 111 j_8 x2_1 → (∃ j_10 : Nat, (j_10 < 8 ∧ x2_1 = nI j_10) ∧ (∃ j_11 : Nat, (j_11 < 8 ∧ x2_1 = nI j_11) ∧ (∀ H_12 : Hi, H_12 = up H_9 113 j_11 ((H_9 113 j_10) ||| ((1 : Int32) <<< (x3_2 &&& 31))) → (Q (some (.int (1 : Int32))) H_12))))))) ∧ (¬ (H 111 j_6) = (8 : Int32) → (Q (some (.int (0 : Int32))) H))))) ∧ (¬ (64 : Int32) ≤ x1 → (∃ j_13 : Nat, (j_13 < 8 ∧ x3_2 = nI j_13) ∧ ((¬ (H 111 j_13) = x2_1 → (Q (some (.int (0 : Int32))) H)) ∧ ((H 111 j_13) = x2_1 → (Cm E mX10_putsIn [rf E 99, .int x3_2] H (fun w H_15 => ∃ r_16 : Int32, w = some (.int r_16) ∧ ((r_16 = 0 → (Q (some (.int (0 : Int32))) H_15)) ∧ (¬ r_16 = 0 → (Q (some (.int (1 : Int32))) H_15))))))))))) ∧ (¬ x3_2 < (H 99 2) → (Q (some (.int (0 : Int32))) H))))))) :
    Rm E mX10_acts Q 0 [some (rf E 99), some (.int x1), none, none] [] H := by
  refine rn_iload_n dX10_acts_0 rfl ?_
  refine rn_bipush (x := (8 : Int32)) dX10_acts_1 (by decide) ?_
  refine rn_idiv dX10_acts_3 (by decide) ?_
  refine rn_bipush (x := (8 : Int32)) dX10_acts_4 (by decide) ?_
  refine rn_irem dX10_acts_6 (by decide) ?_
  refine rn_istore_n dX10_acts_7 rfl (by decide) (fun x2_1 ex2_1 => ?_)
  replace hF := hF x2_1 ex2_1
  refine rn_iload_n dX10_acts_8 rfl ?_
  refine rn_bipush (x := (8 : Int32)) dX10_acts_9 (by decide) ?_
  refine rn_irem dX10_acts_11 (by decide) ?_
  refine rn_istore_n dX10_acts_12 rfl (by decide) (fun x3_2 ex3_2 => ?_)
  replace hF := hF x3_2 ex3_2
  refine rn_iload_n dX10_acts_13 rfl ?_
  refine rn_aload_n dX10_acts_14 rfl ?_
  refine rm_geti flRX10_128 rfl (by decide) rfl dX10_acts_15 ?_
  refine rn_icmp_ge (tgt := 29) dX10_acts_18 (by decide) (fun hc_3 => ?_) (fun hc_3 => ?_)
  · replace hF := hF.1 hc_3
    refine rn_iconst (x := (0 : Int32)) dX10_acts_29 (by decide) ?_
    exact rm_zret rfl rfl dX10_acts_30 hF
  · replace hF := hF.2 hc_3
    refine rn_iload_n dX10_acts_21 rfl ?_
    refine rn_aload_n dX10_acts_22 rfl ?_
    refine rm_geti flRX10_125 rfl (by decide) rfl dX10_acts_23 ?_
    refine rn_icmp_lt (tgt := 31) dX10_acts_26 (by decide) (fun hc_4 => ?_) (fun hc_4 => ?_)
    · replace hF := hF.1 hc_4
      refine rn_iload_n dX10_acts_31 rfl ?_
      refine rn_bipush (x := (64 : Int32)) dX10_acts_32 (by decide) ?_
      refine rn_icmp_ge (tgt := 61) dX10_acts_34 (by decide) (fun hc_5 => ?_) (fun hc_5 => ?_)
      · replace hF := hF.1 hc_5
        refine rn_aload_n dX10_acts_61 rfl ?_
        refine rm_getr (r := 111) flRX10_43 rfl (by decide) rfl dX10_acts_62 ?_
        refine rn_iload_n dX10_acts_65 rfl ?_
        obtain ⟨j_6, hj_6, hF⟩ := hF
        refine rj_iald hj_6 rfl (by decide) rfl (by decide) dX10_acts_66 ?_
        refine rn_bipush (x := (8 : Int32)) dX10_acts_67 (by decide) ?_
        refine rn_icmp_eq (tgt := 74) dX10_acts_69 (by decide) (fun hc_7 => ?_) (fun hc_7 => ?_)
        · replace hF := hF.1 hc_7
          refine rn_aload_n dX10_acts_74 rfl ?_
          refine rm_getr (r := 111) flRX10_43 rfl (by decide) rfl dX10_acts_75 ?_
          refine rn_iload_n dX10_acts_78 rfl ?_
          refine rn_iload_n dX10_acts_79 rfl ?_
          obtain ⟨j_8, hj_8, hF⟩ := hF
          refine rj_iast hj_8 rfl (by decide) rfl (by decide) dX10_acts_80 (fun H_9 eH_9 => ?_)
          replace hF := hF H_9 eH_9
          refine rn_aload_n dX10_acts_81 rfl ?_
          refine rm_getr (r := 113) flRX10_49 rfl (by decide) rfl dX10_acts_82 ?_
          refine rn_iload_n dX10_acts_85 rfl ?_
          refine rn_dup2 dX10_acts_86 rfl rfl ?_
          obtain ⟨j_10, hj_10, hF⟩ := hF
          refine rj_iald hj_10 rfl (by decide) rfl (by decide) dX10_acts_87 ?_
          refine rn_iconst (x := (1 : Int32)) dX10_acts_88 (by decide) ?_
          refine rn_iload_n dX10_acts_89 rfl ?_
          refine rn_ishl dX10_acts_90 ?_
          refine rn_ior dX10_acts_91 ?_
          obtain ⟨j_11, hj_11, hF⟩ := hF
          refine rj_iast hj_11 rfl (by decide) rfl (by decide) dX10_acts_92 (fun H_12 eH_12 => ?_)
          replace hF := hF H_12 eH_12
          refine rn_iconst (x := (1 : Int32)) dX10_acts_93 (by decide) ?_
          exact rm_zret rfl rfl dX10_acts_94 hF
        · replace hF := hF.2 hc_7
          refine rn_iconst (x := (0 : Int32)) dX10_acts_72 (by decide) ?_
          exact rm_zret rfl rfl dX10_acts_73 hF
      · replace hF := hF.2 hc_5
        refine rn_aload_n dX10_acts_37 rfl ?_
        refine rm_getr (r := 111) flRX10_43 rfl (by decide) rfl dX10_acts_38 ?_
        refine rn_iload_n dX10_acts_41 rfl ?_
        obtain ⟨j_13, hj_13, hF⟩ := hF
        refine rj_iald hj_13 rfl (by decide) rfl (by decide) dX10_acts_42 ?_
        refine rn_iload_n dX10_acts_43 rfl ?_
        refine rn_icmp_ne (tgt := 59) dX10_acts_44 (by decide) (fun hc_14 => ?_) (fun hc_14 => ?_)
        · replace hF := hF.1 hc_14
          refine rn_iconst (x := (0 : Int32)) dX10_acts_59 (by decide) ?_
          exact rm_zret rfl rfl dX10_acts_60 hF
        · replace hF := hF.2 hc_14
          refine rn_aload_n dX10_acts_47 rfl ?_
          refine rn_iload_n dX10_acts_48 rfl ?_
          refine rm_callV (c0 := 99) (As := [.int x3_2]) (st := []) mlRX10_193 mdX10_putsIn (Nat.le_of_ble_eq_true rfl) rfl (by decide) (by decide) rfl rfl rfl (Nat.le_of_ble_eq_true rfl) ⟨Nat.le_refl _, Nat.le_refl _⟩ dX10_acts_49 ?_
          refine cm_mono hF (fun w H_15 hF => ?_)
          obtain ⟨r_16, rfl, hF⟩ := hF
          refine rn_if_eq (tgt := 59) dX10_acts_52 (by decide) (fun hc_17 => ?_) (fun hc_17 => ?_)
          · replace hF := hF.1 hc_17
            refine rn_iconst (x := (0 : Int32)) dX10_acts_59 (by decide) ?_
            exact rm_zret rfl rfl dX10_acts_60 hF
          · replace hF := hF.2 hc_17
            refine rn_iconst (x := (1 : Int32)) dX10_acts_55 (by decide) ?_
            refine rn_goto (tgt := 60) dX10_acts_56 (by decide) ?_
            exact rm_zret rfl rfl dX10_acts_60 hF
    · replace hF := hF.2 hc_4
      refine rn_iconst (x := (0 : Int32)) dX10_acts_29 (by decide) ?_
      exact rm_zret rfl rfl dX10_acts_30 hF
theorem cmX10_acts {E : En} {Q : Option Value → Hi → Prop} {H : Hi} {x1 : Int32} 
    (hF : ∀ x2_1 : Int32, x2_1 = (x1 / (8 : Int32)) - (x1 / (8 : Int32)) / (8 : Int32) * (8 : Int32) → (∀ x3_2 : Int32, x3_2 = x1 - x1 / (8 : Int32) * (8 : Int32) → (((H 99 6) ≤ x2_1 → (Q (some (.int (0 : Int32))) H)) ∧ (¬ (H 99 6) ≤ x2_1 → ((x3_2 < (H 99 2) → (((64 : Int32) ≤ x1 → (∃ j_6 : Nat, (j_6 < 8 ∧ x3_2 = nI j_6) ∧ (((H 111 j_6) = (8 : Int32) → (∃ j_8 : Nat, (j_8 < 8 ∧ x3_2 = nI j_8) ∧ (∀ H_9 : Hi, H_9 = up H 111 j_8 x2_1 → (∃ j_10 : Nat, (j_10 < 8 ∧ x2_1 = nI j_10) ∧ (∃ j_11 : Nat, (j_11 < 8 ∧ x2_1 = nI j_11) ∧ (∀ H_12 : Hi, H_12 = up H_9 113 j_11 ((H_9 113 j_10) ||| ((1 : Int32) <<< (x3_2 &&& 31))) → (Q (some (.int (1 : Int32))) H_12))))))) ∧ (¬ (H 111 j_6) = (8 : Int32) → (Q (some (.int (0 : Int32))) H))))) ∧ (¬ (64 : Int32) ≤ x1 → (∃ j_13 : Nat, (j_13 < 8 ∧ x3_2 = nI j_13) ∧ ((¬ (H 111 j_13) = x2_1 → (Q (some (.int (0 : Int32))) H)) ∧ ((H 111 j_13) = x2_1 → (Cm E mX10_putsIn [rf E 99, .int x3_2] H (fun w H_15 => ∃ r_16 : Int32, w = some (.int r_16) ∧ ((r_16 = 0 → (Q (some (.int (0 : Int32))) H_15)) ∧ (¬ r_16 = 0 → (Q (some (.int (1 : Int32))) H_15))))))))))) ∧ (¬ x3_2 < (H 99 2) → (Q (some (.int (0 : Int32))) H))))))) :
    Cm E mX10_acts [rf E 99, .int x1] H Q :=
  cm_of (by decide +kernel) (Nat.le_of_ble_eq_true rfl) rfl (sgX10_acts_0  hF)
theorem sgX10_handsOf_0 {E : En} {Q : Option Value → Hi → Prop} {H : Hi} {x1 : Int32} 
    (hF : Rm E mX10_handsOf Q 2 [some (rf E 99), some (.int x1), some (.int (0 : Int32))] [] H) :
    Rm E mX10_handsOf Q 0 [some (rf E 99), some (.int x1), none] [] H := by
  refine rn_iconst (x := (0 : Int32)) dX10_handsOf_0 (by decide) ?_
  refine rn_istore_n dX10_handsOf_1 rfl (by decide) (fun x2_1 ex2_1 => ?_)
  subst ex2_1
  exact rn_wk (L' := [some (rf E 99), some (.int x1), some (.int (0 : Int32))]) (⟨rfl, ⟨rfl, ⟨rfl, trivial⟩⟩⟩) hF
theorem cmX10_handsOf {E : En} {Q : Option Value → Hi → Prop} {H : Hi} {x1 : Int32} 
    (hF : Rm E mX10_handsOf Q 2 [some (rf E 99), some (.int x1), some (.int (0 : Int32))] [] H) :
    Cm E mX10_handsOf [rf E 99, .int x1] H Q :=
  cm_of (by decide +kernel) (Nat.le_of_ble_eq_true rfl) rfl (sgX10_handsOf_0  hF)
theorem sgX10_handsOf_2 {E : En} {Q : Option Value → Hi → Prop} {H : Hi} {x1 : Int32} {x2 : Int32} 
    (hF : ((H 99 22) ≤ x2 → (Q none H)) ∧ (¬ (H 99 22) ≤ x2 → (∃ j_2 : Nat, (j_2 < 44 ∧ x2 = nI j_2) ∧ ((¬ (H 107 j_2) = x1 → (∀ x2_4 : Int32, x2_4 = x2 + (1 : Int32) → (Rm E mX10_handsOf Q 2 [some (rf E 99), some (.int x1), some (.int x2_4)] [] H))) ∧ ((H 107 j_2) = x1 → (∃ j_5 : Nat, (j_5 < 44 ∧ x2 = nI j_5) ∧ (Cm E mX10_acts [rf E 99, .int (H 108 j_5)] H (fun w H_6 => ∃ r_7 : Int32, w = some (.int r_7) ∧ (∃ j_8 : Nat, (j_8 < 44 ∧ x2 = nI j_8) ∧ (∀ H_9 : Hi, H_9 = up H_6 115 j_8 (vp_nar .boolean r_7) → (∀ x2_10 : Int32, x2_10 = x2 + (1 : Int32) → (Rm E mX10_handsOf Q 2 [some (rf E 99), some (.int x1), some (.int x2_10)] [] H_9)))))))))))) :
    Rm E mX10_handsOf Q 2 [some (rf E 99), some (.int x1), some (.int x2)] [] H := by
  refine rn_iload_n dX10_handsOf_2 rfl ?_
  refine rn_aload_n dX10_handsOf_3 rfl ?_
  refine rm_geti flRX10_179 rfl (by decide) rfl dX10_handsOf_4 ?_
  refine rn_icmp_ge (tgt := 42) dX10_handsOf_7 (by decide) (fun hc_1 => ?_) (fun hc_1 => ?_)
  · replace hF := hF.1 hc_1
    exact rm_vret rfl dX10_handsOf_42 hF
  · replace hF := hF.2 hc_1
    refine rn_aload_n dX10_handsOf_10 rfl ?_
    refine rm_getr (r := 107) flRX10_31 rfl (by decide) rfl dX10_handsOf_11 ?_
    refine rn_iload_n dX10_handsOf_14 rfl ?_
    obtain ⟨j_2, hj_2, hF⟩ := hF
    refine rj_iald hj_2 rfl (by decide) rfl (by decide) dX10_handsOf_15 ?_
    refine rn_iload_n dX10_handsOf_16 rfl ?_
    refine rn_icmp_ne (tgt := 36) dX10_handsOf_17 (by decide) (fun hc_3 => ?_) (fun hc_3 => ?_)
    · replace hF := hF.1 hc_3
      refine rn_iinc (w := (1 : Int32)) dX10_handsOf_36 rfl (by decide) rfl (by decide) (fun x2_4 ex2_4 => ?_)
      replace hF := hF x2_4 ex2_4
      refine rn_goto (tgt := 2) dX10_handsOf_39 (by decide) ?_
      exact rn_wk (L' := [some (rf E 99), some (.int x1), some (.int x2_4)]) (⟨rfl, ⟨rfl, ⟨rfl, trivial⟩⟩⟩) hF
    · replace hF := hF.2 hc_3
      refine rn_aload_n dX10_handsOf_20 rfl ?_
      refine rm_getr (r := 115) flRX10_55 rfl (by decide) rfl dX10_handsOf_21 ?_
      refine rn_iload_n dX10_handsOf_24 rfl ?_
      refine rn_aload_n dX10_handsOf_25 rfl ?_
      refine rn_aload_n dX10_handsOf_26 rfl ?_
      refine rm_getr (r := 108) flRX10_34 rfl (by decide) rfl dX10_handsOf_27 ?_
      refine rn_iload_n dX10_handsOf_30 rfl ?_
      obtain ⟨j_5, hj_5, hF⟩ := hF
      refine rj_iald hj_5 rfl (by decide) rfl (by decide) dX10_handsOf_31 ?_
      refine rm_callV (c0 := 99) (As := [.int (H 108 j_5)]) (st := [.int x2, rf E 115]) mlRX10_196 mdX10_acts (Nat.le_of_ble_eq_true rfl) rfl (by decide) (by decide) rfl rfl rfl (Nat.le_of_ble_eq_true rfl) ⟨Nat.le_refl _, Nat.le_refl _⟩ dX10_handsOf_32 ?_
      refine cm_mono hF (fun w H_6 hF => ?_)
      obtain ⟨r_7, rfl, hF⟩ := hF
      obtain ⟨j_8, hj_8, hF⟩ := hF
      refine rj_zast hj_8 rfl (by decide) rfl (by decide) dX10_handsOf_35 (fun H_9 eH_9 => ?_)
      replace hF := hF H_9 eH_9
      refine rn_iinc (w := (1 : Int32)) dX10_handsOf_36 rfl (by decide) rfl (by decide) (fun x2_10 ex2_10 => ?_)
      replace hF := hF x2_10 ex2_10
      refine rn_goto (tgt := 2) dX10_handsOf_39 (by decide) ?_
      exact rn_wk (L' := [some (rf E 99), some (.int x1), some (.int x2_10)]) (⟨rfl, ⟨rfl, ⟨rfl, trivial⟩⟩⟩) hF
theorem sgX10_ends_0 {E : En} {Q : Option Value → Hi → Prop} {H : Hi} {x1 : Int32} 
    (hF : Rm E mX10_ends Q 2 [some (rf E 99), some (.int x1), some (.int (0 : Int32)), none, none] [] H) :
    Rm E mX10_ends Q 0 [some (rf E 99), some (.int x1), none, none, none] [] H := by
  refine rn_iconst (x := (0 : Int32)) dX10_ends_0 (by decide) ?_
  refine rn_istore_n dX10_ends_1 rfl (by decide) (fun x2_1 ex2_1 => ?_)
  subst ex2_1
  exact rn_wk (L' := [some (rf E 99), some (.int x1), some (.int (0 : Int32)), none, none]) (⟨rfl, ⟨rfl, ⟨rfl, trivial⟩⟩⟩) hF
theorem cmX10_ends {E : En} {Q : Option Value → Hi → Prop} {H : Hi} {x1 : Int32} 
    (hF : Rm E mX10_ends Q 2 [some (rf E 99), some (.int x1), some (.int (0 : Int32)), none, none] [] H) :
    Cm E mX10_ends [rf E 99, .int x1] H Q :=
  cm_of (by decide +kernel) (Nat.le_of_ble_eq_true rfl) rfl (sgX10_ends_0  hF)
theorem sgX10_ends_2 {E : En} {Q : Option Value → Hi → Prop} {H : Hi} {x1 : Int32} {x2 : Int32} 
    (hF : ((H 99 14) ≤ x2 → (Rm E mX10_ends Q 99 [some (rf E 99), some (.int x1), some (.int (0 : Int32)), none, none] [] H)) ∧ (¬ (H 99 14) ≤ x2 → (Rm E mX10_ends Q 12 [some (rf E 99), some (.int x1), some (.int x2), some (.int (0 : Int32)), none] [] H))) :
    Rm E mX10_ends Q 2 [some (rf E 99), some (.int x1), some (.int x2), none, none] [] H := by
  refine rn_iload_n dX10_ends_2 rfl ?_
  refine rn_aload_n dX10_ends_3 rfl ?_
  refine rm_geti flRX10_166 rfl (by decide) rfl dX10_ends_4 ?_
  refine rn_icmp_ge (tgt := 97) dX10_ends_7 (by decide) (fun hc_1 => ?_) (fun hc_1 => ?_)
  · replace hF := hF.1 hc_1
    refine rn_iconst (x := (0 : Int32)) dX10_ends_97 (by decide) ?_
    refine rn_istore_n dX10_ends_98 rfl (by decide) (fun x2_2 ex2_2 => ?_)
    subst ex2_2
    exact rn_wk (L' := [some (rf E 99), some (.int x1), some (.int (0 : Int32)), none, none]) (⟨rfl, ⟨rfl, ⟨rfl, trivial⟩⟩⟩) hF
  · replace hF := hF.2 hc_1
    refine rn_iconst (x := (0 : Int32)) dX10_ends_10 (by decide) ?_
    refine rn_istore_n dX10_ends_11 rfl (by decide) (fun x3_3 ex3_3 => ?_)
    subst ex3_3
    exact rn_wk (L' := [some (rf E 99), some (.int x1), some (.int x2), some (.int (0 : Int32)), none]) (⟨rfl, ⟨rfl, ⟨rfl, ⟨rfl, trivial⟩⟩⟩⟩) hF
theorem sgX10_ends_99 {E : En} {Q : Option Value → Hi → Prop} {H : Hi} {x1 : Int32} {x2 : Int32} 
    (hF : ((H 99 2) ≤ x2 → (Q none H)) ∧ (¬ (H 99 2) ≤ x2 → (∃ j_2 : Nat, (j_2 < 9 ∧ x2 = nI j_2) ∧ ((¬ (H 104 j_2) = (1 : Int32) → (Rm E mX10_ends Q 145 [some (rf E 99), some (.int x1), some (.int x2), none, none] [.int (0 : Int32), .int x2, rf E 112] H)) ∧ ((H 104 j_2) = (1 : Int32) → (∃ j_4 : Nat, (j_4 < 8 ∧ x2 = nI j_4) ∧ ((¬ (H 111 j_4) = (8 : Int32) → (Rm E mX10_ends Q 145 [some (rf E 99), some (.int x1), some (.int x2), none, none] [.int (0 : Int32), .int x2, rf E 112] H)) ∧ ((H 111 j_4) = (8 : Int32) → (∃ j_6 : Nat, (j_6 < 8 ∧ x2 = nI j_6) ∧ (Rm E mX10_ends Q 145 [some (rf E 99), some (.int x1), some (.int x2), none, none] [.int ((H 112 j_6) + (1 : Int32)), .int x2, rf E 112] H)))))))))) :
    Rm E mX10_ends Q 99 [some (rf E 99), some (.int x1), some (.int x2), none, none] [] H := by
  refine rn_iload_n dX10_ends_99 rfl ?_
  refine rn_aload_n dX10_ends_100 rfl ?_
  refine rm_geti flRX10_125 rfl (by decide) rfl dX10_ends_101 ?_
  refine rn_icmp_ge (tgt := 226) dX10_ends_104 (by decide) (fun hc_1 => ?_) (fun hc_1 => ?_)
  · replace hF := hF.1 hc_1
    exact rm_vret rfl dX10_ends_226 hF
  · replace hF := hF.2 hc_1
    refine rn_aload_n dX10_ends_107 rfl ?_
    refine rm_getr (r := 112) flRX10_46 rfl (by decide) rfl dX10_ends_108 ?_
    refine rn_iload_n dX10_ends_111 rfl ?_
    refine rn_aload_n dX10_ends_112 rfl ?_
    refine rm_getr (r := 104) flRX10_22 rfl (by decide) rfl dX10_ends_113 ?_
    refine rn_iload_n dX10_ends_116 rfl ?_
    obtain ⟨j_2, hj_2, hF⟩ := hF
    refine rj_iald hj_2 rfl (by decide) rfl (by decide) dX10_ends_117 ?_
    refine rn_iconst (x := (1 : Int32)) dX10_ends_118 (by decide) ?_
    refine rn_icmp_ne (tgt := 144) dX10_ends_119 (by decide) (fun hc_3 => ?_) (fun hc_3 => ?_)
    · replace hF := hF.1 hc_3
      refine rn_iconst (x := (0 : Int32)) dX10_ends_144 (by decide) ?_
      exact rn_wk (L' := [some (rf E 99), some (.int x1), some (.int x2), none, none]) (⟨rfl, ⟨rfl, ⟨rfl, trivial⟩⟩⟩) hF
    · replace hF := hF.2 hc_3
      refine rn_aload_n dX10_ends_122 rfl ?_
      refine rm_getr (r := 111) flRX10_43 rfl (by decide) rfl dX10_ends_123 ?_
      refine rn_iload_n dX10_ends_126 rfl ?_
      obtain ⟨j_4, hj_4, hF⟩ := hF
      refine rj_iald hj_4 rfl (by decide) rfl (by decide) dX10_ends_127 ?_
      refine rn_bipush (x := (8 : Int32)) dX10_ends_128 (by decide) ?_
      refine rn_icmp_ne (tgt := 144) dX10_ends_130 (by decide) (fun hc_5 => ?_) (fun hc_5 => ?_)
      · replace hF := hF.1 hc_5
        refine rn_iconst (x := (0 : Int32)) dX10_ends_144 (by decide) ?_
        exact rn_wk (L' := [some (rf E 99), some (.int x1), some (.int x2), none, none]) (⟨rfl, ⟨rfl, ⟨rfl, trivial⟩⟩⟩) hF
      · replace hF := hF.2 hc_5
        refine rn_aload_n dX10_ends_133 rfl ?_
        refine rm_getr (r := 112) flRX10_46 rfl (by decide) rfl dX10_ends_134 ?_
        refine rn_iload_n dX10_ends_137 rfl ?_
        obtain ⟨j_6, hj_6, hF⟩ := hF
        refine rj_iald hj_6 rfl (by decide) rfl (by decide) dX10_ends_138 ?_
        refine rn_iconst (x := (1 : Int32)) dX10_ends_139 (by decide) ?_
        refine rn_iadd dX10_ends_140 ?_
        refine rn_goto (tgt := 145) dX10_ends_141 (by decide) ?_
        exact rn_wk (L' := [some (rf E 99), some (.int x1), some (.int x2), none, none]) (⟨rfl, ⟨rfl, ⟨rfl, trivial⟩⟩⟩) hF
theorem sgX10_ends_12 {E : En} {Q : Option Value → Hi → Prop} {H : Hi} {x1 : Int32} {x2 : Int32} {x3 : Int32} 
    (hF : ((H 99 2) ≤ x3 → (∀ x2_2 : Int32, x2_2 = x2 + (1 : Int32) → (Rm E mX10_ends Q 2 [some (rf E 99), some (.int x1), some (.int x2_2), none, none] [] H))) ∧ (¬ (H 99 2) ≤ x3 → (∃ j_3 : Nat, (j_3 < 6 ∧ x2 = nI j_3) ∧ ((¬ (H 109 j_3) = x1 → (Rm E mX10_ends Q 61 [some (rf E 99), some (.int x1), some (.int x2), some (.int x3), none] [.int (0 : Int32)] H)) ∧ ((H 109 j_3) = x1 → (∃ j_5 : Nat, (j_5 < 8 ∧ x3 = nI j_5) ∧ ((¬ (H 111 j_5) = (8 : Int32) → (Rm E mX10_ends Q 61 [some (rf E 99), some (.int x1), some (.int x2), some (.int x3), none] [.int (0 : Int32)] H)) ∧ ((H 111 j_5) = (8 : Int32) → (∃ j_7 : Nat, (j_7 < 9 ∧ x3 = nI j_7) ∧ (∃ j_8 : Nat, (j_8 < 6 ∧ x2 = nI j_8) ∧ (((H 110 j_8) < (H 102 j_7) → (Rm E mX10_ends Q 61 [some (rf E 99), some (.int x1), some (.int x2), some (.int x3), none] [.int (0 : Int32)] H)) ∧ (¬ (H 110 j_8) < (H 102 j_7) → (Rm E mX10_ends Q 61 [some (rf E 99), some (.int x1), some (.int x2), some (.int x3), none] [.int (1 : Int32)] H))))))))))))) :
    Rm E mX10_ends Q 12 [some (rf E 99), some (.int x1), some (.int x2), some (.int x3), none] [] H := by
  refine rn_iload_n dX10_ends_12 rfl ?_
  refine rn_aload_n dX10_ends_13 rfl ?_
  refine rm_geti flRX10_125 rfl (by decide) rfl dX10_ends_14 ?_
  refine rn_icmp_ge (tgt := 91) dX10_ends_17 (by decide) (fun hc_1 => ?_) (fun hc_1 => ?_)
  · replace hF := hF.1 hc_1
    refine rn_iinc (w := (1 : Int32)) dX10_ends_91 rfl (by decide) rfl (by decide) (fun x2_2 ex2_2 => ?_)
    replace hF := hF x2_2 ex2_2
    refine rn_goto (tgt := 2) dX10_ends_94 (by decide) ?_
    exact rn_wk (L' := [some (rf E 99), some (.int x1), some (.int x2_2), none, none]) (⟨rfl, ⟨rfl, ⟨rfl, trivial⟩⟩⟩) hF
  · replace hF := hF.2 hc_1
    refine rn_aload_n dX10_ends_20 rfl ?_
    refine rm_getr (r := 109) flRX10_37 rfl (by decide) rfl dX10_ends_21 ?_
    refine rn_iload_n dX10_ends_24 rfl ?_
    obtain ⟨j_3, hj_3, hF⟩ := hF
    refine rj_iald hj_3 rfl (by decide) rfl (by decide) dX10_ends_25 ?_
    refine rn_iload_n dX10_ends_26 rfl ?_
    refine rn_icmp_ne (tgt := 60) dX10_ends_27 (by decide) (fun hc_4 => ?_) (fun hc_4 => ?_)
    · replace hF := hF.1 hc_4
      refine rn_iconst (x := (0 : Int32)) dX10_ends_60 (by decide) ?_
      exact rn_wk (L' := [some (rf E 99), some (.int x1), some (.int x2), some (.int x3), none]) (⟨rfl, ⟨rfl, ⟨rfl, ⟨rfl, trivial⟩⟩⟩⟩) hF
    · replace hF := hF.2 hc_4
      refine rn_aload_n dX10_ends_30 rfl ?_
      refine rm_getr (r := 111) flRX10_43 rfl (by decide) rfl dX10_ends_31 ?_
      refine rn_iload_n dX10_ends_34 rfl ?_
      obtain ⟨j_5, hj_5, hF⟩ := hF
      refine rj_iald hj_5 rfl (by decide) rfl (by decide) dX10_ends_35 ?_
      refine rn_bipush (x := (8 : Int32)) dX10_ends_36 (by decide) ?_
      refine rn_icmp_ne (tgt := 60) dX10_ends_38 (by decide) (fun hc_6 => ?_) (fun hc_6 => ?_)
      · replace hF := hF.1 hc_6
        refine rn_iconst (x := (0 : Int32)) dX10_ends_60 (by decide) ?_
        exact rn_wk (L' := [some (rf E 99), some (.int x1), some (.int x2), some (.int x3), none]) (⟨rfl, ⟨rfl, ⟨rfl, ⟨rfl, trivial⟩⟩⟩⟩) hF
      · replace hF := hF.2 hc_6
        refine rn_aload_n dX10_ends_41 rfl ?_
        refine rm_getr (r := 102) flRX10_16 rfl (by decide) rfl dX10_ends_42 ?_
        refine rn_iload_n dX10_ends_45 rfl ?_
        obtain ⟨j_7, hj_7, hF⟩ := hF
        refine rj_iald hj_7 rfl (by decide) rfl (by decide) dX10_ends_46 ?_
        refine rn_aload_n dX10_ends_47 rfl ?_
        refine rm_getr (r := 110) flRX10_40 rfl (by decide) rfl dX10_ends_48 ?_
        refine rn_iload_n dX10_ends_51 rfl ?_
        obtain ⟨j_8, hj_8, hF⟩ := hF
        refine rj_iald hj_8 rfl (by decide) rfl (by decide) dX10_ends_52 ?_
        refine rn_icmp_gt (tgt := 60) dX10_ends_53 (by decide) (fun hc_9 => ?_) (fun hc_9 => ?_)
        · replace hF := hF.1 hc_9
          refine rn_iconst (x := (0 : Int32)) dX10_ends_60 (by decide) ?_
          exact rn_wk (L' := [some (rf E 99), some (.int x1), some (.int x2), some (.int x3), none]) (⟨rfl, ⟨rfl, ⟨rfl, ⟨rfl, trivial⟩⟩⟩⟩) hF
        · replace hF := hF.2 hc_9
          refine rn_iconst (x := (1 : Int32)) dX10_ends_56 (by decide) ?_
          refine rn_goto (tgt := 61) dX10_ends_57 (by decide) ?_
          exact rn_wk (L' := [some (rf E 99), some (.int x1), some (.int x2), some (.int x3), none]) (⟨rfl, ⟨rfl, ⟨rfl, ⟨rfl, trivial⟩⟩⟩⟩) hF
theorem sgX10_ends_145 {E : En} {Q : Option Value → Hi → Prop} {H : Hi} {x1 : Int32} {x2 : Int32} {t1 : Int32} {t2 : Int32} 
    (hF : ∃ j_1 : Nat, (j_1 < 8 ∧ t1 = nI j_1) ∧ (∀ H_2 : Hi, H_2 = up H 112 j_1 t2 → (∃ j_3 : Nat, (j_3 < 8 ∧ x2 = nI j_3) ∧ ((¬ (H_2 112 j_3) = (3 : Int32) → (∃ j_5 : Nat, (j_5 < 8 ∧ x2 = nI j_5) ∧ (Rm E mX10_ends Q 172 [some (rf E 99), some (.int x1), some (.int x2), none, none] [.int (H_2 111 j_5), .int x2, rf E 111] H_2))) ∧ ((H_2 112 j_3) = (3 : Int32) → (Rm E mX10_ends Q 172 [some (rf E 99), some (.int x1), some (.int x2), none, none] [.int (9 : Int32), .int x2, rf E 111] H_2)))))) :
    Rm E mX10_ends Q 145 [some (rf E 99), some (.int x1), some (.int x2), none, none] [.int t2, .int t1, rf E 112] H := by
  obtain ⟨j_1, hj_1, hF⟩ := hF
  refine rj_iast hj_1 rfl (by decide) rfl (by decide) dX10_ends_145 (fun H_2 eH_2 => ?_)
  replace hF := hF H_2 eH_2
  refine rn_aload_n dX10_ends_146 rfl ?_
  refine rm_getr (r := 111) flRX10_43 rfl (by decide) rfl dX10_ends_147 ?_
  refine rn_iload_n dX10_ends_150 rfl ?_
  refine rn_aload_n dX10_ends_151 rfl ?_
  refine rm_getr (r := 112) flRX10_46 rfl (by decide) rfl dX10_ends_152 ?_
  refine rn_iload_n dX10_ends_155 rfl ?_
  obtain ⟨j_3, hj_3, hF⟩ := hF
  refine rj_iald hj_3 rfl (by decide) rfl (by decide) dX10_ends_156 ?_
  refine rn_iconst (x := (3 : Int32)) dX10_ends_157 (by decide) ?_
  refine rn_icmp_ne (tgt := 166) dX10_ends_158 (by decide) (fun hc_4 => ?_) (fun hc_4 => ?_)
  · replace hF := hF.1 hc_4
    refine rn_aload_n dX10_ends_166 rfl ?_
    refine rm_getr (r := 111) flRX10_43 rfl (by decide) rfl dX10_ends_167 ?_
    refine rn_iload_n dX10_ends_170 rfl ?_
    obtain ⟨j_5, hj_5, hF⟩ := hF
    refine rj_iald hj_5 rfl (by decide) rfl (by decide) dX10_ends_171 ?_
    exact rn_wk (L' := [some (rf E 99), some (.int x1), some (.int x2), none, none]) (⟨rfl, ⟨rfl, ⟨rfl, trivial⟩⟩⟩) hF
  · replace hF := hF.2 hc_4
    refine rn_bipush (x := (9 : Int32)) dX10_ends_161 (by decide) ?_
    refine rn_goto (tgt := 172) dX10_ends_163 (by decide) ?_
    exact rn_wk (L' := [some (rf E 99), some (.int x1), some (.int x2), none, none]) (⟨rfl, ⟨rfl, ⟨rfl, trivial⟩⟩⟩) hF
theorem sgX10_ends_61 {E : En} {Q : Option Value → Hi → Prop} {H : Hi} {x1 : Int32} {x2 : Int32} {x3 : Int32} {t0 : Int32} 
    (hF : (t0 = 0 → (∃ j_3 : Nat, (j_3 < 8 ∧ x3 = nI j_3) ∧ (Rm E mX10_ends Q 84 [some (rf E 99), some (.int x1), some (.int x2), some (.int x3), none] [.int (H 111 j_3), .int x3, rf E 111] H))) ∧ (¬ t0 = 0 → (Rm E mX10_ends Q 84 [some (rf E 99), some (.int x1), some (.int x2), some (.int x3), none] [.int (9 : Int32), .int x3, rf E 111] H))) :
    Rm E mX10_ends Q 61 [some (rf E 99), some (.int x1), some (.int x2), some (.int x3), none] [.int t0] H := by
  refine rn_istore dX10_ends_61 rfl (by decide) (fun x4_1 ex4_1 => ?_)
  subst ex4_1
  refine rn_aload_n dX10_ends_63 rfl ?_
  refine rm_getr (r := 111) flRX10_43 rfl (by decide) rfl dX10_ends_64 ?_
  refine rn_iload_n dX10_ends_67 rfl ?_
  refine rn_iload dX10_ends_68 rfl ?_
  refine rn_if_eq (tgt := 78) dX10_ends_70 (by decide) (fun hc_2 => ?_) (fun hc_2 => ?_)
  · replace hF := hF.1 hc_2
    refine rn_aload_n dX10_ends_78 rfl ?_
    refine rm_getr (r := 111) flRX10_43 rfl (by decide) rfl dX10_ends_79 ?_
    refine rn_iload_n dX10_ends_82 rfl ?_
    obtain ⟨j_3, hj_3, hF⟩ := hF
    refine rj_iald hj_3 rfl (by decide) rfl (by decide) dX10_ends_83 ?_
    exact rn_wk (L' := [some (rf E 99), some (.int x1), some (.int x2), some (.int x3), none]) (⟨rfl, ⟨rfl, ⟨rfl, ⟨rfl, trivial⟩⟩⟩⟩) hF
  · replace hF := hF.2 hc_2
    refine rn_bipush (x := (9 : Int32)) dX10_ends_73 (by decide) ?_
    refine rn_goto (tgt := 84) dX10_ends_75 (by decide) ?_
    exact rn_wk (L' := [some (rf E 99), some (.int x1), some (.int x2), some (.int x3), none]) (⟨rfl, ⟨rfl, ⟨rfl, ⟨rfl, trivial⟩⟩⟩⟩) hF
theorem sgX10_ends_172 {E : En} {Q : Option Value → Hi → Prop} {H : Hi} {x1 : Int32} {x2 : Int32} {t1 : Int32} {t2 : Int32} 
    (hF : ∃ j_1 : Nat, (j_1 < 8 ∧ t1 = nI j_1) ∧ (∀ H_2 : Hi, H_2 = up H 111 j_1 t2 → (Cm E mX10_isIn [.int (H_2 99 23), .int x1] H_2 (fun w H_3 => ∃ r_4 : Int32, w = some (.int r_4) ∧ ((r_4 = 0 → (∀ x2_6 : Int32, x2_6 = x2 + (1 : Int32) → (Rm E mX10_ends Q 99 [some (rf E 99), some (.int x1), some (.int x2_6), none, none] [] H_3))) ∧ (¬ r_4 = 0 → (∃ j_7 : Nat, (j_7 < 8 ∧ x2 = nI j_7) ∧ ((¬ (H_3 111 j_7) = (8 : Int32) → (∀ x2_9 : Int32, x2_9 = x2 + (1 : Int32) → (Rm E mX10_ends Q 99 [some (rf E 99), some (.int x1), some (.int x2_9), none, none] [] H_3))) ∧ ((H_3 111 j_7) = (8 : Int32) → (∃ j_10 : Nat, (j_10 < 9 ∧ x2 = nI j_10) ∧ (((H_3 99 6) ≤ (H_3 103 j_10) → (∀ x2_12 : Int32, x2_12 = x2 + (1 : Int32) → (Rm E mX10_ends Q 99 [some (rf E 99), some (.int x1), some (.int x2_12), none, none] [] H_3))) ∧ (¬ (H_3 99 6) ≤ (H_3 103 j_10) → (∃ j_13 : Nat, (j_13 < 9 ∧ x2 = nI j_13) ∧ (∃ j_14 : Nat, (j_14 < 8 ∧ x2 = nI j_14) ∧ (∀ H_15 : Hi, H_15 = up H_3 111 j_14 (H_3 103 j_13) → (Rm E mX10_ends Q 220 [some (rf E 99), some (.int x1), some (.int x2), none, none] [] H_15)))))))))))))))) :
    Rm E mX10_ends Q 172 [some (rf E 99), some (.int x1), some (.int x2), none, none] [.int t2, .int t1, rf E 111] H := by
  obtain ⟨j_1, hj_1, hF⟩ := hF
  refine rj_iast hj_1 rfl (by decide) rfl (by decide) dX10_ends_172 (fun H_2 eH_2 => ?_)
  replace hF := hF H_2 eH_2
  refine rn_aload_n dX10_ends_173 rfl ?_
  refine rm_geti flRX10_182 rfl (by decide) rfl dX10_ends_174 ?_
  refine rn_iload_n dX10_ends_177 rfl ?_
  refine rm_callS (As := [.int (H_2 99 23), .int x1]) (st := []) mlRX10_189 mdX10_isIn (Nat.le_of_ble_eq_true rfl) rfl rfl (Nat.le_of_ble_eq_true rfl) ⟨Nat.le_refl _, Nat.le_refl _⟩ dX10_ends_178 ?_
  refine cm_mono hF (fun w H_3 hF => ?_)
  obtain ⟨r_4, rfl, hF⟩ := hF
  refine rn_if_eq (tgt := 220) dX10_ends_181 (by decide) (fun hc_5 => ?_) (fun hc_5 => ?_)
  · replace hF := hF.1 hc_5
    refine rn_iinc (w := (1 : Int32)) dX10_ends_220 rfl (by decide) rfl (by decide) (fun x2_6 ex2_6 => ?_)
    replace hF := hF x2_6 ex2_6
    refine rn_goto (tgt := 99) dX10_ends_223 (by decide) ?_
    exact rn_wk (L' := [some (rf E 99), some (.int x1), some (.int x2_6), none, none]) (⟨rfl, ⟨rfl, ⟨rfl, trivial⟩⟩⟩) hF
  · replace hF := hF.2 hc_5
    refine rn_aload_n dX10_ends_184 rfl ?_
    refine rm_getr (r := 111) flRX10_43 rfl (by decide) rfl dX10_ends_185 ?_
    refine rn_iload_n dX10_ends_188 rfl ?_
    obtain ⟨j_7, hj_7, hF⟩ := hF
    refine rj_iald hj_7 rfl (by decide) rfl (by decide) dX10_ends_189 ?_
    refine rn_bipush (x := (8 : Int32)) dX10_ends_190 (by decide) ?_
    refine rn_icmp_ne (tgt := 220) dX10_ends_192 (by decide) (fun hc_8 => ?_) (fun hc_8 => ?_)
    · replace hF := hF.1 hc_8
      refine rn_iinc (w := (1 : Int32)) dX10_ends_220 rfl (by decide) rfl (by decide) (fun x2_9 ex2_9 => ?_)
      replace hF := hF x2_9 ex2_9
      refine rn_goto (tgt := 99) dX10_ends_223 (by decide) ?_
      exact rn_wk (L' := [some (rf E 99), some (.int x1), some (.int x2_9), none, none]) (⟨rfl, ⟨rfl, ⟨rfl, trivial⟩⟩⟩) hF
    · replace hF := hF.2 hc_8
      refine rn_aload_n dX10_ends_195 rfl ?_
      refine rm_getr (r := 103) flRX10_19 rfl (by decide) rfl dX10_ends_196 ?_
      refine rn_iload_n dX10_ends_199 rfl ?_
      obtain ⟨j_10, hj_10, hF⟩ := hF
      refine rj_iald hj_10 rfl (by decide) rfl (by decide) dX10_ends_200 ?_
      refine rn_aload_n dX10_ends_201 rfl ?_
      refine rm_geti flRX10_128 rfl (by decide) rfl dX10_ends_202 ?_
      refine rn_icmp_ge (tgt := 220) dX10_ends_205 (by decide) (fun hc_11 => ?_) (fun hc_11 => ?_)
      · replace hF := hF.1 hc_11
        refine rn_iinc (w := (1 : Int32)) dX10_ends_220 rfl (by decide) rfl (by decide) (fun x2_12 ex2_12 => ?_)
        replace hF := hF x2_12 ex2_12
        refine rn_goto (tgt := 99) dX10_ends_223 (by decide) ?_
        exact rn_wk (L' := [some (rf E 99), some (.int x1), some (.int x2_12), none, none]) (⟨rfl, ⟨rfl, ⟨rfl, trivial⟩⟩⟩) hF
      · replace hF := hF.2 hc_11
        refine rn_aload_n dX10_ends_208 rfl ?_
        refine rm_getr (r := 111) flRX10_43 rfl (by decide) rfl dX10_ends_209 ?_
        refine rn_iload_n dX10_ends_212 rfl ?_
        refine rn_aload_n dX10_ends_213 rfl ?_
        refine rm_getr (r := 103) flRX10_19 rfl (by decide) rfl dX10_ends_214 ?_
        refine rn_iload_n dX10_ends_217 rfl ?_
        obtain ⟨j_13, hj_13, hF⟩ := hF
        refine rj_iald hj_13 rfl (by decide) rfl (by decide) dX10_ends_218 ?_
        obtain ⟨j_14, hj_14, hF⟩ := hF
        refine rj_iast hj_14 rfl (by decide) rfl (by decide) dX10_ends_219 (fun H_15 eH_15 => ?_)
        replace hF := hF H_15 eH_15
        exact rn_wk (L' := [some (rf E 99), some (.int x1), some (.int x2), none, none]) (⟨rfl, ⟨rfl, ⟨rfl, trivial⟩⟩⟩) hF
theorem sgX10_ends_84 {E : En} {Q : Option Value → Hi → Prop} {H : Hi} {x1 : Int32} {x2 : Int32} {x3 : Int32} {t1 : Int32} {t2 : Int32} 
    (hF : ∃ j_1 : Nat, (j_1 < 8 ∧ t1 = nI j_1) ∧ (∀ H_2 : Hi, H_2 = up H 111 j_1 t2 → (∀ x3_3 : Int32, x3_3 = x3 + (1 : Int32) → (Rm E mX10_ends Q 12 [some (rf E 99), some (.int x1), some (.int x2), some (.int x3_3), none] [] H_2)))) :
    Rm E mX10_ends Q 84 [some (rf E 99), some (.int x1), some (.int x2), some (.int x3), none] [.int t2, .int t1, rf E 111] H := by
  obtain ⟨j_1, hj_1, hF⟩ := hF
  refine rj_iast hj_1 rfl (by decide) rfl (by decide) dX10_ends_84 (fun H_2 eH_2 => ?_)
  replace hF := hF H_2 eH_2
  refine rn_iinc (w := (1 : Int32)) dX10_ends_85 rfl (by decide) rfl (by decide) (fun x3_3 ex3_3 => ?_)
  replace hF := hF x3_3 ex3_3
  refine rn_goto (tgt := 12) dX10_ends_88 (by decide) ?_
  exact rn_wk (L' := [some (rf E 99), some (.int x1), some (.int x2), some (.int x3_3), none]) (⟨rfl, ⟨rfl, ⟨rfl, ⟨rfl, trivial⟩⟩⟩⟩) hF
theorem sgX10_ends_220 {E : En} {Q : Option Value → Hi → Prop} {H : Hi} {x1 : Int32} {x2 : Int32} 
    (hF : ∀ x2_1 : Int32, x2_1 = x2 + (1 : Int32) → (Rm E mX10_ends Q 99 [some (rf E 99), some (.int x1), some (.int x2_1), none, none] [] H)) :
    Rm E mX10_ends Q 220 [some (rf E 99), some (.int x1), some (.int x2), none, none] [] H := by
  refine rn_iinc (w := (1 : Int32)) dX10_ends_220 rfl (by decide) rfl (by decide) (fun x2_1 ex2_1 => ?_)
  replace hF := hF x2_1 ex2_1
  refine rn_goto (tgt := 99) dX10_ends_223 (by decide) ?_
  exact rn_wk (L' := [some (rf E 99), some (.int x1), some (.int x2_1), none, none]) (⟨rfl, ⟨rfl, ⟨rfl, trivial⟩⟩⟩) hF
theorem sgX10_goesBy_0 {E : En} {Q : Option Value → Hi → Prop} {H : Hi} {x1 : Int32} 
    (hF : Cm E mX10_putsBack [rf E 99] H (fun w H_1 => w = none ∧ (Cm E mX10_handsOf [rf E 99, .int x1] H_1 (fun w H_2 => w = none ∧ (Cm E mX10_ends [rf E 99, .int x1] H_2 (fun w H_3 => w = none ∧ (Q none H_3))))))) :
    Rm E mX10_goesBy Q 0 [some (rf E 99), some (.int x1)] [] H := by
  refine rn_aload_n dX10_goesBy_0 rfl ?_
  refine rm_callV (c0 := 99) (As := []) (st := []) mlRX10_199 mdX10_putsBack (Nat.le_of_ble_eq_true rfl) rfl (by decide) (by decide) rfl rfl rfl (Nat.le_of_ble_eq_true rfl) ⟨Nat.le_refl _, Nat.le_refl _⟩ dX10_goesBy_1 ?_
  refine cm_mono hF (fun w H_1 hF => ?_)
  obtain ⟨rfl, hF⟩ := hF
  refine rn_aload_n dX10_goesBy_4 rfl ?_
  refine rn_iload_n dX10_goesBy_5 rfl ?_
  refine rm_callV (c0 := 99) (As := [.int x1]) (st := []) mlRX10_202 mdX10_handsOf (Nat.le_of_ble_eq_true rfl) rfl (by decide) (by decide) rfl rfl rfl (Nat.le_of_ble_eq_true rfl) ⟨Nat.le_refl _, Nat.le_refl _⟩ dX10_goesBy_6 ?_
  refine cm_mono hF (fun w H_2 hF => ?_)
  obtain ⟨rfl, hF⟩ := hF
  refine rn_aload_n dX10_goesBy_9 rfl ?_
  refine rn_iload_n dX10_goesBy_10 rfl ?_
  refine rm_callV (c0 := 99) (As := [.int x1]) (st := []) mlRX10_206 mdX10_ends (Nat.le_of_ble_eq_true rfl) rfl (by decide) (by decide) rfl rfl rfl (Nat.le_of_ble_eq_true rfl) ⟨Nat.le_refl _, Nat.le_refl _⟩ dX10_goesBy_11 ?_
  refine cm_mono hF (fun w H_3 hF => ?_)
  obtain ⟨rfl, hF⟩ := hF
  exact rm_vret rfl dX10_goesBy_14 hF
theorem cmX10_goesBy {E : En} {Q : Option Value → Hi → Prop} {H : Hi} {x1 : Int32} 
    (hF : Cm E mX10_putsBack [rf E 99] H (fun w H_1 => w = none ∧ (Cm E mX10_handsOf [rf E 99, .int x1] H_1 (fun w H_2 => w = none ∧ (Cm E mX10_ends [rf E 99, .int x1] H_2 (fun w H_3 => w = none ∧ (Q none H_3))))))) :
    Cm E mX10_goesBy [rf E 99, .int x1] H Q :=
  cm_of (by decide +kernel) (Nat.le_of_ble_eq_true rfl) rfl (sgX10_goesBy_0  hF)
theorem sgX10_runs_0 {E : En} {Q : Option Value → Hi → Prop} {H : Hi} {x1 : Int32} 
    (hF : Cm E mX10_begins [rf E 99] H (fun w H_1 => w = none ∧ (Rm E mX10_runs Q 6 [some (rf E 99), some (.int x1), some (.int (0 : Int32))] [] H_1))) :
    Rm E mX10_runs Q 0 [some (rf E 99), some (.int x1), none] [] H := by
  refine rn_aload_n dX10_runs_0 rfl ?_
  refine rm_callV (c0 := 99) (As := []) (st := []) mlRX10_209 mdX10_begins (Nat.le_of_ble_eq_true rfl) rfl (by decide) (by decide) rfl rfl rfl (Nat.le_of_ble_eq_true rfl) ⟨Nat.le_refl _, Nat.le_refl _⟩ dX10_runs_1 ?_
  refine cm_mono hF (fun w H_1 hF => ?_)
  obtain ⟨rfl, hF⟩ := hF
  refine rn_iconst (x := (0 : Int32)) dX10_runs_4 (by decide) ?_
  refine rn_istore_n dX10_runs_5 rfl (by decide) (fun x2_2 ex2_2 => ?_)
  subst ex2_2
  exact rn_wk (L' := [some (rf E 99), some (.int x1), some (.int (0 : Int32))]) (⟨rfl, ⟨rfl, ⟨rfl, trivial⟩⟩⟩) hF
theorem cmX10_runs {E : En} {Q : Option Value → Hi → Prop} {H : Hi} {x1 : Int32} 
    (hF : Cm E mX10_begins [rf E 99] H (fun w H_1 => w = none ∧ (Rm E mX10_runs Q 6 [some (rf E 99), some (.int x1), some (.int (0 : Int32))] [] H_1))) :
    Cm E mX10_runs [rf E 99, .int x1] H Q :=
  cm_of (by decide +kernel) (Nat.le_of_ble_eq_true rfl) rfl (sgX10_runs_0  hF)
theorem sgX10_runs_6 {E : En} {Q : Option Value → Hi → Prop} {H : Hi} {x1 : Int32} {x2 : Int32} 
    (hF : (x1 < x2 → (Q none H)) ∧ (¬ x1 < x2 → (Cm E mX10_goesBy [rf E 99, .int x2] H (fun w H_2 => w = none ∧ (∀ x2_3 : Int32, x2_3 = x2 + (1 : Int32) → (Rm E mX10_runs Q 6 [some (rf E 99), some (.int x1), some (.int x2_3)] [] H_2)))))) :
    Rm E mX10_runs Q 6 [some (rf E 99), some (.int x1), some (.int x2)] [] H := by
  refine rn_iload_n dX10_runs_6 rfl ?_
  refine rn_iload_n dX10_runs_7 rfl ?_
  refine rn_icmp_gt (tgt := 22) dX10_runs_8 (by decide) (fun hc_1 => ?_) (fun hc_1 => ?_)
  · replace hF := hF.1 hc_1
    exact rm_vret rfl dX10_runs_22 hF
  · replace hF := hF.2 hc_1
    refine rn_aload_n dX10_runs_11 rfl ?_
    refine rn_iload_n dX10_runs_12 rfl ?_
    refine rm_callV (c0 := 99) (As := [.int x2]) (st := []) mlRX10_212 mdX10_goesBy (Nat.le_of_ble_eq_true rfl) rfl (by decide) (by decide) rfl rfl rfl (Nat.le_of_ble_eq_true rfl) ⟨Nat.le_refl _, Nat.le_refl _⟩ dX10_runs_13 ?_
    refine cm_mono hF (fun w H_2 hF => ?_)
    obtain ⟨rfl, hF⟩ := hF
    refine rn_iinc (w := (1 : Int32)) dX10_runs_16 rfl (by decide) rfl (by decide) (fun x2_3 ex2_3 => ?_)
    replace hF := hF x2_3 ex2_3
    refine rn_goto (tgt := 6) dX10_runs_19 (by decide) ?_
    exact rn_wk (L' := [some (rf E 99), some (.int x1), some (.int x2_3)]) (⟨rfl, ⟨rfl, ⟨rfl, trivial⟩⟩⟩) hF
theorem sgX10_runsTold_0 {E : En} {Q : Option Value → Hi → Prop} {H : Hi} {x1 : Int32} 
    (hF : Cm E mX10_reads [rf E 99] H (fun w H_1 => w = none ∧ (Cm E mX10_asTold [rf E 99] H_1 (fun w H_2 => w = none ∧ (Cm E mX10_runs [rf E 99, .int x1] H_2 (fun w H_3 => w = none ∧ (Q none H_3))))))) :
    Rm E mX10_runsTold Q 0 [some (rf E 99), some (.int x1)] [] H := by
  refine rn_aload_n dX10_runsTold_0 rfl ?_
  refine rm_callV (c0 := 99) (As := []) (st := []) mlRX10_144 mdX10_reads (Nat.le_of_ble_eq_true rfl) rfl (by decide) (by decide) rfl rfl rfl (Nat.le_of_ble_eq_true rfl) ⟨Nat.le_refl _, Nat.le_refl _⟩ dX10_runsTold_1 ?_
  refine cm_mono hF (fun w H_1 hF => ?_)
  obtain ⟨rfl, hF⟩ := hF
  refine rn_aload_n dX10_runsTold_4 rfl ?_
  refine rm_callV (c0 := 99) (As := []) (st := []) mlRX10_215 mdX10_asTold (Nat.le_of_ble_eq_true rfl) rfl (by decide) (by decide) rfl rfl rfl (Nat.le_of_ble_eq_true rfl) ⟨Nat.le_refl _, Nat.le_refl _⟩ dX10_runsTold_5 ?_
  refine cm_mono hF (fun w H_2 hF => ?_)
  obtain ⟨rfl, hF⟩ := hF
  refine rn_aload_n dX10_runsTold_8 rfl ?_
  refine rn_iload_n dX10_runsTold_9 rfl ?_
  refine rm_callV (c0 := 99) (As := [.int x1]) (st := []) mlRX10_218 mdX10_runs (Nat.le_of_ble_eq_true rfl) rfl (by decide) (by decide) rfl rfl rfl (Nat.le_of_ble_eq_true rfl) ⟨Nat.le_refl _, Nat.le_refl _⟩ dX10_runsTold_10 ?_
  refine cm_mono hF (fun w H_3 hF => ?_)
  obtain ⟨rfl, hF⟩ := hF
  exact rm_vret rfl dX10_runsTold_13 hF
theorem cmX10_runsTold {E : En} {Q : Option Value → Hi → Prop} {H : Hi} {x1 : Int32} 
    (hF : Cm E mX10_reads [rf E 99] H (fun w H_1 => w = none ∧ (Cm E mX10_asTold [rf E 99] H_1 (fun w H_2 => w = none ∧ (Cm E mX10_runs [rf E 99, .int x1] H_2 (fun w H_3 => w = none ∧ (Q none H_3))))))) :
    Cm E mX10_runsTold [rf E 99, .int x1] H Q :=
  cm_of (by decide +kernel) (Nat.le_of_ble_eq_true rfl) rfl (sgX10_runsTold_0  hF)
theorem sgX10_whereOf_0 {E : En} {Q : Option Value → Hi → Prop} {H : Hi} {x1 : Int32} {x2 : Int32} 
    (hF : Cm E mX10_runsTold [rf E 99, .int x1] H (fun w H_1 => w = none ∧ (∃ j_2 : Nat, (j_2 < 8 ∧ x2 = nI j_2) ∧ (Q (some (.int (H_1 111 j_2))) H_1)))) :
    Rm E mX10_whereOf Q 0 [some (rf E 99), some (.int x1), some (.int x2)] [] H := by
  refine rn_aload_n dX10_whereOf_0 rfl ?_
  refine rn_iload_n dX10_whereOf_1 rfl ?_
  refine rm_callV (c0 := 99) (As := [.int x1]) (st := []) mlRX10_221 mdX10_runsTold (Nat.le_of_ble_eq_true rfl) rfl (by decide) (by decide) rfl rfl rfl (Nat.le_of_ble_eq_true rfl) ⟨Nat.le_refl _, Nat.le_refl _⟩ dX10_whereOf_2 ?_
  refine cm_mono hF (fun w H_1 hF => ?_)
  obtain ⟨rfl, hF⟩ := hF
  refine rn_aload_n dX10_whereOf_5 rfl ?_
  refine rm_getr (r := 111) flRX10_43 rfl (by decide) rfl dX10_whereOf_6 ?_
  refine rn_iload_n dX10_whereOf_9 rfl ?_
  obtain ⟨j_2, hj_2, hF⟩ := hF
  refine rj_iald hj_2 rfl (by decide) rfl (by decide) dX10_whereOf_10 ?_
  exact rm_iret rfl dX10_whereOf_11 hF
theorem cmX10_whereOf {E : En} {Q : Option Value → Hi → Prop} {H : Hi} {x1 : Int32} {x2 : Int32} 
    (hF : Cm E mX10_runsTold [rf E 99, .int x1] H (fun w H_1 => w = none ∧ (∃ j_2 : Nat, (j_2 < 8 ∧ x2 = nI j_2) ∧ (Q (some (.int (H_1 111 j_2))) H_1)))) :
    Cm E mX10_whereOf [rf E 99, .int x1, .int x2] H Q :=
  cm_of (by decide +kernel) (Nat.le_of_ble_eq_true rfl) rfl (sgX10_whereOf_0  hF)
theorem sgX10_where_0 {E : En} {Q : Option Value → Hi → Prop} {H : Hi} {x1 : Int32} {x2 : Int32} 
    (hF : Cm E mX10_isHour [.int x1] H (fun w H_1 => ∃ r_2 : Int32, w = some (.int r_2) ∧ ((r_2 = 0 → (Q (some (.int (-2 : Int32))) H_1)) ∧ (¬ r_2 = 0 → (Cm E mX10_isThing [rf E 99, .int x2] H_1 (fun w H_4 => ∃ r_5 : Int32, w = some (.int r_5) ∧ ((r_5 = 0 → (Q (some (.int (-2 : Int32))) H_4)) ∧ (¬ r_5 = 0 → (Cm E mX10_whereOf [rf E 99, .int x1, .int x2] H_4 (fun w H_7 => ∃ r_8 : Int32, w = some (.int r_8) ∧ (Q (some (.int r_8)) H_7))))))))))) :
    Rm E mX10_where Q 0 [some (rf E 99), some (.int x1), some (.int x2)] [] H := by
  refine rn_iload_n dX10_where_0 rfl ?_
  refine rm_callS (As := [.int x1]) (st := []) mlRX10_160 mdX10_isHour (Nat.le_of_ble_eq_true rfl) rfl rfl (Nat.le_of_ble_eq_true rfl) ⟨Nat.le_refl _, Nat.le_refl _⟩ dX10_where_1 ?_
  refine cm_mono hF (fun w H_1 hF => ?_)
  obtain ⟨r_2, rfl, hF⟩ := hF
  refine rn_if_eq (tgt := 24) dX10_where_4 (by decide) (fun hc_3 => ?_) (fun hc_3 => ?_)
  · replace hF := hF.1 hc_3
    refine rn_bipush (x := (-2 : Int32)) dX10_where_24 (by decide) ?_
    exact rm_iret rfl dX10_where_26 hF
  · replace hF := hF.2 hc_3
    refine rn_aload_n dX10_where_7 rfl ?_
    refine rn_iload_n dX10_where_8 rfl ?_
    refine rm_callV (c0 := 99) (As := [.int x2]) (st := []) mlRX10_147 mdX10_isThing (Nat.le_of_ble_eq_true rfl) rfl (by decide) (by decide) rfl rfl rfl (Nat.le_of_ble_eq_true rfl) ⟨Nat.le_refl _, Nat.le_refl _⟩ dX10_where_9 ?_
    refine cm_mono hF (fun w H_4 hF => ?_)
    obtain ⟨r_5, rfl, hF⟩ := hF
    refine rn_if_eq (tgt := 24) dX10_where_12 (by decide) (fun hc_6 => ?_) (fun hc_6 => ?_)
    · replace hF := hF.1 hc_6
      refine rn_bipush (x := (-2 : Int32)) dX10_where_24 (by decide) ?_
      exact rm_iret rfl dX10_where_26 hF
    · replace hF := hF.2 hc_6
      refine rn_aload_n dX10_where_15 rfl ?_
      refine rn_iload_n dX10_where_16 rfl ?_
      refine rn_iload_n dX10_where_17 rfl ?_
      refine rm_callV (c0 := 99) (As := [.int x1, .int x2]) (st := []) mlRX10_224 mdX10_whereOf (Nat.le_of_ble_eq_true rfl) rfl (by decide) (by decide) rfl rfl rfl (Nat.le_of_ble_eq_true rfl) ⟨Nat.le_refl _, Nat.le_refl _⟩ dX10_where_18 ?_
      refine cm_mono hF (fun w H_7 hF => ?_)
      obtain ⟨r_8, rfl, hF⟩ := hF
      refine rn_goto (tgt := 26) dX10_where_21 (by decide) ?_
      exact rm_iret rfl dX10_where_26 hF
theorem cmX10_where {E : En} {Q : Option Value → Hi → Prop} {H : Hi} {x1 : Int32} {x2 : Int32} 
    (hF : Cm E mX10_isHour [.int x1] H (fun w H_1 => ∃ r_2 : Int32, w = some (.int r_2) ∧ ((r_2 = 0 → (Q (some (.int (-2 : Int32))) H_1)) ∧ (¬ r_2 = 0 → (Cm E mX10_isThing [rf E 99, .int x2] H_1 (fun w H_4 => ∃ r_5 : Int32, w = some (.int r_5) ∧ ((r_5 = 0 → (Q (some (.int (-2 : Int32))) H_4)) ∧ (¬ r_5 = 0 → (Cm E mX10_whereOf [rf E 99, .int x1, .int x2] H_4 (fun w H_7 => ∃ r_8 : Int32, w = some (.int r_8) ∧ (Q (some (.int r_8)) H_7))))))))))) :
    Cm E mX10_where [rf E 99, .int x1, .int x2] H Q :=
  cm_of (by decide +kernel) (Nat.le_of_ble_eq_true rfl) rfl (sgX10_where_0  hF)
theorem sgX10_hasOf_0 {E : En} {Q : Option Value → Hi → Prop} {H : Hi} {x1 : Int32} {x2 : Int32} 
    (hF : Cm E mX10_runsTold [rf E 99, .int x1] H (fun w H_1 => w = none ∧ (Rm E mX10_hasOf Q 10 [some (rf E 99), none, some (.int x2), some (.int (0 : Int32)), some (.int (0 : Int32))] [] H_1))) :
    Rm E mX10_hasOf Q 0 [some (rf E 99), some (.int x1), some (.int x2), none, none] [] H := by
  refine rn_aload_n dX10_hasOf_0 rfl ?_
  refine rn_iload_n dX10_hasOf_1 rfl ?_
  refine rm_callV (c0 := 99) (As := [.int x1]) (st := []) mlRX10_221 mdX10_runsTold (Nat.le_of_ble_eq_true rfl) rfl (by decide) (by decide) rfl rfl rfl (Nat.le_of_ble_eq_true rfl) ⟨Nat.le_refl _, Nat.le_refl _⟩ dX10_hasOf_2 ?_
  refine cm_mono hF (fun w H_1 hF => ?_)
  obtain ⟨rfl, hF⟩ := hF
  refine rn_iconst (x := (0 : Int32)) dX10_hasOf_5 (by decide) ?_
  refine rn_istore_n dX10_hasOf_6 rfl (by decide) (fun x3_2 ex3_2 => ?_)
  subst ex3_2
  refine rn_iconst (x := (0 : Int32)) dX10_hasOf_7 (by decide) ?_
  refine rn_istore dX10_hasOf_8 rfl (by decide) (fun x4_3 ex4_3 => ?_)
  subst ex4_3
  exact rn_wk (L' := [some (rf E 99), none, some (.int x2), some (.int (0 : Int32)), some (.int (0 : Int32))]) (⟨rfl, ⟨rfl, ⟨rfl, ⟨rfl, trivial⟩⟩⟩⟩) hF
theorem cmX10_hasOf {E : En} {Q : Option Value → Hi → Prop} {H : Hi} {x1 : Int32} {x2 : Int32} 
    (hF : Cm E mX10_runsTold [rf E 99, .int x1] H (fun w H_1 => w = none ∧ (Rm E mX10_hasOf Q 10 [some (rf E 99), none, some (.int x2), some (.int (0 : Int32)), some (.int (0 : Int32))] [] H_1))) :
    Cm E mX10_hasOf [rf E 99, .int x1, .int x2] H Q :=
  cm_of (by decide +kernel) (Nat.le_of_ble_eq_true rfl) rfl (sgX10_hasOf_0  hF)
theorem sgX10_hasOf_10 {E : En} {Q : Option Value → Hi → Prop} {H : Hi} {x2 : Int32} {x3 : Int32} {x4 : Int32} 
    (hF : ((H 99 2) ≤ x4 → (Q (some (.int x3)) H)) ∧ (¬ (H 99 2) ≤ x4 → (∃ j_2 : Nat, (j_2 < 8 ∧ x4 = nI j_2) ∧ ((¬ (H 111 j_2) = x2 → (∀ x3_4 : Int32, x3_4 = x3 ||| (0 : Int32) → (∀ x4_5 : Int32, x4_5 = x4 + (1 : Int32) → (Rm E mX10_hasOf Q 10 [some (rf E 99), none, some (.int x2), some (.int x3_4), some (.int x4_5)] [] H)))) ∧ ((H 111 j_2) = x2 → (∀ x3_6 : Int32, x3_6 = x3 ||| ((1 : Int32) <<< (x4 &&& 31)) → (∀ x4_7 : Int32, x4_7 = x4 + (1 : Int32) → (Rm E mX10_hasOf Q 10 [some (rf E 99), none, some (.int x2), some (.int x3_6), some (.int x4_7)] [] H)))))))) :
    Rm E mX10_hasOf Q 10 [some (rf E 99), none, some (.int x2), some (.int x3), some (.int x4)] [] H := by
  refine rn_iload dX10_hasOf_10 rfl ?_
  refine rn_aload_n dX10_hasOf_12 rfl ?_
  refine rm_geti flRX10_125 rfl (by decide) rfl dX10_hasOf_13 ?_
  refine rn_icmp_ge (tgt := 47) dX10_hasOf_16 (by decide) (fun hc_1 => ?_) (fun hc_1 => ?_)
  · replace hF := hF.1 hc_1
    refine rn_iload_n dX10_hasOf_47 rfl ?_
    exact rm_iret rfl dX10_hasOf_48 hF
  · replace hF := hF.2 hc_1
    refine rn_iload_n dX10_hasOf_19 rfl ?_
    refine rn_aload_n dX10_hasOf_20 rfl ?_
    refine rm_getr (r := 111) flRX10_43 rfl (by decide) rfl dX10_hasOf_21 ?_
    refine rn_iload dX10_hasOf_24 rfl ?_
    obtain ⟨j_2, hj_2, hF⟩ := hF
    refine rj_iald hj_2 rfl (by decide) rfl (by decide) dX10_hasOf_26 ?_
    refine rn_iload_n dX10_hasOf_27 rfl ?_
    refine rn_icmp_ne (tgt := 38) dX10_hasOf_28 (by decide) (fun hc_3 => ?_) (fun hc_3 => ?_)
    · replace hF := hF.1 hc_3
      refine rn_iconst (x := (0 : Int32)) dX10_hasOf_38 (by decide) ?_
      refine rn_ior dX10_hasOf_39 ?_
      refine rn_istore_n dX10_hasOf_40 rfl (by decide) (fun x3_4 ex3_4 => ?_)
      replace hF := hF x3_4 ex3_4
      refine rn_iinc (w := (1 : Int32)) dX10_hasOf_41 rfl (by decide) rfl (by decide) (fun x4_5 ex4_5 => ?_)
      replace hF := hF x4_5 ex4_5
      refine rn_goto (tgt := 10) dX10_hasOf_44 (by decide) ?_
      exact rn_wk (L' := [some (rf E 99), none, some (.int x2), some (.int x3_4), some (.int x4_5)]) (⟨rfl, ⟨rfl, ⟨rfl, ⟨rfl, trivial⟩⟩⟩⟩) hF
    · replace hF := hF.2 hc_3
      refine rn_iconst (x := (1 : Int32)) dX10_hasOf_31 (by decide) ?_
      refine rn_iload dX10_hasOf_32 rfl ?_
      refine rn_ishl dX10_hasOf_34 ?_
      refine rn_goto (tgt := 39) dX10_hasOf_35 (by decide) ?_
      refine rn_ior dX10_hasOf_39 ?_
      refine rn_istore_n dX10_hasOf_40 rfl (by decide) (fun x3_6 ex3_6 => ?_)
      replace hF := hF x3_6 ex3_6
      refine rn_iinc (w := (1 : Int32)) dX10_hasOf_41 rfl (by decide) rfl (by decide) (fun x4_7 ex4_7 => ?_)
      replace hF := hF x4_7 ex4_7
      refine rn_goto (tgt := 10) dX10_hasOf_44 (by decide) ?_
      exact rn_wk (L' := [some (rf E 99), none, some (.int x2), some (.int x3_6), some (.int x4_7)]) (⟨rfl, ⟨rfl, ⟨rfl, ⟨rfl, trivial⟩⟩⟩⟩) hF
theorem sgX10_has_0 {E : En} {Q : Option Value → Hi → Prop} {H : Hi} {x1 : Int32} {x2 : Int32} 
    (hF : Cm E mX10_isHour [.int x1] H (fun w H_1 => ∃ r_2 : Int32, w = some (.int r_2) ∧ ((r_2 = 0 → (Q (some (.int (-2 : Int32))) H_1)) ∧ (¬ r_2 = 0 → (Cm E mX10_isCousin [rf E 99, .int x2] H_1 (fun w H_4 => ∃ r_5 : Int32, w = some (.int r_5) ∧ ((r_5 = 0 → (Q (some (.int (-2 : Int32))) H_4)) ∧ (¬ r_5 = 0 → (Cm E mX10_hasOf [rf E 99, .int x1, .int x2] H_4 (fun w H_7 => ∃ r_8 : Int32, w = some (.int r_8) ∧ (Q (some (.int r_8)) H_7))))))))))) :
    Rm E mX10_has Q 0 [some (rf E 99), some (.int x1), some (.int x2)] [] H := by
  refine rn_iload_n dX10_has_0 rfl ?_
  refine rm_callS (As := [.int x1]) (st := []) mlRX10_160 mdX10_isHour (Nat.le_of_ble_eq_true rfl) rfl rfl (Nat.le_of_ble_eq_true rfl) ⟨Nat.le_refl _, Nat.le_refl _⟩ dX10_has_1 ?_
  refine cm_mono hF (fun w H_1 hF => ?_)
  obtain ⟨r_2, rfl, hF⟩ := hF
  refine rn_if_eq (tgt := 24) dX10_has_4 (by decide) (fun hc_3 => ?_) (fun hc_3 => ?_)
  · replace hF := hF.1 hc_3
    refine rn_bipush (x := (-2 : Int32)) dX10_has_24 (by decide) ?_
    exact rm_iret rfl dX10_has_26 hF
  · replace hF := hF.2 hc_3
    refine rn_aload_n dX10_has_7 rfl ?_
    refine rn_iload_n dX10_has_8 rfl ?_
    refine rm_callV (c0 := 99) (As := [.int x2]) (st := []) mlRX10_153 mdX10_isCousin (Nat.le_of_ble_eq_true rfl) rfl (by decide) (by decide) rfl rfl rfl (Nat.le_of_ble_eq_true rfl) ⟨Nat.le_refl _, Nat.le_refl _⟩ dX10_has_9 ?_
    refine cm_mono hF (fun w H_4 hF => ?_)
    obtain ⟨r_5, rfl, hF⟩ := hF
    refine rn_if_eq (tgt := 24) dX10_has_12 (by decide) (fun hc_6 => ?_) (fun hc_6 => ?_)
    · replace hF := hF.1 hc_6
      refine rn_bipush (x := (-2 : Int32)) dX10_has_24 (by decide) ?_
      exact rm_iret rfl dX10_has_26 hF
    · replace hF := hF.2 hc_6
      refine rn_aload_n dX10_has_15 rfl ?_
      refine rn_iload_n dX10_has_16 rfl ?_
      refine rn_iload_n dX10_has_17 rfl ?_
      refine rm_callV (c0 := 99) (As := [.int x1, .int x2]) (st := []) mlRX10_227 mdX10_hasOf (Nat.le_of_ble_eq_true rfl) rfl (by decide) (by decide) rfl rfl rfl (Nat.le_of_ble_eq_true rfl) ⟨Nat.le_refl _, Nat.le_refl _⟩ dX10_has_18 ?_
      refine cm_mono hF (fun w H_7 hF => ?_)
      obtain ⟨r_8, rfl, hF⟩ := hF
      refine rn_goto (tgt := 26) dX10_has_21 (by decide) ?_
      exact rm_iret rfl dX10_has_26 hF
theorem cmX10_has {E : En} {Q : Option Value → Hi → Prop} {H : Hi} {x1 : Int32} {x2 : Int32} 
    (hF : Cm E mX10_isHour [.int x1] H (fun w H_1 => ∃ r_2 : Int32, w = some (.int r_2) ∧ ((r_2 = 0 → (Q (some (.int (-2 : Int32))) H_1)) ∧ (¬ r_2 = 0 → (Cm E mX10_isCousin [rf E 99, .int x2] H_1 (fun w H_4 => ∃ r_5 : Int32, w = some (.int r_5) ∧ ((r_5 = 0 → (Q (some (.int (-2 : Int32))) H_4)) ∧ (¬ r_5 = 0 → (Cm E mX10_hasOf [rf E 99, .int x1, .int x2] H_4 (fun w H_7 => ∃ r_8 : Int32, w = some (.int r_8) ∧ (Q (some (.int r_8)) H_7))))))))))) :
    Cm E mX10_has [rf E 99, .int x1, .int x2] H Q :=
  cm_of (by decide +kernel) (Nat.le_of_ble_eq_true rfl) rfl (sgX10_has_0  hF)
theorem sgX10_loadOf_0 {E : En} {Q : Option Value → Hi → Prop} {H : Hi} {x1 : Int32} 
    (hF : Cm E mX10_runsTold [rf E 99, .int x1] H (fun w H_1 => w = none ∧ (Cm E mX10_loadNow [rf E 99] H_1 (fun w H_2 => ∃ r_3 : Int32, w = some (.int r_3) ∧ (Q (some (.int r_3)) H_2))))) :
    Rm E mX10_loadOf Q 0 [some (rf E 99), some (.int x1)] [] H := by
  refine rn_aload_n dX10_loadOf_0 rfl ?_
  refine rn_iload_n dX10_loadOf_1 rfl ?_
  refine rm_callV (c0 := 99) (As := [.int x1]) (st := []) mlRX10_221 mdX10_runsTold (Nat.le_of_ble_eq_true rfl) rfl (by decide) (by decide) rfl rfl rfl (Nat.le_of_ble_eq_true rfl) ⟨Nat.le_refl _, Nat.le_refl _⟩ dX10_loadOf_2 ?_
  refine cm_mono hF (fun w H_1 hF => ?_)
  obtain ⟨rfl, hF⟩ := hF
  refine rn_aload_n dX10_loadOf_5 rfl ?_
  refine rm_callV (c0 := 99) (As := []) (st := []) mlRX10_185 mdX10_loadNow (Nat.le_of_ble_eq_true rfl) rfl (by decide) (by decide) rfl rfl rfl (Nat.le_of_ble_eq_true rfl) ⟨Nat.le_refl _, Nat.le_refl _⟩ dX10_loadOf_6 ?_
  refine cm_mono hF (fun w H_2 hF => ?_)
  obtain ⟨r_3, rfl, hF⟩ := hF
  exact rm_iret rfl dX10_loadOf_9 hF
theorem cmX10_loadOf {E : En} {Q : Option Value → Hi → Prop} {H : Hi} {x1 : Int32} 
    (hF : Cm E mX10_runsTold [rf E 99, .int x1] H (fun w H_1 => w = none ∧ (Cm E mX10_loadNow [rf E 99] H_1 (fun w H_2 => ∃ r_3 : Int32, w = some (.int r_3) ∧ (Q (some (.int r_3)) H_2))))) :
    Cm E mX10_loadOf [rf E 99, .int x1] H Q :=
  cm_of (by decide +kernel) (Nat.le_of_ble_eq_true rfl) rfl (sgX10_loadOf_0  hF)
theorem sgX10_load_0 {E : En} {Q : Option Value → Hi → Prop} {H : Hi} {x1 : Int32} 
    (hF : Cm E mX10_isHour [.int x1] H (fun w H_1 => ∃ r_2 : Int32, w = some (.int r_2) ∧ ((r_2 = 0 → (Q (some (.int (-2 : Int32))) H_1)) ∧ (¬ r_2 = 0 → (Cm E mX10_loadOf [rf E 99, .int x1] H_1 (fun w H_4 => ∃ r_5 : Int32, w = some (.int r_5) ∧ (Q (some (.int r_5)) H_4))))))) :
    Rm E mX10_load Q 0 [some (rf E 99), some (.int x1)] [] H := by
  refine rn_iload_n dX10_load_0 rfl ?_
  refine rm_callS (As := [.int x1]) (st := []) mlRX10_160 mdX10_isHour (Nat.le_of_ble_eq_true rfl) rfl rfl (Nat.le_of_ble_eq_true rfl) ⟨Nat.le_refl _, Nat.le_refl _⟩ dX10_load_1 ?_
  refine cm_mono hF (fun w H_1 hF => ?_)
  obtain ⟨r_2, rfl, hF⟩ := hF
  refine rn_if_eq (tgt := 15) dX10_load_4 (by decide) (fun hc_3 => ?_) (fun hc_3 => ?_)
  · replace hF := hF.1 hc_3
    refine rn_bipush (x := (-2 : Int32)) dX10_load_15 (by decide) ?_
    exact rm_iret rfl dX10_load_17 hF
  · replace hF := hF.2 hc_3
    refine rn_aload_n dX10_load_7 rfl ?_
    refine rn_iload_n dX10_load_8 rfl ?_
    refine rm_callV (c0 := 99) (As := [.int x1]) (st := []) mlRX10_230 mdX10_loadOf (Nat.le_of_ble_eq_true rfl) rfl (by decide) (by decide) rfl rfl rfl (Nat.le_of_ble_eq_true rfl) ⟨Nat.le_refl _, Nat.le_refl _⟩ dX10_load_9 ?_
    refine cm_mono hF (fun w H_4 hF => ?_)
    obtain ⟨r_5, rfl, hF⟩ := hF
    refine rn_goto (tgt := 17) dX10_load_12 (by decide) ?_
    exact rm_iret rfl dX10_load_17 hF
theorem cmX10_load {E : En} {Q : Option Value → Hi → Prop} {H : Hi} {x1 : Int32} 
    (hF : Cm E mX10_isHour [.int x1] H (fun w H_1 => ∃ r_2 : Int32, w = some (.int r_2) ∧ ((r_2 = 0 → (Q (some (.int (-2 : Int32))) H_1)) ∧ (¬ r_2 = 0 → (Cm E mX10_loadOf [rf E 99, .int x1] H_1 (fun w H_4 => ∃ r_5 : Int32, w = some (.int r_5) ∧ (Q (some (.int r_5)) H_4))))))) :
    Cm E mX10_load [rf E 99, .int x1] H Q :=
  cm_of (by decide +kernel) (Nat.le_of_ble_eq_true rfl) rfl (sgX10_load_0  hF)
theorem sgX10_happyOf_0 {E : En} {Q : Option Value → Hi → Prop} {H : Hi} {x1 : Int32} 
    (hF : Cm E mX10_runsTold [rf E 99, .int x1] H (fun w H_1 => w = none ∧ (Rm E mX10_happyOf Q 9 [some (rf E 99), none, some (.int (0 : Int32)), some (.int (0 : Int32))] [] H_1))) :
    Rm E mX10_happyOf Q 0 [some (rf E 99), some (.int x1), none, none] [] H := by
  refine rn_aload_n dX10_happyOf_0 rfl ?_
  refine rn_iload_n dX10_happyOf_1 rfl ?_
  refine rm_callV (c0 := 99) (As := [.int x1]) (st := []) mlRX10_221 mdX10_runsTold (Nat.le_of_ble_eq_true rfl) rfl (by decide) (by decide) rfl rfl rfl (Nat.le_of_ble_eq_true rfl) ⟨Nat.le_refl _, Nat.le_refl _⟩ dX10_happyOf_2 ?_
  refine cm_mono hF (fun w H_1 hF => ?_)
  obtain ⟨rfl, hF⟩ := hF
  refine rn_iconst (x := (0 : Int32)) dX10_happyOf_5 (by decide) ?_
  refine rn_istore_n dX10_happyOf_6 rfl (by decide) (fun x2_2 ex2_2 => ?_)
  subst ex2_2
  refine rn_iconst (x := (0 : Int32)) dX10_happyOf_7 (by decide) ?_
  refine rn_istore_n dX10_happyOf_8 rfl (by decide) (fun x3_3 ex3_3 => ?_)
  subst ex3_3
  exact rn_wk (L' := [some (rf E 99), none, some (.int (0 : Int32)), some (.int (0 : Int32))]) (⟨rfl, ⟨rfl, ⟨rfl, trivial⟩⟩⟩) hF
theorem cmX10_happyOf {E : En} {Q : Option Value → Hi → Prop} {H : Hi} {x1 : Int32} 
    (hF : Cm E mX10_runsTold [rf E 99, .int x1] H (fun w H_1 => w = none ∧ (Rm E mX10_happyOf Q 9 [some (rf E 99), none, some (.int (0 : Int32)), some (.int (0 : Int32))] [] H_1))) :
    Cm E mX10_happyOf [rf E 99, .int x1] H Q :=
  cm_of (by decide +kernel) (Nat.le_of_ble_eq_true rfl) rfl (sgX10_happyOf_0  hF)
theorem sgX10_happyOf_9 {E : En} {Q : Option Value → Hi → Prop} {H : Hi} {x2 : Int32} {x3 : Int32} 
    (hF : ((H 99 6) ≤ x3 → (Q (some (.int x2)) H)) ∧ (¬ (H 99 6) ≤ x3 → (∃ j_2 : Nat, (j_2 < 9 ∧ x3 = nI j_2) ∧ (Cm E mX10_in [.int (H 106 j_2), .int (0 : Int32), .int ((H 99 2) - (1 : Int32))] H (fun w H_3 => ∃ r_4 : Int32, w = some (.int r_4) ∧ ((r_4 = 0 → (∀ x2_6 : Int32, x2_6 = x2 ||| (0 : Int32) → (∀ x3_7 : Int32, x3_7 = x3 + (1 : Int32) → (Rm E mX10_happyOf Q 9 [some (rf E 99), none, some (.int x2_6), some (.int x3_7)] [] H_3)))) ∧ (¬ r_4 = 0 → (∃ j_8 : Nat, (j_8 < 9 ∧ x3 = nI j_8) ∧ (∃ j_9 : Nat, (j_9 < 8 ∧ H_3 106 j_8 = nI j_9) ∧ ((¬ (H_3 111 j_9) = x3 → (∀ x2_11 : Int32, x2_11 = x2 ||| (0 : Int32) → (∀ x3_12 : Int32, x3_12 = x3 + (1 : Int32) → (Rm E mX10_happyOf Q 9 [some (rf E 99), none, some (.int x2_11), some (.int x3_12)] [] H_3)))) ∧ ((H_3 111 j_9) = x3 → (∀ x2_13 : Int32, x2_13 = x2 ||| ((1 : Int32) <<< (x3 &&& 31)) → (∀ x3_14 : Int32, x3_14 = x3 + (1 : Int32) → (Rm E mX10_happyOf Q 9 [some (rf E 99), none, some (.int x2_13), some (.int x3_14)] [] H_3)))))))))))))) :
    Rm E mX10_happyOf Q 9 [some (rf E 99), none, some (.int x2), some (.int x3)] [] H := by
  refine rn_iload_n dX10_happyOf_9 rfl ?_
  refine rn_aload_n dX10_happyOf_10 rfl ?_
  refine rm_geti flRX10_128 rfl (by decide) rfl dX10_happyOf_11 ?_
  refine rn_icmp_ge (tgt := 67) dX10_happyOf_14 (by decide) (fun hc_1 => ?_) (fun hc_1 => ?_)
  · replace hF := hF.1 hc_1
    refine rn_iload_n dX10_happyOf_67 rfl ?_
    exact rm_iret rfl dX10_happyOf_68 hF
  · replace hF := hF.2 hc_1
    refine rn_iload_n dX10_happyOf_17 rfl ?_
    refine rn_aload_n dX10_happyOf_18 rfl ?_
    refine rm_getr (r := 106) flRX10_28 rfl (by decide) rfl dX10_happyOf_19 ?_
    refine rn_iload_n dX10_happyOf_22 rfl ?_
    obtain ⟨j_2, hj_2, hF⟩ := hF
    refine rj_iald hj_2 rfl (by decide) rfl (by decide) dX10_happyOf_23 ?_
    refine rn_iconst (x := (0 : Int32)) dX10_happyOf_24 (by decide) ?_
    refine rn_aload_n dX10_happyOf_25 rfl ?_
    refine rm_geti flRX10_125 rfl (by decide) rfl dX10_happyOf_26 ?_
    refine rn_iconst (x := (1 : Int32)) dX10_happyOf_29 (by decide) ?_
    refine rn_isub dX10_happyOf_30 ?_
    refine rm_callS (As := [.int (H 106 j_2), .int (0 : Int32), .int ((H 99 2) - (1 : Int32))]) (st := [.int x2]) mlRX10_110 mdX10_in (Nat.le_of_ble_eq_true rfl) rfl rfl (Nat.le_of_ble_eq_true rfl) ⟨Nat.le_refl _, Nat.le_refl _⟩ dX10_happyOf_31 ?_
    refine cm_mono hF (fun w H_3 hF => ?_)
    obtain ⟨r_4, rfl, hF⟩ := hF
    refine rn_if_eq (tgt := 58) dX10_happyOf_34 (by decide) (fun hc_5 => ?_) (fun hc_5 => ?_)
    · replace hF := hF.1 hc_5
      refine rn_iconst (x := (0 : Int32)) dX10_happyOf_58 (by decide) ?_
      refine rn_ior dX10_happyOf_59 ?_
      refine rn_istore_n dX10_happyOf_60 rfl (by decide) (fun x2_6 ex2_6 => ?_)
      replace hF := hF x2_6 ex2_6
      refine rn_iinc (w := (1 : Int32)) dX10_happyOf_61 rfl (by decide) rfl (by decide) (fun x3_7 ex3_7 => ?_)
      replace hF := hF x3_7 ex3_7
      refine rn_goto (tgt := 9) dX10_happyOf_64 (by decide) ?_
      exact rn_wk (L' := [some (rf E 99), none, some (.int x2_6), some (.int x3_7)]) (⟨rfl, ⟨rfl, ⟨rfl, trivial⟩⟩⟩) hF
    · replace hF := hF.2 hc_5
      refine rn_aload_n dX10_happyOf_37 rfl ?_
      refine rm_getr (r := 111) flRX10_43 rfl (by decide) rfl dX10_happyOf_38 ?_
      refine rn_aload_n dX10_happyOf_41 rfl ?_
      refine rm_getr (r := 106) flRX10_28 rfl (by decide) rfl dX10_happyOf_42 ?_
      refine rn_iload_n dX10_happyOf_45 rfl ?_
      obtain ⟨j_8, hj_8, hF⟩ := hF
      refine rj_iald hj_8 rfl (by decide) rfl (by decide) dX10_happyOf_46 ?_
      obtain ⟨j_9, hj_9, hF⟩ := hF
      refine rj_iald hj_9 rfl (by decide) rfl (by decide) dX10_happyOf_47 ?_
      refine rn_iload_n dX10_happyOf_48 rfl ?_
      refine rn_icmp_ne (tgt := 58) dX10_happyOf_49 (by decide) (fun hc_10 => ?_) (fun hc_10 => ?_)
      · replace hF := hF.1 hc_10
        refine rn_iconst (x := (0 : Int32)) dX10_happyOf_58 (by decide) ?_
        refine rn_ior dX10_happyOf_59 ?_
        refine rn_istore_n dX10_happyOf_60 rfl (by decide) (fun x2_11 ex2_11 => ?_)
        replace hF := hF x2_11 ex2_11
        refine rn_iinc (w := (1 : Int32)) dX10_happyOf_61 rfl (by decide) rfl (by decide) (fun x3_12 ex3_12 => ?_)
        replace hF := hF x3_12 ex3_12
        refine rn_goto (tgt := 9) dX10_happyOf_64 (by decide) ?_
        exact rn_wk (L' := [some (rf E 99), none, some (.int x2_11), some (.int x3_12)]) (⟨rfl, ⟨rfl, ⟨rfl, trivial⟩⟩⟩) hF
      · replace hF := hF.2 hc_10
        refine rn_iconst (x := (1 : Int32)) dX10_happyOf_52 (by decide) ?_
        refine rn_iload_n dX10_happyOf_53 rfl ?_
        refine rn_ishl dX10_happyOf_54 ?_
        refine rn_goto (tgt := 59) dX10_happyOf_55 (by decide) ?_
        refine rn_ior dX10_happyOf_59 ?_
        refine rn_istore_n dX10_happyOf_60 rfl (by decide) (fun x2_13 ex2_13 => ?_)
        replace hF := hF x2_13 ex2_13
        refine rn_iinc (w := (1 : Int32)) dX10_happyOf_61 rfl (by decide) rfl (by decide) (fun x3_14 ex3_14 => ?_)
        replace hF := hF x3_14 ex3_14
        refine rn_goto (tgt := 9) dX10_happyOf_64 (by decide) ?_
        exact rn_wk (L' := [some (rf E 99), none, some (.int x2_13), some (.int x3_14)]) (⟨rfl, ⟨rfl, ⟨rfl, trivial⟩⟩⟩) hF
theorem sgX10_happy_0 {E : En} {Q : Option Value → Hi → Prop} {H : Hi} {x1 : Int32} 
    (hF : Cm E mX10_isHour [.int x1] H (fun w H_1 => ∃ r_2 : Int32, w = some (.int r_2) ∧ ((r_2 = 0 → (Q (some (.int (-2 : Int32))) H_1)) ∧ (¬ r_2 = 0 → (Cm E mX10_happyOf [rf E 99, .int x1] H_1 (fun w H_4 => ∃ r_5 : Int32, w = some (.int r_5) ∧ (Q (some (.int r_5)) H_4))))))) :
    Rm E mX10_happy Q 0 [some (rf E 99), some (.int x1)] [] H := by
  refine rn_iload_n dX10_happy_0 rfl ?_
  refine rm_callS (As := [.int x1]) (st := []) mlRX10_160 mdX10_isHour (Nat.le_of_ble_eq_true rfl) rfl rfl (Nat.le_of_ble_eq_true rfl) ⟨Nat.le_refl _, Nat.le_refl _⟩ dX10_happy_1 ?_
  refine cm_mono hF (fun w H_1 hF => ?_)
  obtain ⟨r_2, rfl, hF⟩ := hF
  refine rn_if_eq (tgt := 15) dX10_happy_4 (by decide) (fun hc_3 => ?_) (fun hc_3 => ?_)
  · replace hF := hF.1 hc_3
    refine rn_bipush (x := (-2 : Int32)) dX10_happy_15 (by decide) ?_
    exact rm_iret rfl dX10_happy_17 hF
  · replace hF := hF.2 hc_3
    refine rn_aload_n dX10_happy_7 rfl ?_
    refine rn_iload_n dX10_happy_8 rfl ?_
    refine rm_callV (c0 := 99) (As := [.int x1]) (st := []) mlRX10_233 mdX10_happyOf (Nat.le_of_ble_eq_true rfl) rfl (by decide) (by decide) rfl rfl rfl (Nat.le_of_ble_eq_true rfl) ⟨Nat.le_refl _, Nat.le_refl _⟩ dX10_happy_9 ?_
    refine cm_mono hF (fun w H_4 hF => ?_)
    obtain ⟨r_5, rfl, hF⟩ := hF
    refine rn_goto (tgt := 17) dX10_happy_12 (by decide) ?_
    exact rm_iret rfl dX10_happy_17 hF
theorem cmX10_happy {E : En} {Q : Option Value → Hi → Prop} {H : Hi} {x1 : Int32} 
    (hF : Cm E mX10_isHour [.int x1] H (fun w H_1 => ∃ r_2 : Int32, w = some (.int r_2) ∧ ((r_2 = 0 → (Q (some (.int (-2 : Int32))) H_1)) ∧ (¬ r_2 = 0 → (Cm E mX10_happyOf [rf E 99, .int x1] H_1 (fun w H_4 => ∃ r_5 : Int32, w = some (.int r_5) ∧ (Q (some (.int r_5)) H_4))))))) :
    Cm E mX10_happy [rf E 99, .int x1] H Q :=
  cm_of (by decide +kernel) (Nat.le_of_ble_eq_true rfl) rfl (sgX10_happy_0  hF)
theorem sgX10_worksOf_0 {E : En} {Q : Option Value → Hi → Prop} {H : Hi} {x1 : Int32} 
    (hF : Cm E mX10_runsTold [rf E 99, .int (23 : Int32)] H (fun w H_1 => w = none ∧ (∃ j_2 : Nat, (j_2 < 44 ∧ x1 = nI j_2) ∧ (((H_1 115 j_2) = 0 → (Q (some (.int (0 : Int32))) H_1)) ∧ (¬ (H_1 115 j_2) = 0 → (Q (some (.int (1 : Int32))) H_1)))))) :
    Rm E mX10_worksOf Q 0 [some (rf E 99), some (.int x1)] [] H := by
  refine rn_aload_n dX10_worksOf_0 rfl ?_
  refine rn_bipush (x := (23 : Int32)) dX10_worksOf_1 (by decide) ?_
  refine rm_callV (c0 := 99) (As := [.int (23 : Int32)]) (st := []) mlRX10_221 mdX10_runsTold (Nat.le_of_ble_eq_true rfl) rfl (by decide) (by decide) rfl rfl rfl (Nat.le_of_ble_eq_true rfl) ⟨Nat.le_refl _, Nat.le_refl _⟩ dX10_worksOf_3 ?_
  refine cm_mono hF (fun w H_1 hF => ?_)
  obtain ⟨rfl, hF⟩ := hF
  refine rn_aload_n dX10_worksOf_6 rfl ?_
  refine rm_getr (r := 115) flRX10_55 rfl (by decide) rfl dX10_worksOf_7 ?_
  refine rn_iload_n dX10_worksOf_10 rfl ?_
  obtain ⟨j_2, hj_2, hF⟩ := hF
  refine rj_zald hj_2 rfl (by decide) rfl (by decide) dX10_worksOf_11 ?_
  refine rn_if_eq (tgt := 19) dX10_worksOf_12 (by decide) (fun hc_3 => ?_) (fun hc_3 => ?_)
  · replace hF := hF.1 hc_3
    refine rn_iconst (x := (0 : Int32)) dX10_worksOf_19 (by decide) ?_
    exact rm_iret rfl dX10_worksOf_20 hF
  · replace hF := hF.2 hc_3
    refine rn_iconst (x := (1 : Int32)) dX10_worksOf_15 (by decide) ?_
    refine rn_goto (tgt := 20) dX10_worksOf_16 (by decide) ?_
    exact rm_iret rfl dX10_worksOf_20 hF
theorem cmX10_worksOf {E : En} {Q : Option Value → Hi → Prop} {H : Hi} {x1 : Int32} 
    (hF : Cm E mX10_runsTold [rf E 99, .int (23 : Int32)] H (fun w H_1 => w = none ∧ (∃ j_2 : Nat, (j_2 < 44 ∧ x1 = nI j_2) ∧ (((H_1 115 j_2) = 0 → (Q (some (.int (0 : Int32))) H_1)) ∧ (¬ (H_1 115 j_2) = 0 → (Q (some (.int (1 : Int32))) H_1)))))) :
    Cm E mX10_worksOf [rf E 99, .int x1] H Q :=
  cm_of (by decide +kernel) (Nat.le_of_ble_eq_true rfl) rfl (sgX10_worksOf_0  hF)
theorem sgX10_works_0 {E : En} {Q : Option Value → Hi → Prop} {H : Hi} {x1 : Int32} 
    (hF : Cm E mX10_in [.int x1, .int (0 : Int32), .int ((H 99 11) - (1 : Int32))] H (fun w H_1 => ∃ r_2 : Int32, w = some (.int r_2) ∧ ((r_2 = 0 → (Q (some (.int (-2 : Int32))) H_1)) ∧ (¬ r_2 = 0 → (Cm E mX10_worksOf [rf E 99, .int x1] H_1 (fun w H_4 => ∃ r_5 : Int32, w = some (.int r_5) ∧ (Q (some (.int r_5)) H_4))))))) :
    Rm E mX10_works Q 0 [some (rf E 99), some (.int x1)] [] H := by
  refine rn_iload_n dX10_works_0 rfl ?_
  refine rn_iconst (x := (0 : Int32)) dX10_works_1 (by decide) ?_
  refine rn_aload_n dX10_works_2 rfl ?_
  refine rm_geti flRX10_163 rfl (by decide) rfl dX10_works_3 ?_
  refine rn_iconst (x := (1 : Int32)) dX10_works_6 (by decide) ?_
  refine rn_isub dX10_works_7 ?_
  refine rm_callS (As := [.int x1, .int (0 : Int32), .int ((H 99 11) - (1 : Int32))]) (st := []) mlRX10_110 mdX10_in (Nat.le_of_ble_eq_true rfl) rfl rfl (Nat.le_of_ble_eq_true rfl) ⟨Nat.le_refl _, Nat.le_refl _⟩ dX10_works_8 ?_
  refine cm_mono hF (fun w H_1 hF => ?_)
  obtain ⟨r_2, rfl, hF⟩ := hF
  refine rn_if_eq (tgt := 22) dX10_works_11 (by decide) (fun hc_3 => ?_) (fun hc_3 => ?_)
  · replace hF := hF.1 hc_3
    refine rn_bipush (x := (-2 : Int32)) dX10_works_22 (by decide) ?_
    exact rm_iret rfl dX10_works_24 hF
  · replace hF := hF.2 hc_3
    refine rn_aload_n dX10_works_14 rfl ?_
    refine rn_iload_n dX10_works_15 rfl ?_
    refine rm_callV (c0 := 99) (As := [.int x1]) (st := []) mlRX10_236 mdX10_worksOf (Nat.le_of_ble_eq_true rfl) rfl (by decide) (by decide) rfl rfl rfl (Nat.le_of_ble_eq_true rfl) ⟨Nat.le_refl _, Nat.le_refl _⟩ dX10_works_16 ?_
    refine cm_mono hF (fun w H_4 hF => ?_)
    obtain ⟨r_5, rfl, hF⟩ := hF
    refine rn_goto (tgt := 24) dX10_works_19 (by decide) ?_
    exact rm_iret rfl dX10_works_24 hF
theorem cmX10_works {E : En} {Q : Option Value → Hi → Prop} {H : Hi} {x1 : Int32} 
    (hF : Cm E mX10_in [.int x1, .int (0 : Int32), .int ((H 99 11) - (1 : Int32))] H (fun w H_1 => ∃ r_2 : Int32, w = some (.int r_2) ∧ ((r_2 = 0 → (Q (some (.int (-2 : Int32))) H_1)) ∧ (¬ r_2 = 0 → (Cm E mX10_worksOf [rf E 99, .int x1] H_1 (fun w H_4 => ∃ r_5 : Int32, w = some (.int r_5) ∧ (Q (some (.int r_5)) H_4))))))) :
    Cm E mX10_works [rf E 99, .int x1] H Q :=
  cm_of (by decide +kernel) (Nat.le_of_ble_eq_true rfl) rfl (sgX10_works_0  hF)
theorem sgX10_failsNow_0 {E : En} {Q : Option Value → Hi → Prop} {H : Hi}  
    (hF : Cm E mX10_runsTold [rf E 99, .int (23 : Int32)] H (fun w H_1 => w = none ∧ (Rm E mX10_failsNow Q 10 [some (rf E 99), some (.int (-1 : Int32)), some (.int (0 : Int32))] [] H_1))) :
    Rm E mX10_failsNow Q 0 [some (rf E 99), none, none] [] H := by
  refine rn_aload_n dX10_failsNow_0 rfl ?_
  refine rn_bipush (x := (23 : Int32)) dX10_failsNow_1 (by decide) ?_
  refine rm_callV (c0 := 99) (As := [.int (23 : Int32)]) (st := []) mlRX10_221 mdX10_runsTold (Nat.le_of_ble_eq_true rfl) rfl (by decide) (by decide) rfl rfl rfl (Nat.le_of_ble_eq_true rfl) ⟨Nat.le_refl _, Nat.le_refl _⟩ dX10_failsNow_3 ?_
  refine cm_mono hF (fun w H_1 hF => ?_)
  obtain ⟨rfl, hF⟩ := hF
  refine rn_iconst (x := (-1 : Int32)) dX10_failsNow_6 (by decide) ?_
  refine rn_istore_n dX10_failsNow_7 rfl (by decide) (fun x1_2 ex1_2 => ?_)
  subst ex1_2
  refine rn_iconst (x := (0 : Int32)) dX10_failsNow_8 (by decide) ?_
  refine rn_istore_n dX10_failsNow_9 rfl (by decide) (fun x2_3 ex2_3 => ?_)
  subst ex2_3
  exact rn_wk (L' := [some (rf E 99), some (.int (-1 : Int32)), some (.int (0 : Int32))]) (⟨rfl, ⟨rfl, ⟨rfl, trivial⟩⟩⟩) hF
theorem cmX10_failsNow {E : En} {Q : Option Value → Hi → Prop} {H : Hi}  
    (hF : Cm E mX10_runsTold [rf E 99, .int (23 : Int32)] H (fun w H_1 => w = none ∧ (Rm E mX10_failsNow Q 10 [some (rf E 99), some (.int (-1 : Int32)), some (.int (0 : Int32))] [] H_1))) :
    Cm E mX10_failsNow [rf E 99] H Q :=
  cm_of (by decide +kernel) (Nat.le_of_ble_eq_true rfl) rfl (sgX10_failsNow_0  hF)
theorem sgX10_failsNow_10 {E : En} {Q : Option Value → Hi → Prop} {H : Hi} {x1 : Int32} {x2 : Int32} 
    (hF : ((H 99 11) ≤ x2 → (Q (some (.int x1)) H)) ∧ (¬ (H 99 11) ≤ x2 → (∃ j_2 : Nat, (j_2 < 44 ∧ x2 = nI j_2) ∧ ((¬ (H 115 j_2) = 0 → (∀ x2_5 : Int32, x2_5 = x2 + (1 : Int32) → (Rm E mX10_failsNow Q 10 [some (rf E 99), some (.int x1), some (.int x2_5)] [] H))) ∧ ((H 115 j_2) = 0 → ((x1 = (-1 : Int32) → (∀ x2_8 : Int32, x2_8 = x2 + (1 : Int32) → (Rm E mX10_failsNow Q 10 [some (rf E 99), some (.int x2), some (.int x2_8)] [] H))) ∧ (¬ x1 = (-1 : Int32) → (∃ j_9 : Nat, (j_9 < 44 ∧ x2 = nI j_9) ∧ (∃ j_10 : Nat, (j_10 < 44 ∧ x1 = nI j_10) ∧ (((H 107 j_10) ≤ (H 107 j_9) → (∀ x2_13 : Int32, x2_13 = x2 + (1 : Int32) → (Rm E mX10_failsNow Q 10 [some (rf E 99), some (.int x1), some (.int x2_13)] [] H))) ∧ (¬ (H 107 j_10) ≤ (H 107 j_9) → (∀ x2_15 : Int32, x2_15 = x2 + (1 : Int32) → (Rm E mX10_failsNow Q 10 [some (rf E 99), some (.int x2), some (.int x2_15)] [] H))))))))))))) :
    Rm E mX10_failsNow Q 10 [some (rf E 99), some (.int x1), some (.int x2)] [] H := by
  refine rn_iload_n dX10_failsNow_10 rfl ?_
  refine rn_aload_n dX10_failsNow_11 rfl ?_
  refine rm_geti flRX10_163 rfl (by decide) rfl dX10_failsNow_12 ?_
  refine rn_icmp_ge (tgt := 59) dX10_failsNow_15 (by decide) (fun hc_1 => ?_) (fun hc_1 => ?_)
  · replace hF := hF.1 hc_1
    refine rn_iload_n dX10_failsNow_59 rfl ?_
    exact rm_iret rfl dX10_failsNow_60 hF
  · replace hF := hF.2 hc_1
    refine rn_aload_n dX10_failsNow_18 rfl ?_
    refine rm_getr (r := 115) flRX10_55 rfl (by decide) rfl dX10_failsNow_19 ?_
    refine rn_iload_n dX10_failsNow_22 rfl ?_
    obtain ⟨j_2, hj_2, hF⟩ := hF
    refine rj_zald hj_2 rfl (by decide) rfl (by decide) dX10_failsNow_23 ?_
    refine rn_if_ne (tgt := 51) dX10_failsNow_24 (by decide) (fun hc_3 => ?_) (fun hc_3 => ?_)
    · replace hF := hF.1 hc_3
      refine rn_iload_n dX10_failsNow_51 rfl ?_
      refine rn_istore_n dX10_failsNow_52 rfl (by decide) (fun x1_4 ex1_4 => ?_)
      subst ex1_4
      refine rn_iinc (w := (1 : Int32)) dX10_failsNow_53 rfl (by decide) rfl (by decide) (fun x2_5 ex2_5 => ?_)
      replace hF := hF x2_5 ex2_5
      refine rn_goto (tgt := 10) dX10_failsNow_56 (by decide) ?_
      exact rn_wk (L' := [some (rf E 99), some (.int x1), some (.int x2_5)]) (⟨rfl, ⟨rfl, ⟨rfl, trivial⟩⟩⟩) hF
    · replace hF := hF.2 hc_3
      refine rn_iload_n dX10_failsNow_27 rfl ?_
      refine rn_iconst (x := (-1 : Int32)) dX10_failsNow_28 (by decide) ?_
      refine rn_icmp_eq (tgt := 47) dX10_failsNow_29 (by decide) (fun hc_6 => ?_) (fun hc_6 => ?_)
      · replace hF := hF.1 hc_6
        refine rn_iload_n dX10_failsNow_47 rfl ?_
        refine rn_goto (tgt := 52) dX10_failsNow_48 (by decide) ?_
        refine rn_istore_n dX10_failsNow_52 rfl (by decide) (fun x1_7 ex1_7 => ?_)
        subst ex1_7
        refine rn_iinc (w := (1 : Int32)) dX10_failsNow_53 rfl (by decide) rfl (by decide) (fun x2_8 ex2_8 => ?_)
        replace hF := hF x2_8 ex2_8
        refine rn_goto (tgt := 10) dX10_failsNow_56 (by decide) ?_
        exact rn_wk (L' := [some (rf E 99), some (.int x2), some (.int x2_8)]) (⟨rfl, ⟨rfl, ⟨rfl, trivial⟩⟩⟩) hF
      · replace hF := hF.2 hc_6
        refine rn_aload_n dX10_failsNow_32 rfl ?_
        refine rm_getr (r := 107) flRX10_31 rfl (by decide) rfl dX10_failsNow_33 ?_
        refine rn_iload_n dX10_failsNow_36 rfl ?_
        obtain ⟨j_9, hj_9, hF⟩ := hF
        refine rj_iald hj_9 rfl (by decide) rfl (by decide) dX10_failsNow_37 ?_
        refine rn_aload_n dX10_failsNow_38 rfl ?_
        refine rm_getr (r := 107) flRX10_31 rfl (by decide) rfl dX10_failsNow_39 ?_
        refine rn_iload_n dX10_failsNow_42 rfl ?_
        obtain ⟨j_10, hj_10, hF⟩ := hF
        refine rj_iald hj_10 rfl (by decide) rfl (by decide) dX10_failsNow_43 ?_
        refine rn_icmp_ge (tgt := 51) dX10_failsNow_44 (by decide) (fun hc_11 => ?_) (fun hc_11 => ?_)
        · replace hF := hF.1 hc_11
          refine rn_iload_n dX10_failsNow_51 rfl ?_
          refine rn_istore_n dX10_failsNow_52 rfl (by decide) (fun x1_12 ex1_12 => ?_)
          subst ex1_12
          refine rn_iinc (w := (1 : Int32)) dX10_failsNow_53 rfl (by decide) rfl (by decide) (fun x2_13 ex2_13 => ?_)
          replace hF := hF x2_13 ex2_13
          refine rn_goto (tgt := 10) dX10_failsNow_56 (by decide) ?_
          exact rn_wk (L' := [some (rf E 99), some (.int x1), some (.int x2_13)]) (⟨rfl, ⟨rfl, ⟨rfl, trivial⟩⟩⟩) hF
        · replace hF := hF.2 hc_11
          refine rn_iload_n dX10_failsNow_47 rfl ?_
          refine rn_goto (tgt := 52) dX10_failsNow_48 (by decide) ?_
          refine rn_istore_n dX10_failsNow_52 rfl (by decide) (fun x1_14 ex1_14 => ?_)
          subst ex1_14
          refine rn_iinc (w := (1 : Int32)) dX10_failsNow_53 rfl (by decide) rfl (by decide) (fun x2_15 ex2_15 => ?_)
          replace hF := hF x2_15 ex2_15
          refine rn_goto (tgt := 10) dX10_failsNow_56 (by decide) ?_
          exact rn_wk (L' := [some (rf E 99), some (.int x2), some (.int x2_15)]) (⟨rfl, ⟨rfl, ⟨rfl, trivial⟩⟩⟩) hF
theorem sgX10_fails_0 {E : En} {Q : Option Value → Hi → Prop} {H : Hi}  
    (hF : Cm E mX10_failsNow [rf E 99] H (fun w H_1 => ∃ r_2 : Int32, w = some (.int r_2) ∧ (Q (some (.int r_2)) H_1))) :
    Rm E mX10_fails Q 0 [some (rf E 99)] [] H := by
  refine rn_aload_n dX10_fails_0 rfl ?_
  refine rm_callV (c0 := 99) (As := []) (st := []) mlRX10_239 mdX10_failsNow (Nat.le_of_ble_eq_true rfl) rfl (by decide) (by decide) rfl rfl rfl (Nat.le_of_ble_eq_true rfl) ⟨Nat.le_refl _, Nat.le_refl _⟩ dX10_fails_1 ?_
  refine cm_mono hF (fun w H_1 hF => ?_)
  obtain ⟨r_2, rfl, hF⟩ := hF
  exact rm_iret rfl dX10_fails_4 hF
theorem cmX10_fails {E : En} {Q : Option Value → Hi → Prop} {H : Hi}  
    (hF : Cm E mX10_failsNow [rf E 99] H (fun w H_1 => ∃ r_2 : Int32, w = some (.int r_2) ∧ (Q (some (.int r_2)) H_1))) :
    Cm E mX10_fails [rf E 99] H Q :=
  cm_of (by decide +kernel) (Nat.le_of_ble_eq_true rfl) rfl (sgX10_fails_0  hF)
theorem sgX10_wentOf_0 {E : En} {Q : Option Value → Hi → Prop} {H : Hi} {x1 : Int32} 
    (hF : Cm E mX10_reads [rf E 99] H (fun w H_1 => w = none ∧ (Cm E mX10_asTold [rf E 99] H_1 (fun w H_2 => w = none ∧ (Cm E mX10_begins [rf E 99] H_2 (fun w H_3 => w = none ∧ (∃ j_4 : Nat, (j_4 < 8 ∧ x1 = nI j_4) ∧ ((¬ (H_3 111 j_4) = (9 : Int32) → (Rm E mX10_wentOf Q 27 [some (rf E 99), some (.int x1), some (.int (0 : Int32))] [] H_3)) ∧ ((H_3 111 j_4) = (9 : Int32) → (Q (some (.int (-1 : Int32))) H_3)))))))))) :
    Rm E mX10_wentOf Q 0 [some (rf E 99), some (.int x1), none] [] H := by
  refine rn_aload_n dX10_wentOf_0 rfl ?_
  refine rm_callV (c0 := 99) (As := []) (st := []) mlRX10_144 mdX10_reads (Nat.le_of_ble_eq_true rfl) rfl (by decide) (by decide) rfl rfl rfl (Nat.le_of_ble_eq_true rfl) ⟨Nat.le_refl _, Nat.le_refl _⟩ dX10_wentOf_1 ?_
  refine cm_mono hF (fun w H_1 hF => ?_)
  obtain ⟨rfl, hF⟩ := hF
  refine rn_aload_n dX10_wentOf_4 rfl ?_
  refine rm_callV (c0 := 99) (As := []) (st := []) mlRX10_215 mdX10_asTold (Nat.le_of_ble_eq_true rfl) rfl (by decide) (by decide) rfl rfl rfl (Nat.le_of_ble_eq_true rfl) ⟨Nat.le_refl _, Nat.le_refl _⟩ dX10_wentOf_5 ?_
  refine cm_mono hF (fun w H_2 hF => ?_)
  obtain ⟨rfl, hF⟩ := hF
  refine rn_aload_n dX10_wentOf_8 rfl ?_
  refine rm_callV (c0 := 99) (As := []) (st := []) mlRX10_209 mdX10_begins (Nat.le_of_ble_eq_true rfl) rfl (by decide) (by decide) rfl rfl rfl (Nat.le_of_ble_eq_true rfl) ⟨Nat.le_refl _, Nat.le_refl _⟩ dX10_wentOf_9 ?_
  refine cm_mono hF (fun w H_3 hF => ?_)
  obtain ⟨rfl, hF⟩ := hF
  refine rn_aload_n dX10_wentOf_12 rfl ?_
  refine rm_getr (r := 111) flRX10_43 rfl (by decide) rfl dX10_wentOf_13 ?_
  refine rn_iload_n dX10_wentOf_16 rfl ?_
  obtain ⟨j_4, hj_4, hF⟩ := hF
  refine rj_iald hj_4 rfl (by decide) rfl (by decide) dX10_wentOf_17 ?_
  refine rn_bipush (x := (9 : Int32)) dX10_wentOf_18 (by decide) ?_
  refine rn_icmp_ne (tgt := 25) dX10_wentOf_20 (by decide) (fun hc_5 => ?_) (fun hc_5 => ?_)
  · replace hF := hF.1 hc_5
    refine rn_iconst (x := (0 : Int32)) dX10_wentOf_25 (by decide) ?_
    refine rn_istore_n dX10_wentOf_26 rfl (by decide) (fun x2_6 ex2_6 => ?_)
    subst ex2_6
    exact rn_wk (L' := [some (rf E 99), some (.int x1), some (.int (0 : Int32))]) (⟨rfl, ⟨rfl, ⟨rfl, trivial⟩⟩⟩) hF
  · replace hF := hF.2 hc_5
    refine rn_iconst (x := (-1 : Int32)) dX10_wentOf_23 (by decide) ?_
    exact rm_iret rfl dX10_wentOf_24 hF
theorem cmX10_wentOf {E : En} {Q : Option Value → Hi → Prop} {H : Hi} {x1 : Int32} 
    (hF : Cm E mX10_reads [rf E 99] H (fun w H_1 => w = none ∧ (Cm E mX10_asTold [rf E 99] H_1 (fun w H_2 => w = none ∧ (Cm E mX10_begins [rf E 99] H_2 (fun w H_3 => w = none ∧ (∃ j_4 : Nat, (j_4 < 8 ∧ x1 = nI j_4) ∧ ((¬ (H_3 111 j_4) = (9 : Int32) → (Rm E mX10_wentOf Q 27 [some (rf E 99), some (.int x1), some (.int (0 : Int32))] [] H_3)) ∧ ((H_3 111 j_4) = (9 : Int32) → (Q (some (.int (-1 : Int32))) H_3)))))))))) :
    Cm E mX10_wentOf [rf E 99, .int x1] H Q :=
  cm_of (by decide +kernel) (Nat.le_of_ble_eq_true rfl) rfl (sgX10_wentOf_0  hF)
theorem sgX10_wentOf_27 {E : En} {Q : Option Value → Hi → Prop} {H : Hi} {x1 : Int32} {x2 : Int32} 
    (hF : ((24 : Int32) ≤ x2 → (Q (some (.int (-1 : Int32))) H)) ∧ (¬ (24 : Int32) ≤ x2 → (Cm E mX10_goesBy [rf E 99, .int x2] H (fun w H_2 => w = none ∧ (∃ j_3 : Nat, (j_3 < 8 ∧ x1 = nI j_3) ∧ ((¬ (H_2 111 j_3) = (9 : Int32) → (∀ x2_5 : Int32, x2_5 = x2 + (1 : Int32) → (Rm E mX10_wentOf Q 27 [some (rf E 99), some (.int x1), some (.int x2_5)] [] H_2))) ∧ ((H_2 111 j_3) = (9 : Int32) → (Q (some (.int x2)) H_2)))))))) :
    Rm E mX10_wentOf Q 27 [some (rf E 99), some (.int x1), some (.int x2)] [] H := by
  refine rn_iload_n dX10_wentOf_27 rfl ?_
  refine rn_bipush (x := (24 : Int32)) dX10_wentOf_28 (by decide) ?_
  refine rn_icmp_ge (tgt := 57) dX10_wentOf_30 (by decide) (fun hc_1 => ?_) (fun hc_1 => ?_)
  · replace hF := hF.1 hc_1
    refine rn_iconst (x := (-1 : Int32)) dX10_wentOf_57 (by decide) ?_
    exact rm_iret rfl dX10_wentOf_58 hF
  · replace hF := hF.2 hc_1
    refine rn_aload_n dX10_wentOf_33 rfl ?_
    refine rn_iload_n dX10_wentOf_34 rfl ?_
    refine rm_callV (c0 := 99) (As := [.int x2]) (st := []) mlRX10_212 mdX10_goesBy (Nat.le_of_ble_eq_true rfl) rfl (by decide) (by decide) rfl rfl rfl (Nat.le_of_ble_eq_true rfl) ⟨Nat.le_refl _, Nat.le_refl _⟩ dX10_wentOf_35 ?_
    refine cm_mono hF (fun w H_2 hF => ?_)
    obtain ⟨rfl, hF⟩ := hF
    refine rn_aload_n dX10_wentOf_38 rfl ?_
    refine rm_getr (r := 111) flRX10_43 rfl (by decide) rfl dX10_wentOf_39 ?_
    refine rn_iload_n dX10_wentOf_42 rfl ?_
    obtain ⟨j_3, hj_3, hF⟩ := hF
    refine rj_iald hj_3 rfl (by decide) rfl (by decide) dX10_wentOf_43 ?_
    refine rn_bipush (x := (9 : Int32)) dX10_wentOf_44 (by decide) ?_
    refine rn_icmp_ne (tgt := 51) dX10_wentOf_46 (by decide) (fun hc_4 => ?_) (fun hc_4 => ?_)
    · replace hF := hF.1 hc_4
      refine rn_iinc (w := (1 : Int32)) dX10_wentOf_51 rfl (by decide) rfl (by decide) (fun x2_5 ex2_5 => ?_)
      replace hF := hF x2_5 ex2_5
      refine rn_goto (tgt := 27) dX10_wentOf_54 (by decide) ?_
      exact rn_wk (L' := [some (rf E 99), some (.int x1), some (.int x2_5)]) (⟨rfl, ⟨rfl, ⟨rfl, trivial⟩⟩⟩) hF
    · replace hF := hF.2 hc_4
      refine rn_iload_n dX10_wentOf_49 rfl ?_
      exact rm_iret rfl dX10_wentOf_50 hF
theorem sgX10_went_0 {E : En} {Q : Option Value → Hi → Prop} {H : Hi} {x1 : Int32} 
    (hF : Cm E mX10_isThing [rf E 99, .int x1] H (fun w H_1 => ∃ r_2 : Int32, w = some (.int r_2) ∧ ((r_2 = 0 → (Q (some (.int (-2 : Int32))) H_1)) ∧ (¬ r_2 = 0 → (Cm E mX10_wentOf [rf E 99, .int x1] H_1 (fun w H_4 => ∃ r_5 : Int32, w = some (.int r_5) ∧ (Q (some (.int r_5)) H_4))))))) :
    Rm E mX10_went Q 0 [some (rf E 99), some (.int x1)] [] H := by
  refine rn_aload_n dX10_went_0 rfl ?_
  refine rn_iload_n dX10_went_1 rfl ?_
  refine rm_callV (c0 := 99) (As := [.int x1]) (st := []) mlRX10_147 mdX10_isThing (Nat.le_of_ble_eq_true rfl) rfl (by decide) (by decide) rfl rfl rfl (Nat.le_of_ble_eq_true rfl) ⟨Nat.le_refl _, Nat.le_refl _⟩ dX10_went_2 ?_
  refine cm_mono hF (fun w H_1 hF => ?_)
  obtain ⟨r_2, rfl, hF⟩ := hF
  refine rn_if_eq (tgt := 16) dX10_went_5 (by decide) (fun hc_3 => ?_) (fun hc_3 => ?_)
  · replace hF := hF.1 hc_3
    refine rn_bipush (x := (-2 : Int32)) dX10_went_16 (by decide) ?_
    exact rm_iret rfl dX10_went_18 hF
  · replace hF := hF.2 hc_3
    refine rn_aload_n dX10_went_8 rfl ?_
    refine rn_iload_n dX10_went_9 rfl ?_
    refine rm_callV (c0 := 99) (As := [.int x1]) (st := []) mlRX10_242 mdX10_wentOf (Nat.le_of_ble_eq_true rfl) rfl (by decide) (by decide) rfl rfl rfl (Nat.le_of_ble_eq_true rfl) ⟨Nat.le_refl _, Nat.le_refl _⟩ dX10_went_10 ?_
    refine cm_mono hF (fun w H_4 hF => ?_)
    obtain ⟨r_5, rfl, hF⟩ := hF
    refine rn_goto (tgt := 18) dX10_went_13 (by decide) ?_
    exact rm_iret rfl dX10_went_18 hF
theorem cmX10_went {E : En} {Q : Option Value → Hi → Prop} {H : Hi} {x1 : Int32} 
    (hF : Cm E mX10_isThing [rf E 99, .int x1] H (fun w H_1 => ∃ r_2 : Int32, w = some (.int r_2) ∧ ((r_2 = 0 → (Q (some (.int (-2 : Int32))) H_1)) ∧ (¬ r_2 = 0 → (Cm E mX10_wentOf [rf E 99, .int x1] H_1 (fun w H_4 => ∃ r_5 : Int32, w = some (.int r_5) ∧ (Q (some (.int r_5)) H_4))))))) :
    Cm E mX10_went [rf E 99, .int x1] H Q :=
  cm_of (by decide +kernel) (Nat.le_of_ble_eq_true rfl) rfl (sgX10_went_0  hF)
theorem sgX10_keeps_0 {E : En} {Q : Option Value → Hi → Prop} {H : Hi}  
    (hF : Rm E mX10_keeps Q 2 [some (rf E 99), some (.int (0 : Int32))] [] H) :
    Rm E mX10_keeps Q 0 [some (rf E 99), none] [] H := by
  refine rn_iconst (x := (0 : Int32)) dX10_keeps_0 (by decide) ?_
  refine rn_istore_n dX10_keeps_1 rfl (by decide) (fun x1_1 ex1_1 => ?_)
  subst ex1_1
  exact rn_wk (L' := [some (rf E 99), some (.int (0 : Int32))]) (⟨rfl, ⟨rfl, trivial⟩⟩) hF
theorem cmX10_keeps {E : En} {Q : Option Value → Hi → Prop} {H : Hi}  
    (hF : Rm E mX10_keeps Q 2 [some (rf E 99), some (.int (0 : Int32))] [] H) :
    Cm E mX10_keeps [rf E 99] H Q :=
  cm_of (by decide +kernel) (Nat.le_of_ble_eq_true rfl) rfl (sgX10_keeps_0  hF)
theorem sgX10_keeps_2 {E : En} {Q : Option Value → Hi → Prop} {H : Hi} {x1 : Int32} 
    (hF : ((8 : Int32) ≤ x1 → (Q none H)) ∧ (¬ (8 : Int32) ≤ x1 → (∃ j_2 : Nat, (j_2 < 8 ∧ x1 = nI j_2) ∧ (∃ j_3 : Nat, (j_3 < 8 ∧ x1 = nI j_3) ∧ (∀ H_4 : Hi, H_4 = up H 116 j_3 (H 111 j_2) → (∃ j_5 : Nat, (j_5 < 8 ∧ x1 = nI j_5) ∧ (∃ j_6 : Nat, (j_6 < 8 ∧ x1 = nI j_6) ∧ (∀ H_7 : Hi, H_7 = up H_4 117 j_6 (H_4 112 j_5) → (∃ j_8 : Nat, (j_8 < 8 ∧ x1 = nI j_8) ∧ (∃ j_9 : Nat, (j_9 < 8 ∧ x1 = nI j_9) ∧ (∀ H_10 : Hi, H_10 = up H_7 118 j_9 (H_7 113 j_8) → (∀ x1_11 : Int32, x1_11 = x1 + (1 : Int32) → (Rm E mX10_keeps Q 2 [some (rf E 99), some (.int x1_11)] [] H_10))))))))))))) :
    Rm E mX10_keeps Q 2 [some (rf E 99), some (.int x1)] [] H := by
  refine rn_iload_n dX10_keeps_2 rfl ?_
  refine rn_bipush (x := (8 : Int32)) dX10_keeps_3 (by decide) ?_
  refine rn_icmp_ge (tgt := 50) dX10_keeps_5 (by decide) (fun hc_1 => ?_) (fun hc_1 => ?_)
  · replace hF := hF.1 hc_1
    exact rm_vret rfl dX10_keeps_50 hF
  · replace hF := hF.2 hc_1
    refine rn_aload_n dX10_keeps_8 rfl ?_
    refine rm_getr (r := 116) flRX10_59 rfl (by decide) rfl dX10_keeps_9 ?_
    refine rn_iload_n dX10_keeps_12 rfl ?_
    refine rn_aload_n dX10_keeps_13 rfl ?_
    refine rm_getr (r := 111) flRX10_43 rfl (by decide) rfl dX10_keeps_14 ?_
    refine rn_iload_n dX10_keeps_17 rfl ?_
    obtain ⟨j_2, hj_2, hF⟩ := hF
    refine rj_iald hj_2 rfl (by decide) rfl (by decide) dX10_keeps_18 ?_
    obtain ⟨j_3, hj_3, hF⟩ := hF
    refine rj_iast hj_3 rfl (by decide) rfl (by decide) dX10_keeps_19 (fun H_4 eH_4 => ?_)
    replace hF := hF H_4 eH_4
    refine rn_aload_n dX10_keeps_20 rfl ?_
    refine rm_getr (r := 117) flRX10_62 rfl (by decide) rfl dX10_keeps_21 ?_
    refine rn_iload_n dX10_keeps_24 rfl ?_
    refine rn_aload_n dX10_keeps_25 rfl ?_
    refine rm_getr (r := 112) flRX10_46 rfl (by decide) rfl dX10_keeps_26 ?_
    refine rn_iload_n dX10_keeps_29 rfl ?_
    obtain ⟨j_5, hj_5, hF⟩ := hF
    refine rj_iald hj_5 rfl (by decide) rfl (by decide) dX10_keeps_30 ?_
    obtain ⟨j_6, hj_6, hF⟩ := hF
    refine rj_iast hj_6 rfl (by decide) rfl (by decide) dX10_keeps_31 (fun H_7 eH_7 => ?_)
    replace hF := hF H_7 eH_7
    refine rn_aload_n dX10_keeps_32 rfl ?_
    refine rm_getr (r := 118) flRX10_65 rfl (by decide) rfl dX10_keeps_33 ?_
    refine rn_iload_n dX10_keeps_36 rfl ?_
    refine rn_aload_n dX10_keeps_37 rfl ?_
    refine rm_getr (r := 113) flRX10_49 rfl (by decide) rfl dX10_keeps_38 ?_
    refine rn_iload_n dX10_keeps_41 rfl ?_
    obtain ⟨j_8, hj_8, hF⟩ := hF
    refine rj_iald hj_8 rfl (by decide) rfl (by decide) dX10_keeps_42 ?_
    obtain ⟨j_9, hj_9, hF⟩ := hF
    refine rj_iast hj_9 rfl (by decide) rfl (by decide) dX10_keeps_43 (fun H_10 eH_10 => ?_)
    replace hF := hF H_10 eH_10
    refine rn_iinc (w := (1 : Int32)) dX10_keeps_44 rfl (by decide) rfl (by decide) (fun x1_11 ex1_11 => ?_)
    replace hF := hF x1_11 ex1_11
    refine rn_goto (tgt := 2) dX10_keeps_47 (by decide) ?_
    exact rn_wk (L' := [some (rf E 99), some (.int x1_11)]) (⟨rfl, ⟨rfl, trivial⟩⟩) hF
theorem sgX10_restores_0 {E : En} {Q : Option Value → Hi → Prop} {H : Hi}  
    (hF : Rm E mX10_restores Q 2 [some (rf E 99), some (.int (0 : Int32))] [] H) :
    Rm E mX10_restores Q 0 [some (rf E 99), none] [] H := by
  refine rn_iconst (x := (0 : Int32)) dX10_restores_0 (by decide) ?_
  refine rn_istore_n dX10_restores_1 rfl (by decide) (fun x1_1 ex1_1 => ?_)
  subst ex1_1
  exact rn_wk (L' := [some (rf E 99), some (.int (0 : Int32))]) (⟨rfl, ⟨rfl, trivial⟩⟩) hF
theorem cmX10_restores {E : En} {Q : Option Value → Hi → Prop} {H : Hi}  
    (hF : Rm E mX10_restores Q 2 [some (rf E 99), some (.int (0 : Int32))] [] H) :
    Cm E mX10_restores [rf E 99] H Q :=
  cm_of (by decide +kernel) (Nat.le_of_ble_eq_true rfl) rfl (sgX10_restores_0  hF)
theorem sgX10_restores_2 {E : En} {Q : Option Value → Hi → Prop} {H : Hi} {x1 : Int32} 
    (hF : ((8 : Int32) ≤ x1 → (Q none H)) ∧ (¬ (8 : Int32) ≤ x1 → (∃ j_2 : Nat, (j_2 < 8 ∧ x1 = nI j_2) ∧ (∃ j_3 : Nat, (j_3 < 8 ∧ x1 = nI j_3) ∧ (∀ H_4 : Hi, H_4 = up H 111 j_3 (H 116 j_2) → (∃ j_5 : Nat, (j_5 < 8 ∧ x1 = nI j_5) ∧ (∃ j_6 : Nat, (j_6 < 8 ∧ x1 = nI j_6) ∧ (∀ H_7 : Hi, H_7 = up H_4 112 j_6 (H_4 117 j_5) → (∃ j_8 : Nat, (j_8 < 8 ∧ x1 = nI j_8) ∧ (∃ j_9 : Nat, (j_9 < 8 ∧ x1 = nI j_9) ∧ (∀ H_10 : Hi, H_10 = up H_7 113 j_9 (H_7 118 j_8) → (∀ x1_11 : Int32, x1_11 = x1 + (1 : Int32) → (Rm E mX10_restores Q 2 [some (rf E 99), some (.int x1_11)] [] H_10))))))))))))) :
    Rm E mX10_restores Q 2 [some (rf E 99), some (.int x1)] [] H := by
  refine rn_iload_n dX10_restores_2 rfl ?_
  refine rn_bipush (x := (8 : Int32)) dX10_restores_3 (by decide) ?_
  refine rn_icmp_ge (tgt := 50) dX10_restores_5 (by decide) (fun hc_1 => ?_) (fun hc_1 => ?_)
  · replace hF := hF.1 hc_1
    exact rm_vret rfl dX10_restores_50 hF
  · replace hF := hF.2 hc_1
    refine rn_aload_n dX10_restores_8 rfl ?_
    refine rm_getr (r := 111) flRX10_43 rfl (by decide) rfl dX10_restores_9 ?_
    refine rn_iload_n dX10_restores_12 rfl ?_
    refine rn_aload_n dX10_restores_13 rfl ?_
    refine rm_getr (r := 116) flRX10_59 rfl (by decide) rfl dX10_restores_14 ?_
    refine rn_iload_n dX10_restores_17 rfl ?_
    obtain ⟨j_2, hj_2, hF⟩ := hF
    refine rj_iald hj_2 rfl (by decide) rfl (by decide) dX10_restores_18 ?_
    obtain ⟨j_3, hj_3, hF⟩ := hF
    refine rj_iast hj_3 rfl (by decide) rfl (by decide) dX10_restores_19 (fun H_4 eH_4 => ?_)
    replace hF := hF H_4 eH_4
    refine rn_aload_n dX10_restores_20 rfl ?_
    refine rm_getr (r := 112) flRX10_46 rfl (by decide) rfl dX10_restores_21 ?_
    refine rn_iload_n dX10_restores_24 rfl ?_
    refine rn_aload_n dX10_restores_25 rfl ?_
    refine rm_getr (r := 117) flRX10_62 rfl (by decide) rfl dX10_restores_26 ?_
    refine rn_iload_n dX10_restores_29 rfl ?_
    obtain ⟨j_5, hj_5, hF⟩ := hF
    refine rj_iald hj_5 rfl (by decide) rfl (by decide) dX10_restores_30 ?_
    obtain ⟨j_6, hj_6, hF⟩ := hF
    refine rj_iast hj_6 rfl (by decide) rfl (by decide) dX10_restores_31 (fun H_7 eH_7 => ?_)
    replace hF := hF H_7 eH_7
    refine rn_aload_n dX10_restores_32 rfl ?_
    refine rm_getr (r := 113) flRX10_49 rfl (by decide) rfl dX10_restores_33 ?_
    refine rn_iload_n dX10_restores_36 rfl ?_
    refine rn_aload_n dX10_restores_37 rfl ?_
    refine rm_getr (r := 118) flRX10_65 rfl (by decide) rfl dX10_restores_38 ?_
    refine rn_iload_n dX10_restores_41 rfl ?_
    obtain ⟨j_8, hj_8, hF⟩ := hF
    refine rj_iald hj_8 rfl (by decide) rfl (by decide) dX10_restores_42 ?_
    obtain ⟨j_9, hj_9, hF⟩ := hF
    refine rj_iast hj_9 rfl (by decide) rfl (by decide) dX10_restores_43 (fun H_10 eH_10 => ?_)
    replace hF := hF H_10 eH_10
    refine rn_iinc (w := (1 : Int32)) dX10_restores_44 rfl (by decide) rfl (by decide) (fun x1_11 ex1_11 => ?_)
    replace hF := hF x1_11 ex1_11
    refine rn_goto (tgt := 2) dX10_restores_47 (by decide) ?_
    exact rn_wk (L' := [some (rf E 99), some (.int x1_11)]) (⟨rfl, ⟨rfl, trivial⟩⟩) hF
theorem sgX10_lends_0 {E : En} {Q : Option Value → Hi → Prop} {H : Hi} {x1 : Int32} {x2 : Int32} {x3 : Int32} {x4 : Int32} {x5 : Int32} {x6 : Int32} 
    (hF : Cm E mX10_restores [rf E 99] H (fun w H_1 => w = none ∧ ((x1 = (-1 : Int32) → ((x2 = (-1 : Int32) → (Cm E mX10_ends [rf E 99, .int x5] H_1 (fun w H_6 => w = none ∧ (∀ x8_7 : Int32, x8_7 = x5 + (1 : Int32) → (Rm E mX10_lends Q 56 [some (rf E 99), some (.int x1), some (.int x2), some (.int x3), some (.int x4), none, some (.int x6), none, some (.int x8_7)] [] H_6))))) ∧ (¬ x2 = (-1 : Int32) → (Cm E mX10_acts [rf E 99, .int x2] H_1 (fun w H_8 => ∃ r_9 : Int32, w = some (.int r_9) ∧ ((r_9 = 0 → (Cm E mX10_ends [rf E 99, .int x5] H_8 (fun w H_12 => w = none ∧ (∀ x8_13 : Int32, x8_13 = x5 + (1 : Int32) → (Rm E mX10_lends Q 56 [some (rf E 99), some (.int x1), some (.int x2), some (.int x3), some (.int x4), none, some (.int x6), none, some (.int x8_13)] [] H_12))))) ∧ (¬ r_9 = 0 → (Cm E mX10_ends [rf E 99, .int x5] H_8 (fun w H_15 => w = none ∧ (∀ x8_16 : Int32, x8_16 = x5 + (1 : Int32) → (Rm E mX10_lends Q 56 [some (rf E 99), some (.int x1), some (.int x2), some (.int x3), some (.int x4), none, some (.int x6), none, some (.int x8_16)] [] H_15))))))))))) ∧ (¬ x1 = (-1 : Int32) → (Cm E mX10_acts [rf E 99, .int x1] H_1 (fun w H_17 => ∃ r_18 : Int32, w = some (.int r_18) ∧ ((r_18 = 0 → ((x2 = (-1 : Int32) → (Cm E mX10_ends [rf E 99, .int x5] H_17 (fun w H_23 => w = none ∧ (∀ x8_24 : Int32, x8_24 = x5 + (1 : Int32) → (Rm E mX10_lends Q 56 [some (rf E 99), some (.int x1), some (.int x2), some (.int x3), some (.int x4), none, some (.int x6), none, some (.int x8_24)] [] H_23))))) ∧ (¬ x2 = (-1 : Int32) → (Cm E mX10_acts [rf E 99, .int x2] H_17 (fun w H_25 => ∃ r_26 : Int32, w = some (.int r_26) ∧ ((r_26 = 0 → (Cm E mX10_ends [rf E 99, .int x5] H_25 (fun w H_29 => w = none ∧ (∀ x8_30 : Int32, x8_30 = x5 + (1 : Int32) → (Rm E mX10_lends Q 56 [some (rf E 99), some (.int x1), some (.int x2), some (.int x3), some (.int x4), none, some (.int x6), none, some (.int x8_30)] [] H_29))))) ∧ (¬ r_26 = 0 → (Cm E mX10_ends [rf E 99, .int x5] H_25 (fun w H_32 => w = none ∧ (∀ x8_33 : Int32, x8_33 = x5 + (1 : Int32) → (Rm E mX10_lends Q 56 [some (rf E 99), some (.int x1), some (.int x2), some (.int x3), some (.int x4), none, some (.int x6), none, some (.int x8_33)] [] H_32))))))))))) ∧ (¬ r_18 = 0 → ((x2 = (-1 : Int32) → (Cm E mX10_ends [rf E 99, .int x5] H_17 (fun w H_37 => w = none ∧ (∀ x8_38 : Int32, x8_38 = x5 + (1 : Int32) → (Rm E mX10_lends Q 56 [some (rf E 99), some (.int x1), some (.int x2), some (.int x3), some (.int x4), none, some (.int x6), none, some (.int x8_38)] [] H_37))))) ∧ (¬ x2 = (-1 : Int32) → (Cm E mX10_acts [rf E 99, .int x2] H_17 (fun w H_39 => ∃ r_40 : Int32, w = some (.int r_40) ∧ ((r_40 = 0 → (Cm E mX10_ends [rf E 99, .int x5] H_39 (fun w H_43 => w = none ∧ (∀ x8_44 : Int32, x8_44 = x5 + (1 : Int32) → (Rm E mX10_lends Q 56 [some (rf E 99), some (.int x1), some (.int x2), some (.int x3), some (.int x4), none, some (.int x6), none, some (.int x8_44)] [] H_43))))) ∧ (¬ r_40 = 0 → (Cm E mX10_ends [rf E 99, .int x5] H_39 (fun w H_46 => w = none ∧ (∀ x8_47 : Int32, x8_47 = x5 + (1 : Int32) → (Rm E mX10_lends Q 56 [some (rf E 99), some (.int x1), some (.int x2), some (.int x3), some (.int x4), none, some (.int x6), none, some (.int x8_47)] [] H_46)))))))))))))))))) :
    Rm E mX10_lends Q 0 [some (rf E 99), some (.int x1), some (.int x2), some (.int x3), some (.int x4), some (.int x5), some (.int x6), none, none] [] H := by
  refine rn_aload_n dX10_lends_0 rfl ?_
  refine rm_callV (c0 := 99) (As := []) (st := []) mlRX10_245 mdX10_restores (Nat.le_of_ble_eq_true rfl) rfl (by decide) (by decide) rfl rfl rfl (Nat.le_of_ble_eq_true rfl) ⟨Nat.le_refl _, Nat.le_refl _⟩ dX10_lends_1 ?_
  refine cm_mono hF (fun w H_1 hF => ?_)
  obtain ⟨rfl, hF⟩ := hF
  refine rn_iload_n dX10_lends_4 rfl ?_
  refine rn_iconst (x := (-1 : Int32)) dX10_lends_5 (by decide) ?_
  refine rn_icmp_eq (tgt := 21) dX10_lends_6 (by decide) (fun hc_2 => ?_) (fun hc_2 => ?_)
  · replace hF := hF.1 hc_2
    refine rn_iconst (x := (0 : Int32)) dX10_lends_21 (by decide) ?_
    refine rn_istore dX10_lends_22 rfl (by decide) (fun x7_3 ex7_3 => ?_)
    subst ex7_3
    refine rn_iload_n dX10_lends_24 rfl ?_
    refine rn_iconst (x := (-1 : Int32)) dX10_lends_25 (by decide) ?_
    refine rn_icmp_eq (tgt := 41) dX10_lends_26 (by decide) (fun hc_4 => ?_) (fun hc_4 => ?_)
    · replace hF := hF.1 hc_4
      refine rn_iconst (x := (0 : Int32)) dX10_lends_41 (by decide) ?_
      refine rn_istore dX10_lends_42 rfl (by decide) (fun x7_5 ex7_5 => ?_)
      subst ex7_5
      refine rn_aload_n dX10_lends_44 rfl ?_
      refine rn_iload dX10_lends_45 rfl ?_
      refine rm_callV (c0 := 99) (As := [.int x5]) (st := []) mlRX10_206 mdX10_ends (Nat.le_of_ble_eq_true rfl) rfl (by decide) (by decide) rfl rfl rfl (Nat.le_of_ble_eq_true rfl) ⟨Nat.le_refl _, Nat.le_refl _⟩ dX10_lends_47 ?_
      refine cm_mono hF (fun w H_6 hF => ?_)
      obtain ⟨rfl, hF⟩ := hF
      refine rn_iload dX10_lends_50 rfl ?_
      refine rn_iconst (x := (1 : Int32)) dX10_lends_52 (by decide) ?_
      refine rn_iadd dX10_lends_53 ?_
      refine rn_istore dX10_lends_54 rfl (by decide) (fun x8_7 ex8_7 => ?_)
      replace hF := hF x8_7 ex8_7
      exact rn_wk (L' := [some (rf E 99), some (.int x1), some (.int x2), some (.int x3), some (.int x4), none, some (.int x6), none, some (.int x8_7)]) (⟨rfl, ⟨rfl, ⟨rfl, ⟨rfl, ⟨rfl, ⟨rfl, ⟨rfl, trivial⟩⟩⟩⟩⟩⟩⟩) hF
    · replace hF := hF.2 hc_4
      refine rn_aload_n dX10_lends_29 rfl ?_
      refine rn_iload_n dX10_lends_30 rfl ?_
      refine rm_callV (c0 := 99) (As := [.int x2]) (st := []) mlRX10_196 mdX10_acts (Nat.le_of_ble_eq_true rfl) rfl (by decide) (by decide) rfl rfl rfl (Nat.le_of_ble_eq_true rfl) ⟨Nat.le_refl _, Nat.le_refl _⟩ dX10_lends_31 ?_
      refine cm_mono hF (fun w H_8 hF => ?_)
      obtain ⟨r_9, rfl, hF⟩ := hF
      refine rn_if_eq (tgt := 41) dX10_lends_34 (by decide) (fun hc_10 => ?_) (fun hc_10 => ?_)
      · replace hF := hF.1 hc_10
        refine rn_iconst (x := (0 : Int32)) dX10_lends_41 (by decide) ?_
        refine rn_istore dX10_lends_42 rfl (by decide) (fun x7_11 ex7_11 => ?_)
        subst ex7_11
        refine rn_aload_n dX10_lends_44 rfl ?_
        refine rn_iload dX10_lends_45 rfl ?_
        refine rm_callV (c0 := 99) (As := [.int x5]) (st := []) mlRX10_206 mdX10_ends (Nat.le_of_ble_eq_true rfl) rfl (by decide) (by decide) rfl rfl rfl (Nat.le_of_ble_eq_true rfl) ⟨Nat.le_refl _, Nat.le_refl _⟩ dX10_lends_47 ?_
        refine cm_mono hF (fun w H_12 hF => ?_)
        obtain ⟨rfl, hF⟩ := hF
        refine rn_iload dX10_lends_50 rfl ?_
        refine rn_iconst (x := (1 : Int32)) dX10_lends_52 (by decide) ?_
        refine rn_iadd dX10_lends_53 ?_
        refine rn_istore dX10_lends_54 rfl (by decide) (fun x8_13 ex8_13 => ?_)
        replace hF := hF x8_13 ex8_13
        exact rn_wk (L' := [some (rf E 99), some (.int x1), some (.int x2), some (.int x3), some (.int x4), none, some (.int x6), none, some (.int x8_13)]) (⟨rfl, ⟨rfl, ⟨rfl, ⟨rfl, ⟨rfl, ⟨rfl, ⟨rfl, trivial⟩⟩⟩⟩⟩⟩⟩) hF
      · replace hF := hF.2 hc_10
        refine rn_iconst (x := (1 : Int32)) dX10_lends_37 (by decide) ?_
        refine rn_goto (tgt := 42) dX10_lends_38 (by decide) ?_
        refine rn_istore dX10_lends_42 rfl (by decide) (fun x7_14 ex7_14 => ?_)
        subst ex7_14
        refine rn_aload_n dX10_lends_44 rfl ?_
        refine rn_iload dX10_lends_45 rfl ?_
        refine rm_callV (c0 := 99) (As := [.int x5]) (st := []) mlRX10_206 mdX10_ends (Nat.le_of_ble_eq_true rfl) rfl (by decide) (by decide) rfl rfl rfl (Nat.le_of_ble_eq_true rfl) ⟨Nat.le_refl _, Nat.le_refl _⟩ dX10_lends_47 ?_
        refine cm_mono hF (fun w H_15 hF => ?_)
        obtain ⟨rfl, hF⟩ := hF
        refine rn_iload dX10_lends_50 rfl ?_
        refine rn_iconst (x := (1 : Int32)) dX10_lends_52 (by decide) ?_
        refine rn_iadd dX10_lends_53 ?_
        refine rn_istore dX10_lends_54 rfl (by decide) (fun x8_16 ex8_16 => ?_)
        replace hF := hF x8_16 ex8_16
        exact rn_wk (L' := [some (rf E 99), some (.int x1), some (.int x2), some (.int x3), some (.int x4), none, some (.int x6), none, some (.int x8_16)]) (⟨rfl, ⟨rfl, ⟨rfl, ⟨rfl, ⟨rfl, ⟨rfl, ⟨rfl, trivial⟩⟩⟩⟩⟩⟩⟩) hF
  · replace hF := hF.2 hc_2
    refine rn_aload_n dX10_lends_9 rfl ?_
    refine rn_iload_n dX10_lends_10 rfl ?_
    refine rm_callV (c0 := 99) (As := [.int x1]) (st := []) mlRX10_196 mdX10_acts (Nat.le_of_ble_eq_true rfl) rfl (by decide) (by decide) rfl rfl rfl (Nat.le_of_ble_eq_true rfl) ⟨Nat.le_refl _, Nat.le_refl _⟩ dX10_lends_11 ?_
    refine cm_mono hF (fun w H_17 hF => ?_)
    obtain ⟨r_18, rfl, hF⟩ := hF
    refine rn_if_eq (tgt := 21) dX10_lends_14 (by decide) (fun hc_19 => ?_) (fun hc_19 => ?_)
    · replace hF := hF.1 hc_19
      refine rn_iconst (x := (0 : Int32)) dX10_lends_21 (by decide) ?_
      refine rn_istore dX10_lends_22 rfl (by decide) (fun x7_20 ex7_20 => ?_)
      subst ex7_20
      refine rn_iload_n dX10_lends_24 rfl ?_
      refine rn_iconst (x := (-1 : Int32)) dX10_lends_25 (by decide) ?_
      refine rn_icmp_eq (tgt := 41) dX10_lends_26 (by decide) (fun hc_21 => ?_) (fun hc_21 => ?_)
      · replace hF := hF.1 hc_21
        refine rn_iconst (x := (0 : Int32)) dX10_lends_41 (by decide) ?_
        refine rn_istore dX10_lends_42 rfl (by decide) (fun x7_22 ex7_22 => ?_)
        subst ex7_22
        refine rn_aload_n dX10_lends_44 rfl ?_
        refine rn_iload dX10_lends_45 rfl ?_
        refine rm_callV (c0 := 99) (As := [.int x5]) (st := []) mlRX10_206 mdX10_ends (Nat.le_of_ble_eq_true rfl) rfl (by decide) (by decide) rfl rfl rfl (Nat.le_of_ble_eq_true rfl) ⟨Nat.le_refl _, Nat.le_refl _⟩ dX10_lends_47 ?_
        refine cm_mono hF (fun w H_23 hF => ?_)
        obtain ⟨rfl, hF⟩ := hF
        refine rn_iload dX10_lends_50 rfl ?_
        refine rn_iconst (x := (1 : Int32)) dX10_lends_52 (by decide) ?_
        refine rn_iadd dX10_lends_53 ?_
        refine rn_istore dX10_lends_54 rfl (by decide) (fun x8_24 ex8_24 => ?_)
        replace hF := hF x8_24 ex8_24
        exact rn_wk (L' := [some (rf E 99), some (.int x1), some (.int x2), some (.int x3), some (.int x4), none, some (.int x6), none, some (.int x8_24)]) (⟨rfl, ⟨rfl, ⟨rfl, ⟨rfl, ⟨rfl, ⟨rfl, ⟨rfl, trivial⟩⟩⟩⟩⟩⟩⟩) hF
      · replace hF := hF.2 hc_21
        refine rn_aload_n dX10_lends_29 rfl ?_
        refine rn_iload_n dX10_lends_30 rfl ?_
        refine rm_callV (c0 := 99) (As := [.int x2]) (st := []) mlRX10_196 mdX10_acts (Nat.le_of_ble_eq_true rfl) rfl (by decide) (by decide) rfl rfl rfl (Nat.le_of_ble_eq_true rfl) ⟨Nat.le_refl _, Nat.le_refl _⟩ dX10_lends_31 ?_
        refine cm_mono hF (fun w H_25 hF => ?_)
        obtain ⟨r_26, rfl, hF⟩ := hF
        refine rn_if_eq (tgt := 41) dX10_lends_34 (by decide) (fun hc_27 => ?_) (fun hc_27 => ?_)
        · replace hF := hF.1 hc_27
          refine rn_iconst (x := (0 : Int32)) dX10_lends_41 (by decide) ?_
          refine rn_istore dX10_lends_42 rfl (by decide) (fun x7_28 ex7_28 => ?_)
          subst ex7_28
          refine rn_aload_n dX10_lends_44 rfl ?_
          refine rn_iload dX10_lends_45 rfl ?_
          refine rm_callV (c0 := 99) (As := [.int x5]) (st := []) mlRX10_206 mdX10_ends (Nat.le_of_ble_eq_true rfl) rfl (by decide) (by decide) rfl rfl rfl (Nat.le_of_ble_eq_true rfl) ⟨Nat.le_refl _, Nat.le_refl _⟩ dX10_lends_47 ?_
          refine cm_mono hF (fun w H_29 hF => ?_)
          obtain ⟨rfl, hF⟩ := hF
          refine rn_iload dX10_lends_50 rfl ?_
          refine rn_iconst (x := (1 : Int32)) dX10_lends_52 (by decide) ?_
          refine rn_iadd dX10_lends_53 ?_
          refine rn_istore dX10_lends_54 rfl (by decide) (fun x8_30 ex8_30 => ?_)
          replace hF := hF x8_30 ex8_30
          exact rn_wk (L' := [some (rf E 99), some (.int x1), some (.int x2), some (.int x3), some (.int x4), none, some (.int x6), none, some (.int x8_30)]) (⟨rfl, ⟨rfl, ⟨rfl, ⟨rfl, ⟨rfl, ⟨rfl, ⟨rfl, trivial⟩⟩⟩⟩⟩⟩⟩) hF
        · replace hF := hF.2 hc_27
          refine rn_iconst (x := (1 : Int32)) dX10_lends_37 (by decide) ?_
          refine rn_goto (tgt := 42) dX10_lends_38 (by decide) ?_
          refine rn_istore dX10_lends_42 rfl (by decide) (fun x7_31 ex7_31 => ?_)
          subst ex7_31
          refine rn_aload_n dX10_lends_44 rfl ?_
          refine rn_iload dX10_lends_45 rfl ?_
          refine rm_callV (c0 := 99) (As := [.int x5]) (st := []) mlRX10_206 mdX10_ends (Nat.le_of_ble_eq_true rfl) rfl (by decide) (by decide) rfl rfl rfl (Nat.le_of_ble_eq_true rfl) ⟨Nat.le_refl _, Nat.le_refl _⟩ dX10_lends_47 ?_
          refine cm_mono hF (fun w H_32 hF => ?_)
          obtain ⟨rfl, hF⟩ := hF
          refine rn_iload dX10_lends_50 rfl ?_
          refine rn_iconst (x := (1 : Int32)) dX10_lends_52 (by decide) ?_
          refine rn_iadd dX10_lends_53 ?_
          refine rn_istore dX10_lends_54 rfl (by decide) (fun x8_33 ex8_33 => ?_)
          replace hF := hF x8_33 ex8_33
          exact rn_wk (L' := [some (rf E 99), some (.int x1), some (.int x2), some (.int x3), some (.int x4), none, some (.int x6), none, some (.int x8_33)]) (⟨rfl, ⟨rfl, ⟨rfl, ⟨rfl, ⟨rfl, ⟨rfl, ⟨rfl, trivial⟩⟩⟩⟩⟩⟩⟩) hF
    · replace hF := hF.2 hc_19
      refine rn_iconst (x := (1 : Int32)) dX10_lends_17 (by decide) ?_
      refine rn_goto (tgt := 22) dX10_lends_18 (by decide) ?_
      refine rn_istore dX10_lends_22 rfl (by decide) (fun x7_34 ex7_34 => ?_)
      subst ex7_34
      refine rn_iload_n dX10_lends_24 rfl ?_
      refine rn_iconst (x := (-1 : Int32)) dX10_lends_25 (by decide) ?_
      refine rn_icmp_eq (tgt := 41) dX10_lends_26 (by decide) (fun hc_35 => ?_) (fun hc_35 => ?_)
      · replace hF := hF.1 hc_35
        refine rn_iconst (x := (0 : Int32)) dX10_lends_41 (by decide) ?_
        refine rn_istore dX10_lends_42 rfl (by decide) (fun x7_36 ex7_36 => ?_)
        subst ex7_36
        refine rn_aload_n dX10_lends_44 rfl ?_
        refine rn_iload dX10_lends_45 rfl ?_
        refine rm_callV (c0 := 99) (As := [.int x5]) (st := []) mlRX10_206 mdX10_ends (Nat.le_of_ble_eq_true rfl) rfl (by decide) (by decide) rfl rfl rfl (Nat.le_of_ble_eq_true rfl) ⟨Nat.le_refl _, Nat.le_refl _⟩ dX10_lends_47 ?_
        refine cm_mono hF (fun w H_37 hF => ?_)
        obtain ⟨rfl, hF⟩ := hF
        refine rn_iload dX10_lends_50 rfl ?_
        refine rn_iconst (x := (1 : Int32)) dX10_lends_52 (by decide) ?_
        refine rn_iadd dX10_lends_53 ?_
        refine rn_istore dX10_lends_54 rfl (by decide) (fun x8_38 ex8_38 => ?_)
        replace hF := hF x8_38 ex8_38
        exact rn_wk (L' := [some (rf E 99), some (.int x1), some (.int x2), some (.int x3), some (.int x4), none, some (.int x6), none, some (.int x8_38)]) (⟨rfl, ⟨rfl, ⟨rfl, ⟨rfl, ⟨rfl, ⟨rfl, ⟨rfl, trivial⟩⟩⟩⟩⟩⟩⟩) hF
      · replace hF := hF.2 hc_35
        refine rn_aload_n dX10_lends_29 rfl ?_
        refine rn_iload_n dX10_lends_30 rfl ?_
        refine rm_callV (c0 := 99) (As := [.int x2]) (st := []) mlRX10_196 mdX10_acts (Nat.le_of_ble_eq_true rfl) rfl (by decide) (by decide) rfl rfl rfl (Nat.le_of_ble_eq_true rfl) ⟨Nat.le_refl _, Nat.le_refl _⟩ dX10_lends_31 ?_
        refine cm_mono hF (fun w H_39 hF => ?_)
        obtain ⟨r_40, rfl, hF⟩ := hF
        refine rn_if_eq (tgt := 41) dX10_lends_34 (by decide) (fun hc_41 => ?_) (fun hc_41 => ?_)
        · replace hF := hF.1 hc_41
          refine rn_iconst (x := (0 : Int32)) dX10_lends_41 (by decide) ?_
          refine rn_istore dX10_lends_42 rfl (by decide) (fun x7_42 ex7_42 => ?_)
          subst ex7_42
          refine rn_aload_n dX10_lends_44 rfl ?_
          refine rn_iload dX10_lends_45 rfl ?_
          refine rm_callV (c0 := 99) (As := [.int x5]) (st := []) mlRX10_206 mdX10_ends (Nat.le_of_ble_eq_true rfl) rfl (by decide) (by decide) rfl rfl rfl (Nat.le_of_ble_eq_true rfl) ⟨Nat.le_refl _, Nat.le_refl _⟩ dX10_lends_47 ?_
          refine cm_mono hF (fun w H_43 hF => ?_)
          obtain ⟨rfl, hF⟩ := hF
          refine rn_iload dX10_lends_50 rfl ?_
          refine rn_iconst (x := (1 : Int32)) dX10_lends_52 (by decide) ?_
          refine rn_iadd dX10_lends_53 ?_
          refine rn_istore dX10_lends_54 rfl (by decide) (fun x8_44 ex8_44 => ?_)
          replace hF := hF x8_44 ex8_44
          exact rn_wk (L' := [some (rf E 99), some (.int x1), some (.int x2), some (.int x3), some (.int x4), none, some (.int x6), none, some (.int x8_44)]) (⟨rfl, ⟨rfl, ⟨rfl, ⟨rfl, ⟨rfl, ⟨rfl, ⟨rfl, trivial⟩⟩⟩⟩⟩⟩⟩) hF
        · replace hF := hF.2 hc_41
          refine rn_iconst (x := (1 : Int32)) dX10_lends_37 (by decide) ?_
          refine rn_goto (tgt := 42) dX10_lends_38 (by decide) ?_
          refine rn_istore dX10_lends_42 rfl (by decide) (fun x7_45 ex7_45 => ?_)
          subst ex7_45
          refine rn_aload_n dX10_lends_44 rfl ?_
          refine rn_iload dX10_lends_45 rfl ?_
          refine rm_callV (c0 := 99) (As := [.int x5]) (st := []) mlRX10_206 mdX10_ends (Nat.le_of_ble_eq_true rfl) rfl (by decide) (by decide) rfl rfl rfl (Nat.le_of_ble_eq_true rfl) ⟨Nat.le_refl _, Nat.le_refl _⟩ dX10_lends_47 ?_
          refine cm_mono hF (fun w H_46 hF => ?_)
          obtain ⟨rfl, hF⟩ := hF
          refine rn_iload dX10_lends_50 rfl ?_
          refine rn_iconst (x := (1 : Int32)) dX10_lends_52 (by decide) ?_
          refine rn_iadd dX10_lends_53 ?_
          refine rn_istore dX10_lends_54 rfl (by decide) (fun x8_47 ex8_47 => ?_)
          replace hF := hF x8_47 ex8_47
          exact rn_wk (L' := [some (rf E 99), some (.int x1), some (.int x2), some (.int x3), some (.int x4), none, some (.int x6), none, some (.int x8_47)]) (⟨rfl, ⟨rfl, ⟨rfl, ⟨rfl, ⟨rfl, ⟨rfl, ⟨rfl, trivial⟩⟩⟩⟩⟩⟩⟩) hF
theorem cmX10_lends {E : En} {Q : Option Value → Hi → Prop} {H : Hi} {x1 : Int32} {x2 : Int32} {x3 : Int32} {x4 : Int32} {x5 : Int32} {x6 : Int32} 
    (hF : Cm E mX10_restores [rf E 99] H (fun w H_1 => w = none ∧ ((x1 = (-1 : Int32) → ((x2 = (-1 : Int32) → (Cm E mX10_ends [rf E 99, .int x5] H_1 (fun w H_6 => w = none ∧ (∀ x8_7 : Int32, x8_7 = x5 + (1 : Int32) → (Rm E mX10_lends Q 56 [some (rf E 99), some (.int x1), some (.int x2), some (.int x3), some (.int x4), none, some (.int x6), none, some (.int x8_7)] [] H_6))))) ∧ (¬ x2 = (-1 : Int32) → (Cm E mX10_acts [rf E 99, .int x2] H_1 (fun w H_8 => ∃ r_9 : Int32, w = some (.int r_9) ∧ ((r_9 = 0 → (Cm E mX10_ends [rf E 99, .int x5] H_8 (fun w H_12 => w = none ∧ (∀ x8_13 : Int32, x8_13 = x5 + (1 : Int32) → (Rm E mX10_lends Q 56 [some (rf E 99), some (.int x1), some (.int x2), some (.int x3), some (.int x4), none, some (.int x6), none, some (.int x8_13)] [] H_12))))) ∧ (¬ r_9 = 0 → (Cm E mX10_ends [rf E 99, .int x5] H_8 (fun w H_15 => w = none ∧ (∀ x8_16 : Int32, x8_16 = x5 + (1 : Int32) → (Rm E mX10_lends Q 56 [some (rf E 99), some (.int x1), some (.int x2), some (.int x3), some (.int x4), none, some (.int x6), none, some (.int x8_16)] [] H_15))))))))))) ∧ (¬ x1 = (-1 : Int32) → (Cm E mX10_acts [rf E 99, .int x1] H_1 (fun w H_17 => ∃ r_18 : Int32, w = some (.int r_18) ∧ ((r_18 = 0 → ((x2 = (-1 : Int32) → (Cm E mX10_ends [rf E 99, .int x5] H_17 (fun w H_23 => w = none ∧ (∀ x8_24 : Int32, x8_24 = x5 + (1 : Int32) → (Rm E mX10_lends Q 56 [some (rf E 99), some (.int x1), some (.int x2), some (.int x3), some (.int x4), none, some (.int x6), none, some (.int x8_24)] [] H_23))))) ∧ (¬ x2 = (-1 : Int32) → (Cm E mX10_acts [rf E 99, .int x2] H_17 (fun w H_25 => ∃ r_26 : Int32, w = some (.int r_26) ∧ ((r_26 = 0 → (Cm E mX10_ends [rf E 99, .int x5] H_25 (fun w H_29 => w = none ∧ (∀ x8_30 : Int32, x8_30 = x5 + (1 : Int32) → (Rm E mX10_lends Q 56 [some (rf E 99), some (.int x1), some (.int x2), some (.int x3), some (.int x4), none, some (.int x6), none, some (.int x8_30)] [] H_29))))) ∧ (¬ r_26 = 0 → (Cm E mX10_ends [rf E 99, .int x5] H_25 (fun w H_32 => w = none ∧ (∀ x8_33 : Int32, x8_33 = x5 + (1 : Int32) → (Rm E mX10_lends Q 56 [some (rf E 99), some (.int x1), some (.int x2), some (.int x3), some (.int x4), none, some (.int x6), none, some (.int x8_33)] [] H_32))))))))))) ∧ (¬ r_18 = 0 → ((x2 = (-1 : Int32) → (Cm E mX10_ends [rf E 99, .int x5] H_17 (fun w H_37 => w = none ∧ (∀ x8_38 : Int32, x8_38 = x5 + (1 : Int32) → (Rm E mX10_lends Q 56 [some (rf E 99), some (.int x1), some (.int x2), some (.int x3), some (.int x4), none, some (.int x6), none, some (.int x8_38)] [] H_37))))) ∧ (¬ x2 = (-1 : Int32) → (Cm E mX10_acts [rf E 99, .int x2] H_17 (fun w H_39 => ∃ r_40 : Int32, w = some (.int r_40) ∧ ((r_40 = 0 → (Cm E mX10_ends [rf E 99, .int x5] H_39 (fun w H_43 => w = none ∧ (∀ x8_44 : Int32, x8_44 = x5 + (1 : Int32) → (Rm E mX10_lends Q 56 [some (rf E 99), some (.int x1), some (.int x2), some (.int x3), some (.int x4), none, some (.int x6), none, some (.int x8_44)] [] H_43))))) ∧ (¬ r_40 = 0 → (Cm E mX10_ends [rf E 99, .int x5] H_39 (fun w H_46 => w = none ∧ (∀ x8_47 : Int32, x8_47 = x5 + (1 : Int32) → (Rm E mX10_lends Q 56 [some (rf E 99), some (.int x1), some (.int x2), some (.int x3), some (.int x4), none, some (.int x6), none, some (.int x8_47)] [] H_46)))))))))))))))))) :
    Cm E mX10_lends [rf E 99, .int x1, .int x2, .int x3, .int x4, .int x5, .int x6] H Q :=
  cm_of (by decide +kernel) (Nat.le_of_ble_eq_true rfl) rfl (sgX10_lends_0  hF)
theorem sgX10_lends_56 {E : En} {Q : Option Value → Hi → Prop} {H : Hi} {x1 : Int32} {x2 : Int32} {x3 : Int32} {x4 : Int32} {x6 : Int32} {x8 : Int32} 
    (hF : (x6 < x8 → (∀ H_2 : Hi, H_2 = up H 119 0 x1 → (∀ H_3 : Hi, H_3 = up H_2 119 1 x2 → (∃ j_4 : Nat, (j_4 < 8 ∧ x4 = nI j_4) ∧ ((¬ (H_3 111 j_4) = x3 → (Q (some (.int (0 : Int32))) H_3)) ∧ ((H_3 111 j_4) = x3 → (Q (some (.int (1 : Int32))) H_3))))))) ∧ (¬ x6 < x8 → (Cm E mX10_goesBy [rf E 99, .int x8] H (fun w H_6 => w = none ∧ (∀ x8_7 : Int32, x8_7 = x8 + (1 : Int32) → (Rm E mX10_lends Q 56 [some (rf E 99), some (.int x1), some (.int x2), some (.int x3), some (.int x4), none, some (.int x6), none, some (.int x8_7)] [] H_6)))))) :
    Rm E mX10_lends Q 56 [some (rf E 99), some (.int x1), some (.int x2), some (.int x3), some (.int x4), none, some (.int x6), none, some (.int x8)] [] H := by
  refine rn_iload dX10_lends_56 rfl ?_
  refine rn_iload dX10_lends_58 rfl ?_
  refine rn_icmp_gt (tgt := 75) dX10_lends_60 (by decide) (fun hc_1 => ?_) (fun hc_1 => ?_)
  · replace hF := hF.1 hc_1
    refine rn_aload_n dX10_lends_75 rfl ?_
    refine rm_getr (r := 119) flRX10_68 rfl (by decide) rfl dX10_lends_76 ?_
    refine rn_iconst (x := (0 : Int32)) dX10_lends_79 (by decide) ?_
    refine rn_iload_n dX10_lends_80 rfl ?_
    refine rj_iast ⟨by decide, by decide⟩ rfl (by decide) rfl (by decide) dX10_lends_81 (fun H_2 eH_2 => ?_)
    replace hF := hF H_2 eH_2
    refine rn_aload_n dX10_lends_82 rfl ?_
    refine rm_getr (r := 119) flRX10_68 rfl (by decide) rfl dX10_lends_83 ?_
    refine rn_iconst (x := (1 : Int32)) dX10_lends_86 (by decide) ?_
    refine rn_iload_n dX10_lends_87 rfl ?_
    refine rj_iast ⟨by decide, by decide⟩ rfl (by decide) rfl (by decide) dX10_lends_88 (fun H_3 eH_3 => ?_)
    replace hF := hF H_3 eH_3
    refine rn_aload_n dX10_lends_89 rfl ?_
    refine rm_getr (r := 111) flRX10_43 rfl (by decide) rfl dX10_lends_90 ?_
    refine rn_iload dX10_lends_93 rfl ?_
    obtain ⟨j_4, hj_4, hF⟩ := hF
    refine rj_iald hj_4 rfl (by decide) rfl (by decide) dX10_lends_95 ?_
    refine rn_iload_n dX10_lends_96 rfl ?_
    refine rn_icmp_ne (tgt := 104) dX10_lends_97 (by decide) (fun hc_5 => ?_) (fun hc_5 => ?_)
    · replace hF := hF.1 hc_5
      refine rn_iconst (x := (0 : Int32)) dX10_lends_104 (by decide) ?_
      exact rm_zret rfl rfl dX10_lends_105 hF
    · replace hF := hF.2 hc_5
      refine rn_iconst (x := (1 : Int32)) dX10_lends_100 (by decide) ?_
      refine rn_goto (tgt := 105) dX10_lends_101 (by decide) ?_
      exact rm_zret rfl rfl dX10_lends_105 hF
  · replace hF := hF.2 hc_1
    refine rn_aload_n dX10_lends_63 rfl ?_
    refine rn_iload dX10_lends_64 rfl ?_
    refine rm_callV (c0 := 99) (As := [.int x8]) (st := []) mlRX10_212 mdX10_goesBy (Nat.le_of_ble_eq_true rfl) rfl (by decide) (by decide) rfl rfl rfl (Nat.le_of_ble_eq_true rfl) ⟨Nat.le_refl _, Nat.le_refl _⟩ dX10_lends_66 ?_
    refine cm_mono hF (fun w H_6 hF => ?_)
    obtain ⟨rfl, hF⟩ := hF
    refine rn_iinc (w := (1 : Int32)) dX10_lends_69 rfl (by decide) rfl (by decide) (fun x8_7 ex8_7 => ?_)
    replace hF := hF x8_7 ex8_7
    refine rn_goto (tgt := 56) dX10_lends_72 (by decide) ?_
    exact rn_wk (L' := [some (rf E 99), some (.int x1), some (.int x2), some (.int x3), some (.int x4), none, some (.int x6), none, some (.int x8_7)]) (⟨rfl, ⟨rfl, ⟨rfl, ⟨rfl, ⟨rfl, ⟨rfl, ⟨rfl, trivial⟩⟩⟩⟩⟩⟩⟩) hF
theorem sgX10_mayCode_0 {E : En} {Q : Option Value → Hi → Prop} {H : Hi} {x1 : Int32} 
    (hF : ((H 99 6) ≤ ((x1 / (8 : Int32)) - (x1 / (8 : Int32)) / (8 : Int32) * (8 : Int32)) → (Q (some (.int (0 : Int32))) H)) ∧ (¬ (H 99 6) ≤ ((x1 / (8 : Int32)) - (x1 / (8 : Int32)) / (8 : Int32) * (8 : Int32)) → (((H 99 2) ≤ (x1 - x1 / (8 : Int32) * (8 : Int32)) → (Q (some (.int (0 : Int32))) H)) ∧ (¬ (H 99 2) ≤ (x1 - x1 / (8 : Int32) * (8 : Int32)) → (Q (some (.int (1 : Int32))) H))))) :
    Rm E mX10_mayCode Q 0 [some (rf E 99), some (.int x1)] [] H := by
  refine rn_iload_n dX10_mayCode_0 rfl ?_
  refine rn_bipush (x := (8 : Int32)) dX10_mayCode_1 (by decide) ?_
  refine rn_idiv dX10_mayCode_3 (by decide) ?_
  refine rn_bipush (x := (8 : Int32)) dX10_mayCode_4 (by decide) ?_
  refine rn_irem dX10_mayCode_6 (by decide) ?_
  refine rn_aload_n dX10_mayCode_7 rfl ?_
  refine rm_geti flRX10_128 rfl (by decide) rfl dX10_mayCode_8 ?_
  refine rn_icmp_ge (tgt := 29) dX10_mayCode_11 (by decide) (fun hc_1 => ?_) (fun hc_1 => ?_)
  · replace hF := hF.1 hc_1
    refine rn_iconst (x := (0 : Int32)) dX10_mayCode_29 (by decide) ?_
    exact rm_zret rfl rfl dX10_mayCode_30 hF
  · replace hF := hF.2 hc_1
    refine rn_iload_n dX10_mayCode_14 rfl ?_
    refine rn_bipush (x := (8 : Int32)) dX10_mayCode_15 (by decide) ?_
    refine rn_irem dX10_mayCode_17 (by decide) ?_
    refine rn_aload_n dX10_mayCode_18 rfl ?_
    refine rm_geti flRX10_125 rfl (by decide) rfl dX10_mayCode_19 ?_
    refine rn_icmp_ge (tgt := 29) dX10_mayCode_22 (by decide) (fun hc_2 => ?_) (fun hc_2 => ?_)
    · replace hF := hF.1 hc_2
      refine rn_iconst (x := (0 : Int32)) dX10_mayCode_29 (by decide) ?_
      exact rm_zret rfl rfl dX10_mayCode_30 hF
    · replace hF := hF.2 hc_2
      refine rn_iconst (x := (1 : Int32)) dX10_mayCode_25 (by decide) ?_
      refine rn_goto (tgt := 30) dX10_mayCode_26 (by decide) ?_
      exact rm_zret rfl rfl dX10_mayCode_30 hF
theorem cmX10_mayCode {E : En} {Q : Option Value → Hi → Prop} {H : Hi} {x1 : Int32} 
    (hF : ((H 99 6) ≤ ((x1 / (8 : Int32)) - (x1 / (8 : Int32)) / (8 : Int32) * (8 : Int32)) → (Q (some (.int (0 : Int32))) H)) ∧ (¬ (H 99 6) ≤ ((x1 / (8 : Int32)) - (x1 / (8 : Int32)) / (8 : Int32) * (8 : Int32)) → (((H 99 2) ≤ (x1 - x1 / (8 : Int32) * (8 : Int32)) → (Q (some (.int (0 : Int32))) H)) ∧ (¬ (H 99 2) ≤ (x1 - x1 / (8 : Int32) * (8 : Int32)) → (Q (some (.int (1 : Int32))) H))))) :
    Cm E mX10_mayCode [rf E 99, .int x1] H Q :=
  cm_of (by decide +kernel) (Nat.le_of_ble_eq_true rfl) rfl (sgX10_mayCode_0  hF)
