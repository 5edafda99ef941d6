theorem sgX7_append_i1_0 {E : En} {Q : Option Value → Hi → Prop} {H : Hi} {zx1 : Int32} 
    (hF : ((H 1 5) < (31 : Int32) → (∃ zj_2 : Nat, (zj_2 < 31 ∧ H 1 5 = nI zj_2) ∧ (∀ zH_3 : Hi, zH_3 = up H 2 zj_2 zx1 → (∀ zH_4 : Hi, zH_4 = up zH_3 1 5 ((zH_3 1 5) + (1 : Int32)) → (Q (some (.int (zH_4 1 5))) zH_4))))) ∧ (¬ (H 1 5) < (31 : Int32) → (Q (some (.int (-4 : Int32))) H))) :
    Rm E mX7_append Q 0 [some (rf E 1), some (.int zx1)] [] H := by
  refine rn_aload_n dX7_append_0 rfl ?_
  refine rm_geti flRX7_35 rfl (by decide) rfl dX7_append_1 ?_
  refine rn_aload_n dX7_append_4 rfl ?_
  refine rm_getr (r := 2) flRX7_9 rfl (by decide) rfl dX7_append_5 ?_
  refine rn_alen (ty := .int) (x := (31 : Int32)) rfl (by decide) (by decide) rfl (by decide) dX7_append_8 ?_
  refine rn_icmp_lt (tgt := 15) dX7_append_9 (by decide) (fun hc_1 => ?_) (fun hc_1 => ?_)
  · replace hF := hF.1 hc_1
    refine rn_aload_n dX7_append_15 rfl ?_
    refine rm_getr (r := 2) flRX7_9 rfl (by decide) rfl dX7_append_16 ?_
    refine rn_aload_n dX7_append_19 rfl ?_
    refine rm_geti flRX7_35 rfl (by decide) rfl dX7_append_20 ?_
    refine rn_iload_n dX7_append_23 rfl ?_
    obtain ⟨zj_2, hzj_2, hF⟩ := hF
    refine rj_iast (j := zj_2) hzj_2 rfl (by decide) rfl (by decide) dX7_append_24 (fun zH_3 ezH_3 => ?_)
    replace hF := hF zH_3 ezH_3
    refine rn_aload_n dX7_append_25 rfl ?_
    refine rn_dup dX7_append_26 rfl ?_
    refine rm_geti flRX7_35 rfl (by decide) rfl dX7_append_27 ?_
    refine rn_iconst (x := (1 : Int32)) dX7_append_30 (by decide) ?_
    refine rn_iadd dX7_append_31 ?_
    refine rm_puti flRX7_35 rfl (by decide) rfl dX7_append_32 (fun zH_4 ezH_4 => ?_)
    replace hF := hF zH_4 ezH_4
    refine rn_aload_n dX7_append_35 rfl ?_
    refine rm_geti flRX7_35 rfl (by decide) rfl dX7_append_36 ?_
    exact rm_iret rfl dX7_append_39 hF
  · replace hF := hF.2 hc_1
    refine rn_bipush (x := (-4 : Int32)) dX7_append_12 (by decide) ?_
    exact rm_iret rfl dX7_append_14 hF
theorem cmX7_append_i1 {E : En} {Q : Option Value → Hi → Prop} {H : Hi} {zx1 : Int32} 
    (hF : ((H 1 5) < (31 : Int32) → (∃ zj_2 : Nat, (zj_2 < 31 ∧ H 1 5 = nI zj_2) ∧ (∀ zH_3 : Hi, zH_3 = up H 2 zj_2 zx1 → (∀ zH_4 : Hi, zH_4 = up zH_3 1 5 ((zH_3 1 5) + (1 : Int32)) → (Q (some (.int (zH_4 1 5))) zH_4))))) ∧ (¬ (H 1 5) < (31 : Int32) → (Q (some (.int (-4 : Int32))) H))) :
    Cm E mX7_append [rf E 1, .int zx1] H Q :=
  cm_of (by decide +kernel : plainName RX7 = true) (Nat.le_of_ble_eq_true rfl) rfl (sgX7_append_i1_0  hF)
theorem sgX7_append_i3_0 {E : En} {Q : Option Value → Hi → Prop} {H : Hi} {zx1 : Int32} 
    (hF : ((H 3 5) < (23 : Int32) → (∃ zj_2 : Nat, (zj_2 < 23 ∧ H 3 5 = nI zj_2) ∧ (∀ zH_3 : Hi, zH_3 = up H 4 zj_2 zx1 → (∀ zH_4 : Hi, zH_4 = up zH_3 3 5 ((zH_3 3 5) + (1 : Int32)) → (Q (some (.int (zH_4 3 5))) zH_4))))) ∧ (¬ (H 3 5) < (23 : Int32) → (Q (some (.int (-4 : Int32))) H))) :
    Rm E mX7_append Q 0 [some (rf E 3), some (.int zx1)] [] H := by
  refine rn_aload_n dX7_append_0 rfl ?_
  refine rm_geti flRX7_35 rfl (by decide) rfl dX7_append_1 ?_
  refine rn_aload_n dX7_append_4 rfl ?_
  refine rm_getr (r := 4) flRX7_9 rfl (by decide) rfl dX7_append_5 ?_
  refine rn_alen (ty := .int) (x := (23 : Int32)) rfl (by decide) (by decide) rfl (by decide) dX7_append_8 ?_
  refine rn_icmp_lt (tgt := 15) dX7_append_9 (by decide) (fun hc_1 => ?_) (fun hc_1 => ?_)
  · replace hF := hF.1 hc_1
    refine rn_aload_n dX7_append_15 rfl ?_
    refine rm_getr (r := 4) flRX7_9 rfl (by decide) rfl dX7_append_16 ?_
    refine rn_aload_n dX7_append_19 rfl ?_
    refine rm_geti flRX7_35 rfl (by decide) rfl dX7_append_20 ?_
    refine rn_iload_n dX7_append_23 rfl ?_
    obtain ⟨zj_2, hzj_2, hF⟩ := hF
    refine rj_iast (j := zj_2) hzj_2 rfl (by decide) rfl (by decide) dX7_append_24 (fun zH_3 ezH_3 => ?_)
    replace hF := hF zH_3 ezH_3
    refine rn_aload_n dX7_append_25 rfl ?_
    refine rn_dup dX7_append_26 rfl ?_
    refine rm_geti flRX7_35 rfl (by decide) rfl dX7_append_27 ?_
    refine rn_iconst (x := (1 : Int32)) dX7_append_30 (by decide) ?_
    refine rn_iadd dX7_append_31 ?_
    refine rm_puti flRX7_35 rfl (by decide) rfl dX7_append_32 (fun zH_4 ezH_4 => ?_)
    replace hF := hF zH_4 ezH_4
    refine rn_aload_n dX7_append_35 rfl ?_
    refine rm_geti flRX7_35 rfl (by decide) rfl dX7_append_36 ?_
    exact rm_iret rfl dX7_append_39 hF
  · replace hF := hF.2 hc_1
    refine rn_bipush (x := (-4 : Int32)) dX7_append_12 (by decide) ?_
    exact rm_iret rfl dX7_append_14 hF
theorem cmX7_append_i3 {E : En} {Q : Option Value → Hi → Prop} {H : Hi} {zx1 : Int32} 
    (hF : ((H 3 5) < (23 : Int32) → (∃ zj_2 : Nat, (zj_2 < 23 ∧ H 3 5 = nI zj_2) ∧ (∀ zH_3 : Hi, zH_3 = up H 4 zj_2 zx1 → (∀ zH_4 : Hi, zH_4 = up zH_3 3 5 ((zH_3 3 5) + (1 : Int32)) → (Q (some (.int (zH_4 3 5))) zH_4))))) ∧ (¬ (H 3 5) < (23 : Int32) → (Q (some (.int (-4 : Int32))) H))) :
    Cm E mX7_append [rf E 3, .int zx1] H Q :=
  cm_of (by decide +kernel : plainName RX7 = true) (Nat.le_of_ble_eq_true rfl) rfl (sgX7_append_i3_0  hF)
theorem sgX7_firstWrong_i1_0 {E : En} {Q : Option Value → Hi → Prop} {H : Hi}  
    (hF : Rm E mX7_firstWrong Q 4 [some (rf E 1), some (.int (0 : Int32)), some (.int (0 : Int32))] [] H) :
    Rm E mX7_firstWrong Q 0 [some (rf E 1), none, none] [] H := by
  refine rn_iconst (x := (0 : Int32)) dX7_firstWrong_0 (by decide) ?_
  refine ra_istore_n dX7_firstWrong_1 rfl (Nat.le_of_ble_eq_true rfl) ?_
  show Rn _ _ _ _ _ _ _ _ [some (rf E 1), some (.int (0 : Int32)), none] _ _ _
  refine rn_iconst (x := (0 : Int32)) dX7_firstWrong_2 (by decide) ?_
  refine ra_istore_n dX7_firstWrong_3 rfl (Nat.le_of_ble_eq_true rfl) ?_
  show Rn _ _ _ _ _ _ _ _ [some (rf E 1), some (.int (0 : Int32)), some (.int (0 : Int32))] _ _ _
  exact rn_wk (L' := [some (rf E 1), some (.int (0 : Int32)), some (.int (0 : Int32))]) (⟨rfl, ⟨rfl, ⟨rfl, trivial⟩⟩⟩) hF
theorem cmX7_firstWrong_i1 {E : En} {Q : Option Value → Hi → Prop} {H : Hi}  
    (hF : Rm E mX7_firstWrong Q 4 [some (rf E 1), some (.int (0 : Int32)), some (.int (0 : Int32))] [] H) :
    Cm E mX7_firstWrong [rf E 1] H Q :=
  cm_of (by decide +kernel : plainName RX7 = true) (Nat.le_of_ble_eq_true rfl) rfl (sgX7_firstWrong_i1_0  hF)
theorem sgX7_firstWrong_i1_4 {E : En} {Q : Option Value → Hi → Prop} {H : Hi} {zx1 : Int32} {zx2 : Int32} 
    (hF : ((H 1 5) ≤ zx2 → (((H 1 5) = 0 → (Q (some (.int (-1 : Int32))) H)) ∧ (¬ (H 1 5) = 0 → ((¬ zx1 = (H 1 4) → (Q (some (.int (H 1 5))) H)) ∧ (zx1 = (H 1 4) → (Q (some (.int (-1 : Int32))) H)))))) ∧ (¬ (H 1 5) ≤ zx2 → (∃ zj_4 : Nat, (zj_4 < 31 ∧ zx2 = nI zj_4) ∧ (Cm E mX7_fits [rf E 1, .int zx1, .int (H 2 zj_4)] H (fun w zH_5 => ∃ zr_6 : Int32, w = some (.int zr_6) ∧ ((¬ zr_6 = 0 → ((¬ zx1 = (zH_5 1 4) → (∀ zx1_9 : Int32, zx1_9 = zx1 + (1 : Int32) → (∀ zx2_10 : Int32, zx2_10 = zx2 + (1 : Int32) → (Rm E mX7_firstWrong Q 4 [some (rf E 1), some (.int zx1_9), some (.int zx2_10)] [] zH_5)))) ∧ (zx1 = (zH_5 1 4) → (∀ zx2_12 : Int32, zx2_12 = zx2 + (1 : Int32) → (Rm E mX7_firstWrong Q 4 [some (rf E 1), some (.int (0 : Int32)), some (.int zx2_12)] [] zH_5))))) ∧ (zr_6 = 0 → (Q (some (.int zx2)) zH_5)))))))) :
    Rm E mX7_firstWrong Q 4 [some (rf E 1), some (.int zx1), some (.int zx2)] [] H := by
  refine rn_iload_n dX7_firstWrong_4 rfl ?_
  refine rn_aload_n dX7_firstWrong_5 rfl ?_
  refine rm_geti flRX7_35 rfl (by decide) rfl dX7_firstWrong_6 ?_
  refine rn_icmp_ge (tgt := 50) dX7_firstWrong_9 (by decide) (fun hc_1 => ?_) (fun hc_1 => ?_)
  · replace hF := hF.1 hc_1
    refine rn_aload_n dX7_firstWrong_50 rfl ?_
    refine rm_geti flRX7_35 rfl (by decide) rfl dX7_firstWrong_51 ?_
    refine rn_if_eq (tgt := 65) dX7_firstWrong_54 (by decide) (fun hc_2 => ?_) (fun hc_2 => ?_)
    · replace hF := hF.1 hc_2
      refine rn_iconst (x := (-1 : Int32)) dX7_firstWrong_65 (by decide) ?_
      refine rn_goto (tgt := 73) dX7_firstWrong_66 (by decide) ?_
      exact rm_iret rfl dX7_firstWrong_73 hF
    · replace hF := hF.2 hc_2
      refine rn_iload_n dX7_firstWrong_57 rfl ?_
      refine rn_aload_n dX7_firstWrong_58 rfl ?_
      refine rm_geti flRX7_31 rfl (by decide) rfl dX7_firstWrong_59 ?_
      refine rn_icmp_ne (tgt := 69) dX7_firstWrong_62 (by decide) (fun hc_3 => ?_) (fun hc_3 => ?_)
      · replace hF := hF.1 hc_3
        refine rn_aload_n dX7_firstWrong_69 rfl ?_
        refine rm_geti flRX7_35 rfl (by decide) rfl dX7_firstWrong_70 ?_
        exact rm_iret rfl dX7_firstWrong_73 hF
      · replace hF := hF.2 hc_3
        refine rn_iconst (x := (-1 : Int32)) dX7_firstWrong_65 (by decide) ?_
        refine rn_goto (tgt := 73) dX7_firstWrong_66 (by decide) ?_
        exact rm_iret rfl dX7_firstWrong_73 hF
  · replace hF := hF.2 hc_1
    refine rn_aload_n dX7_firstWrong_12 rfl ?_
    refine rn_iload_n dX7_firstWrong_13 rfl ?_
    refine rn_aload_n dX7_firstWrong_14 rfl ?_
    refine rm_getr (r := 2) flRX7_9 rfl (by decide) rfl dX7_firstWrong_15 ?_
    refine rn_iload_n dX7_firstWrong_18 rfl ?_
    obtain ⟨zj_4, hzj_4, hF⟩ := hF
    refine rj_iald (j := zj_4) hzj_4 rfl (by decide) rfl (by decide) dX7_firstWrong_19 ?_
    refine rm_callV (c0 := 1) (As := [.int zx1, .int (H 2 zj_4)]) (st := []) mlRX7_38 mdX7_fits (Nat.le_of_ble_eq_true rfl) rfl (by decide) (by decide) rfl rfl rfl (Nat.le_of_ble_eq_true rfl) ⟨Nat.le_refl _, Nat.le_refl _⟩ dX7_firstWrong_20 ?_
    refine cm_mono hF (fun w zH_5 hF => ?_)
    obtain ⟨zr_6, rfl, hF⟩ := hF
    refine rn_if_ne (tgt := 28) dX7_firstWrong_23 (by decide) (fun hc_7 => ?_) (fun hc_7 => ?_)
    · replace hF := hF.1 hc_7
      refine rn_iload_n dX7_firstWrong_28 rfl ?_
      refine rn_aload_n dX7_firstWrong_29 rfl ?_
      refine rm_geti flRX7_31 rfl (by decide) rfl dX7_firstWrong_30 ?_
      refine rn_icmp_ne (tgt := 40) dX7_firstWrong_33 (by decide) (fun hc_8 => ?_) (fun hc_8 => ?_)
      · replace hF := hF.1 hc_8
        refine rn_iload_n dX7_firstWrong_40 rfl ?_
        refine rn_iconst (x := (1 : Int32)) dX7_firstWrong_41 (by decide) ?_
        refine rn_iadd dX7_firstWrong_42 ?_
        refine rn_istore_n dX7_firstWrong_43 rfl (Nat.le_of_ble_eq_true rfl) (fun zx1_9 ezx1_9 => ?_)
        replace hF := hF zx1_9 ezx1_9
        show Rn _ _ _ _ _ _ _ _ [some (rf E 1), some (.int zx1_9), some (.int zx2)] _ _ _
        refine rn_iinc (w := (1 : Int32)) dX7_firstWrong_44 rfl (by decide) rfl (Nat.le_of_ble_eq_true rfl) (fun zx2_10 ezx2_10 => ?_)
        replace hF := hF zx2_10 ezx2_10
        show Rn _ _ _ _ _ _ _ _ [some (rf E 1), some (.int zx1_9), some (.int zx2_10)] _ _ _
        refine rn_goto (tgt := 4) dX7_firstWrong_47 (by decide) ?_
        exact rn_wk (L' := [some (rf E 1), some (.int zx1_9), some (.int zx2_10)]) (⟨rfl, ⟨rfl, ⟨rfl, trivial⟩⟩⟩) hF
      · replace hF := hF.2 hc_8
        refine rn_iconst (x := (0 : Int32)) dX7_firstWrong_36 (by decide) ?_
        refine rn_goto (tgt := 43) dX7_firstWrong_37 (by decide) ?_
        refine ra_istore_n dX7_firstWrong_43 rfl (Nat.le_of_ble_eq_true rfl) ?_
        show Rn _ _ _ _ _ _ _ _ [some (rf E 1), some (.int (0 : Int32)), some (.int zx2)] _ _ _
        refine rn_iinc (w := (1 : Int32)) dX7_firstWrong_44 rfl (by decide) rfl (Nat.le_of_ble_eq_true rfl) (fun zx2_12 ezx2_12 => ?_)
        replace hF := hF zx2_12 ezx2_12
        show Rn _ _ _ _ _ _ _ _ [some (rf E 1), some (.int (0 : Int32)), some (.int zx2_12)] _ _ _
        refine rn_goto (tgt := 4) dX7_firstWrong_47 (by decide) ?_
        exact rn_wk (L' := [some (rf E 1), some (.int (0 : Int32)), some (.int zx2_12)]) (⟨rfl, ⟨rfl, ⟨rfl, trivial⟩⟩⟩) hF
    · replace hF := hF.2 hc_7
      refine rn_iload_n dX7_firstWrong_26 rfl ?_
      exact rm_iret rfl dX7_firstWrong_27 hF
theorem sgX7_firstWrong_i3_0 {E : En} {Q : Option Value → Hi → Prop} {H : Hi}  
    (hF : Rm E mX7_firstWrong Q 4 [some (rf E 3), some (.int (0 : Int32)), some (.int (0 : Int32))] [] H) :
    Rm E mX7_firstWrong Q 0 [some (rf E 3), none, none] [] H := by
  refine rn_iconst (x := (0 : Int32)) dX7_firstWrong_0 (by decide) ?_
  refine ra_istore_n dX7_firstWrong_1 rfl (Nat.le_of_ble_eq_true rfl) ?_
  show Rn _ _ _ _ _ _ _ _ [some (rf E 3), some (.int (0 : Int32)), none] _ _ _
  refine rn_iconst (x := (0 : Int32)) dX7_firstWrong_2 (by decide) ?_
  refine ra_istore_n dX7_firstWrong_3 rfl (Nat.le_of_ble_eq_true rfl) ?_
  show Rn _ _ _ _ _ _ _ _ [some (rf E 3), some (.int (0 : Int32)), some (.int (0 : Int32))] _ _ _
  exact rn_wk (L' := [some (rf E 3), some (.int (0 : Int32)), some (.int (0 : Int32))]) (⟨rfl, ⟨rfl, ⟨rfl, trivial⟩⟩⟩) hF
theorem cmX7_firstWrong_i3 {E : En} {Q : Option Value → Hi → Prop} {H : Hi}  
    (hF : Rm E mX7_firstWrong Q 4 [some (rf E 3), some (.int (0 : Int32)), some (.int (0 : Int32))] [] H) :
    Cm E mX7_firstWrong [rf E 3] H Q :=
  cm_of (by decide +kernel : plainName RX7 = true) (Nat.le_of_ble_eq_true rfl) rfl (sgX7_firstWrong_i3_0  hF)
theorem sgX7_firstWrong_i3_4 {E : En} {Q : Option Value → Hi → Prop} {H : Hi} {zx1 : Int32} {zx2 : Int32} 
    (hF : ((H 3 5) ≤ zx2 → (((H 3 5) = 0 → (Q (some (.int (-1 : Int32))) H)) ∧ (¬ (H 3 5) = 0 → ((¬ zx1 = (H 3 4) → (Q (some (.int (H 3 5))) H)) ∧ (zx1 = (H 3 4) → (Q (some (.int (-1 : Int32))) H)))))) ∧ (¬ (H 3 5) ≤ zx2 → (∃ zj_4 : Nat, (zj_4 < 23 ∧ zx2 = nI zj_4) ∧ (Cm E mX7_fits [rf E 3, .int zx1, .int (H 4 zj_4)] H (fun w zH_5 => ∃ zr_6 : Int32, w = some (.int zr_6) ∧ ((¬ zr_6 = 0 → ((¬ zx1 = (zH_5 3 4) → (∀ zx1_9 : Int32, zx1_9 = zx1 + (1 : Int32) → (∀ zx2_10 : Int32, zx2_10 = zx2 + (1 : Int32) → (Rm E mX7_firstWrong Q 4 [some (rf E 3), some (.int zx1_9), some (.int zx2_10)] [] zH_5)))) ∧ (zx1 = (zH_5 3 4) → (∀ zx2_12 : Int32, zx2_12 = zx2 + (1 : Int32) → (Rm E mX7_firstWrong Q 4 [some (rf E 3), some (.int (0 : Int32)), some (.int zx2_12)] [] zH_5))))) ∧ (zr_6 = 0 → (Q (some (.int zx2)) zH_5)))))))) :
    Rm E mX7_firstWrong Q 4 [some (rf E 3), some (.int zx1), some (.int zx2)] [] H := by
  refine rn_iload_n dX7_firstWrong_4 rfl ?_
  refine rn_aload_n dX7_firstWrong_5 rfl ?_
  refine rm_geti flRX7_35 rfl (by decide) rfl dX7_firstWrong_6 ?_
  refine rn_icmp_ge (tgt := 50) dX7_firstWrong_9 (by decide) (fun hc_1 => ?_) (fun hc_1 => ?_)
  · replace hF := hF.1 hc_1
    refine rn_aload_n dX7_firstWrong_50 rfl ?_
    refine rm_geti flRX7_35 rfl (by decide) rfl dX7_firstWrong_51 ?_
    refine rn_if_eq (tgt := 65) dX7_firstWrong_54 (by decide) (fun hc_2 => ?_) (fun hc_2 => ?_)
    · replace hF := hF.1 hc_2
      refine rn_iconst (x := (-1 : Int32)) dX7_firstWrong_65 (by decide) ?_
      refine rn_goto (tgt := 73) dX7_firstWrong_66 (by decide) ?_
      exact rm_iret rfl dX7_firstWrong_73 hF
    · replace hF := hF.2 hc_2
      refine rn_iload_n dX7_firstWrong_57 rfl ?_
      refine rn_aload_n dX7_firstWrong_58 rfl ?_
      refine rm_geti flRX7_31 rfl (by decide) rfl dX7_firstWrong_59 ?_
      refine rn_icmp_ne (tgt := 69) dX7_firstWrong_62 (by decide) (fun hc_3 => ?_) (fun hc_3 => ?_)
      · replace hF := hF.1 hc_3
        refine rn_aload_n dX7_firstWrong_69 rfl ?_
        refine rm_geti flRX7_35 rfl (by decide) rfl dX7_firstWrong_70 ?_
        exact rm_iret rfl dX7_firstWrong_73 hF
      · replace hF := hF.2 hc_3
        refine rn_iconst (x := (-1 : Int32)) dX7_firstWrong_65 (by decide) ?_
        refine rn_goto (tgt := 73) dX7_firstWrong_66 (by decide) ?_
        exact rm_iret rfl dX7_firstWrong_73 hF
  · replace hF := hF.2 hc_1
    refine rn_aload_n dX7_firstWrong_12 rfl ?_
    refine rn_iload_n dX7_firstWrong_13 rfl ?_
    refine rn_aload_n dX7_firstWrong_14 rfl ?_
    refine rm_getr (r := 4) flRX7_9 rfl (by decide) rfl dX7_firstWrong_15 ?_
    refine rn_iload_n dX7_firstWrong_18 rfl ?_
    obtain ⟨zj_4, hzj_4, hF⟩ := hF
    refine rj_iald (j := zj_4) hzj_4 rfl (by decide) rfl (by decide) dX7_firstWrong_19 ?_
    refine rm_callV (c0 := 3) (As := [.int zx1, .int (H 4 zj_4)]) (st := []) mlRX7_38 mdX7_fits (Nat.le_of_ble_eq_true rfl) rfl (by decide) (by decide) rfl rfl rfl (Nat.le_of_ble_eq_true rfl) ⟨Nat.le_refl _, Nat.le_refl _⟩ dX7_firstWrong_20 ?_
    refine cm_mono hF (fun w zH_5 hF => ?_)
    obtain ⟨zr_6, rfl, hF⟩ := hF
    refine rn_if_ne (tgt := 28) dX7_firstWrong_23 (by decide) (fun hc_7 => ?_) (fun hc_7 => ?_)
    · replace hF := hF.1 hc_7
      refine rn_iload_n dX7_firstWrong_28 rfl ?_
      refine rn_aload_n dX7_firstWrong_29 rfl ?_
      refine rm_geti flRX7_31 rfl (by decide) rfl dX7_firstWrong_30 ?_
      refine rn_icmp_ne (tgt := 40) dX7_firstWrong_33 (by decide) (fun hc_8 => ?_) (fun hc_8 => ?_)
      · replace hF := hF.1 hc_8
        refine rn_iload_n dX7_firstWrong_40 rfl ?_
        refine rn_iconst (x := (1 : Int32)) dX7_firstWrong_41 (by decide) ?_
        refine rn_iadd dX7_firstWrong_42 ?_
        refine rn_istore_n dX7_firstWrong_43 rfl (Nat.le_of_ble_eq_true rfl) (fun zx1_9 ezx1_9 => ?_)
        replace hF := hF zx1_9 ezx1_9
        show Rn _ _ _ _ _ _ _ _ [some (rf E 3), some (.int zx1_9), some (.int zx2)] _ _ _
        refine rn_iinc (w := (1 : Int32)) dX7_firstWrong_44 rfl (by decide) rfl (Nat.le_of_ble_eq_true rfl) (fun zx2_10 ezx2_10 => ?_)
        replace hF := hF zx2_10 ezx2_10
        show Rn _ _ _ _ _ _ _ _ [some (rf E 3), some (.int zx1_9), some (.int zx2_10)] _ _ _
        refine rn_goto (tgt := 4) dX7_firstWrong_47 (by decide) ?_
        exact rn_wk (L' := [some (rf E 3), some (.int zx1_9), some (.int zx2_10)]) (⟨rfl, ⟨rfl, ⟨rfl, trivial⟩⟩⟩) hF
      · replace hF := hF.2 hc_8
        refine rn_iconst (x := (0 : Int32)) dX7_firstWrong_36 (by decide) ?_
        refine rn_goto (tgt := 43) dX7_firstWrong_37 (by decide) ?_
        refine ra_istore_n dX7_firstWrong_43 rfl (Nat.le_of_ble_eq_true rfl) ?_
        show Rn _ _ _ _ _ _ _ _ [some (rf E 3), some (.int (0 : Int32)), some (.int zx2)] _ _ _
        refine rn_iinc (w := (1 : Int32)) dX7_firstWrong_44 rfl (by decide) rfl (Nat.le_of_ble_eq_true rfl) (fun zx2_12 ezx2_12 => ?_)
        replace hF := hF zx2_12 ezx2_12
        show Rn _ _ _ _ _ _ _ _ [some (rf E 3), some (.int (0 : Int32)), some (.int zx2_12)] _ _ _
        refine rn_goto (tgt := 4) dX7_firstWrong_47 (by decide) ?_
        exact rn_wk (L' := [some (rf E 3), some (.int (0 : Int32)), some (.int zx2_12)]) (⟨rfl, ⟨rfl, ⟨rfl, trivial⟩⟩⟩) hF
    · replace hF := hF.2 hc_7
      refine rn_iload_n dX7_firstWrong_26 rfl ?_
      exact rm_iret rfl dX7_firstWrong_27 hF
theorem sgX7_items_i1_0 {E : En} {Q : Option Value → Hi → Prop} {H : Hi}  
    (hF : Cm E mX7_firstWrong [rf E 1] H (fun w zH_1 => ∃ zr_2 : Int32, w = some (.int zr_2) ∧ ((zr_2 = (-1 : Int32) → ((¬ (zH_1 1 4) = (2 : Int32) → (Q (some (.int (((zH_1 1 5) + (1 : Int32)) / (4 : Int32)))) zH_1)) ∧ ((zH_1 1 4) = (2 : Int32) → (Q (some (.int (((zH_1 1 5) + (1 : Int32)) / (3 : Int32)))) zH_1)))) ∧ (¬ zr_2 = (-1 : Int32) → (Q (some (.int (0 : Int32))) zH_1))))) :
    Rm E mX7_items Q 0 [some (rf E 1)] [] H := by
  refine rn_aload_n dX7_items_0 rfl ?_
  refine rm_callV (c0 := 1) (As := []) (st := []) mlRX7_42 mdX7_firstWrong (Nat.le_of_ble_eq_true rfl) rfl (by decide) (by decide) rfl rfl rfl (Nat.le_of_ble_eq_true rfl) ⟨Nat.le_refl _, Nat.le_refl _⟩ dX7_items_1 ?_
  refine cm_mono hF (fun w zH_1 hF => ?_)
  obtain ⟨zr_2, rfl, hF⟩ := hF
  refine rn_iconst (x := (-1 : Int32)) dX7_items_4 (by decide) ?_
  refine rn_icmp_eq (tgt := 10) dX7_items_5 (by decide) (fun hc_3 => ?_) (fun hc_3 => ?_)
  · replace hF := hF.1 hc_3
    refine rn_aload_n dX7_items_10 rfl ?_
    refine rm_geti flRX7_31 rfl (by decide) rfl dX7_items_11 ?_
    refine rn_iconst (x := (2 : Int32)) dX7_items_14 (by decide) ?_
    refine rn_icmp_ne (tgt := 29) dX7_items_15 (by decide) (fun hc_4 => ?_) (fun hc_4 => ?_)
    · replace hF := hF.1 hc_4
      refine rn_aload_n dX7_items_29 rfl ?_
      refine rm_geti flRX7_35 rfl (by decide) rfl dX7_items_30 ?_
      refine rn_iconst (x := (1 : Int32)) dX7_items_33 (by decide) ?_
      refine rn_iadd dX7_items_34 ?_
      refine rn_iconst (x := (4 : Int32)) dX7_items_35 (by decide) ?_
      refine rn_idiv dX7_items_36 (by decide) ?_
      exact rm_iret rfl dX7_items_37 hF
    · replace hF := hF.2 hc_4
      refine rn_aload_n dX7_items_18 rfl ?_
      refine rm_geti flRX7_35 rfl (by decide) rfl dX7_items_19 ?_
      refine rn_iconst (x := (1 : Int32)) dX7_items_22 (by decide) ?_
      refine rn_iadd dX7_items_23 ?_
      refine rn_iconst (x := (3 : Int32)) dX7_items_24 (by decide) ?_
      refine rn_idiv dX7_items_25 (by decide) ?_
      refine rn_goto (tgt := 37) dX7_items_26 (by decide) ?_
      exact rm_iret rfl dX7_items_37 hF
  · replace hF := hF.2 hc_3
    refine rn_iconst (x := (0 : Int32)) dX7_items_8 (by decide) ?_
    exact rm_iret rfl dX7_items_9 hF
theorem cmX7_items_i1 {E : En} {Q : Option Value → Hi → Prop} {H : Hi}  
    (hF : Cm E mX7_firstWrong [rf E 1] H (fun w zH_1 => ∃ zr_2 : Int32, w = some (.int zr_2) ∧ ((zr_2 = (-1 : Int32) → ((¬ (zH_1 1 4) = (2 : Int32) → (Q (some (.int (((zH_1 1 5) + (1 : Int32)) / (4 : Int32)))) zH_1)) ∧ ((zH_1 1 4) = (2 : Int32) → (Q (some (.int (((zH_1 1 5) + (1 : Int32)) / (3 : Int32)))) zH_1)))) ∧ (¬ zr_2 = (-1 : Int32) → (Q (some (.int (0 : Int32))) zH_1))))) :
    Cm E mX7_items [rf E 1] H Q :=
  cm_of (by decide +kernel : plainName RX7 = true) (Nat.le_of_ble_eq_true rfl) rfl (sgX7_items_i1_0  hF)
theorem sgX7_items_i3_0 {E : En} {Q : Option Value → Hi → Prop} {H : Hi}  
    (hF : Cm E mX7_firstWrong [rf E 3] H (fun w zH_1 => ∃ zr_2 : Int32, w = some (.int zr_2) ∧ ((zr_2 = (-1 : Int32) → ((¬ (zH_1 3 4) = (2 : Int32) → (Q (some (.int (((zH_1 3 5) + (1 : Int32)) / (4 : Int32)))) zH_1)) ∧ ((zH_1 3 4) = (2 : Int32) → (Q (some (.int (((zH_1 3 5) + (1 : Int32)) / (3 : Int32)))) zH_1)))) ∧ (¬ zr_2 = (-1 : Int32) → (Q (some (.int (0 : Int32))) zH_1))))) :
    Rm E mX7_items Q 0 [some (rf E 3)] [] H := by
  refine rn_aload_n dX7_items_0 rfl ?_
  refine rm_callV (c0 := 3) (As := []) (st := []) mlRX7_42 mdX7_firstWrong (Nat.le_of_ble_eq_true rfl) rfl (by decide) (by decide) rfl rfl rfl (Nat.le_of_ble_eq_true rfl) ⟨Nat.le_refl _, Nat.le_refl _⟩ dX7_items_1 ?_
  refine cm_mono hF (fun w zH_1 hF => ?_)
  obtain ⟨zr_2, rfl, hF⟩ := hF
  refine rn_iconst (x := (-1 : Int32)) dX7_items_4 (by decide) ?_
  refine rn_icmp_eq (tgt := 10) dX7_items_5 (by decide) (fun hc_3 => ?_) (fun hc_3 => ?_)
  · replace hF := hF.1 hc_3
    refine rn_aload_n dX7_items_10 rfl ?_
    refine rm_geti flRX7_31 rfl (by decide) rfl dX7_items_11 ?_
    refine rn_iconst (x := (2 : Int32)) dX7_items_14 (by decide) ?_
    refine rn_icmp_ne (tgt := 29) dX7_items_15 (by decide) (fun hc_4 => ?_) (fun hc_4 => ?_)
    · replace hF := hF.1 hc_4
      refine rn_aload_n dX7_items_29 rfl ?_
      refine rm_geti flRX7_35 rfl (by decide) rfl dX7_items_30 ?_
      refine rn_iconst (x := (1 : Int32)) dX7_items_33 (by decide) ?_
      refine rn_iadd dX7_items_34 ?_
      refine rn_iconst (x := (4 : Int32)) dX7_items_35 (by decide) ?_
      refine rn_idiv dX7_items_36 (by decide) ?_
      exact rm_iret rfl dX7_items_37 hF
    · replace hF := hF.2 hc_4
      refine rn_aload_n dX7_items_18 rfl ?_
      refine rm_geti flRX7_35 rfl (by decide) rfl dX7_items_19 ?_
      refine rn_iconst (x := (1 : Int32)) dX7_items_22 (by decide) ?_
      refine rn_iadd dX7_items_23 ?_
      refine rn_iconst (x := (3 : Int32)) dX7_items_24 (by decide) ?_
      refine rn_idiv dX7_items_25 (by decide) ?_
      refine rn_goto (tgt := 37) dX7_items_26 (by decide) ?_
      exact rm_iret rfl dX7_items_37 hF
  · replace hF := hF.2 hc_3
    refine rn_iconst (x := (0 : Int32)) dX7_items_8 (by decide) ?_
    exact rm_iret rfl dX7_items_9 hF
theorem cmX7_items_i3 {E : En} {Q : Option Value → Hi → Prop} {H : Hi}  
    (hF : Cm E mX7_firstWrong [rf E 3] H (fun w zH_1 => ∃ zr_2 : Int32, w = some (.int zr_2) ∧ ((zr_2 = (-1 : Int32) → ((¬ (zH_1 3 4) = (2 : Int32) → (Q (some (.int (((zH_1 3 5) + (1 : Int32)) / (4 : Int32)))) zH_1)) ∧ ((zH_1 3 4) = (2 : Int32) → (Q (some (.int (((zH_1 3 5) + (1 : Int32)) / (3 : Int32)))) zH_1)))) ∧ (¬ zr_2 = (-1 : Int32) → (Q (some (.int (0 : Int32))) zH_1))))) :
    Cm E mX7_items [rf E 3] H Q :=
  cm_of (by decide +kernel : plainName RX7 = true) (Nat.le_of_ble_eq_true rfl) rfl (sgX7_items_i3_0  hF)
theorem sgX7_sign_i1_0 {E : En} {Q : Option Value → Hi → Prop} {H : Hi} {zx1 : Int32} {zx2 : Int32} 
    (hF : ∀ zx3_1 : Int32, zx3_1 = (zx1 * ((H 1 4) + (1 : Int32))) + zx2 → ((zx3_1 < 0 → (Q (some (.int (-1 : Int32))) H)) ∧ (¬ zx3_1 < 0 → ((zx3_1 < (H 1 5) → (Cm E mX7_signs [rf E 1, .int zx2] H (fun w zH_4 => (w = some (rf E (1000 + 0)) ∧ (∃ zj_5 : Nat, (zj_5 < 31 ∧ zx3_1 = nI zj_5) ∧ (Cm E mJ0_indexOf_0f7a4 [rf E (1000 + 0), .int (i2c (zH_4 2 zj_5))] zH_4 (fun w zH_6 => ∃ zr_7 : Int32, w = some (.int zr_7) ∧ (Q (some (.int zr_7)) zH_6))))) ∨ (w = some (rf E (1000 + 1)) ∧ (∃ zj_8 : Nat, (zj_8 < 31 ∧ zx3_1 = nI zj_8) ∧ (Cm E mJ0_indexOf_0f7a4 [rf E (1000 + 1), .int (i2c (zH_4 2 zj_8))] zH_4 (fun w zH_9 => ∃ zr_10 : Int32, w = some (.int zr_10) ∧ (Q (some (.int zr_10)) zH_9))))) ∨ (w = some (rf E (1000 + 2)) ∧ (∃ zj_11 : Nat, (zj_11 < 31 ∧ zx3_1 = nI zj_11) ∧ (Cm E mJ0_indexOf_0f7a4 [rf E (1000 + 2), .int (i2c (zH_4 2 zj_11))] zH_4 (fun w zH_12 => ∃ zr_13 : Int32, w = some (.int zr_13) ∧ (Q (some (.int zr_13)) zH_12)))))))) ∧ (¬ zx3_1 < (H 1 5) → (Q (some (.int (-1 : Int32))) H)))))) :
    Rm E mX7_sign Q 0 [some (rf E 1), some (.int zx1), some (.int zx2), none] [] H := by
  refine rn_iload_n dX7_sign_0 rfl ?_
  refine rn_aload_n dX7_sign_1 rfl ?_
  refine rm_geti flRX7_31 rfl (by decide) rfl dX7_sign_2 ?_
  refine rn_iconst (x := (1 : Int32)) dX7_sign_5 (by decide) ?_
  refine rn_iadd dX7_sign_6 ?_
  refine rn_imul dX7_sign_7 ?_
  refine rn_iload_n dX7_sign_8 rfl ?_
  refine rn_iadd dX7_sign_9 ?_
  refine rn_istore_n dX7_sign_10 rfl (Nat.le_of_ble_eq_true rfl) (fun zx3_1 ezx3_1 => ?_)
  replace hF := hF zx3_1 ezx3_1
  show Rn _ _ _ _ _ _ _ _ [some (rf E 1), some (.int zx1), some (.int zx2), some (.int zx3_1)] _ _ _
  refine rn_iload_n dX7_sign_11 rfl ?_
  refine rn_if_lt (tgt := 23) dX7_sign_12 (by decide) (fun hc_2 => ?_) (fun hc_2 => ?_)
  · replace hF := hF.1 hc_2
    refine rn_iconst (x := (-1 : Int32)) dX7_sign_23 (by decide) ?_
    refine rn_goto (tgt := 42) dX7_sign_24 (by decide) ?_
    exact rm_iret rfl dX7_sign_42 hF
  · replace hF := hF.2 hc_2
    refine rn_iload_n dX7_sign_15 rfl ?_
    refine rn_aload_n dX7_sign_16 rfl ?_
    refine rm_geti flRX7_35 rfl (by decide) rfl dX7_sign_17 ?_
    refine rn_icmp_lt (tgt := 27) dX7_sign_20 (by decide) (fun hc_3 => ?_) (fun hc_3 => ?_)
    · replace hF := hF.1 hc_3
      refine rn_aload_n dX7_sign_27 rfl ?_
      refine rn_iload_n dX7_sign_28 rfl ?_
      refine rm_callV (c0 := 1) (As := [.int zx2]) (st := []) mlRX7_46 mdX7_signs (Nat.le_of_ble_eq_true rfl) rfl (by decide) (by decide) rfl rfl rfl (Nat.le_of_ble_eq_true rfl) ⟨Nat.le_refl _, Nat.le_refl _⟩ dX7_sign_29 ?_
      refine cm_mono hF (fun w zH_4 hF => ?_)
      rcases hF with ⟨rfl, hF⟩ | ⟨rfl, hF⟩ | ⟨rfl, hF⟩
      · refine rn_aload_n dX7_sign_32 rfl ?_
        refine rm_getr (r := 2) flRX7_9 rfl (by decide) rfl dX7_sign_33 ?_
        refine rn_iload_n dX7_sign_36 rfl ?_
        obtain ⟨zj_5, hzj_5, hF⟩ := hF
        refine rj_iald (j := zj_5) hzj_5 rfl (by decide) rfl (by decide) dX7_sign_37 ?_
        refine rn_i2c dX7_sign_38 ?_
        refine rm_callVS (j := 0) (As := [.int (i2c (zH_4 2 zj_5))]) (st := []) mlRX7_50 mdJ0_indexOf_0f7a4 (Nat.le_of_ble_eq_true rfl) (by decide) rfl rfl rfl (Nat.le_of_ble_eq_true rfl) ⟨Nat.le_refl _, Nat.le_refl _⟩ dX7_sign_39 ?_
        refine cm_mono hF (fun w zH_6 hF => ?_)
        obtain ⟨zr_7, rfl, hF⟩ := hF
        exact rm_iret rfl dX7_sign_42 hF
      · refine rn_aload_n dX7_sign_32 rfl ?_
        refine rm_getr (r := 2) flRX7_9 rfl (by decide) rfl dX7_sign_33 ?_
        refine rn_iload_n dX7_sign_36 rfl ?_
        obtain ⟨zj_8, hzj_8, hF⟩ := hF
        refine rj_iald (j := zj_8) hzj_8 rfl (by decide) rfl (by decide) dX7_sign_37 ?_
        refine rn_i2c dX7_sign_38 ?_
        refine rm_callVS (j := 1) (As := [.int (i2c (zH_4 2 zj_8))]) (st := []) mlRX7_50 mdJ0_indexOf_0f7a4 (Nat.le_of_ble_eq_true rfl) (by decide) rfl rfl rfl (Nat.le_of_ble_eq_true rfl) ⟨Nat.le_refl _, Nat.le_refl _⟩ dX7_sign_39 ?_
        refine cm_mono hF (fun w zH_9 hF => ?_)
        obtain ⟨zr_10, rfl, hF⟩ := hF
        exact rm_iret rfl dX7_sign_42 hF
      · refine rn_aload_n dX7_sign_32 rfl ?_
        refine rm_getr (r := 2) flRX7_9 rfl (by decide) rfl dX7_sign_33 ?_
        refine rn_iload_n dX7_sign_36 rfl ?_
        obtain ⟨zj_11, hzj_11, hF⟩ := hF
        refine rj_iald (j := zj_11) hzj_11 rfl (by decide) rfl (by decide) dX7_sign_37 ?_
        refine rn_i2c dX7_sign_38 ?_
        refine rm_callVS (j := 2) (As := [.int (i2c (zH_4 2 zj_11))]) (st := []) mlRX7_50 mdJ0_indexOf_0f7a4 (Nat.le_of_ble_eq_true rfl) (by decide) rfl rfl rfl (Nat.le_of_ble_eq_true rfl) ⟨Nat.le_refl _, Nat.le_refl _⟩ dX7_sign_39 ?_
        refine cm_mono hF (fun w zH_12 hF => ?_)
        obtain ⟨zr_13, rfl, hF⟩ := hF
        exact rm_iret rfl dX7_sign_42 hF
    · replace hF := hF.2 hc_3
      refine rn_iconst (x := (-1 : Int32)) dX7_sign_23 (by decide) ?_
      refine rn_goto (tgt := 42) dX7_sign_24 (by decide) ?_
      exact rm_iret rfl dX7_sign_42 hF
theorem cmX7_sign_i1 {E : En} {Q : Option Value → Hi → Prop} {H : Hi} {zx1 : Int32} {zx2 : Int32} 
    (hF : ∀ zx3_1 : Int32, zx3_1 = (zx1 * ((H 1 4) + (1 : Int32))) + zx2 → ((zx3_1 < 0 → (Q (some (.int (-1 : Int32))) H)) ∧ (¬ zx3_1 < 0 → ((zx3_1 < (H 1 5) → (Cm E mX7_signs [rf E 1, .int zx2] H (fun w zH_4 => (w = some (rf E (1000 + 0)) ∧ (∃ zj_5 : Nat, (zj_5 < 31 ∧ zx3_1 = nI zj_5) ∧ (Cm E mJ0_indexOf_0f7a4 [rf E (1000 + 0), .int (i2c (zH_4 2 zj_5))] zH_4 (fun w zH_6 => ∃ zr_7 : Int32, w = some (.int zr_7) ∧ (Q (some (.int zr_7)) zH_6))))) ∨ (w = some (rf E (1000 + 1)) ∧ (∃ zj_8 : Nat, (zj_8 < 31 ∧ zx3_1 = nI zj_8) ∧ (Cm E mJ0_indexOf_0f7a4 [rf E (1000 + 1), .int (i2c (zH_4 2 zj_8))] zH_4 (fun w zH_9 => ∃ zr_10 : Int32, w = some (.int zr_10) ∧ (Q (some (.int zr_10)) zH_9))))) ∨ (w = some (rf E (1000 + 2)) ∧ (∃ zj_11 : Nat, (zj_11 < 31 ∧ zx3_1 = nI zj_11) ∧ (Cm E mJ0_indexOf_0f7a4 [rf E (1000 + 2), .int (i2c (zH_4 2 zj_11))] zH_4 (fun w zH_12 => ∃ zr_13 : Int32, w = some (.int zr_13) ∧ (Q (some (.int zr_13)) zH_12)))))))) ∧ (¬ zx3_1 < (H 1 5) → (Q (some (.int (-1 : Int32))) H)))))) :
    Cm E mX7_sign [rf E 1, .int zx1, .int zx2] H Q :=
  cm_of (by decide +kernel : plainName RX7 = true) (Nat.le_of_ble_eq_true rfl) rfl (sgX7_sign_i1_0  hF)
theorem sgX7_sign_i3_0 {E : En} {Q : Option Value → Hi → Prop} {H : Hi} {zx1 : Int32} {zx2 : Int32} 
    (hF : ∀ zx3_1 : Int32, zx3_1 = (zx1 * ((H 3 4) + (1 : Int32))) + zx2 → ((zx3_1 < 0 → (Q (some (.int (-1 : Int32))) H)) ∧ (¬ zx3_1 < 0 → ((zx3_1 < (H 3 5) → (Cm E mX7_signs [rf E 3, .int zx2] H (fun w zH_4 => (w = some (rf E (1000 + 3)) ∧ (∃ zj_5 : Nat, (zj_5 < 23 ∧ zx3_1 = nI zj_5) ∧ (Cm E mJ0_indexOf_0f7a4 [rf E (1000 + 3), .int (i2c (zH_4 4 zj_5))] zH_4 (fun w zH_6 => ∃ zr_7 : Int32, w = some (.int zr_7) ∧ (Q (some (.int zr_7)) zH_6))))) ∨ (w = some (rf E (1000 + 4)) ∧ (∃ zj_8 : Nat, (zj_8 < 23 ∧ zx3_1 = nI zj_8) ∧ (Cm E mJ0_indexOf_0f7a4 [rf E (1000 + 4), .int (i2c (zH_4 4 zj_8))] zH_4 (fun w zH_9 => ∃ zr_10 : Int32, w = some (.int zr_10) ∧ (Q (some (.int zr_10)) zH_9))))) ∨ (w = some (rf E (1000 + 5)) ∧ (∃ zj_11 : Nat, (zj_11 < 23 ∧ zx3_1 = nI zj_11) ∧ (Cm E mJ0_indexOf_0f7a4 [rf E (1000 + 5), .int (i2c (zH_4 4 zj_11))] zH_4 (fun w zH_12 => ∃ zr_13 : Int32, w = some (.int zr_13) ∧ (Q (some (.int zr_13)) zH_12)))))))) ∧ (¬ zx3_1 < (H 3 5) → (Q (some (.int (-1 : Int32))) H)))))) :
    Rm E mX7_sign Q 0 [some (rf E 3), some (.int zx1), some (.int zx2), none] [] H := by
  refine rn_iload_n dX7_sign_0 rfl ?_
  refine rn_aload_n dX7_sign_1 rfl ?_
  refine rm_geti flRX7_31 rfl (by decide) rfl dX7_sign_2 ?_
  refine rn_iconst (x := (1 : Int32)) dX7_sign_5 (by decide) ?_
  refine rn_iadd dX7_sign_6 ?_
  refine rn_imul dX7_sign_7 ?_
  refine rn_iload_n dX7_sign_8 rfl ?_
  refine rn_iadd dX7_sign_9 ?_
  refine rn_istore_n dX7_sign_10 rfl (Nat.le_of_ble_eq_true rfl) (fun zx3_1 ezx3_1 => ?_)
  replace hF := hF zx3_1 ezx3_1
  show Rn _ _ _ _ _ _ _ _ [some (rf E 3), some (.int zx1), some (.int zx2), some (.int zx3_1)] _ _ _
  refine rn_iload_n dX7_sign_11 rfl ?_
  refine rn_if_lt (tgt := 23) dX7_sign_12 (by decide) (fun hc_2 => ?_) (fun hc_2 => ?_)
  · replace hF := hF.1 hc_2
    refine rn_iconst (x := (-1 : Int32)) dX7_sign_23 (by decide) ?_
    refine rn_goto (tgt := 42) dX7_sign_24 (by decide) ?_
    exact rm_iret rfl dX7_sign_42 hF
  · replace hF := hF.2 hc_2
    refine rn_iload_n dX7_sign_15 rfl ?_
    refine rn_aload_n dX7_sign_16 rfl ?_
    refine rm_geti flRX7_35 rfl (by decide) rfl dX7_sign_17 ?_
    refine rn_icmp_lt (tgt := 27) dX7_sign_20 (by decide) (fun hc_3 => ?_) (fun hc_3 => ?_)
    · replace hF := hF.1 hc_3
      refine rn_aload_n dX7_sign_27 rfl ?_
      refine rn_iload_n dX7_sign_28 rfl ?_
      refine rm_callV (c0 := 3) (As := [.int zx2]) (st := []) mlRX7_46 mdX7_signs (Nat.le_of_ble_eq_true rfl) rfl (by decide) (by decide) rfl rfl rfl (Nat.le_of_ble_eq_true rfl) ⟨Nat.le_refl _, Nat.le_refl _⟩ dX7_sign_29 ?_
      refine cm_mono hF (fun w zH_4 hF => ?_)
      rcases hF with ⟨rfl, hF⟩ | ⟨rfl, hF⟩ | ⟨rfl, hF⟩
      · refine rn_aload_n dX7_sign_32 rfl ?_
        refine rm_getr (r := 4) flRX7_9 rfl (by decide) rfl dX7_sign_33 ?_
        refine rn_iload_n dX7_sign_36 rfl ?_
        obtain ⟨zj_5, hzj_5, hF⟩ := hF
        refine rj_iald (j := zj_5) hzj_5 rfl (by decide) rfl (by decide) dX7_sign_37 ?_
        refine rn_i2c dX7_sign_38 ?_
        refine rm_callVS (j := 3) (As := [.int (i2c (zH_4 4 zj_5))]) (st := []) mlRX7_50 mdJ0_indexOf_0f7a4 (Nat.le_of_ble_eq_true rfl) (by decide) rfl rfl rfl (Nat.le_of_ble_eq_true rfl) ⟨Nat.le_refl _, Nat.le_refl _⟩ dX7_sign_39 ?_
        refine cm_mono hF (fun w zH_6 hF => ?_)
        obtain ⟨zr_7, rfl, hF⟩ := hF
        exact rm_iret rfl dX7_sign_42 hF
      · refine rn_aload_n dX7_sign_32 rfl ?_
        refine rm_getr (r := 4) flRX7_9 rfl (by decide) rfl dX7_sign_33 ?_
        refine rn_iload_n dX7_sign_36 rfl ?_
        obtain ⟨zj_8, hzj_8, hF⟩ := hF
        refine rj_iald (j := zj_8) hzj_8 rfl (by decide) rfl (by decide) dX7_sign_37 ?_
        refine rn_i2c dX7_sign_38 ?_
        refine rm_callVS (j := 4) (As := [.int (i2c (zH_4 4 zj_8))]) (st := []) mlRX7_50 mdJ0_indexOf_0f7a4 (Nat.le_of_ble_eq_true rfl) (by decide) rfl rfl rfl (Nat.le_of_ble_eq_true rfl) ⟨Nat.le_refl _, Nat.le_refl _⟩ dX7_sign_39 ?_
        refine cm_mono hF (fun w zH_9 hF => ?_)
        obtain ⟨zr_10, rfl, hF⟩ := hF
        exact rm_iret rfl dX7_sign_42 hF
      · refine rn_aload_n dX7_sign_32 rfl ?_
        refine rm_getr (r := 4) flRX7_9 rfl (by decide) rfl dX7_sign_33 ?_
        refine rn_iload_n dX7_sign_36 rfl ?_
        obtain ⟨zj_11, hzj_11, hF⟩ := hF
        refine rj_iald (j := zj_11) hzj_11 rfl (by decide) rfl (by decide) dX7_sign_37 ?_
        refine rn_i2c dX7_sign_38 ?_
        refine rm_callVS (j := 5) (As := [.int (i2c (zH_4 4 zj_11))]) (st := []) mlRX7_50 mdJ0_indexOf_0f7a4 (Nat.le_of_ble_eq_true rfl) (by decide) rfl rfl rfl (Nat.le_of_ble_eq_true rfl) ⟨Nat.le_refl _, Nat.le_refl _⟩ dX7_sign_39 ?_
        refine cm_mono hF (fun w zH_12 hF => ?_)
        obtain ⟨zr_13, rfl, hF⟩ := hF
        exact rm_iret rfl dX7_sign_42 hF
    · replace hF := hF.2 hc_3
      refine rn_iconst (x := (-1 : Int32)) dX7_sign_23 (by decide) ?_
      refine rn_goto (tgt := 42) dX7_sign_24 (by decide) ?_
      exact rm_iret rfl dX7_sign_42 hF
theorem cmX7_sign_i3 {E : En} {Q : Option Value → Hi → Prop} {H : Hi} {zx1 : Int32} {zx2 : Int32} 
    (hF : ∀ zx3_1 : Int32, zx3_1 = (zx1 * ((H 3 4) + (1 : Int32))) + zx2 → ((zx3_1 < 0 → (Q (some (.int (-1 : Int32))) H)) ∧ (¬ zx3_1 < 0 → ((zx3_1 < (H 3 5) → (Cm E mX7_signs [rf E 3, .int zx2] H (fun w zH_4 => (w = some (rf E (1000 + 3)) ∧ (∃ zj_5 : Nat, (zj_5 < 23 ∧ zx3_1 = nI zj_5) ∧ (Cm E mJ0_indexOf_0f7a4 [rf E (1000 + 3), .int (i2c (zH_4 4 zj_5))] zH_4 (fun w zH_6 => ∃ zr_7 : Int32, w = some (.int zr_7) ∧ (Q (some (.int zr_7)) zH_6))))) ∨ (w = some (rf E (1000 + 4)) ∧ (∃ zj_8 : Nat, (zj_8 < 23 ∧ zx3_1 = nI zj_8) ∧ (Cm E mJ0_indexOf_0f7a4 [rf E (1000 + 4), .int (i2c (zH_4 4 zj_8))] zH_4 (fun w zH_9 => ∃ zr_10 : Int32, w = some (.int zr_10) ∧ (Q (some (.int zr_10)) zH_9))))) ∨ (w = some (rf E (1000 + 5)) ∧ (∃ zj_11 : Nat, (zj_11 < 23 ∧ zx3_1 = nI zj_11) ∧ (Cm E mJ0_indexOf_0f7a4 [rf E (1000 + 5), .int (i2c (zH_4 4 zj_11))] zH_4 (fun w zH_12 => ∃ zr_13 : Int32, w = some (.int zr_13) ∧ (Q (some (.int zr_13)) zH_12)))))))) ∧ (¬ zx3_1 < (H 3 5) → (Q (some (.int (-1 : Int32))) H)))))) :
    Cm E mX7_sign [rf E 3, .int zx1, .int zx2] H Q :=
  cm_of (by decide +kernel : plainName RX7 = true) (Nat.le_of_ble_eq_true rfl) rfl (sgX7_sign_i3_0  hF)
theorem sgX7_fits_i1_0 {E : En} {Q : Option Value → Hi → Prop} {H : Hi} {zx1 : Int32} {zx2 : Int32} 
    (hF : (¬ zx1 = (H 1 4) → (Cm E mX7_signs [rf E 1, .int zx1] H (fun w zH_2 => (w = some (rf E (1000 + 0)) ∧ (Cm E mJ0_indexOf_0f7a4 [rf E (1000 + 0), .int (i2c zx2)] zH_2 (fun w zH_3 => ∃ zr_4 : Int32, w = some (.int zr_4) ∧ ((zr_4 < 0 → (Q (some (.int (0 : Int32))) zH_3)) ∧ (¬ zr_4 < 0 → (Q (some (.int (1 : Int32))) zH_3)))))) ∨ (w = some (rf E (1000 + 1)) ∧ (Cm E mJ0_indexOf_0f7a4 [rf E (1000 + 1), .int (i2c zx2)] zH_2 (fun w zH_6 => ∃ zr_7 : Int32, w = some (.int zr_7) ∧ ((zr_7 < 0 → (Q (some (.int (0 : Int32))) zH_6)) ∧ (¬ zr_7 < 0 → (Q (some (.int (1 : Int32))) zH_6)))))) ∨ (w = some (rf E (1000 + 2)) ∧ (Cm E mJ0_indexOf_0f7a4 [rf E (1000 + 2), .int (i2c zx2)] zH_2 (fun w zH_9 => ∃ zr_10 : Int32, w = some (.int zr_10) ∧ ((zr_10 < 0 → (Q (some (.int (0 : Int32))) zH_9)) ∧ (¬ zr_10 < 0 → (Q (some (.int (1 : Int32))) zH_9))))))))) ∧ (zx1 = (H 1 4) → ((¬ zx2 = (59 : Int32) → (Q (some (.int (0 : Int32))) H)) ∧ (zx2 = (59 : Int32) → (Q (some (.int (1 : Int32))) H))))) :
    Rm E mX7_fits Q 0 [some (rf E 1), some (.int zx1), some (.int zx2)] [] H := by
  refine rn_iload_n dX7_fits_0 rfl ?_
  refine rn_aload_n dX7_fits_1 rfl ?_
  refine rm_geti flRX7_31 rfl (by decide) rfl dX7_fits_2 ?_
  refine rn_icmp_ne (tgt := 22) dX7_fits_5 (by decide) (fun hc_1 => ?_) (fun hc_1 => ?_)
  · replace hF := hF.1 hc_1
    refine rn_aload_n dX7_fits_22 rfl ?_
    refine rn_iload_n dX7_fits_23 rfl ?_
    refine rm_callV (c0 := 1) (As := [.int zx1]) (st := []) mlRX7_46 mdX7_signs (Nat.le_of_ble_eq_true rfl) rfl (by decide) (by decide) rfl rfl rfl (Nat.le_of_ble_eq_true rfl) ⟨Nat.le_refl _, Nat.le_refl _⟩ dX7_fits_24 ?_
    refine cm_mono hF (fun w zH_2 hF => ?_)
    rcases hF with ⟨rfl, hF⟩ | ⟨rfl, hF⟩ | ⟨rfl, hF⟩
    · refine rn_iload_n dX7_fits_27 rfl ?_
      refine rn_i2c dX7_fits_28 ?_
      refine rm_callVS (j := 0) (As := [.int (i2c zx2)]) (st := []) mlRX7_50 mdJ0_indexOf_0f7a4 (Nat.le_of_ble_eq_true rfl) (by decide) rfl rfl rfl (Nat.le_of_ble_eq_true rfl) ⟨Nat.le_refl _, Nat.le_refl _⟩ dX7_fits_29 ?_
      refine cm_mono hF (fun w zH_3 hF => ?_)
      obtain ⟨zr_4, rfl, hF⟩ := hF
      refine rn_if_lt (tgt := 39) dX7_fits_32 (by decide) (fun hc_5 => ?_) (fun hc_5 => ?_)
      · replace hF := hF.1 hc_5
        refine rn_iconst (x := (0 : Int32)) dX7_fits_39 (by decide) ?_
        exact rm_zret rfl rfl dX7_fits_40 hF
      · replace hF := hF.2 hc_5
        refine rn_iconst (x := (1 : Int32)) dX7_fits_35 (by decide) ?_
        refine rn_goto (tgt := 40) dX7_fits_36 (by decide) ?_
        exact rm_zret rfl rfl dX7_fits_40 hF
    · refine rn_iload_n dX7_fits_27 rfl ?_
      refine rn_i2c dX7_fits_28 ?_
      refine rm_callVS (j := 1) (As := [.int (i2c zx2)]) (st := []) mlRX7_50 mdJ0_indexOf_0f7a4 (Nat.le_of_ble_eq_true rfl) (by decide) rfl rfl rfl (Nat.le_of_ble_eq_true rfl) ⟨Nat.le_refl _, Nat.le_refl _⟩ dX7_fits_29 ?_
      refine cm_mono hF (fun w zH_6 hF => ?_)
      obtain ⟨zr_7, rfl, hF⟩ := hF
      refine rn_if_lt (tgt := 39) dX7_fits_32 (by decide) (fun hc_8 => ?_) (fun hc_8 => ?_)
      · replace hF := hF.1 hc_8
        refine rn_iconst (x := (0 : Int32)) dX7_fits_39 (by decide) ?_
        exact rm_zret rfl rfl dX7_fits_40 hF
      · replace hF := hF.2 hc_8
        refine rn_iconst (x := (1 : Int32)) dX7_fits_35 (by decide) ?_
        refine rn_goto (tgt := 40) dX7_fits_36 (by decide) ?_
        exact rm_zret rfl rfl dX7_fits_40 hF
    · refine rn_iload_n dX7_fits_27 rfl ?_
      refine rn_i2c dX7_fits_28 ?_
      refine rm_callVS (j := 2) (As := [.int (i2c zx2)]) (st := []) mlRX7_50 mdJ0_indexOf_0f7a4 (Nat.le_of_ble_eq_true rfl) (by decide) rfl rfl rfl (Nat.le_of_ble_eq_true rfl) ⟨Nat.le_refl _, Nat.le_refl _⟩ dX7_fits_29 ?_
      refine cm_mono hF (fun w zH_9 hF => ?_)
      obtain ⟨zr_10, rfl, hF⟩ := hF
      refine rn_if_lt (tgt := 39) dX7_fits_32 (by decide) (fun hc_11 => ?_) (fun hc_11 => ?_)
      · replace hF := hF.1 hc_11
        refine rn_iconst (x := (0 : Int32)) dX7_fits_39 (by decide) ?_
        exact rm_zret rfl rfl dX7_fits_40 hF
      · replace hF := hF.2 hc_11
        refine rn_iconst (x := (1 : Int32)) dX7_fits_35 (by decide) ?_
        refine rn_goto (tgt := 40) dX7_fits_36 (by decide) ?_
        exact rm_zret rfl rfl dX7_fits_40 hF
  · replace hF := hF.2 hc_1
    refine rn_iload_n dX7_fits_8 rfl ?_
    refine rn_bipush (x := (59 : Int32)) dX7_fits_9 (by decide) ?_
    refine rn_icmp_ne (tgt := 18) dX7_fits_11 (by decide) (fun hc_12 => ?_) (fun hc_12 => ?_)
    · replace hF := hF.1 hc_12
      refine rn_iconst (x := (0 : Int32)) dX7_fits_18 (by decide) ?_
      refine rn_goto (tgt := 40) dX7_fits_19 (by decide) ?_
      exact rm_zret rfl rfl dX7_fits_40 hF
    · replace hF := hF.2 hc_12
      refine rn_iconst (x := (1 : Int32)) dX7_fits_14 (by decide) ?_
      refine rn_goto (tgt := 40) dX7_fits_15 (by decide) ?_
      exact rm_zret rfl rfl dX7_fits_40 hF
theorem cmX7_fits_i1 {E : En} {Q : Option Value → Hi → Prop} {H : Hi} {zx1 : Int32} {zx2 : Int32} 
    (hF : (¬ zx1 = (H 1 4) → (Cm E mX7_signs [rf E 1, .int zx1] H (fun w zH_2 => (w = some (rf E (1000 + 0)) ∧ (Cm E mJ0_indexOf_0f7a4 [rf E (1000 + 0), .int (i2c zx2)] zH_2 (fun w zH_3 => ∃ zr_4 : Int32, w = some (.int zr_4) ∧ ((zr_4 < 0 → (Q (some (.int (0 : Int32))) zH_3)) ∧ (¬ zr_4 < 0 → (Q (some (.int (1 : Int32))) zH_3)))))) ∨ (w = some (rf E (1000 + 1)) ∧ (Cm E mJ0_indexOf_0f7a4 [rf E (1000 + 1), .int (i2c zx2)] zH_2 (fun w zH_6 => ∃ zr_7 : Int32, w = some (.int zr_7) ∧ ((zr_7 < 0 → (Q (some (.int (0 : Int32))) zH_6)) ∧ (¬ zr_7 < 0 → (Q (some (.int (1 : Int32))) zH_6)))))) ∨ (w = some (rf E (1000 + 2)) ∧ (Cm E mJ0_indexOf_0f7a4 [rf E (1000 + 2), .int (i2c zx2)] zH_2 (fun w zH_9 => ∃ zr_10 : Int32, w = some (.int zr_10) ∧ ((zr_10 < 0 → (Q (some (.int (0 : Int32))) zH_9)) ∧ (¬ zr_10 < 0 → (Q (some (.int (1 : Int32))) zH_9))))))))) ∧ (zx1 = (H 1 4) → ((¬ zx2 = (59 : Int32) → (Q (some (.int (0 : Int32))) H)) ∧ (zx2 = (59 : Int32) → (Q (some (.int (1 : Int32))) H))))) :
    Cm E mX7_fits [rf E 1, .int zx1, .int zx2] H Q :=
  cm_of (by decide +kernel : plainName RX7 = true) (Nat.le_of_ble_eq_true rfl) rfl (sgX7_fits_i1_0  hF)
theorem sgX7_fits_i3_0 {E : En} {Q : Option Value → Hi → Prop} {H : Hi} {zx1 : Int32} {zx2 : Int32} 
    (hF : (¬ zx1 = (H 3 4) → (Cm E mX7_signs [rf E 3, .int zx1] H (fun w zH_2 => (w = some (rf E (1000 + 3)) ∧ (Cm E mJ0_indexOf_0f7a4 [rf E (1000 + 3), .int (i2c zx2)] zH_2 (fun w zH_3 => ∃ zr_4 : Int32, w = some (.int zr_4) ∧ ((zr_4 < 0 → (Q (some (.int (0 : Int32))) zH_3)) ∧ (¬ zr_4 < 0 → (Q (some (.int (1 : Int32))) zH_3)))))) ∨ (w = some (rf E (1000 + 4)) ∧ (Cm E mJ0_indexOf_0f7a4 [rf E (1000 + 4), .int (i2c zx2)] zH_2 (fun w zH_6 => ∃ zr_7 : Int32, w = some (.int zr_7) ∧ ((zr_7 < 0 → (Q (some (.int (0 : Int32))) zH_6)) ∧ (¬ zr_7 < 0 → (Q (some (.int (1 : Int32))) zH_6)))))) ∨ (w = some (rf E (1000 + 5)) ∧ (Cm E mJ0_indexOf_0f7a4 [rf E (1000 + 5), .int (i2c zx2)] zH_2 (fun w zH_9 => ∃ zr_10 : Int32, w = some (.int zr_10) ∧ ((zr_10 < 0 → (Q (some (.int (0 : Int32))) zH_9)) ∧ (¬ zr_10 < 0 → (Q (some (.int (1 : Int32))) zH_9))))))))) ∧ (zx1 = (H 3 4) → ((¬ zx2 = (59 : Int32) → (Q (some (.int (0 : Int32))) H)) ∧ (zx2 = (59 : Int32) → (Q (some (.int (1 : Int32))) H))))) :
    Rm E mX7_fits Q 0 [some (rf E 3), some (.int zx1), some (.int zx2)] [] H := by
  refine rn_iload_n dX7_fits_0 rfl ?_
  refine rn_aload_n dX7_fits_1 rfl ?_
  refine rm_geti flRX7_31 rfl (by decide) rfl dX7_fits_2 ?_
  refine rn_icmp_ne (tgt := 22) dX7_fits_5 (by decide) (fun hc_1 => ?_) (fun hc_1 => ?_)
  · replace hF := hF.1 hc_1
    refine rn_aload_n dX7_fits_22 rfl ?_
    refine rn_iload_n dX7_fits_23 rfl ?_
    refine rm_callV (c0 := 3) (As := [.int zx1]) (st := []) mlRX7_46 mdX7_signs (Nat.le_of_ble_eq_true rfl) rfl (by decide) (by decide) rfl rfl rfl (Nat.le_of_ble_eq_true rfl) ⟨Nat.le_refl _, Nat.le_refl _⟩ dX7_fits_24 ?_
    refine cm_mono hF (fun w zH_2 hF => ?_)
    rcases hF with ⟨rfl, hF⟩ | ⟨rfl, hF⟩ | ⟨rfl, hF⟩
    · refine rn_iload_n dX7_fits_27 rfl ?_
      refine rn_i2c dX7_fits_28 ?_
      refine rm_callVS (j := 3) (As := [.int (i2c zx2)]) (st := []) mlRX7_50 mdJ0_indexOf_0f7a4 (Nat.le_of_ble_eq_true rfl) (by decide) rfl rfl rfl (Nat.le_of_ble_eq_true rfl) ⟨Nat.le_refl _, Nat.le_refl _⟩ dX7_fits_29 ?_
      refine cm_mono hF (fun w zH_3 hF => ?_)
      obtain ⟨zr_4, rfl, hF⟩ := hF
      refine rn_if_lt (tgt := 39) dX7_fits_32 (by decide) (fun hc_5 => ?_) (fun hc_5 => ?_)
      · replace hF := hF.1 hc_5
        refine rn_iconst (x := (0 : Int32)) dX7_fits_39 (by decide) ?_
        exact rm_zret rfl rfl dX7_fits_40 hF
      · replace hF := hF.2 hc_5
        refine rn_iconst (x := (1 : Int32)) dX7_fits_35 (by decide) ?_
        refine rn_goto (tgt := 40) dX7_fits_36 (by decide) ?_
        exact rm_zret rfl rfl dX7_fits_40 hF
    · refine rn_iload_n dX7_fits_27 rfl ?_
      refine rn_i2c dX7_fits_28 ?_
      refine rm_callVS (j := 4) (As := [.int (i2c zx2)]) (st := []) mlRX7_50 mdJ0_indexOf_0f7a4 (Nat.le_of_ble_eq_true rfl) (by decide) rfl rfl rfl (Nat.le_of_ble_eq_true rfl) ⟨Nat.le_refl _, Nat.le_refl _⟩ dX7_fits_29 ?_
      refine cm_mono hF (fun w zH_6 hF => ?_)
      obtain ⟨zr_7, rfl, hF⟩ := hF
      refine rn_if_lt (tgt := 39) dX7_fits_32 (by decide) (fun hc_8 => ?_) (fun hc_8 => ?_)
      · replace hF := hF.1 hc_8
        refine rn_iconst (x := (0 : Int32)) dX7_fits_39 (by decide) ?_
        exact rm_zret rfl rfl dX7_fits_40 hF
      · replace hF := hF.2 hc_8
        refine rn_iconst (x := (1 : Int32)) dX7_fits_35 (by decide) ?_
        refine rn_goto (tgt := 40) dX7_fits_36 (by decide) ?_
        exact rm_zret rfl rfl dX7_fits_40 hF
    · refine rn_iload_n dX7_fits_27 rfl ?_
      refine rn_i2c dX7_fits_28 ?_
      refine rm_callVS (j := 5) (As := [.int (i2c zx2)]) (st := []) mlRX7_50 mdJ0_indexOf_0f7a4 (Nat.le_of_ble_eq_true rfl) (by decide) rfl rfl rfl (Nat.le_of_ble_eq_true rfl) ⟨Nat.le_refl _, Nat.le_refl _⟩ dX7_fits_29 ?_
      refine cm_mono hF (fun w zH_9 hF => ?_)
      obtain ⟨zr_10, rfl, hF⟩ := hF
      refine rn_if_lt (tgt := 39) dX7_fits_32 (by decide) (fun hc_11 => ?_) (fun hc_11 => ?_)
      · replace hF := hF.1 hc_11
        refine rn_iconst (x := (0 : Int32)) dX7_fits_39 (by decide) ?_
        exact rm_zret rfl rfl dX7_fits_40 hF
      · replace hF := hF.2 hc_11
        refine rn_iconst (x := (1 : Int32)) dX7_fits_35 (by decide) ?_
        refine rn_goto (tgt := 40) dX7_fits_36 (by decide) ?_
        exact rm_zret rfl rfl dX7_fits_40 hF
  · replace hF := hF.2 hc_1
    refine rn_iload_n dX7_fits_8 rfl ?_
    refine rn_bipush (x := (59 : Int32)) dX7_fits_9 (by decide) ?_
    refine rn_icmp_ne (tgt := 18) dX7_fits_11 (by decide) (fun hc_12 => ?_) (fun hc_12 => ?_)
    · replace hF := hF.1 hc_12
      refine rn_iconst (x := (0 : Int32)) dX7_fits_18 (by decide) ?_
      refine rn_goto (tgt := 40) dX7_fits_19 (by decide) ?_
      exact rm_zret rfl rfl dX7_fits_40 hF
    · replace hF := hF.2 hc_12
      refine rn_iconst (x := (1 : Int32)) dX7_fits_14 (by decide) ?_
      refine rn_goto (tgt := 40) dX7_fits_15 (by decide) ?_
      exact rm_zret rfl rfl dX7_fits_40 hF
theorem cmX7_fits_i3 {E : En} {Q : Option Value → Hi → Prop} {H : Hi} {zx1 : Int32} {zx2 : Int32} 
    (hF : (¬ zx1 = (H 3 4) → (Cm E mX7_signs [rf E 3, .int zx1] H (fun w zH_2 => (w = some (rf E (1000 + 3)) ∧ (Cm E mJ0_indexOf_0f7a4 [rf E (1000 + 3), .int (i2c zx2)] zH_2 (fun w zH_3 => ∃ zr_4 : Int32, w = some (.int zr_4) ∧ ((zr_4 < 0 → (Q (some (.int (0 : Int32))) zH_3)) ∧ (¬ zr_4 < 0 → (Q (some (.int (1 : Int32))) zH_3)))))) ∨ (w = some (rf E (1000 + 4)) ∧ (Cm E mJ0_indexOf_0f7a4 [rf E (1000 + 4), .int (i2c zx2)] zH_2 (fun w zH_6 => ∃ zr_7 : Int32, w = some (.int zr_7) ∧ ((zr_7 < 0 → (Q (some (.int (0 : Int32))) zH_6)) ∧ (¬ zr_7 < 0 → (Q (some (.int (1 : Int32))) zH_6)))))) ∨ (w = some (rf E (1000 + 5)) ∧ (Cm E mJ0_indexOf_0f7a4 [rf E (1000 + 5), .int (i2c zx2)] zH_2 (fun w zH_9 => ∃ zr_10 : Int32, w = some (.int zr_10) ∧ ((zr_10 < 0 → (Q (some (.int (0 : Int32))) zH_9)) ∧ (¬ zr_10 < 0 → (Q (some (.int (1 : Int32))) zH_9))))))))) ∧ (zx1 = (H 3 4) → ((¬ zx2 = (59 : Int32) → (Q (some (.int (0 : Int32))) H)) ∧ (zx2 = (59 : Int32) → (Q (some (.int (1 : Int32))) H))))) :
    Cm E mX7_fits [rf E 3, .int zx1, .int zx2] H Q :=
  cm_of (by decide +kernel : plainName RX7 = true) (Nat.le_of_ble_eq_true rfl) rfl (sgX7_fits_i3_0  hF)
theorem sgX7_signs_i1_0 {E : En} {Q : Option Value → Hi → Prop} {H : Hi} {zx1 : Int32} 
    (hF : (¬ zx1 = 0 → ((¬ zx1 = (1 : Int32) → (Q (some (rf E (1000 + 2))) H)) ∧ (zx1 = (1 : Int32) → (Q (some (rf E (1000 + 1))) H)))) ∧ (zx1 = 0 → (Q (some (rf E (1000 + 0))) H))) :
    Rm E mX7_signs Q 0 [some (rf E 1), some (.int zx1)] [] H := by
  refine rn_iload_n dX7_signs_0 rfl ?_
  refine rn_if_ne (tgt := 9) dX7_signs_1 (by decide) (fun hc_1 => ?_) (fun hc_1 => ?_)
  · replace hF := hF.1 hc_1
    refine rn_iload_n dX7_signs_9 rfl ?_
    refine rn_iconst (x := (1 : Int32)) dX7_signs_10 (by decide) ?_
    refine rn_icmp_ne (tgt := 21) dX7_signs_11 (by decide) (fun hc_2 => ?_) (fun hc_2 => ?_)
    · replace hF := hF.1 hc_2
      refine rn_aload_n dX7_signs_21 rfl ?_
      refine rm_getr (r := (1000 + 2)) flRX7_22 rfl (by decide) rfl dX7_signs_22 ?_
      exact rm_aret rfl (Or.inl ⟨_, rfl⟩) dX7_signs_25 hF
    · replace hF := hF.2 hc_2
      refine rn_aload_n dX7_signs_14 rfl ?_
      refine rm_getr (r := (1000 + 1)) flRX7_19 rfl (by decide) rfl dX7_signs_15 ?_
      refine rn_goto (tgt := 25) dX7_signs_18 (by decide) ?_
      exact rm_aret rfl (Or.inl ⟨_, rfl⟩) dX7_signs_25 hF
  · replace hF := hF.2 hc_1
    refine rn_aload_n dX7_signs_4 rfl ?_
    refine rm_getr (r := (1000 + 0)) flRX7_15 rfl (by decide) rfl dX7_signs_5 ?_
    exact rm_aret rfl (Or.inl ⟨_, rfl⟩) dX7_signs_8 hF
theorem cmX7_signs_i1 {E : En} {Q : Option Value → Hi → Prop} {H : Hi} {zx1 : Int32} 
    (hF : (¬ zx1 = 0 → ((¬ zx1 = (1 : Int32) → (Q (some (rf E (1000 + 2))) H)) ∧ (zx1 = (1 : Int32) → (Q (some (rf E (1000 + 1))) H)))) ∧ (zx1 = 0 → (Q (some (rf E (1000 + 0))) H))) :
    Cm E mX7_signs [rf E 1, .int zx1] H Q :=
  cm_of (by decide +kernel : plainName RX7 = true) (Nat.le_of_ble_eq_true rfl) rfl (sgX7_signs_i1_0  hF)
theorem sgX7_signs_i3_0 {E : En} {Q : Option Value → Hi → Prop} {H : Hi} {zx1 : Int32} 
    (hF : (¬ zx1 = 0 → ((¬ zx1 = (1 : Int32) → (Q (some (rf E (1000 + 5))) H)) ∧ (zx1 = (1 : Int32) → (Q (some (rf E (1000 + 4))) H)))) ∧ (zx1 = 0 → (Q (some (rf E (1000 + 3))) H))) :
    Rm E mX7_signs Q 0 [some (rf E 3), some (.int zx1)] [] H := by
  refine rn_iload_n dX7_signs_0 rfl ?_
  refine rn_if_ne (tgt := 9) dX7_signs_1 (by decide) (fun hc_1 => ?_) (fun hc_1 => ?_)
  · replace hF := hF.1 hc_1
    refine rn_iload_n dX7_signs_9 rfl ?_
    refine rn_iconst (x := (1 : Int32)) dX7_signs_10 (by decide) ?_
    refine rn_icmp_ne (tgt := 21) dX7_signs_11 (by decide) (fun hc_2 => ?_) (fun hc_2 => ?_)
    · replace hF := hF.1 hc_2
      refine rn_aload_n dX7_signs_21 rfl ?_
      refine rm_getr (r := (1000 + 5)) flRX7_22 rfl (by decide) rfl dX7_signs_22 ?_
      exact rm_aret rfl (Or.inl ⟨_, rfl⟩) dX7_signs_25 hF
    · replace hF := hF.2 hc_2
      refine rn_aload_n dX7_signs_14 rfl ?_
      refine rm_getr (r := (1000 + 4)) flRX7_19 rfl (by decide) rfl dX7_signs_15 ?_
      refine rn_goto (tgt := 25) dX7_signs_18 (by decide) ?_
      exact rm_aret rfl (Or.inl ⟨_, rfl⟩) dX7_signs_25 hF
  · replace hF := hF.2 hc_1
    refine rn_aload_n dX7_signs_4 rfl ?_
    refine rm_getr (r := (1000 + 3)) flRX7_15 rfl (by decide) rfl dX7_signs_5 ?_
    exact rm_aret rfl (Or.inl ⟨_, rfl⟩) dX7_signs_8 hF
theorem cmX7_signs_i3 {E : En} {Q : Option Value → Hi → Prop} {H : Hi} {zx1 : Int32} 
    (hF : (¬ zx1 = 0 → ((¬ zx1 = (1 : Int32) → (Q (some (rf E (1000 + 5))) H)) ∧ (zx1 = (1 : Int32) → (Q (some (rf E (1000 + 4))) H)))) ∧ (zx1 = 0 → (Q (some (rf E (1000 + 3))) H))) :
    Cm E mX7_signs [rf E 3, .int zx1] H Q :=
  cm_of (by decide +kernel : plainName RX7 = true) (Nat.le_of_ble_eq_true rfl) rfl (sgX7_signs_i3_0  hF)
