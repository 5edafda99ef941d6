theorem sgX4_plan_i76_0 {E : En} {Q : Option Value → Hi → Prop} {H : Hi} {zx1 : Int32} {zx2 : Int32} {zx3 : Int32} 
    (hF : ∀ zH_1 : Hi, zH_1 = up H 76 0 zx1 → (∀ zH_2 : Hi, zH_2 = up zH_1 76 1 zx2 → (∀ zH_3 : Hi, zH_3 = up zH_2 76 2 zx3 → (Q none zH_3)))) :
    Rm E mX4_plan Q 0 [some (rf E 76), some (.int zx1), some (.int zx2), some (.int zx3)] [] H := by
  refine rn_aload_n dX4_plan_0 rfl ?_
  refine rn_iload_n dX4_plan_1 rfl ?_
  refine rm_puti flRX4_9 rfl (by decide) rfl dX4_plan_2 (fun zH_1 ezH_1 => ?_)
  replace hF := hF zH_1 ezH_1
  refine rn_aload_n dX4_plan_5 rfl ?_
  refine rn_iload_n dX4_plan_6 rfl ?_
  refine rm_puti flRX4_15 rfl (by decide) rfl dX4_plan_7 (fun zH_2 ezH_2 => ?_)
  replace hF := hF zH_2 ezH_2
  refine rn_aload_n dX4_plan_10 rfl ?_
  refine rn_iload_n dX4_plan_11 rfl ?_
  refine rm_puti flRX4_18 rfl (by decide) rfl dX4_plan_12 (fun zH_3 ezH_3 => ?_)
  replace hF := hF zH_3 ezH_3
  exact rm_vret rfl dX4_plan_15 hF
theorem cmX4_plan_i76 {E : En} {Q : Option Value → Hi → Prop} {H : Hi} {zx1 : Int32} {zx2 : Int32} {zx3 : Int32} 
    (hF : ∀ zH_1 : Hi, zH_1 = up H 76 0 zx1 → (∀ zH_2 : Hi, zH_2 = up zH_1 76 1 zx2 → (∀ zH_3 : Hi, zH_3 = up zH_2 76 2 zx3 → (Q none zH_3)))) :
    Cm E mX4_plan [rf E 76, .int zx1, .int zx2, .int zx3] H Q :=
  cm_of (by decide +kernel : plainName RX4 = true) (Nat.le_of_ble_eq_true rfl) rfl (sgX4_plan_i76_0  hF)
theorem sgX4_plan_i77_0 {E : En} {Q : Option Value → Hi → Prop} {H : Hi} {zx1 : Int32} {zx2 : Int32} {zx3 : Int32} 
    (hF : ∀ zH_1 : Hi, zH_1 = up H 77 0 zx1 → (∀ zH_2 : Hi, zH_2 = up zH_1 77 1 zx2 → (∀ zH_3 : Hi, zH_3 = up zH_2 77 2 zx3 → (Q none zH_3)))) :
    Rm E mX4_plan Q 0 [some (rf E 77), some (.int zx1), some (.int zx2), some (.int zx3)] [] H := by
  refine rn_aload_n dX4_plan_0 rfl ?_
  refine rn_iload_n dX4_plan_1 rfl ?_
  refine rm_puti flRX4_9 rfl (by decide) rfl dX4_plan_2 (fun zH_1 ezH_1 => ?_)
  replace hF := hF zH_1 ezH_1
  refine rn_aload_n dX4_plan_5 rfl ?_
  refine rn_iload_n dX4_plan_6 rfl ?_
  refine rm_puti flRX4_15 rfl (by decide) rfl dX4_plan_7 (fun zH_2 ezH_2 => ?_)
  replace hF := hF zH_2 ezH_2
  refine rn_aload_n dX4_plan_10 rfl ?_
  refine rn_iload_n dX4_plan_11 rfl ?_
  refine rm_puti flRX4_18 rfl (by decide) rfl dX4_plan_12 (fun zH_3 ezH_3 => ?_)
  replace hF := hF zH_3 ezH_3
  exact rm_vret rfl dX4_plan_15 hF
theorem cmX4_plan_i77 {E : En} {Q : Option Value → Hi → Prop} {H : Hi} {zx1 : Int32} {zx2 : Int32} {zx3 : Int32} 
    (hF : ∀ zH_1 : Hi, zH_1 = up H 77 0 zx1 → (∀ zH_2 : Hi, zH_2 = up zH_1 77 1 zx2 → (∀ zH_3 : Hi, zH_3 = up zH_2 77 2 zx3 → (Q none zH_3)))) :
    Cm E mX4_plan [rf E 77, .int zx1, .int zx2, .int zx3] H Q :=
  cm_of (by decide +kernel : plainName RX4 = true) (Nat.le_of_ble_eq_true rfl) rfl (sgX4_plan_i77_0  hF)
theorem sgX4_told_i76_0 {E : En} {Q : Option Value → Hi → Prop} {H : Hi} {zx1 : Int32} 
    (hF : (¬ zx1 = (-1 : Int32) → ((zx1 < (H 76 0) → ((¬ zx1 = 0 → (Q (some (.int (H 76 2))) H)) ∧ (zx1 = 0 → (Q (some (.int (H 76 1))) H)))) ∧ (¬ zx1 < (H 76 0) → (Q (some (.int (-1 : Int32))) H)))) ∧ (zx1 = (-1 : Int32) → (Q (some (.int (H 76 0))) H))) :
    Rm E mX4_told Q 0 [some (rf E 76), some (.int zx1)] [] H := by
  refine rn_iload_n dX4_told_0 rfl ?_
  refine rn_iconst (x := (-1 : Int32)) dX4_told_1 (by decide) ?_
  refine rn_icmp_ne (tgt := 10) dX4_told_2 (by decide) (fun hc_1 => ?_) (fun hc_1 => ?_)
  · replace hF := hF.1 hc_1
    refine rn_iload_n dX4_told_10 rfl ?_
    refine rn_aload_n dX4_told_11 rfl ?_
    refine rm_geti flRX4_9 rfl (by decide) rfl dX4_told_12 ?_
    refine rn_icmp_lt (tgt := 20) dX4_told_15 (by decide) (fun hc_2 => ?_) (fun hc_2 => ?_)
    · replace hF := hF.1 hc_2
      refine rn_iload_n dX4_told_20 rfl ?_
      refine rn_if_ne (tgt := 31) dX4_told_21 (by decide) (fun hc_3 => ?_) (fun hc_3 => ?_)
      · replace hF := hF.1 hc_3
        refine rn_aload_n dX4_told_31 rfl ?_
        refine rm_geti flRX4_18 rfl (by decide) rfl dX4_told_32 ?_
        exact rm_iret rfl dX4_told_35 hF
      · replace hF := hF.2 hc_3
        refine rn_aload_n dX4_told_24 rfl ?_
        refine rm_geti flRX4_15 rfl (by decide) rfl dX4_told_25 ?_
        refine rn_goto (tgt := 35) dX4_told_28 (by decide) ?_
        exact rm_iret rfl dX4_told_35 hF
    · replace hF := hF.2 hc_2
      refine rn_iconst (x := (-1 : Int32)) dX4_told_18 (by decide) ?_
      exact rm_iret rfl dX4_told_19 hF
  · replace hF := hF.2 hc_1
    refine rn_aload_n dX4_told_5 rfl ?_
    refine rm_geti flRX4_9 rfl (by decide) rfl dX4_told_6 ?_
    exact rm_iret rfl dX4_told_9 hF
theorem cmX4_told_i76 {E : En} {Q : Option Value → Hi → Prop} {H : Hi} {zx1 : Int32} 
    (hF : (¬ zx1 = (-1 : Int32) → ((zx1 < (H 76 0) → ((¬ zx1 = 0 → (Q (some (.int (H 76 2))) H)) ∧ (zx1 = 0 → (Q (some (.int (H 76 1))) H)))) ∧ (¬ zx1 < (H 76 0) → (Q (some (.int (-1 : Int32))) H)))) ∧ (zx1 = (-1 : Int32) → (Q (some (.int (H 76 0))) H))) :
    Cm E mX4_told [rf E 76, .int zx1] H Q :=
  cm_of (by decide +kernel : plainName RX4 = true) (Nat.le_of_ble_eq_true rfl) rfl (sgX4_told_i76_0  hF)
theorem sgX4_told_i77_0 {E : En} {Q : Option Value → Hi → Prop} {H : Hi} {zx1 : Int32} 
    (hF : (¬ zx1 = (-1 : Int32) → ((zx1 < (H 77 0) → ((¬ zx1 = 0 → (Q (some (.int (H 77 2))) H)) ∧ (zx1 = 0 → (Q (some (.int (H 77 1))) H)))) ∧ (¬ zx1 < (H 77 0) → (Q (some (.int (-1 : Int32))) H)))) ∧ (zx1 = (-1 : Int32) → (Q (some (.int (H 77 0))) H))) :
    Rm E mX4_told Q 0 [some (rf E 77), some (.int zx1)] [] H := by
  refine rn_iload_n dX4_told_0 rfl ?_
  refine rn_iconst (x := (-1 : Int32)) dX4_told_1 (by decide) ?_
  refine rn_icmp_ne (tgt := 10) dX4_told_2 (by decide) (fun hc_1 => ?_) (fun hc_1 => ?_)
  · replace hF := hF.1 hc_1
    refine rn_iload_n dX4_told_10 rfl ?_
    refine rn_aload_n dX4_told_11 rfl ?_
    refine rm_geti flRX4_9 rfl (by decide) rfl dX4_told_12 ?_
    refine rn_icmp_lt (tgt := 20) dX4_told_15 (by decide) (fun hc_2 => ?_) (fun hc_2 => ?_)
    · replace hF := hF.1 hc_2
      refine rn_iload_n dX4_told_20 rfl ?_
      refine rn_if_ne (tgt := 31) dX4_told_21 (by decide) (fun hc_3 => ?_) (fun hc_3 => ?_)
      · replace hF := hF.1 hc_3
        refine rn_aload_n dX4_told_31 rfl ?_
        refine rm_geti flRX4_18 rfl (by decide) rfl dX4_told_32 ?_
        exact rm_iret rfl dX4_told_35 hF
      · replace hF := hF.2 hc_3
        refine rn_aload_n dX4_told_24 rfl ?_
        refine rm_geti flRX4_15 rfl (by decide) rfl dX4_told_25 ?_
        refine rn_goto (tgt := 35) dX4_told_28 (by decide) ?_
        exact rm_iret rfl dX4_told_35 hF
    · replace hF := hF.2 hc_2
      refine rn_iconst (x := (-1 : Int32)) dX4_told_18 (by decide) ?_
      exact rm_iret rfl dX4_told_19 hF
  · replace hF := hF.2 hc_1
    refine rn_aload_n dX4_told_5 rfl ?_
    refine rm_geti flRX4_9 rfl (by decide) rfl dX4_told_6 ?_
    exact rm_iret rfl dX4_told_9 hF
theorem cmX4_told_i77 {E : En} {Q : Option Value → Hi → Prop} {H : Hi} {zx1 : Int32} 
    (hF : (¬ zx1 = (-1 : Int32) → ((zx1 < (H 77 0) → ((¬ zx1 = 0 → (Q (some (.int (H 77 2))) H)) ∧ (zx1 = 0 → (Q (some (.int (H 77 1))) H)))) ∧ (¬ zx1 < (H 77 0) → (Q (some (.int (-1 : Int32))) H)))) ∧ (zx1 = (-1 : Int32) → (Q (some (.int (H 77 0))) H))) :
    Cm E mX4_told [rf E 77, .int zx1] H Q :=
  cm_of (by decide +kernel : plainName RX4 = true) (Nat.le_of_ble_eq_true rfl) rfl (sgX4_told_i77_0  hF)
