theorem sgX5_refusal_0 {E : En} {Q : Option Value → Hi → Prop} {H : Hi} {zq0 : Nat} {zx1 : Int32} {zx2 : Int32} (hq0 : zq0 < 4)
    (hF : (0 ≤ (H (91 + 2 * zq0) 1) → (((H (91 + 2 * zq0) 0) = zx1 → ((zx2 < 0 → (Q (some (.int (2 : Int32))) H)) ∧ (¬ zx2 < 0 → ((zx2 < (H (91 + 2 * zq0) 1) → (Q (some (.int (0 : Int32))) H)) ∧ (¬ zx2 < (H (91 + 2 * zq0) 1) → (Q (some (.int (2 : Int32))) H)))))) ∧ (¬ (H (91 + 2 * zq0) 0) = zx1 → (Q (some (.int (3 : Int32))) H)))) ∧ (¬ 0 ≤ (H (91 + 2 * zq0) 1) → (Q (some (.int (1 : Int32))) H))) :
    Rm E mX5_refusal Q 0 [some (rf E (91 + 2 * zq0)), some (.int zx1), some (.int zx2)] [] H := by
  refine rn_aload_n dX5_refusal_0 rfl ?_
  refine rm_geti flRX5_9 (sh_she _ hq0).1 (sh_she _ hq0).2.1 (sh_she _ hq0).2.2.2.2.1 dX5_refusal_1 ?_
  refine rn_if_ge (tgt := 9) dX5_refusal_4 (by decide) (fun hc_1 => ?_) (fun hc_1 => ?_)
  · replace hF := hF.1 hc_1
    refine rn_aload_n dX5_refusal_9 rfl ?_
    refine rm_geti flRX5_19 (sh_she _ hq0).1 (sh_she _ hq0).2.1 (sh_she _ hq0).2.2.2.1 dX5_refusal_10 ?_
    refine rn_iload_n dX5_refusal_13 rfl ?_
    refine rn_icmp_eq (tgt := 19) dX5_refusal_14 (by decide) (fun hc_2 => ?_) (fun hc_2 => ?_)
    · replace hF := hF.1 hc_2
      refine rn_iload_n dX5_refusal_19 rfl ?_
      refine rn_if_lt (tgt := 31) dX5_refusal_20 (by decide) (fun hc_3 => ?_) (fun hc_3 => ?_)
      · replace hF := hF.1 hc_3
        refine rn_iconst (x := (2 : Int32)) dX5_refusal_31 (by decide) ?_
        refine rn_goto (tgt := 36) dX5_refusal_32 (by decide) ?_
        exact rm_iret rfl dX5_refusal_36 hF
      · replace hF := hF.2 hc_3
        refine rn_iload_n dX5_refusal_23 rfl ?_
        refine rn_aload_n dX5_refusal_24 rfl ?_
        refine rm_geti flRX5_9 (sh_she _ hq0).1 (sh_she _ hq0).2.1 (sh_she _ hq0).2.2.2.2.1 dX5_refusal_25 ?_
        refine rn_icmp_lt (tgt := 35) dX5_refusal_28 (by decide) (fun hc_4 => ?_) (fun hc_4 => ?_)
        · replace hF := hF.1 hc_4
          refine rn_iconst (x := (0 : Int32)) dX5_refusal_35 (by decide) ?_
          exact rm_iret rfl dX5_refusal_36 hF
        · replace hF := hF.2 hc_4
          refine rn_iconst (x := (2 : Int32)) dX5_refusal_31 (by decide) ?_
          refine rn_goto (tgt := 36) dX5_refusal_32 (by decide) ?_
          exact rm_iret rfl dX5_refusal_36 hF
    · replace hF := hF.2 hc_2
      refine rn_iconst (x := (3 : Int32)) dX5_refusal_17 (by decide) ?_
      exact rm_iret rfl dX5_refusal_18 hF
  · replace hF := hF.2 hc_1
    refine rn_iconst (x := (1 : Int32)) dX5_refusal_7 (by decide) ?_
    exact rm_iret rfl dX5_refusal_8 hF
theorem cmX5_refusal {E : En} {Q : Option Value → Hi → Prop} {H : Hi} {zq0 : Nat} {zx1 : Int32} {zx2 : Int32} (hq0 : zq0 < 4)
    (hF : (0 ≤ (H (91 + 2 * zq0) 1) → (((H (91 + 2 * zq0) 0) = zx1 → ((zx2 < 0 → (Q (some (.int (2 : Int32))) H)) ∧ (¬ zx2 < 0 → ((zx2 < (H (91 + 2 * zq0) 1) → (Q (some (.int (0 : Int32))) H)) ∧ (¬ zx2 < (H (91 + 2 * zq0) 1) → (Q (some (.int (2 : Int32))) H)))))) ∧ (¬ (H (91 + 2 * zq0) 0) = zx1 → (Q (some (.int (3 : Int32))) H)))) ∧ (¬ 0 ≤ (H (91 + 2 * zq0) 1) → (Q (some (.int (1 : Int32))) H))) :
    Cm E mX5_refusal [rf E (91 + 2 * zq0), .int zx1, .int zx2] H Q :=
  cm_of (by decide +kernel : plainName RX5 = true) (Nat.le_of_ble_eq_true rfl) rfl (sgX5_refusal_0 hq0 hF)
theorem sgX5_holds_0 {E : En} {Q : Option Value → Hi → Prop} {H : Hi} {zq0 : Nat} {zx1 : Int32} {zx2 : Int32} (hq0 : zq0 < 4)
    (hF : (zx1 < 0 → (Q (some (.int (0 : Int32))) H)) ∧ (¬ zx1 < 0 → ((zx2 < 0 → (Q (some (.int (0 : Int32))) H)) ∧ (¬ zx2 < 0 → ((((H (91 + 2 * zq0) 1) - zx1) < zx2 → (Q (some (.int (0 : Int32))) H)) ∧ (¬ ((H (91 + 2 * zq0) 1) - zx1) < zx2 → (Q (some (.int (1 : Int32))) H))))))) :
    Rm E mX5_holds Q 0 [some (rf E (91 + 2 * zq0)), some (.int zx1), some (.int zx2)] [] H := by
  refine rn_iload_n dX5_holds_0 rfl ?_
  refine rn_if_lt (tgt := 22) dX5_holds_1 (by decide) (fun hc_1 => ?_) (fun hc_1 => ?_)
  · replace hF := hF.1 hc_1
    refine rn_iconst (x := (0 : Int32)) dX5_holds_22 (by decide) ?_
    exact rm_zret rfl rfl dX5_holds_23 hF
  · replace hF := hF.2 hc_1
    refine rn_iload_n dX5_holds_4 rfl ?_
    refine rn_if_lt (tgt := 22) dX5_holds_5 (by decide) (fun hc_2 => ?_) (fun hc_2 => ?_)
    · replace hF := hF.1 hc_2
      refine rn_iconst (x := (0 : Int32)) dX5_holds_22 (by decide) ?_
      exact rm_zret rfl rfl dX5_holds_23 hF
    · replace hF := hF.2 hc_2
      refine rn_iload_n dX5_holds_8 rfl ?_
      refine rn_aload_n dX5_holds_9 rfl ?_
      refine rm_geti flRX5_9 (sh_she _ hq0).1 (sh_she _ hq0).2.1 (sh_she _ hq0).2.2.2.2.1 dX5_holds_10 ?_
      refine rn_iload_n dX5_holds_13 rfl ?_
      refine rn_isub dX5_holds_14 ?_
      refine rn_icmp_gt (tgt := 22) dX5_holds_15 (by decide) (fun hc_3 => ?_) (fun hc_3 => ?_)
      · replace hF := hF.1 hc_3
        refine rn_iconst (x := (0 : Int32)) dX5_holds_22 (by decide) ?_
        exact rm_zret rfl rfl dX5_holds_23 hF
      · replace hF := hF.2 hc_3
        refine rn_iconst (x := (1 : Int32)) dX5_holds_18 (by decide) ?_
        refine rn_goto (tgt := 23) dX5_holds_19 (by decide) ?_
        exact rm_zret rfl rfl dX5_holds_23 hF
theorem cmX5_holds {E : En} {Q : Option Value → Hi → Prop} {H : Hi} {zq0 : Nat} {zx1 : Int32} {zx2 : Int32} (hq0 : zq0 < 4)
    (hF : (zx1 < 0 → (Q (some (.int (0 : Int32))) H)) ∧ (¬ zx1 < 0 → ((zx2 < 0 → (Q (some (.int (0 : Int32))) H)) ∧ (¬ zx2 < 0 → ((((H (91 + 2 * zq0) 1) - zx1) < zx2 → (Q (some (.int (0 : Int32))) H)) ∧ (¬ ((H (91 + 2 * zq0) 1) - zx1) < zx2 → (Q (some (.int (1 : Int32))) H))))))) :
    Cm E mX5_holds [rf E (91 + 2 * zq0), .int zx1, .int zx2] H Q :=
  cm_of (by decide +kernel : plainName RX5 = true) (Nat.le_of_ble_eq_true rfl) rfl (sgX5_holds_0 hq0 hF)
theorem sgX5_set_0 {E : En} {Q : Option Value → Hi → Prop} {H : Hi} {zq0 : Nat} {zx1 : Int32} {zx2 : Int32} (hq0 : zq0 < 4)
    (hF : (¬ (H (91 + 2 * zq0) 0) = 0 → ((¬ (H (91 + 2 * zq0) 0) = (1 : Int32) → (∃ zj_3 : Nat, (zj_3 < 60 ∧ zx1 = nI zj_3) ∧ (∀ zH_4 : Hi, zH_4 = up H (92 + 2 * zq0) zj_3 zx2 → (Q none zH_4)))) ∧ ((H (91 + 2 * zq0) 0) = (1 : Int32) → (∃ zj_5 : Nat, (zj_5 < 60 ∧ zx1 = nI zj_5) ∧ (∀ zH_6 : Hi, zH_6 = up H (92 + 2 * zq0) zj_5 (zx2.toInt16.toInt32) → (Q none zH_6)))))) ∧ ((H (91 + 2 * zq0) 0) = 0 → (∃ zj_7 : Nat, (zj_7 < 60 ∧ zx1 = nI zj_7) ∧ (∀ zH_8 : Hi, zH_8 = up H (92 + 2 * zq0) zj_7 (zx2.toInt8.toInt32) → (Q none zH_8))))) :
    Rm E mX5_set Q 0 [some (rf E (91 + 2 * zq0)), some (.int zx1), some (.int zx2)] [] H := by
  refine rn_aload_n dX5_set_0 rfl ?_
  refine rm_geti flRX5_19 (sh_she _ hq0).1 (sh_she _ hq0).2.1 (sh_she _ hq0).2.2.2.1 dX5_set_1 ?_
  refine rn_if_ne (tgt := 18) dX5_set_4 (by decide) (fun hc_1 => ?_) (fun hc_1 => ?_)
  · replace hF := hF.1 hc_1
    refine rn_aload_n dX5_set_18 rfl ?_
    refine rm_getr (r := (92 + 2 * zq0)) flRX5_15 (sh_she _ hq0).1 (sh_she _ hq0).2.1 (sh_she _ hq0).2.2.2.2.2.1 dX5_set_19 ?_
    refine rn_iload_n dX5_set_22 rfl ?_
    refine rn_aload_n dX5_set_23 rfl ?_
    refine rm_geti flRX5_19 (sh_she _ hq0).1 (sh_she _ hq0).2.1 (sh_she _ hq0).2.2.2.1 dX5_set_24 ?_
    refine rn_iconst (x := (1 : Int32)) dX5_set_27 (by decide) ?_
    refine rn_icmp_ne (tgt := 36) dX5_set_28 (by decide) (fun hc_2 => ?_) (fun hc_2 => ?_)
    · replace hF := hF.1 hc_2
      refine rn_iload_n dX5_set_36 rfl ?_
      obtain ⟨zj_3, hzj_3, hF⟩ := hF
      refine rj_iast (j := zj_3) hzj_3 (sh_she _ hq0).2.2.2.2.2.2.1 (sh_she _ hq0).2.2.2.2.2.2.2.1 (sh_she _ hq0).2.2.2.2.2.2.2.2 (by decide) dX5_set_37 (fun zH_4 ezH_4 => ?_)
      replace hF := hF zH_4 ezH_4
      exact rm_vret rfl dX5_set_38 hF
    · replace hF := hF.2 hc_2
      refine rn_iload_n dX5_set_31 rfl ?_
      refine rn_i2s dX5_set_32 ?_
      refine rn_goto (tgt := 37) dX5_set_33 (by decide) ?_
      obtain ⟨zj_5, hzj_5, hF⟩ := hF
      refine rj_iast (j := zj_5) hzj_5 (sh_she _ hq0).2.2.2.2.2.2.1 (sh_she _ hq0).2.2.2.2.2.2.2.1 (sh_she _ hq0).2.2.2.2.2.2.2.2 (by decide) dX5_set_37 (fun zH_6 ezH_6 => ?_)
      replace hF := hF zH_6 ezH_6
      exact rm_vret rfl dX5_set_38 hF
  · replace hF := hF.2 hc_1
    refine rn_aload_n dX5_set_7 rfl ?_
    refine rm_getr (r := (92 + 2 * zq0)) flRX5_15 (sh_she _ hq0).1 (sh_she _ hq0).2.1 (sh_she _ hq0).2.2.2.2.2.1 dX5_set_8 ?_
    refine rn_iload_n dX5_set_11 rfl ?_
    refine rn_iload_n dX5_set_12 rfl ?_
    refine rn_i2b dX5_set_13 ?_
    obtain ⟨zj_7, hzj_7, hF⟩ := hF
    refine rj_iast (j := zj_7) hzj_7 (sh_she _ hq0).2.2.2.2.2.2.1 (sh_she _ hq0).2.2.2.2.2.2.2.1 (sh_she _ hq0).2.2.2.2.2.2.2.2 (by decide) dX5_set_14 (fun zH_8 ezH_8 => ?_)
    replace hF := hF zH_8 ezH_8
    refine rn_goto (tgt := 38) dX5_set_15 (by decide) ?_
    exact rm_vret rfl dX5_set_38 hF
theorem cmX5_set {E : En} {Q : Option Value → Hi → Prop} {H : Hi} {zq0 : Nat} {zx1 : Int32} {zx2 : Int32} (hq0 : zq0 < 4)
    (hF : (¬ (H (91 + 2 * zq0) 0) = 0 → ((¬ (H (91 + 2 * zq0) 0) = (1 : Int32) → (∃ zj_3 : Nat, (zj_3 < 60 ∧ zx1 = nI zj_3) ∧ (∀ zH_4 : Hi, zH_4 = up H (92 + 2 * zq0) zj_3 zx2 → (Q none zH_4)))) ∧ ((H (91 + 2 * zq0) 0) = (1 : Int32) → (∃ zj_5 : Nat, (zj_5 < 60 ∧ zx1 = nI zj_5) ∧ (∀ zH_6 : Hi, zH_6 = up H (92 + 2 * zq0) zj_5 (zx2.toInt16.toInt32) → (Q none zH_6)))))) ∧ ((H (91 + 2 * zq0) 0) = 0 → (∃ zj_7 : Nat, (zj_7 < 60 ∧ zx1 = nI zj_7) ∧ (∀ zH_8 : Hi, zH_8 = up H (92 + 2 * zq0) zj_7 (zx2.toInt8.toInt32) → (Q none zH_8))))) :
    Cm E mX5_set [rf E (91 + 2 * zq0), .int zx1, .int zx2] H Q :=
  cm_of (by decide +kernel : plainName RX5 = true) (Nat.le_of_ble_eq_true rfl) rfl (sgX5_set_0 hq0 hF)
