theorem sgX6_become_0 {E : En} {Q : Option Value → Hi → Prop} {H : Hi} {zs0 : Nat} {zs1 : Nat} (hs0 : isSt zs0) (hs1 : isSt zs1)
    (hF : ∀ zH_1 : Hi, zH_1 = up H zs0 0 (H zs1 0) → (∀ zH_2 : Hi, zH_2 = up zH_1 zs0 1 (zH_1 zs1 1) → (∀ zH_3 : Hi, zH_3 = up zH_2 zs0 2 (zH_2 zs1 2) → (∀ zH_4 : Hi, zH_4 = up zH_3 zs0 3 (zH_3 zs1 3) → (∀ zH_5 : Hi, zH_5 = up zH_4 zs0 4 (zH_4 zs1 4) → (∀ zH_6 : Hi, zH_6 = up zH_5 zs0 5 (zH_5 zs1 5) → (Q none zH_6))))))) :
    Rm E mX6_become Q 0 [some (rf E zs0), some (rf E zs1)] [] H := by
  refine rn_aload_n dX6_become_0 rfl ?_
  refine rn_aload_n dX6_become_1 rfl ?_
  refine rm_geti flRX6_7 hs1.2.1 hs1.1 (rT_row hs1.2.2 _) dX6_become_2 ?_
  refine rm_puti flRX6_7 hs0.2.1 hs0.1 (rT_row hs0.2.2 _) dX6_become_5 (fun zH_1 ezH_1 => ?_)
  replace hF := hF zH_1 ezH_1
  refine rn_aload_n dX6_become_8 rfl ?_
  refine rn_aload_n dX6_become_9 rfl ?_
  refine rm_geti flRX6_13 hs1.2.1 hs1.1 (rT_row hs1.2.2 _) dX6_become_10 ?_
  refine rm_puti flRX6_13 hs0.2.1 hs0.1 (rT_row hs0.2.2 _) dX6_become_13 (fun zH_2 ezH_2 => ?_)
  replace hF := hF zH_2 ezH_2
  refine rn_aload_n dX6_become_16 rfl ?_
  refine rn_aload_n dX6_become_17 rfl ?_
  refine rm_geti flRX6_16 hs1.2.1 hs1.1 (rT_row hs1.2.2 _) dX6_become_18 ?_
  refine rm_puti flRX6_16 hs0.2.1 hs0.1 (rT_row hs0.2.2 _) dX6_become_21 (fun zH_3 ezH_3 => ?_)
  replace hF := hF zH_3 ezH_3
  refine rn_aload_n dX6_become_24 rfl ?_
  refine rn_aload_n dX6_become_25 rfl ?_
  refine rm_geti flRX6_19 hs1.2.1 hs1.1 (rT_row hs1.2.2 _) dX6_become_26 ?_
  refine rm_puti flRX6_19 hs0.2.1 hs0.1 (rT_row hs0.2.2 _) dX6_become_29 (fun zH_4 ezH_4 => ?_)
  replace hF := hF zH_4 ezH_4
  refine rn_aload_n dX6_become_32 rfl ?_
  refine rn_aload_n dX6_become_33 rfl ?_
  refine rm_geti flRX6_22 hs1.2.1 hs1.1 (rT_row hs1.2.2 _) dX6_become_34 ?_
  refine rm_puti flRX6_22 hs0.2.1 hs0.1 (rT_row hs0.2.2 _) dX6_become_37 (fun zH_5 ezH_5 => ?_)
  replace hF := hF zH_5 ezH_5
  refine rn_aload_n dX6_become_40 rfl ?_
  refine rn_aload_n dX6_become_41 rfl ?_
  refine rm_geti flRX6_25 hs1.2.1 hs1.1 (rT_row hs1.2.2 _) dX6_become_42 ?_
  refine rm_puti flRX6_25 hs0.2.1 hs0.1 (rT_row hs0.2.2 _) dX6_become_45 (fun zH_6 ezH_6 => ?_)
  replace hF := hF zH_6 ezH_6
  exact rm_vret rfl dX6_become_48 hF
theorem cmX6_become {E : En} {Q : Option Value → Hi → Prop} {H : Hi} {zs0 : Nat} {zs1 : Nat} (hs0 : isSt zs0) (hs1 : isSt zs1)
    (hF : ∀ zH_1 : Hi, zH_1 = up H zs0 0 (H zs1 0) → (∀ zH_2 : Hi, zH_2 = up zH_1 zs0 1 (zH_1 zs1 1) → (∀ zH_3 : Hi, zH_3 = up zH_2 zs0 2 (zH_2 zs1 2) → (∀ zH_4 : Hi, zH_4 = up zH_3 zs0 3 (zH_3 zs1 3) → (∀ zH_5 : Hi, zH_5 = up zH_4 zs0 4 (zH_4 zs1 4) → (∀ zH_6 : Hi, zH_6 = up zH_5 zs0 5 (zH_5 zs1 5) → (Q none zH_6))))))) :
    Cm E mX6_become [rf E zs0, rf E zs1] H Q :=
  cm_of (by decide +kernel : plainName RX6 = true) (Nat.le_of_ble_eq_true rfl) rfl (sgX6_become_0 hs0 hs1 hF)
theorem sgX6_placeOf_0 {E : En} {Q : Option Value → Hi → Prop} {H : Hi} {zs0 : Nat} {zx1 : Int32} (hs0 : isSt zs0)
    (hF : Q (some (.int ((ushr (H zs0 0) ((4 : Int32) * zx1)) &&& (15 : Int32)))) H) :
    Rm E mX6_placeOf Q 0 [some (rf E zs0), some (.int zx1)] [] H := by
  refine rn_aload_n dX6_placeOf_0 rfl ?_
  refine rm_geti flRX6_7 hs0.2.1 hs0.1 (rT_row hs0.2.2 _) dX6_placeOf_1 ?_
  refine rn_iconst (x := (4 : Int32)) dX6_placeOf_4 (by decide) ?_
  refine rn_iload_n dX6_placeOf_5 rfl ?_
  refine rn_imul dX6_placeOf_6 ?_
  refine rn_iushr dX6_placeOf_7 ?_
  refine rn_bipush (x := (15 : Int32)) dX6_placeOf_8 (by decide) ?_
  refine rn_iand dX6_placeOf_10 ?_
  exact rm_iret rfl dX6_placeOf_11 hF
theorem cmX6_placeOf {E : En} {Q : Option Value → Hi → Prop} {H : Hi} {zs0 : Nat} {zx1 : Int32} (hs0 : isSt zs0)
    (hF : Q (some (.int ((ushr (H zs0 0) ((4 : Int32) * zx1)) &&& (15 : Int32)))) H) :
    Cm E mX6_placeOf [rf E zs0, .int zx1] H Q :=
  cm_of (by decide +kernel : plainName RX6 = true) (Nat.le_of_ble_eq_true rfl) rfl (sgX6_placeOf_0 hs0 hF)
