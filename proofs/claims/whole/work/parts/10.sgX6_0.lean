theorem sgX6_become_0 {E : En} {Q : Option Value → Hi → Prop} {H : Hi} {s0 : Nat} {s1 : Nat} (hs0 : isSt s0) (hs1 : isSt s1)
    (hF : ∀ H_1 : Hi, H_1 = up H s0 0 (H s1 0) → (∀ H_2 : Hi, H_2 = up H_1 s0 1 (H_1 s1 1) → (∀ H_3 : Hi, H_3 = up H_2 s0 2 (H_2 s1 2) → (∀ H_4 : Hi, H_4 = up H_3 s0 3 (H_3 s1 3) → (∀ H_5 : Hi, H_5 = up H_4 s0 4 (H_4 s1 4) → (∀ H_6 : Hi, H_6 = up H_5 s0 5 (H_5 s1 5) → (Q none H_6))))))) :
    Rm E mX6_become Q 0 [some (rf E s0), some (rf E s1)] [] H := by
  refine rn_aload_n dX6_become_0 rfl ?_
  refine rn_aload_n dX6_become_1 rfl ?_
  refine rm_geti flRX6_7 hs1.2.1 hs1.1 (rT_row hs1.2.2 _) dX6_become_2 ?_
  refine rm_puti flRX6_7 hs0.2.1 hs0.1 (rT_row hs0.2.2 _) dX6_become_5 (fun H_1 eH_1 => ?_)
  replace hF := hF H_1 eH_1
  refine rn_aload_n dX6_become_8 rfl ?_
  refine rn_aload_n dX6_become_9 rfl ?_
  refine rm_geti flRX6_13 hs1.2.1 hs1.1 (rT_row hs1.2.2 _) dX6_become_10 ?_
  refine rm_puti flRX6_13 hs0.2.1 hs0.1 (rT_row hs0.2.2 _) dX6_become_13 (fun H_2 eH_2 => ?_)
  replace hF := hF H_2 eH_2
  refine rn_aload_n dX6_become_16 rfl ?_
  refine rn_aload_n dX6_become_17 rfl ?_
  refine rm_geti flRX6_16 hs1.2.1 hs1.1 (rT_row hs1.2.2 _) dX6_become_18 ?_
  refine rm_puti flRX6_16 hs0.2.1 hs0.1 (rT_row hs0.2.2 _) dX6_become_21 (fun H_3 eH_3 => ?_)
  replace hF := hF H_3 eH_3
  refine rn_aload_n dX6_become_24 rfl ?_
  refine rn_aload_n dX6_become_25 rfl ?_
  refine rm_geti flRX6_19 hs1.2.1 hs1.1 (rT_row hs1.2.2 _) dX6_become_26 ?_
  refine rm_puti flRX6_19 hs0.2.1 hs0.1 (rT_row hs0.2.2 _) dX6_become_29 (fun H_4 eH_4 => ?_)
  replace hF := hF H_4 eH_4
  refine rn_aload_n dX6_become_32 rfl ?_
  refine rn_aload_n dX6_become_33 rfl ?_
  refine rm_geti flRX6_22 hs1.2.1 hs1.1 (rT_row hs1.2.2 _) dX6_become_34 ?_
  refine rm_puti flRX6_22 hs0.2.1 hs0.1 (rT_row hs0.2.2 _) dX6_become_37 (fun H_5 eH_5 => ?_)
  replace hF := hF H_5 eH_5
  refine rn_aload_n dX6_become_40 rfl ?_
  refine rn_aload_n dX6_become_41 rfl ?_
  refine rm_geti flRX6_25 hs1.2.1 hs1.1 (rT_row hs1.2.2 _) dX6_become_42 ?_
  refine rm_puti flRX6_25 hs0.2.1 hs0.1 (rT_row hs0.2.2 _) dX6_become_45 (fun H_6 eH_6 => ?_)
  replace hF := hF H_6 eH_6
  exact rm_vret rfl dX6_become_48 hF
theorem cmX6_become {E : En} {Q : Option Value → Hi → Prop} {H : Hi} {s0 : Nat} {s1 : Nat} (hs0 : isSt s0) (hs1 : isSt s1)
    (hF : ∀ H_1 : Hi, H_1 = up H s0 0 (H s1 0) → (∀ H_2 : Hi, H_2 = up H_1 s0 1 (H_1 s1 1) → (∀ H_3 : Hi, H_3 = up H_2 s0 2 (H_2 s1 2) → (∀ H_4 : Hi, H_4 = up H_3 s0 3 (H_3 s1 3) → (∀ H_5 : Hi, H_5 = up H_4 s0 4 (H_4 s1 4) → (∀ H_6 : Hi, H_6 = up H_5 s0 5 (H_5 s1 5) → (Q none H_6))))))) :
    Cm E mX6_become [rf E s0, rf E s1] H Q :=
  cm_of (by decide +kernel) (Nat.le_of_ble_eq_true rfl) rfl (sgX6_become_0 hs0 hs1 hF)
theorem sgX6_placeOf_0 {E : En} {Q : Option Value → Hi → Prop} {H : Hi} {s0 : Nat} {x1 : Int32} (hs0 : isSt s0)
    (hF : Q (some (.int ((ushr (H s0 0) ((4 : Int32) * x1)) &&& (15 : Int32)))) H) :
    Rm E mX6_placeOf Q 0 [some (rf E s0), some (.int x1)] [] H := by
  refine rn_aload_n dX6_placeOf_0 rfl ?_
  refine rm_geti flRX6_7 hs0.2.1 hs0.1 (rT_row hs0.2.2 _) dX6_placeOf_1 ?_
  refine rn_iconst (x := (4 : Int32)) dX6_placeOf_4 (by decide) ?_
  refine rn_iload_n dX6_placeOf_5 rfl ?_
  refine rn_imul dX6_placeOf_6 ?_
  refine rn_iushr dX6_placeOf_7 ?_
  refine rn_bipush (x := (15 : Int32)) dX6_placeOf_8 (by decide) ?_
  refine rn_iand dX6_placeOf_10 ?_
  exact rm_iret rfl dX6_placeOf_11 hF
theorem cmX6_placeOf {E : En} {Q : Option Value → Hi → Prop} {H : Hi} {s0 : Nat} {x1 : Int32} (hs0 : isSt s0)
    (hF : Q (some (.int ((ushr (H s0 0) ((4 : Int32) * x1)) &&& (15 : Int32)))) H) :
    Cm E mX6_placeOf [rf E s0, .int x1] H Q :=
  cm_of (by decide +kernel) (Nat.le_of_ble_eq_true rfl) rfl (sgX6_placeOf_0 hs0 hF)
